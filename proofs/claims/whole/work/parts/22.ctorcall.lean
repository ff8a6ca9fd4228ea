/-! A CONSTRUCTOR IS CALLED: its new cells get keys behind the caller's -/
def x_nk (shsL shsF : XSs) : List Nat := (shsF.filter (fun q => (x_lk shsL q.1).isNone)).map (fun q => q.1)
def x_refs (sh : XSh) : List Nat := match sh with
  | .inl _ => []
  | .inr (.inl ks) => ks.filterMap (fun j => match j with
    | 0 => none
    | k + 1 => some k)
  | .inr (.inr o) => o.2.filterMap (fun κ => match κ with
    | 0 => none
    | 1 => none
    | 2 => none
    | k + 3 => some k)
def x_no2 (sh : XSh) : Bool := match sh with
  | .inl _ => true
  | .inr (.inl _) => true
  | .inr (.inr o) => o.2.all (fun κ => κ != 2)
theorem x_fs_congr {ad1 ad2 : Nat → Nat} {g : Nat} : ∀ {κs : List Nat} {row : Nat → Int32} {i : Nat}, κs.all (fun κ => κ != 2) = true → (∀ k, k + 3 ∈ κs → ad1 k = ad2 k) → x_fs ad1 g κs row i = x_fs ad2 g κs row i
  | [], _, _, _, _ => rfl
  | κ :: r, row, i, h, hr => by
    simp only [List.all_cons, Bool.and_eq_true, bne_iff_ne] at h
    show x_fv _ g κ (row i) :: x_fs _ g r row (i + 1) = x_fv _ g κ (row i) :: x_fs _ g r row (i + 1)
    rw [x_fs_congr (κs := r) (by simpa using h.2) (fun k hk => hr k (List.mem_cons_of_mem _ hk))]
    congr 1
    match κ, h.1, hr with
    | 0, _, _ => rfl
    | 1, _, _ => rfl
    | 2, h2, _ => exact absurd rfl h2
    | k + 3, _, hr => simp [x_fv, hr k List.mem_cons_self]
theorem x_cell_congr {cc : ClassId × ClassId} {ad1 ad2 : Nat → Nat} {k : Nat} {sh : XSh} {row : Nat → Int32} (h2 : x_no2 sh = true) (h : ∀ r ∈ x_refs sh, ad1 r = ad2 r) : x_cell cc ad1 k sh row = x_cell cc ad2 k sh row := by
  match sh, h2, h with
  | .inl n, _, _ => rfl
  | .inr (.inl ks), _, h =>
    show Sum.inl (cc.2, (ks.length, Sum.inr (Sum.inr (Sum.inr (Sum.inr _))))) = Sum.inl (cc.2, (ks.length, Sum.inr (Sum.inr (Sum.inr (Sum.inr _)))))
    have : x_rf ad1 ks = x_rf ad2 ks := by
      funext i
      unfold x_rf
      cases e : ks[i]? with
      | none => simp [List.getD, e]
      | some j =>
        simp only [List.getD, e, Option.getD_some]
        cases j with
        | zero => rfl
        | succ j =>
          show some (ad1 j) = some (ad2 j)
          rw [h j (List.mem_filterMap.mpr ⟨j + 1, List.mem_of_getElem? e, rfl⟩)]
    rw [this]
  | .inr (.inr o), h2, h =>
    show Sum.inr (o.1, x_fs _ _ o.2 row 0) = Sum.inr (o.1, x_fs _ _ o.2 row 0)
    rw [x_fs_congr h2 (fun k hk => h k (List.mem_filterMap.mpr ⟨k + 3, hk, rfl⟩))]
def x_adn (ad ad' : Nat → Nat) (π : List Nat) (nk : List Nat) (k2 : Nat) : Nat := match nk.find? (fun k => x_rk π k == k2) with
  | some k => ad' k
  | none => ad k2
theorem x_adn_off {ad ad' : Nat → Nat} {π nk : List Nat} {k2 : Nat} (h : ∀ k ∈ nk, x_rk π k ≠ k2) : x_adn ad ad' π nk k2 = ad k2 := by
  unfold x_adn
  have : nk.find? (fun k => x_rk π k == k2) = none := by
    rw [List.find?_eq_none]
    intro k hk
    simpa using h k hk
  rw [this]
theorem x_adn_on {ad ad' : Nat → Nat} {π nk : List Nat} {k : Nat} (hk : k ∈ nk) (hu : ∀ j ∈ nk, x_rk π j = x_rk π k → j = k) : x_adn ad ad' π nk (x_rk π k) = ad' k := by
  unfold x_adn
  cases e : nk.find? (fun j => x_rk π j == x_rk π k) with
  | none =>
    rw [List.find?_eq_none] at e
    exact absurd (by simp) (e k hk)
  | some j =>
    have h1 := List.mem_of_find?_eq_some e
    have h2 := List.find?_some e
    rw [hu j h1 (by simpa using h2)]
def x_okA (π π2 : List Nat) (shsL shsF shs shs2 : XSs) : Bool :=
  shsF.all (fun q => decide (x_lk shs2 (x_rk π2 q.1) = some (x_rs π2 q.2)) && (decide (q.1 / 64 < π2.length) && (x_no2 q.2 && (x_refs q.2).all (fun r => (x_lk shsF r).isSome)))) && (va_nd (shsF.map (fun q => x_rk π2 q.1)) && (va_nd (shs2.map (fun q => q.1)) &&
  (shs2.all (fun q => (shsF.map (fun p => x_rk π2 p.1)).contains q.1 || (decide (x_lk shs q.1 = some q.2) && (x_no2 q.2 && (x_nk shsL shsF).all (fun k => (x_refs q.2).all (fun r => r != x_rk π2 k))))) && (shs.all (fun q => (x_lk shs2 q.1).isSome) &&
  ((x_nk shsL shsF).all (fun k => decide (x_lk shs (x_rk π2 k) = none)) && (shsL.all (fun q => (x_lk shsF q.1).isSome && decide (x_rk π q.1 = x_rk π2 q.1))))))))
theorem x_lk_mem {shs : XSs} {k : Nat} {sh : XSh} (h : x_lk shs k = some sh) : (k, sh) ∈ shs := by
  obtain ⟨i, hi⟩ := x_lk_at h
  exact List.mem_of_getElem? hi
theorem x_lk_isSome {shs : XSs} {k : Nat} (h : x_lk shs k ≠ none) : ∃ sh, (k, sh) ∈ shs ∧ x_lk shs k = some sh := by
  cases e : x_lk shs k with
  | none => exact absurd e h
  | some sh => exact ⟨sh, x_lk_mem e, rfl⟩
theorem x_nk_mem {shsL shsF : XSs} {k : Nat} : k ∈ x_nk shsL shsF ↔ (∃ sh, (k, sh) ∈ shsF) ∧ x_lk shsL k = none := by
  unfold x_nk
  simp only [List.mem_map, List.mem_filter, Option.isNone_iff_eq_none]
  constructor
  · rintro ⟨⟨k1, s1⟩, ⟨h1, h2⟩, rfl⟩
    exact ⟨⟨s1, h1⟩, h2⟩
  · rintro ⟨⟨sh, h1⟩, h2⟩
    exact ⟨(k, sh), ⟨h1, h2⟩, rfl⟩
section XCALLA
variable {p : Program} {l : Launch} {e : Env} {R : Room} {s : State} {m : MethodId} {args : Array Value} {below : List Frame} {meth : Method} {c : Code} {H : Heap} {locs : List Loc} {cells slots mc ms : Nat} {Q : State → Prop} {pc : Nat} {ls : Array Slot} {rest st0 : List Value} {a : Array Value} {A0 : Nat → Prop} {H0 : Heap} {D : va_G} {cc : ClassId × ClassId}
theorem x_afterA {ad : Nat → Nat} {π π2 : List Nat} {shsL shsF shs shs2 : XSs} {hsL hs hs2 mr : List Mem} (hr : va_Run p l e R s m args below meth c H locs cells slots mc ms (F0 m pc ls st0) rest (XQ D cc (va_A (x_w cc (fun k => ad (x_rk π k)) shsL hsL) H.size) (fun k => ad (x_rk π k)) shsL shsF (none, mr) a) (va_A (x_w cc (fun k => ad (x_rk π k)) shsL hsL) H.size))
    (hok : x_okc π shsL shs = true) (hokA : x_okA π π2 shsL shsF shs shs2 = true) (hsel : π.map (fun g => hs.getD g (fun _ _ => 0)) = hsL) (hm1 : ∀ k s, (k, s) ∈ shsF → x_hs hs2 (x_rk π2 k) = x_hs mr k) (hm2 : ∀ k s, (k, s) ∈ shs2 → (shsF.map (fun p => x_rk π2 p.1)).contains k = false → x_hs hs2 k = x_hs hs k)
    (hP : va_P D vwCl (x_w cc ad shs hs) H) (hD : va_D A0 (x_w cc ad shs hs)) (hS : va_S A0 H0 H locs) (hA : ∀ q, H0.size ≤ q → A0 q)
    (kk : ∀ (ad2 : Nat → Nat) (H1 : Heap) (locs1 : List Loc), (∀ k, (∀ j ∈ x_nk shsL shsF, x_rk π2 j ≠ k) → ad2 k = ad k) → va_P D vwCl (x_w cc ad2 shs2 hs2) H1 → va_D A0 (x_w cc ad2 shs2 hs2) → va_S A0 H0 H1 locs1 → W p l e R s m args below meth c H1 locs1 (cells + mc) (slots + ms) Q (F0 m (pc + 3) ls rest)) : W p l e R s m args below meth c H locs cells slots Q (F0 m pc ls st0) := by
  have hcut := x_cut hok hsel hP hD
  have hAA : ∀ q, va_A (x_w cc (fun k => ad (x_rk π k)) shsL hsL) H.size q → A0 q := fun q hq => by
    by_cases hz : q < H.size
    · exact hcut.2.2 q hz hq
    · exact hA q (Nat.le_trans hS.1 (Nat.not_lt.mp hz))
  simp only [x_okA, Bool.and_eq_true, List.all_eq_true, decide_eq_true_eq] at hokA
  obtain ⟨ha, hb, hi, hc2, hd, he, hg⟩ := hokA
  intro T hT X
  obtain ⟨v, st₀, t, T', L, h0, X', hL, e1, e2, ⟨⟨ad', q1, hv, q2, q3, q4⟩, hz, hk⟩, st⟩ := hr T hT X
  have hv2 : v = none := by cases hv; rfl
  subst hv2
  rw [h0] at hz hk
  -- keys of the callee's last world, told by their places
  have uF : ∀ {k1 k2 : Nat} {s1 s2 : XSh} {i1 i2 : Nat}, shsF[i1]? = some (k1, s1) → shsF[i2]? = some (k2, s2) → x_rk π2 k1 = x_rk π2 k2 → i1 = i2 := fun {k1 k2 s1 s2 i1 i2} g1 g2 h => va_nd_inj _ hb i1 i2 (x_rk π2 k1) (by rw [List.getElem?_map, g1]; rfl) (by rw [List.getElem?_map, g2, h]; rfl)
  have u2 : ∀ {k1 : Nat} {s1 s2 : XSh} {i1 i2 : Nat}, shs2[i1]? = some (k1, s1) → shs2[i2]? = some (k1, s2) → i1 = i2 := fun {k1 s1 s2 i1 i2} g1 g2 => va_nd_inj _ hi i1 i2 k1 (by rw [List.getElem?_map, g1]; rfl) (by rw [List.getElem?_map, g2]; rfl)
  have hnk : ∀ k ∈ x_nk shsL shsF, ∃ i s', shsF[i]? = some (k, s') := fun k hk => by
    obtain ⟨⟨s', h1⟩, -⟩ := x_nk_mem.mp hk
    obtain ⟨i, h2⟩ := List.getElem?_of_mem h1
    exact ⟨i, s', h2⟩
  obtain ⟨ad2, had2⟩ : ∃ f, f = x_adn ad ad' π2 (x_nk shsL shsF) := ⟨_, rfl⟩
  have off2 : ∀ k, (∀ j ∈ x_nk shsL shsF, x_rk π2 j ≠ k) → ad2 k = ad k := fun k h => by rw [had2]; exact x_adn_off h
  have on2 : ∀ (i k : Nat) (sh : XSh), shsF[i]? = some (k, sh) → ad2 (x_rk π2 k) = ad' k := fun i k sh hik => by
    by_cases hl : x_lk shsL k = none
    · have hkn : k ∈ x_nk shsL shsF := x_nk_mem.mpr ⟨⟨sh, List.mem_of_getElem? hik⟩, hl⟩
      rw [had2]
      refine x_adn_on hkn (fun j hj hjk => ?_)
      obtain ⟨i2, s', h2⟩ := hnk j hj
      have := uF h2 hik hjk
      subst this
      rw [hik] at h2
      exact (congrArg (fun z => (z.getD (0, .inl 0)).1) h2).symm
    · obtain ⟨sL, hmL, hsL⟩ := x_lk_isSome hl
      have h1 := (hg _ hmL).2
      rw [q1 k (Or.inl hl)]
      show ad2 (x_rk π2 k) = ad (x_rk π k)
      rw [show x_rk π k = x_rk π2 k from h1]
      refine off2 _ (fun j hj hjk => ?_)
      have h3 := he j hj
      rw [hjk, ← show x_rk π k = x_rk π2 k from h1] at h3
      simp only [x_okc, Bool.and_eq_true, List.all_eq_true, decide_eq_true_eq] at hok
      rw [(hok.1 _ hmL).1] at h3
      cases h3
  have cF : ∀ (i k : Nat) (sh : XSh), shsF[i]? = some (k, sh) → x_cell cc ad2 (x_rk π2 k) (x_rs π2 sh) (x_hs hs2 (x_rk π2 k)) = x_cell cc ad' k sh (x_hs mr k) := fun i k sh hik => by
    have hm := List.mem_of_getElem? hik
    obtain ⟨-, -, h3, h4⟩ := ha _ hm
    rw [x_cell_rn, hm1 k sh hm]
    refine x_cell_congr h3 (fun r hr => ?_)
    have h5 := h4 r hr
    obtain ⟨sr, hmr, -⟩ := x_lk_isSome (shs := shsF) (k := r) (by intro z; rw [z] at h5; cases h5)
    obtain ⟨ir, hir⟩ := List.getElem?_of_mem hmr
    exact on2 ir r sr hir
  have split : ∀ (i k : Nat) (sh : XSh), shs2[i]? = some (k, sh) → (∃ (j kF : Nat) (sF : XSh), shsF[j]? = some (kF, sF) ∧ k = x_rk π2 kF ∧ sh = x_rs π2 sF) ∨ ((shsF.map (fun p => x_rk π2 p.1)).contains k = false ∧ x_lk shs k = some sh ∧ ad2 k = ad k ∧ x_cell cc ad2 k sh (x_hs hs2 k) = x_cell cc ad k sh (x_hs hs k)) := fun i k sh hik => by
    by_cases hin : (shsF.map (fun p => x_rk π2 p.1)).contains k = true
    · obtain ⟨⟨kF, sF⟩, hm, hkk⟩ := List.mem_map.mp (List.mem_of_elem_eq_true hin)
      obtain ⟨j, hj⟩ := List.getElem?_of_mem hm
      have h1 := (ha _ hm).1
      obtain ⟨i2, hi2⟩ := x_lk_at h1
      have hkk' : x_rk π2 kF = k := hkk
      rw [hkk'] at hi2
      have := u2 hik hi2
      subst this
      rw [hik] at hi2
      exact Or.inl ⟨j, kF, sF, hj, hkk'.symm, congrArg (fun z => (z.getD (0, .inl 0)).2) hi2⟩
    · have hf : (shsF.map (fun p => x_rk π2 p.1)).contains k = false := by simpa using hin
      have h1 := hc2 _ (List.mem_of_getElem? hik)
      rw [show (shsF.map (fun p => x_rk π2 p.1)).contains (k, sh).1 = false from hf, Bool.false_or] at h1
      simp only [Bool.and_eq_true, decide_eq_true_eq, List.all_eq_true, bne_iff_ne] at h1
      obtain ⟨h2, h3, h4⟩ := h1
      have hoff : ad2 k = ad k := off2 k (fun j hj hjk => by
        obtain ⟨i2, s', h5⟩ := hnk j hj
        exact hin (List.elem_eq_true_of_mem (List.mem_map.mpr ⟨(j, s'), List.mem_of_getElem? h5, hjk⟩)))
      refine Or.inr ⟨hf, h2, hoff, ?_⟩
      rw [hm2 k sh (List.mem_of_getElem? hik) hf]
      exact x_cell_congr h3 (fun r hr => off2 r (fun j hj hjr => h4 j hj r hr hjr.symm))
  have hnotA : ∀ (k : Nat) (sh : XSh), (shsF.map (fun p => x_rk π2 p.1)).contains k = false → x_lk shs k = some sh → ¬ va_A (x_w cc (fun k => ad (x_rk π k)) shsL hsL) H.size (ad k) := fun k sh hf hkl z => by
    obtain ⟨i, hi1⟩ := x_lk_at hkl
    rcases z with ⟨j, e, hj⟩ | z
    · obtain ⟨kL, shL, hj2, he2⟩ := x_w_of hj
      simp only [x_okc, Bool.and_eq_true, List.all_eq_true, decide_eq_true_eq] at hok
      have e1 := (hok.1 _ (List.mem_of_getElem? hj2)).1
      obtain ⟨i2, hi2⟩ := x_lk_at e1
      have e3 : ad k = ad (x_rk π kL) := congrArg Prod.fst he2
      have hii := x_uniq hD hi1 hi2 e3
      subst hii
      have hkk : k = x_rk π kL := by rw [hi1] at hi2; exact congrArg (fun z => (z.getD (0, .inl 0)).1) hi2
      obtain ⟨h7, h8⟩ := hg _ (List.mem_of_getElem? hj2)
      obtain ⟨sr, hmr, -⟩ := x_lk_isSome (shs := shsF) (k := kL) (by intro z; rw [z] at h7; cases h7)
      have h9 : x_rk π kL = x_rk π2 kL := h8
      have : (shsF.map (fun p => x_rk π2 p.1)).contains k = true := List.elem_eq_true_of_mem (List.mem_map.mpr ⟨(kL, sr), hmr, by rw [hkk, h9]⟩)
      rw [hf] at this; cases this
    · exact absurd ((hP i _ (x_w_at hi1)).lt) (Nat.not_lt.mpr z)
  refine (fun (hPD : va_P D vwCl (x_w cc ad2 shs2 hs2) T'.heap ∧ va_D A0 (x_w cc ad2 shs2 hs2)) => ?_) ⟨?_, ?_, ?_⟩
  · obtain ⟨t2, a1, b1⟩ := kk ad2 T'.heap (locs ++ L) off2 hPD.1 hPD.2
      ⟨Nat.le_trans hS.1 (by rw [e1]; exact hz), fun q h1 h2 => by rw [e1, hk q (Nat.lt_of_lt_of_le h1 hS.1) (fun z => h2 (hAA q z))]; exact hS.2.1 q h1 h2, fun q hq => by
        rcases List.mem_append.mp hq with h | h
        · exact hS.2.2 q h
        · exact hAA _ (hL q h)⟩ T' rfl X'
    exact ⟨t2, st t2 a1, b1⟩
  · intro i q hq
    obtain ⟨k, sh, hik, rfl⟩ := x_w_of hq
    rcases split i k sh hik with ⟨j, kF, sF, hj, rfl, rfl⟩ | ⟨hf, hkl, hoff, hcell⟩
    · have h5 := q2 j _ (x_w_at (cc := cc) (ad := ad') (hs := mr) hj)
      rw [cF j kF sF hj, on2 j kF sF hj, e1]
      exact h5
    · obtain ⟨i1, hi1⟩ := x_lk_at hkl
      have h5 := hP i1 _ (x_w_at hi1)
      rw [hcell, hoff, e1]
      exact h5.kept (hk _ h5.lt (hnotA k sh hf hkl))
  · intro i j x y hx hy hxy
    obtain ⟨k, sh, hik, rfl⟩ := x_w_of hx
    obtain ⟨k2, sh2, hjk, rfl⟩ := x_w_of hy
    have hxy : ad2 k = ad2 k2 := hxy
    have mixed : ∀ (j1 kF : Nat) (sF : XSh) (k9 : Nat) (s9 : XSh), shsF[j1]? = some (kF, sF) → (shsF.map (fun p => x_rk π2 p.1)).contains k9 = false → x_lk shs k9 = some s9 → ad' kF ≠ ad k9 := fun j1 kF sF k9 s9 hj1 hf hkl z => by
      have h5 := q4.2 j1 _ (x_w_at (cc := cc) (ad := ad') (hs := mr) hj1)
      have h6 : va_A (x_w cc (fun k => ad (x_rk π k)) shsL hsL) H.size (ad' kF) := h5
      rw [z] at h6
      exact hnotA k9 s9 hf hkl h6
    rcases split i k sh hik with ⟨j1, kF, sF, hj1, rfl, rfl⟩ | ⟨hf, hkl, hoff, hcell⟩ <;> rcases split j k2 sh2 hjk with ⟨j2, kF2, sF2, hj2, rfl, rfl⟩ | ⟨hf2, hkl2, hoff2, hcell2⟩
    · rw [on2 j1 kF sF hj1, on2 j2 kF2 sF2 hj2] at hxy
      have := x_uniq q4 hj1 hj2 hxy
      subst this
      have hkk : kF = kF2 := by rw [hj1] at hj2; exact congrArg (fun z => (z.getD (0, .inl 0)).1) hj2
      subst hkk
      exact u2 hik hjk
    · rw [on2 j1 kF sF hj1, hoff2] at hxy
      exact absurd hxy (mixed j1 kF sF k2 sh2 hj1 hf2 hkl2)
    · rw [on2 j2 kF2 sF2 hj2, hoff] at hxy
      exact absurd hxy.symm (mixed j2 kF2 sF2 k sh hj2 hf hkl)
    · rw [hoff, hoff2] at hxy
      obtain ⟨i1, hi1⟩ := x_lk_at hkl
      obtain ⟨i2, hi2⟩ := x_lk_at hkl2
      have := x_uniq hD hi1 hi2 hxy
      subst this
      have hkk : k = k2 := by rw [hi1] at hi2; exact congrArg (fun z => (z.getD (0, .inl 0)).1) hi2
      subst hkk
      exact u2 hik hjk
  · intro i x hx
    obtain ⟨k, sh, hik, rfl⟩ := x_w_of hx
    show A0 (ad2 k)
    rcases split i k sh hik with ⟨j1, kF, sF, hj1, rfl, rfl⟩ | ⟨hf, hkl, hoff, hcell⟩
    · rw [on2 j1 kF sF hj1]
      exact hAA _ (q4.2 j1 _ (x_w_at (cc := cc) (ad := ad') (hs := mr) hj1))
    · obtain ⟨i1, hi1⟩ := x_lk_at hkl
      rw [hoff]
      exact hD.2 i1 _ (x_w_at (cc := cc) (ad := ad) (hs := hs) hi1)
end XCALLA

/-! the same checks, told by plain numbers, quick for the kernel -/
def x_lnb : List Nat → List Nat → Bool
  | [], [] => true
  | a :: r, b :: t => Nat.beq a b && x_lnb r t
  | _, _ => false
theorem x_lnb_eq : ∀ {a b : List Nat}, x_lnb a b = true → a = b
  | [], [], _ => rfl
  | a :: r, b :: t, h => by
    simp only [x_lnb, Bool.and_eq_true] at h
    rw [Nat.eq_of_beq_eq_true h.1, x_lnb_eq h.2]
  | [], _ :: _, h => by cases h
  | _ :: _, [], h => by cases h
def x_she (s t : XSh) : Bool := match s, t with
  | .inl n, .inl m => Nat.beq n m
  | .inr (.inl a), .inr (.inl b) => x_lnb a b
  | .inr (.inr a), .inr (.inr b) => Nat.beq a.1 b.1 && x_lnb a.2 b.2
  | _, _ => false
theorem x_she_eq {s t : XSh} (h : x_she s t = true) : s = t := by
  unfold x_she at h
  split at h
  · rw [Nat.eq_of_beq_eq_true h]
  · rw [x_lnb_eq h]
  · next a b =>
    obtain ⟨a1, a2⟩ := a
    obtain ⟨b1, b2⟩ := b
    simp only [Bool.and_eq_true] at h
    rw [show a1 = b1 from Nat.eq_of_beq_eq_true h.1, show a2 = b2 from x_lnb_eq h.2]
  · cases h
def x_sse : XSs → XSs → Bool
  | [], [] => true
  | a :: r, b :: t => Nat.beq a.1 b.1 && (x_she a.2 b.2 && x_sse r t)
  | _, _ => false
theorem x_sse_eq : ∀ {a b : XSs}, x_sse a b = true → a = b
  | [], [], _ => rfl
  | (a1, a2) :: r, (b1, b2) :: t, h => by
    simp only [x_sse, Bool.and_eq_true] at h
    rw [show a1 = b1 from Nat.eq_of_beq_eq_true h.1, show a2 = b2 from x_she_eq h.2.1, x_sse_eq h.2.2]
  | [], _ :: _, h => by cases h
  | _ :: _, [], h => by cases h
def x_lkb : XSs → Nat → XSh → Bool
  | [], _, _ => false
  | q :: r, k, sh => match Nat.beq q.1 k with
    | true => x_she q.2 sh
    | false => x_lkb r k sh
theorem x_lkb_eq : ∀ {shs : XSs} {k : Nat} {sh : XSh}, x_lkb shs k sh = true → x_lk shs k = some sh
  | [], _, _, h => by cases h
  | q :: r, k, sh, h => by
    unfold x_lkb at h
    unfold x_lk
    split at h
    · next e => rw [if_pos (Nat.eq_of_beq_eq_true e), x_she_eq h]
    · next e => rw [if_neg (fun z => by rw [z, Nat.beq_refl] at e; cases e)]; exact x_lkb_eq h
def x_hk : XSs → Nat → Bool
  | [], _ => false
  | q :: r, k => Nat.beq q.1 k || x_hk r k
theorem x_hk_eq : ∀ {shs : XSs} {k : Nat}, x_hk shs k = (x_lk shs k).isSome
  | [], _ => rfl
  | q :: r, k => by
    unfold x_hk x_lk
    by_cases e : q.1 = k
    · rw [if_pos e, e, Nat.beq_refl]; rfl
    · rw [if_neg e, x_hk_eq (shs := r)]
      have : Nat.beq q.1 k = false := by
        cases z : Nat.beq q.1 k with
        | false => rfl
        | true => exact absurd (Nat.eq_of_beq_eq_true z) e
      rw [this]; rfl
def x_atb : XSs → Nat → Nat → XSh → Bool
  | [], _, _, _ => false
  | q :: _, 0, a, sh => Nat.beq q.1 a && x_she q.2 sh
  | _ :: r, i + 1, a, sh => x_atb r i a sh
theorem x_atb_eq : ∀ {shs : XSs} {i a : Nat} {sh : XSh}, x_atb shs i a sh = true → shs[i]? = some (a, sh)
  | [], _, _, _, h => by cases h
  | (q1, q2) :: _, 0, a, sh, h => by
    simp only [x_atb, Bool.and_eq_true] at h
    rw [show q1 = a from Nat.eq_of_beq_eq_true h.1, show q2 = sh from x_she_eq h.2]; rfl
  | _ :: r, i + 1, a, sh, h => by
    rw [List.getElem?_cons_succ]
    exact x_atb_eq (shs := r) h
def x_mem : List Nat → Nat → Bool
  | [], _ => false
  | q :: r, k => Nat.beq q k || x_mem r k
theorem x_mem_of : ∀ {l : List Nat} {k : Nat}, k ∈ l → x_mem l k = true
  | q :: r, k, h => by
    unfold x_mem
    rcases List.mem_cons.mp h with rfl | h
    · rw [Nat.beq_refl]; rfl
    · rw [x_mem_of h, Bool.or_true]
theorem x_mem_to : ∀ {l : List Nat} {k : Nat}, x_mem l k = true → k ∈ l
  | q :: r, k, h => by
    simp only [x_mem, Bool.or_eq_true] at h
    rcases h with h | h
    · rw [Nat.eq_of_beq_eq_true h]; exact List.mem_cons_self
    · exact List.mem_cons_of_mem _ (x_mem_to h)
def x_nd : List Nat → Bool
  | [] => true
  | a :: r => !(x_mem r a) && x_nd r
theorem x_nd_to : ∀ {l : List Nat}, x_nd l = true → va_nd l = true
  | [], _ => rfl
  | a :: r, h => by
    simp only [x_nd, Bool.and_eq_true, Bool.not_eq_true'] at h
    simp only [va_nd, Bool.and_eq_true, decide_eq_true_eq]
    refine ⟨fun z => ?_, x_nd_to h.2⟩
    have h1 := h.1
    rw [x_mem_of z] at h1
    cases h1
def x_ks : XSs → List Nat
  | [] => []
  | q :: r => q.1 :: x_ks r
theorem x_ks_eq : ∀ {shs : XSs}, x_ks shs = shs.map (fun q => q.1)
  | [] => rfl
  | q :: r => by simp [x_ks, x_ks_eq (shs := r)]
def x_okB (π π2 KF NK : List Nat) (shsL shsF shs shs2 : XSs) : Bool :=
  x_lnb (shsF.map (fun q => x_rk π2 q.1)) KF && (x_lnb ((x_nk shsL shsF).map (fun k => x_rk π2 k)) NK && (shsF.all (fun q => x_lkb shs2 (x_rk π2 q.1) (x_rs π2 q.2) && (Nat.blt (q.1 / 64) π2.length && (x_no2 q.2 && (x_refs q.2).all (fun r => x_hk shsF r)))) && (x_nd KF && (x_nd (x_ks shs2) &&
  (shs2.all (fun q => x_mem KF q.1 || (x_lkb shs q.1 q.2 && (x_no2 q.2 && (x_refs q.2).all (fun r => !x_mem NK r)))) && (shs.all (fun q => x_hk shs2 q.1) &&
  (NK.all (fun k => !x_hk shs k) && (shsL.all (fun q => x_hk shsF q.1 && Nat.beq (x_rk π q.1) (x_rk π2 q.1))))))))))
theorem x_okB_A {π π2 KF NK : List Nat} {shsL shsF shs shs2 : XSs} (h : x_okB π π2 KF NK shsL shsF shs shs2 = true) : x_okA π π2 shsL shsF shs shs2 = true ∧ (shsF.map (fun q => x_rk π2 q.1) = KF ∧ (x_nk shsL shsF).map (fun k => x_rk π2 k) = NK) := by
  simp only [x_okB, Bool.and_eq_true] at h
  obtain ⟨h1, h2, h3, h4, h5, h6, h7, h8, h9⟩ := h
  have h1 := x_lnb_eq h1
  have h2 := x_lnb_eq h2
  subst h1
  subst h2
  refine ⟨?_, rfl, rfl⟩
  simp only [x_okA, Bool.and_eq_true]
  refine ⟨?_, x_nd_to h4, by rw [← x_ks_eq]; exact x_nd_to h5, ?_, ?_, ?_, ?_⟩
  · rw [List.all_eq_true] at h3 ⊢
    intro q hq
    have := h3 q hq
    simp only [Bool.and_eq_true, decide_eq_true_eq] at this ⊢
    obtain ⟨ha, hb, hc, hd⟩ := this
    refine ⟨x_lkb_eq ha, ?_, hc, ?_⟩
    · have : Nat.ble (q.1 / 64 + 1) π2.length = true := hb
      exact Nat.le_of_ble_eq_true this
    · rw [List.all_eq_true] at hd ⊢
      intro r hr
      rw [← x_hk_eq]
      exact hd r hr
  · rw [List.all_eq_true] at h6 ⊢
    intro q hq
    have := h6 q hq
    simp only [Bool.or_eq_true, Bool.and_eq_true, decide_eq_true_eq] at this ⊢
    rcases this with h | ⟨ha, hb, hc⟩
    · exact Or.inl (List.elem_eq_true_of_mem (x_mem_to h))
    · refine Or.inr ⟨x_lkb_eq ha, hb, ?_⟩
      rw [List.all_eq_true] at hc ⊢
      intro k hk
      rw [List.all_eq_true]
      intro r hr
      have h2 := hc r hr
      simp only [Bool.not_eq_true', bne_iff_ne] at h2 ⊢
      intro e
      rw [e, x_mem_of (List.mem_map.mpr ⟨k, hk, rfl⟩)] at h2
      cases h2
  · rw [List.all_eq_true] at h7 ⊢
    intro q hq
    rw [← x_hk_eq]
    exact h7 q hq
  · rw [List.all_eq_true] at h8 ⊢
    intro k hk
    have := h8 _ (List.mem_map.mpr ⟨k, hk, rfl⟩)
    simp only [Bool.not_eq_true', x_hk_eq, Option.isSome_eq_false_iff, Option.isNone_iff_eq_none] at this
    simpa using this
  · rw [List.all_eq_true] at h9 ⊢
    intro q hq
    have := h9 q hq
    simp only [Bool.and_eq_true, decide_eq_true_eq] at this ⊢
    exact ⟨by rw [← x_hk_eq]; exact this.1, Nat.eq_of_beq_eq_true this.2⟩
def x_cvB (KF co : List Nat) (shs2 : XSs) : Bool := shs2.all (fun q => x_mem KF q.1 || x_mem co (q.1 / 64))
def x_frB (NK : List Nat) (ls : XLs) (st : List Value) : Bool := NK.all (fun j => x_frl j ls st)

theorem x_hs_sel2 {π2 : List Nat} {hs2 mr : List Mem} (h : π2.map (fun g => hs2.getD g (fun _ _ => 0)) = mr) {k : Nat} (hk : k / 64 < π2.length) : x_hs hs2 (x_rk π2 k) = x_hs mr k := by
  rw [← h]
  exact (x_hs_sel hk).symm
def xN : List (String × Nat × MethodName) := [(RX6, 9, yX2_init), (RX5, 22, yX2_init), (RX6, 35, yX4_init), (RX6, 42, yX0_init), (RX0, 11, yX2_init), (RX6, 49, yX1_init)]
def XNk (s : State) : Prop := (∀ q ∈ xN, va_Nw (.methodLinkNest q.1 q.2.1 q.2.2 RX6) s) ∧ va_AO RX2 s
def XNb (B : XB) : Prop := match B with
  | (_, _, _, _, s, _, _, _, _, _, _, _, _, _, _, _) => XNk s
theorem XNk.warm {s U : State} (hW : s.WarmedH U.vm) (h : XNk s) : XNk U := ⟨fun q hq => va_Nw.warmM hW (h.1 q hq), va_AO.moved hW.alike h.2⟩
theorem XNk.same {s U : State} (hv : s.vm = U.vm) (h : XNk s) : XNk U := ⟨fun q hq => va_Nw.same rfl hv (h.1 q hq), va_AO.moved (hv ▸ Vm.Alike.refl _) h.2⟩
/-- a constructor's contract: as XMet, over the links inside the nest too -/
def XMetA (l : Launch) (y : MethodName) (bytes : ByteArray) (maxL : Nat) (d mc ms : Nat) (av : List Value) (shs : XSs) (hs : List Mem) (shsF : XSs) (r : XR) : Prop := ∀ (D : va_G) (cc : ClassId × ClassId) (ad : Nat → Nat) (sz : Nat), Met l y (Cond.code y bytes maxL none :: xT) ({ frames := d, cells := mc, slots := ms, locals := 40 * d }) (va_Pc (av.map (x_cv ad)) (fun U => U.heap.size = sz ∧ va_P D vwCl (x_w cc ad shs hs) U.heap ∧ va_K D vwCl (x_tys cc) U ∧ va_D (fun _ => True) (x_w cc ad shs hs) ∧ XNk U)) (XQ D cc (va_A (x_w cc ad shs hs) sz) ad shs shsF r) mc ms (va_A (x_w cc ad shs hs) sz)
theorem XMetA.of {τ : Type} {l : Launch} {y : MethodName} {bytes : ByteArray} {maxL : Nat} {d mc ms : Nat} {av : List Value} {shs : XSs} {hs : List Mem} {shsF : XSs} {k : τ → Option XR} {o : Option τ} (hy : plainName y.cls = true) (hlen : ∀ ad, (lg_sl (av.map (x_cv ad))).length ≤ maxL)
    (h : ∀ B : XB, XNb B → XE B (y.cls, bytes, maxL, none, y.name, d, mc, ms) (XQm B mc ms shsF) 0 (x_args 0 av) [] (0, 0) shs hs k o) {r : XR} (hr : o.bind k = some r) : XMetA l y bytes maxL d mc ms av shs hs shsF r := by
  intro D cc ad sz
  refine Met.ofW (cc := bytes) (maxL := maxL) (ret := none) hy rfl ?_
  intro p e s m args below meth c s₁ B hml hv
  obtain ⟨rfl, hsz, hP, hK, hD0, hNN⟩ := hv
  subst hsz
  have hts := atoms_spec (ws := Cond.code y bytes maxL none :: xT) B.pre
  have hown : s.vm.findClass y.cls = some m.cls := findClass_of_methodNamed B.named
  have hD := hD0.self (sz := s.heap.size)
  generalize hAe : va_A (x_w cc ad shs hs) s.heap.size = A at hD ⊢
  have hA : ∀ q : Nat, s.heap.size ≤ q → A q := fun q h => by rw [← hAe]; exact Or.inr h
  have hl := lv_entry (av.map (x_cv ad)) (n := maxL) (hlen ad)
  rw [lg_entry_eq]
  refine h (p, l, e, (headSpec (Cond.code y bytes maxL none :: xT) { frames := d, cells := mc, slots := ms, locals := 40 * d }).room, s, m, _, below, meth, c, D, cc, A, s.heap, ad, shs) hNN ⟨B.exec, B.bytes, hml, hown, fun w hw => hts w (List.mem_cons_of_mem _ hw), hK, hA, B.returns, (name_of_methodNamed B.named B.method).1, B.notSynchronized, Nat.le_refl _, Nat.le_refl _, rfl, Nat.le_refl _, Nat.le_refl _⟩ ad s.heap [] _ hP hD va_S.rf ⟨fun _ h => h, fun _ _ => rfl⟩ ⟨_, hl, fun i v hi => ?_⟩ r hr
  exact x_args_in ad av 0 i v hi
theorem x_blindA {D : va_G} {cc : ClassId × ClassId} {av : List Value} {ad : Nat → Nat} {sz : Nat} {shs : XSs} {hs : List Mem} : FrameBlind (va_Pc (av.map (x_cv ad)) (fun U => U.heap.size = sz ∧ va_P D vwCl (x_w cc ad shs hs) U.heap ∧ va_K D vwCl (x_tys cc) U ∧ va_D (fun _ => True) (x_w cc ad shs hs) ∧ XNk U)) := fun a U g mk q => by
  obtain ⟨q0, q1, qP, qK, qD, qN⟩ := q
  exact ⟨q0, q1, qP, va_K.moved (u := U) (U := U.calling g mk a) (Vm.Alike.refl U.vm) qK, qD, XNk.same rfl qN⟩
def XCIN (own : String) (idx : Nat) (y : MethodName) (bytes : ByteArray) (maxL : Nat) : Prop := (own, idx, y) ∈ xN ∧ Cond.instanceMethod y ∈ xT ∧ Cond.initialized y.cls ∈ xT ∧ Cond.code y bytes maxL none ∈ xT ∧ y.name = "<init>" ∧ (y.cls ≠ "java/lang/invoke/MethodHandle" ∧ y.cls ≠ "java/lang/invoke/VarHandle" ∧ (parseMethodDescriptor y.desc).map (fun d => d.parameters.length) = some 0)
/-- what a constructor's call needs of the tables -/
def XCI (own : String) (idx : Nat) (y : MethodName) (bytes : ByteArray) (maxL : Nat) : Prop := Cond.methodLink own idx y ∈ xT ∧ Cond.instanceMethod y ∈ xT ∧ Cond.initialized y.cls ∈ xT ∧ Cond.code y bytes maxL none ∈ xT ∧ y.name = "<init>" ∧ (y.cls ≠ "java/lang/invoke/MethodHandle" ∧ y.cls ≠ "java/lang/invoke/VarHandle" ∧ (parseMethodDescriptor y.desc).map (fun d => d.parameters.length) = some 0)
def x_cvA (π2 co : List Nat) (shsF shs2 : XSs) : Bool := shs2.all (fun q => (shsF.map (fun p => x_rk π2 p.1)).contains q.1 || co.contains (q.1 / 64))
theorem x_ls_off {ad ad2 : Nat → Nat} {lsA : Array Slot} {nL : Nat} {ls : XLs} (h : ∀ i v, xlk ls i = some v → x_cv ad2 v = x_cv ad v) (hL : x_ls ad lsA nL ls) : x_ls ad2 lsA nL ls := by
  obtain ⟨l, h1, h2⟩ := hL
  exact ⟨l, h1, fun i v hi => by rw [h i v hi]; exact h2 i v hi⟩
theorem xlk_mem {ls : XLs} {i : Nat} {v : Value} (h : xlk ls i = some v) : ∃ q ∈ ls, q.2 = some v := by
  induction ls with
  | nil => cases h
  | cons a r ih =>
    unfold xlk at h
    by_cases e : a.1 = i
    · rw [if_pos e] at h
      exact ⟨a, List.mem_cons_self, h⟩
    · rw [if_neg e] at h
      obtain ⟨q, h1, h2⟩ := ih h
      exact ⟨q, List.mem_cons_of_mem _ h1, h2⟩
theorem x_cv_off {ad ad2 : Nat → Nat} {v : Value} (h : ∀ k, v = .ref k → ad2 k = ad k) : x_cv ad2 v = x_cv ad v := by
  cases v with
  | ref k => show Value.ref _ = Value.ref _; rw [h k rfl]
  | _ => rfl
def x_frA (π2 : List Nat) (nk : List Nat) (ls : XLs) (st : List Value) : Bool := nk.all (fun j => x_frl (x_rk π2 j) ls st)
theorem XE_callA {α R : Type} {B : XB} {M : XM} {Q : R → State → Prop} {pc n : Nat} {ls : XLs} {st : List Value} {c0 s0 : Nat} {shs : XSs} {hs : List Mem} {k : α → Option R} {o : Option α} {idx d maxL mc ms b : Nat} {y : MethodName} {bytes : ByteArray} {π π2 co KF NK : List Nat} {shsL shsF shs2 : XSs} {hsL hs2 mr cv : List Mem} (hx : XCI M.1 idx y bytes maxL) (hN : XNb B) (hM : ∀ l, XMetA l y bytes maxL d mc ms [.ref 0] shsL hsL shsF (none, mr)) (hb : x_rk π 0 = b) (hd : decode M.2.1 pc = .ok (.invokespecial idx, 3)) (hdp : d + 1 ≤ x_dp M) (hcs : c0 + mc ≤ x_mc M ∧ s0 + ms ≤ x_ms M) (hmL : maxL ≤ 21) (hcat : (st.map fun v => v.category).sum ≤ 8) (hok : x_okc π shsL shs = true) (hokB : x_okB π π2 KF NK shsL shsF shs shs2 = true) (hcvB : x_cvB KF co shs2 = true) (hfrB : x_frB NK ls st = true) (hsel : π.map (fun g => hs.getD g (fun _ _ => 0)) = hsL) (hsel2 : π2.map (fun g => hs2.getD g (fun _ _ => 0)) = mr) (hco : co.map (fun g => hs2.getD g (fun _ _ => 0)) = cv) (hco2 : co.map (fun g => hs.getD g (fun _ _ => 0)) = cv) {c1 s1 : Nat} (hc1 : c0 + mc = c1) (hs1 : s0 + ms = s1) (hn : pc + 3 = n) (kk : XE B M Q n ls st (c1, s1) shs2 hs2 k o) : XE B M Q pc ls (.ref b :: st) (c0, s0) shs hs k o := by
  obtain ⟨hokA, hKF⟩ := x_okB_A hokB
  have hcv : x_cvA π2 co shsF shs2 = true := by
    unfold x_cvA
    rw [hKF.1]
    unfold x_cvB at hcvB
    rw [List.all_eq_true] at hcvB ⊢
    intro q hq
    have := hcvB q hq
    simp only [Bool.or_eq_true] at this ⊢
    exact this.imp (fun z => List.elem_eq_true_of_mem (x_mem_to z)) (fun z => List.elem_eq_true_of_mem (x_mem_to z))
  have hfr : x_frA π2 (x_nk shsL shsF) ls st = true := by
    unfold x_frB at hfrB
    rw [← hKF.2, List.all_map] at hfrB
    exact hfrB
  subst hn
  subst hc1
  subst hs1
  obtain ⟨p, l, e, Rm, s, m, args, below, meth, c, D, cc, A, H0, ad0, shs0⟩ := B
  intro hO ad H locs lsA hP hD hS hA hL r hr
  have hfr1 : x_dp M ≤ Rm.frames := hO.2.2.2.2.2.2.2.2.2.2.1
  have hlo : 40 * x_dp M ≤ Rm.locals := hO.2.2.2.2.2.2.2.2.2.2.2.1
  have hcl2 : c0 + mc ≤ Rm.cells ∧ s0 + ms ≤ Rm.slots := ⟨Nat.le_trans hcs.1 hO.2.2.2.2.2.2.2.2.2.2.2.2.2.1, Nat.le_trans hcs.2 hO.2.2.2.2.2.2.2.2.2.2.2.2.2.2⟩
  have hcut := x_cut hok hsel hP hD
  subst hb
  have hrun : va_Run p l e Rm s m args below meth c H locs c0 s0 mc ms (F0 m pc lsA ((.ref (x_rk π 0) :: st).map (x_cv ad))) (st.map (x_cv ad)) (XQ D cc (va_A (x_w cc (fun k => ad (x_rk π k)) shsL hsL) H.size) (fun k => ad (x_rk π k)) shsL shsF (none, mr) (Value.ref (ad (x_rk π 0)) :: []).toArray) (va_A (x_w cc (fun k => ad (x_rk π k)) shsL hsL) H.size) := by
    have hB : ∀ U : State, U.heap = H → s.WarmedH U.vm → va_Pc ([Value.ref 0].map (x_cv (fun k => ad (x_rk π k)))) (fun U => U.heap.size = H.size ∧ va_P D vwCl (x_w cc (fun k => ad (x_rk π k)) shsL hsL) U.heap ∧ va_K D vwCl (x_tys cc) U ∧ va_D (fun _ => True) (x_w cc (fun k => ad (x_rk π k)) shsL hsL) ∧ XNk U) (Value.ref (ad (x_rk π 0)) :: []).toArray U := fun U hU hW => ⟨rfl, by rw [hU], by rw [hU]; exact hcut.1, va_K.moved hW.alike hO.2.2.2.2.2.1, hcut.2.1.weaken (fun _ _ _ _ => trivial), XNk.warm hW hN⟩
    have ht := hO.2.2.2.2.1
    have hG : GoodIn xT (Cond.code y bytes maxL none :: xT) := goodIn_tbl (fun w hw => by
      rcases List.mem_cons.mp hw with rfl | hw
      · exact hx.2.2.2.1
      · exact hw)
    exact va_runI (b := ad (x_rk π 0)) (As := []) (n := 0) ⟨hO.1, hO.2.1, hO.2.2.1, hO.2.2.2.1, hO.2.2.2.2.1⟩ (hM l D cc (fun k => ad (x_rk π k)) H.size) (cwI 0 ht hG rfl rfl rfl (ht _ hx.2.2.1) (ht _ hx.1) (ht _ hx.2.1) hx.2.2.2.2.1 hx.2.2.2.2.2 ⟨by show d + 1 ≤ Rm.frames; omega, by show 8 + (maxL + 11) + 40 * d ≤ Rm.locals; omega⟩) ⟨x_blindA, hB⟩ rfl rfl hL.size rfl (lv_room (by rw [x_cat_map]; exact hcat)) hd hcl2
  have hokA' := hokA
  simp only [x_okA, Bool.and_eq_true, List.all_eq_true, decide_eq_true_eq] at hokA'
  obtain ⟨ha, -, -, hc2, hd2, he, -⟩ := hokA'
  simp only [x_cvA, List.all_eq_true] at hcv
  refine x_afterA hrun hok hokA hsel (fun k s hk => x_hs_sel2 hsel2 (ha _ hk).2.1) (fun k s hk hf => ?_) hP hD hS hO.2.2.2.2.2.2.1 (fun ad2 H1 locs1 hoff g1 g2 g3 => ?_)
  · have h1 := hcv _ hk
    rw [show (shsF.map (fun p => x_rk π2 p.1)).contains (k, s).1 = false from hf, Bool.false_or] at h1
    have h2 : k / 64 ∈ co := List.mem_of_elem_eq_true h1
    unfold x_hs
    obtain ⟨i, hi⟩ := List.getElem?_of_mem h2
    have e1 : (co.map (fun g => hs2.getD g (fun _ _ => 0)))[i]? = (co.map (fun g => hs.getD g (fun _ _ => 0)))[i]? := by rw [hco, hco2]
    rw [List.getElem?_map, List.getElem?_map, hi] at e1
    exact congrFun (Option.some.inj e1) _
  · simp only [x_frA, List.all_eq_true, x_frl, Bool.and_eq_true] at hfr
    have hvv : ∀ v : Value, (∀ j ∈ x_nk shsL shsF, x_nov (x_rk π2 j) v = true) → x_cv ad2 v = x_cv ad v := fun v hv => x_cv_off (fun q hq => hoff q (fun j hj hjq => by
      have := hv j hj
      subst hq
      simp [x_nov, hjq] at this))
    have hst : st.map (x_cv ad2) = st.map (x_cv ad) := List.map_congr_left (fun v hv => hvv v (fun j hj => (hfr j hj).2 v hv))
    have hls : x_ls ad2 lsA M.2.2.1 ls := x_ls_off (fun i v hi => hvv v (fun j hj => by
      obtain ⟨q, h1, h2⟩ := xlk_mem hi
      have := (hfr j hj).1 q h1
      rw [h2] at this
      exact this)) hL
    rw [← hst]
    refine kk hO ad2 H1 locs1 lsA g1 g2 g3 ⟨fun q hq => ?_, fun q hq => ?_⟩ hls r hr
    · obtain ⟨sh, hm, -⟩ := x_lk_isSome (hA.1 q hq)
      have := hd2 _ hm
      intro z
      rw [show x_lk shs2 (q, sh).1 = none from z] at this
      cases this
    · rcases hq with hq | hq
      · rw [hoff q (fun j hj hjq => hA.1 q hq (by rw [← hjq]; exact he j hj))]
        exact hA.2 q (Or.inl hq)
      · have hn2 : x_lk shs q = none := by
          cases z : x_lk shs q with
          | none => rfl
          | some sh =>
            have := hd2 _ (x_lk_mem z)
            rw [show x_lk shs2 (q, sh).1 = none from hq] at this
            cases this
        rw [hoff q (fun j hj hjq => by
          obtain ⟨⟨s', h1⟩, -⟩ := x_nk_mem.mp hj
          have h2 := (ha _ h1).1
          rw [show x_rk π2 (j, s').1 = q from hjq, hq] at h2
          cases h2)]
        exact hA.2 q (Or.inr hn2)
theorem XE_callN {α R : Type} {B : XB} {M : XM} {Q : R → State → Prop} {pc n : Nat} {ls : XLs} {st : List Value} {c0 s0 : Nat} {shs : XSs} {hs : List Mem} {k : α → Option R} {o : Option α} {idx d maxL mc ms b : Nat} {y : MethodName} {bytes : ByteArray} {π π2 co KF NK : List Nat} {shsL shsF shs2 : XSs} {hsL hs2 mr cv : List Mem} (hx : XCIN M.1 idx y bytes maxL) (hN : XNb B) (hM : ∀ l, XMetA l y bytes maxL d mc ms [.ref 0] shsL hsL shsF (none, mr)) (hb : x_rk π 0 = b) (hd : decode M.2.1 pc = .ok (.invokespecial idx, 3)) (hdp : d + 1 ≤ x_dp M) (hcs : c0 + mc ≤ x_mc M ∧ s0 + ms ≤ x_ms M) (hmL : maxL ≤ 21) (hcat : (st.map fun v => v.category).sum ≤ 8) (hok : x_okc π shsL shs = true) (hokB : x_okB π π2 KF NK shsL shsF shs shs2 = true) (hcvB : x_cvB KF co shs2 = true) (hfrB : x_frB NK ls st = true) (hsel : π.map (fun g => hs.getD g (fun _ _ => 0)) = hsL) (hsel2 : π2.map (fun g => hs2.getD g (fun _ _ => 0)) = mr) (hco : co.map (fun g => hs2.getD g (fun _ _ => 0)) = cv) (hco2 : co.map (fun g => hs.getD g (fun _ _ => 0)) = cv) {c1 s1 : Nat} (hc1 : c0 + mc = c1) (hs1 : s0 + ms = s1) (hn : pc + 3 = n) (kk : XE B M Q n ls st (c1, s1) shs2 hs2 k o) : XE B M Q pc ls (.ref b :: st) (c0, s0) shs hs k o := by
  obtain ⟨hokA, hKF⟩ := x_okB_A hokB
  have hcv : x_cvA π2 co shsF shs2 = true := by
    unfold x_cvA
    rw [hKF.1]
    unfold x_cvB at hcvB
    rw [List.all_eq_true] at hcvB ⊢
    intro q hq
    have := hcvB q hq
    simp only [Bool.or_eq_true] at this ⊢
    exact this.imp (fun z => List.elem_eq_true_of_mem (x_mem_to z)) (fun z => List.elem_eq_true_of_mem (x_mem_to z))
  have hfr : x_frA π2 (x_nk shsL shsF) ls st = true := by
    unfold x_frB at hfrB
    rw [← hKF.2, List.all_map] at hfrB
    exact hfrB
  subst hn
  subst hc1
  subst hs1
  obtain ⟨p, l, e, Rm, s, m, args, below, meth, c, D, cc, A, H0, ad0, shs0⟩ := B
  intro hO ad H locs lsA hP hD hS hA hL r hr
  have hfr1 : x_dp M ≤ Rm.frames := hO.2.2.2.2.2.2.2.2.2.2.1
  have hlo : 40 * x_dp M ≤ Rm.locals := hO.2.2.2.2.2.2.2.2.2.2.2.1
  have hcl2 : c0 + mc ≤ Rm.cells ∧ s0 + ms ≤ Rm.slots := ⟨Nat.le_trans hcs.1 hO.2.2.2.2.2.2.2.2.2.2.2.2.2.1, Nat.le_trans hcs.2 hO.2.2.2.2.2.2.2.2.2.2.2.2.2.2⟩
  have hcut := x_cut hok hsel hP hD
  subst hb
  have hrun : va_Run p l e Rm s m args below meth c H locs c0 s0 mc ms (F0 m pc lsA ((.ref (x_rk π 0) :: st).map (x_cv ad))) (st.map (x_cv ad)) (XQ D cc (va_A (x_w cc (fun k => ad (x_rk π k)) shsL hsL) H.size) (fun k => ad (x_rk π k)) shsL shsF (none, mr) (Value.ref (ad (x_rk π 0)) :: []).toArray) (va_A (x_w cc (fun k => ad (x_rk π k)) shsL hsL) H.size) := by
    have hB : ∀ U : State, U.heap = H → s.WarmedH U.vm → va_Pc ([Value.ref 0].map (x_cv (fun k => ad (x_rk π k)))) (fun U => U.heap.size = H.size ∧ va_P D vwCl (x_w cc (fun k => ad (x_rk π k)) shsL hsL) U.heap ∧ va_K D vwCl (x_tys cc) U ∧ va_D (fun _ => True) (x_w cc (fun k => ad (x_rk π k)) shsL hsL) ∧ XNk U) (Value.ref (ad (x_rk π 0)) :: []).toArray U := fun U hU hW => ⟨rfl, by rw [hU], by rw [hU]; exact hcut.1, va_K.moved hW.alike hO.2.2.2.2.2.1, hcut.2.1.weaken (fun _ _ _ _ => trivial), XNk.warm hW hN⟩
    have ht := hO.2.2.2.2.1
    have hG : GoodIn xT (Cond.code y bytes maxL none :: xT) := goodIn_tbl (fun w hw => by
      rcases List.mem_cons.mp hw with rfl | hw
      · exact hx.2.2.2.1
      · exact hw)
    exact va_runIN (b := ad (x_rk π 0)) (As := []) (n := 0) ⟨hO.1, hO.2.1, hO.2.2.1, hO.2.2.2.1, hO.2.2.2.2.1⟩ (hM l D cc (fun k => ad (x_rk π k)) H.size) ⟨va_cnB (host := RX6) 0 ht hG rfl rfl rfl (hN.1 _ hx.1) (ht _ hx.2.2.1) hx.2.2.2.2.2 ⟨by show d + 1 ≤ Rm.frames; omega, by show 8 + (maxL + 11) + 40 * d ≤ Rm.locals; omega⟩, hx.2.2.2.2.1, ht _ hx.2.1⟩ ⟨x_blindA, hB⟩ rfl rfl hL.size rfl (lv_room (by rw [x_cat_map]; exact hcat)) hd hcl2
  have hokA' := hokA
  simp only [x_okA, Bool.and_eq_true, List.all_eq_true, decide_eq_true_eq] at hokA'
  obtain ⟨ha, -, -, hc2, hd2, he, -⟩ := hokA'
  simp only [x_cvA, List.all_eq_true] at hcv
  refine x_afterA hrun hok hokA hsel (fun k s hk => x_hs_sel2 hsel2 (ha _ hk).2.1) (fun k s hk hf => ?_) hP hD hS hO.2.2.2.2.2.2.1 (fun ad2 H1 locs1 hoff g1 g2 g3 => ?_)
  · have h1 := hcv _ hk
    rw [show (shsF.map (fun p => x_rk π2 p.1)).contains (k, s).1 = false from hf, Bool.false_or] at h1
    have h2 : k / 64 ∈ co := List.mem_of_elem_eq_true h1
    unfold x_hs
    obtain ⟨i, hi⟩ := List.getElem?_of_mem h2
    have e1 : (co.map (fun g => hs2.getD g (fun _ _ => 0)))[i]? = (co.map (fun g => hs.getD g (fun _ _ => 0)))[i]? := by rw [hco, hco2]
    rw [List.getElem?_map, List.getElem?_map, hi] at e1
    exact congrFun (Option.some.inj e1) _
  · simp only [x_frA, List.all_eq_true, x_frl, Bool.and_eq_true] at hfr
    have hvv : ∀ v : Value, (∀ j ∈ x_nk shsL shsF, x_nov (x_rk π2 j) v = true) → x_cv ad2 v = x_cv ad v := fun v hv => x_cv_off (fun q hq => hoff q (fun j hj hjq => by
      have := hv j hj
      subst hq
      simp [x_nov, hjq] at this))
    have hst : st.map (x_cv ad2) = st.map (x_cv ad) := List.map_congr_left (fun v hv => hvv v (fun j hj => (hfr j hj).2 v hv))
    have hls : x_ls ad2 lsA M.2.2.1 ls := x_ls_off (fun i v hi => hvv v (fun j hj => by
      obtain ⟨q, h1, h2⟩ := xlk_mem hi
      have := (hfr j hj).1 q h1
      rw [h2] at this
      exact this)) hL
    rw [← hst]
    refine kk hO ad2 H1 locs1 lsA g1 g2 g3 ⟨fun q hq => ?_, fun q hq => ?_⟩ hls r hr
    · obtain ⟨sh, hm, -⟩ := x_lk_isSome (hA.1 q hq)
      have := hd2 _ hm
      intro z
      rw [show x_lk shs2 (q, sh).1 = none from z] at this
      cases this
    · rcases hq with hq | hq
      · rw [hoff q (fun j hj hjq => hA.1 q hq (by rw [← hjq]; exact he j hj))]
        exact hA.2 q (Or.inl hq)
      · have hn2 : x_lk shs q = none := by
          cases z : x_lk shs q with
          | none => rfl
          | some sh =>
            have := hd2 _ (x_lk_mem z)
            rw [show x_lk shs2 (q, sh).1 = none from hq] at this
            cases this
        rw [hoff q (fun j hj hjq => by
          obtain ⟨⟨s', h1⟩, -⟩ := x_nk_mem.mp hj
          have h2 := (ha _ h1).1
          rw [show x_rk π2 (j, s').1 = q from hjq, hq] at h2
          cases h2)]
        exact hA.2 q (Or.inr hn2)
/-- the same cells, told by other shapes -/
theorem XE_resh {α R : Type} {B : XB} {M : XM} {Q : R → State → Prop} {pc : Nat} {ls : XLs} {st : List Value} {cs : Nat × Nat} {shs shs2 : XSs} {hs : List Mem} {k : α → Option R} {o : Option α} (h : ∀ (cc : ClassId × ClassId) (ad : Nat → Nat), x_w cc ad shs hs = x_w cc ad shs2 hs) (hk : shs.map (fun q => q.1) = shs2.map (fun q => q.1)) (kk : XE B M Q pc ls st cs shs2 hs k o) : XE B M Q pc ls st cs shs hs k o := by
  have hl : ∀ q, x_lk shs q = none ↔ x_lk shs2 q = none := by
    clear h kk
    induction shs generalizing shs2 with
    | nil =>
      cases shs2 with
      | nil => exact fun _ => Iff.rfl
      | cons a r => cases hk
    | cons a r ih =>
      cases shs2 with
      | nil => cases hk
      | cons b t =>
        simp only [List.map_cons, List.cons.injEq] at hk
        intro q
        show (if a.1 = q then some a.2 else x_lk r q) = none ↔ (if b.1 = q then some b.2 else x_lk t q) = none
        rw [hk.1]
        by_cases e : b.1 = q
        · simp [e]
        · rw [if_neg e, if_neg e]
          exact ih hk.2 q
  obtain ⟨p, l, e, Rm, s, m, args, below, meth, c, D, cc, A, H0, ad0, shs0⟩ := B
  intro hO ad H locs lsA hP hD hS hA hL r hr
  refine kk hO ad H locs lsA (by rw [← h]; exact hP) (by rw [← h]; exact hD) hS ⟨fun q hq z => hA.1 q hq ((hl q).mpr z), fun q hq => hA.2 q (hq.imp id (hl q).mpr)⟩ hL r hr
theorem XE_cvret {α : Type} {B : XB} {M : XM} {pc : Nat} {ls : XLs} {mc ms c0 s0 : Nat} {shs shsF : XSs} {hs mr : List Mem} {k : α → Option XR} {t : α} (hf : shs = shsF) (hm2 : hs = mr) (hc : c0 ≤ mc ∧ s0 ≤ ms) (hm : M.2.2.2.1 = none) (hd : decode M.2.1 pc = .ok (.return_, 1)) (hk : k t = some (none, mr)) : XE B M (XQm B mc ms shsF) pc ls [] (c0, s0) shs hs k (some t) := by
  subst hf
  subst hm2
  exact XE_vreturn hm hd hk hc.1 hc.2

theorem XE_anewN {α R : Type} {B : XB} {M : XM} {Q : R → State → Prop} {pc n : Nat} {ls : XLs} {st : List Value} {c0 s0 : Nat} {shs : XSs} {hs : List Mem} {k : α → Option R} {o : Option α} {key N idx : Nat} {z : Int32} {shs2 : XSs} (hcl : Cond.classLink M.1 idx RX2 ∈ xT) (hNb : XNb B) (hf : x_fresh key shs = true) (hl : x_frl key ls st = true) (hz : ¬ z < 0) (hN : z.toNatClampNeg = N) (hc : c0 + 1 ≤ x_mc M ∧ s0 + N ≤ x_ms M) (hb : N ≤ 1000) (hs1 : shs ++ [(key, .inr (.inl (List.replicate N 0)))] = shs2) (hd : decode M.2.1 pc = .ok (.anewarray idx, 3)) (hn : pc + 3 = n) (kk : XE B M Q n ls (.ref key :: st) (c0 + 1, s0 + N) shs2 hs k o) : XE B M Q pc ls (.int z :: st) (c0, s0) shs hs k o := by
  subst hn
  subst hs1
  obtain ⟨p, l, e, Rm, s, m, args, below, meth, c, D, cc, A, H0, ad0, shs0⟩ := B
  intro hO ad H locs lsA hP hD hS hA hL r hr
  have hc1 : c0 + 1 ≤ Rm.cells := Nat.le_trans hc.1 hO.2.2.2.2.2.2.2.2.2.2.2.2.2.1
  have hc2 : s0 + N ≤ Rm.slots := Nat.le_trans hc.2 hO.2.2.2.2.2.2.2.2.2.2.2.2.2.2
  refine va_newq (C := RX2) hO.1 hO.2.1 hO.2.2.2.1 (hO.2.2.2.2.1 _ hcl) hNb.2 hO.2.2.2.2.2.1 hP hD hS hO.2.2.2.2.2.2.1 hz hN (by omega) hc1 hc2 hd (fun q cA H1 g0 g1 g2 g3 => ?_)
  have hcA : cA = cc.2 := by
    obtain ⟨_, _, _, _, _, e1⟩ := (g0.2 2 (cA, .object RX2) rfl).2
    obtain ⟨_, _, _, _, _, e2⟩ := (g0.2 1 (cc.2, .object RX2) rfl).2
    exact Option.some.inj (e1.symm.trans e2)
  subst hcA
  have hw := x_more (cc := cc) (ad := ad) (hs := hs) (hs2 := hs) (q := q) (sh := .inr (.inl (List.replicate N 0))) hf (fun _ _ _ => rfl) (e := .inl (cc.2, N, .inr (.inr (.inr (.inr (fun _ => none)))))) (by
    show Sum.inl (cc.2, ((List.replicate N 0).length, Sum.inr (Sum.inr (Sum.inr (Sum.inr (x_rf _ (List.replicate N 0))))))) = _
    rw [List.length_replicate]
    have : x_rf (x_ext ad key q) (List.replicate N 0) = fun _ => none := by
      funext i
      unfold x_rf
      have : (List.replicate N 0).getD i 0 = 0 := by
        simp only [List.getD, List.getElem?_replicate]
        split <;> rfl
      rw [this]
    rw [this])
  simp only [x_frl, Bool.and_eq_true] at hl
  have := kk hO (x_ext ad key q) H1 locs lsA (by rw [hw]; exact g1) (by rw [hw]; exact g2) g3 (x_A_more hf hA) (x_ls_nov hl.1 hL) r hr
  rw [show (Value.ref key :: st).map (x_cv (x_ext ad key q)) = .ref q :: st.map (x_cv ad) from by
    show x_cv _ (Value.ref key) :: st.map _ = _
    rw [x_st_nov hl.2]
    simp [x_cv, x_ext]] at this
  exact this
