/-! THE FRAME, second half: fields, arrays, calls, returns -/
theorem x_fs_upd {ad : Nat → Nat} {g : Nat} {κs : List Nat} {j κ : Nat} (hκ : κs[j]? = some κ) (m m' : Nat → Int32) (h : ∀ q, q ≠ j → m' q = m q) : x_fs ad g κs m' 0 = (x_fs ad g κs m 0).set j (x_fv ad g κ (m' j)) := by
  have hl : j < (x_fs ad g κs m 0).length := by rw [x_fs_len]; exact (List.getElem?_eq_some_iff.mp hκ).1
  apply List.ext_getElem?
  intro n
  rw [x_fs_at, Nat.zero_add]
  by_cases e : n = j
  · subst e
    rw [List.getElem?_set_self hl, hκ]; rfl
  · rw [List.getElem?_set_ne (fun z => e z.symm), x_fs_at, Nat.zero_add, h n e]
theorem xs_row (m : Mem) (p j : Nat) (v : Int32) : xs m p j v p = fun q => if q = j then v else m p q := by
  funext q; simp [xs]
theorem xs_at (m : Mem) (p j : Nat) (v : Int32) : xs m p j v p j = v := by simp [xs]
theorem xs_ne (m : Mem) (p j : Nat) (v : Int32) (q : Nat) (h : q ≠ j) : xs m p j v p q = m p q := by simp [xs, h]
theorem xs_off (m : Mem) (p j : Nat) (v : Int32) (q : Nat) (h : q ≠ p) : xs m p j v q = m q := by
  funext i; simp [xs, h]
theorem XE_none {α R : Type} {B : XB} {M : XM} {Q : R → State → Prop} {pc : Nat} {ls : XLs} {st : List Value} {cs : Nat × Nat} {shs : XSs} {hs : List Mem} {k : α → Option R} : XE B M Q pc ls (st) cs shs hs k ((none : Option α)) := by
  obtain ⟨p, l, e, Rm, s, m, args, below, meth, c, D, cc, A, H0, ad0, shs0⟩ := B
  intro hO ad H locs lsA hP hD hS hA hL r hr
  cases hr
theorem XE_some {α R : Type} {B : XB} {M : XM} {Q : R → State → Prop} {pc : Nat} {ls : XLs} {st : List Value} {cs : Nat × Nat} {shs : XSs} {hs : List Mem} {k : α → Option R} {τ : Type} {f : τ → Option α} {t : τ} (kk : XE B M Q pc ls (st) cs shs hs k (f t)) : XE B M Q pc ls (st) cs shs hs k ((some t).bind f) := kk
theorem XE_lt {α R : Type} {B : XB} {M : XM} {Q : R → State → Prop} {pc : Nat} {ls : XLs} {st : List Value} {cs : Nat × Nat} {shs : XSs} {hs : List Mem} {k : α → Option R} {τ : Type} {f : τ → Option α} {t : τ} (kk : XE B M Q pc ls (st) cs shs hs k (f t)) : XE B M Q pc ls (st) cs shs hs k (lt t f) := kk
theorem XE_bind {α R : Type} {B : XB} {M : XM} {Q : R → State → Prop} {pc : Nat} {ls : XLs} {st : List Value} {cs : Nat × Nat} {shs : XSs} {hs : List Mem} {k : α → Option R} {τ : Type} {f : τ → Option α} {o1 : Option τ} (kk : XE B M Q pc ls st cs shs hs (fun t => (f t).bind k) o1) : XE B M Q pc ls (st) cs shs hs k (o1.bind f) := by
  obtain ⟨p, l, e, Rm, s, m, args, below, meth, c, D, cc, A, H0, ad0, shs0⟩ := B
  intro hO ad H locs lsA hP hD hS hA hL r hr
  exact kk hO ad H locs lsA hP hD hS hA hL r (by rw [← hr, Option.bind_assoc])
theorem XE_leaf {α R : Type} {B : XB} {M : XM} {Q : R → State → Prop} {pc : Nat} {ls : XLs} {st : List Value} {cs : Nat × Nat} {shs : XSs} {hs : List Mem} {k : α → Option R} {τ : Type} {f : τ → Option α} {t : τ} (kk : XE B M Q pc ls (st) cs shs hs k (f t)) : XE B M Q pc ls st cs shs hs (fun t => (f t).bind k) (some t) := kk
theorem XE_if {α R : Type} {B : XB} {M : XM} {Q : R → State → Prop} {pc : Nat} {ls : XLs} {st : List Value} {cs : Nat × Nat} {shs : XSs} {hs : List Mem} {k : α → Option R} {P : Prop} [inst : Decidable P] {o1 o2 : Option α} (h1 : P → XE B M Q pc ls (st) cs shs hs k (o1)) (h2 : ¬ P → XE B M Q pc ls (st) cs shs hs k (o2)) : XE B M Q pc ls (st) cs shs hs k (if P then o1 else o2) := by
  by_cases h : P
  · rw [if_pos h]; exact h1 h
  · rw [if_neg h]; exact h2 h
theorem XE_ck {α R : Type} {B : XB} {M : XM} {Q : R → State → Prop} {pc : Nat} {ls : XLs} {st : List Value} {cs : Nat × Nat} {shs : XSs} {hs : List Mem} {k : α → Option R} {o : Option α} {b : Bool} (kk : b = true → XE B M Q pc ls (st) cs shs hs k o) : XE B M Q pc ls (st) cs shs hs k (ck b o) := by
  unfold ck
  cases b
  · exact XE_none
  · exact kk rfl
theorem XE_getf {α R : Type} {B : XB} {M : XM} {Q : R → State → Prop} {pc n : Nat} {ls : XLs} {st : List Value} {cs : Nat × Nat} {shs : XSs} {hs : List Mem} {k : α → Option R} {o : Option α} {a j ci idx : Nat} {κs : List Nat} {ty : FieldType} {fin dec : Bool} {v : Int32} (hx : XF M.1 idx ci j ty fin dec) (hsh : x_lk shs a = some (.inr (.inr (ci, κs)))) (hκ : κs[j]? = some 0) (hv : x_hs hs a j = v) (hd : decode M.2.1 pc = .ok (.getfield idx, 3)) (hn : pc + 3 = n) (kk : XE B M Q n ls (.int v :: st) cs shs hs k o) : XE B M Q pc ls (.ref a :: st) cs shs hs k o := by
  subst hn
  obtain ⟨p, l, e, Rm, s, m, args, below, meth, c, D, cc, A, H0, ad0, shs0⟩ := B
  intro hO ad H locs lsA hP hD hS hA hL r hr
  obtain ⟨C, T, N, ty0, h1, h2, h3, h4, h5, h6, h7, h8, h9⟩ := hx
  obtain ⟨i, hi⟩ := x_lk_at hsh
  refine va_get (v := x_cv ad (.int v)) hO.1 hO.2.1 hO.2.2.2.2.1 h4 hO.2.2.2.1 hO.2.2.2.2.2.1 hP i (x_w_at hi) h1 j h2 (hO.2.2.2.2.1 _ h3) (fun _ z => z) ?_ hd (kk hO ad H locs lsA hP hD hS hA hL r hr)
  show (x_fs ad (a / 64) κs (x_hs hs a) 0)[j]? = _
  rw [x_fs_at, hκ, Nat.zero_add, hv]; rfl
theorem XE_getr {α R : Type} {B : XB} {M : XM} {Q : R → State → Prop} {pc n : Nat} {ls : XLs} {st : List Value} {cs : Nat × Nat} {shs : XSs} {hs : List Mem} {k : α → Option R} {o : Option α} {a j ci idx : Nat} {κs : List Nat} {ty : FieldType} {fin dec : Bool} {b : Nat} (hx : XF M.1 idx ci j ty fin dec) (hsh : x_lk shs a = some (.inr (.inr (ci, κs)))) (hκ : κs[j]? = some (b + 3)) (hd : decode M.2.1 pc = .ok (.getfield idx, 3)) (hn : pc + 3 = n) (kk : XE B M Q n ls (.ref b :: st) cs shs hs k o) : XE B M Q pc ls (.ref a :: st) cs shs hs k o := by
  subst hn
  obtain ⟨p, l, e, Rm, s, m, args, below, meth, c, D, cc, A, H0, ad0, shs0⟩ := B
  intro hO ad H locs lsA hP hD hS hA hL r hr
  obtain ⟨C, T, N, ty0, h1, h2, h3, h4, h5, h6, h7, h8, h9⟩ := hx
  obtain ⟨i, hi⟩ := x_lk_at hsh
  refine va_get (v := x_cv ad (.ref b)) hO.1 hO.2.1 hO.2.2.2.2.1 h4 hO.2.2.2.1 hO.2.2.2.2.2.1 hP i (x_w_at hi) h1 j h2 (hO.2.2.2.2.1 _ h3) (fun _ z => z) ?_ hd (kk hO ad H locs lsA hP hD hS hA hL r hr)
  show (x_fs ad (a / 64) κs (x_hs hs a) 0)[j]? = _
  rw [x_fs_at, hκ]; rfl
theorem XE_getd {α R : Type} {B : XB} {M : XM} {Q : R → State → Prop} {pc n : Nat} {ls : XLs} {st : List Value} {cs : Nat × Nat} {shs : XSs} {hs : List Mem} {k : α → Option R} {a j ci idx b : Nat} {κs : List Nat} {ty : FieldType} {fin dec : Bool} {v u : Int32} {o1 o2 : Option α} (hx : XF M.1 idx ci j ty fin dec) (hsh : x_lk shs a = some (.inr (.inr (ci, κs)))) (hκ : κs[j]? = some 2) (hv : x_hs hs a j = v) (hu : u ≠ 0) (hb : 64 * (a / 64) + u.toNatClampNeg % 64 = b) (hd : decode M.2.1 pc = .ok (.getfield idx, 3)) (hn : pc + 3 = n) (kk : XE B M Q n ls (.ref b :: st) cs shs hs k (o1)) (k2 : XE B M Q pc ls (.ref a :: st) cs shs hs k (o2)) : XE B M Q pc ls (.ref a :: st) cs shs hs k (if v = u then o1 else o2) := by
  refine XE_if (fun h => ?_) (fun _ => k2)
  subst hn
  obtain ⟨p, l, e, Rm, s, m, args, below, meth, c, D, cc, A, H0, ad0, shs0⟩ := B
  intro hO ad H locs lsA hP hD hS hA hL r hr
  obtain ⟨C, T, N, ty0, h1, h2, h3, h4, h5, h6, h7, h8, h9⟩ := hx
  obtain ⟨i, hi⟩ := x_lk_at hsh
  refine va_get (v := x_cv ad (.ref b)) hO.1 hO.2.1 hO.2.2.2.2.1 h4 hO.2.2.2.1 hO.2.2.2.2.2.1 hP i (x_w_at hi) h1 j h2 (hO.2.2.2.2.1 _ h3) (fun _ z => z) ?_ hd (kk hO ad H locs lsA hP hD hS hA hL r hr)
  show (x_fs ad (a / 64) κs (x_hs hs a) 0)[j]? = _
  rw [x_fs_at, hκ, Nat.zero_add, hv, h]
  show some (if u = 0 then Value.null else .ref (ad (64 * (a / 64) + u.toNatClampNeg % 64))) = _
  rw [if_neg hu, hb]; rfl
theorem XE_putf {α R : Type} {B : XB} {M : XM} {Q : R → State → Prop} {pc n : Nat} {ls : XLs} {st : List Value} {cs : Nat × Nat} {shs : XSs} {hs : List Mem} {k : α → Option R} {a j ci idx p : Nat} {κs : List Nat} {dec : Bool} {v : Int32} {m : Mem} {hs2 : Mem → List Mem} {f : Mem → Option α} (hx : XF M.1 idx ci j .int false dec) (hsh : x_lk shs a = some (.inr (.inr (ci, κs)))) (hκ : κs[j]? = some 0) (hm : hs.getD (a / 64) (fun _ _ => 0) = m) (hp : a % 64 = p) (hg : a / 64 < hs.length) (hh : ∀ m', hs.set (a / 64) m' = hs2 m') (hd : decode M.2.1 pc = .ok (.putfield idx, 3)) (hn : pc + 3 = n) (kk : ∀ m', XE B M Q n ls (st) cs shs (hs2 m') k (f m')) : XE B M Q pc ls (.int v :: .ref a :: st) cs shs hs k (lt (xs m p j v) f) := by
  subst hn
  subst hp
  subst hm
  obtain ⟨p, l, e, Rm, s, m, args, below, meth, c, D, cc, A, H0, ad0, shs0⟩ := B
  intro hO ad H locs lsA hP hD hS hA hL r hr
  obtain ⟨C, T, N, ty0, h1, h2, h3, h4, h5, h6, h7, h8, h9⟩ := hx
  obtain ⟨i, hi⟩ := x_lk_at hsh
  have hcell : x_cell cc ad a (.inr (.inr (ci, κs))) (xs (hs.getD (a / 64) (fun _ _ => 0)) (a % 64) j v (a % 64)) = .inr (ci, (x_fs ad (a / 64) κs (x_hs hs a) 0).set j (x_cv ad (.int v))) := by
    show Sum.inr (ci, x_fs ad (a / 64) κs _ 0) = _
    rw [x_fs_upd hκ (x_hs hs a) (xs (hs.getD (a / 64) (fun _ _ => 0)) (a % 64) j v (a % 64)) (fun q hq => xs_ne _ _ _ _ q hq), xs_at]
    rfl
  refine va_put (ty := .int) (v := x_cv ad (.int v)) hO.1 hO.2.1 hO.2.2.2.2.1 h4 ty0 h5 h7 hO.2.2.2.1 hO.2.2.2.2.2.1 hP hD hS i (x_w_at hi) h1 j h2 (hO.2.2.2.2.1 _ h3) (fun _ z => z) h8 (by rw [h5 j h2, h6]) rfl rfl (by rw [x_fs_len]; exact (List.getElem?_eq_some_iff.mp hκ).1) hd (fun H1 locs1 g1 g2 g3 => ?_)
  have g4 := x_P_set hi hD hg (fun q hq => xs_off _ _ _ _ q hq) hcell g1
  rw [hh] at g4
  exact kk _ hO ad H1 locs1 lsA g4 (x_D_any hD) g3 hA hL r hr
theorem XE_putz {α R : Type} {B : XB} {M : XM} {Q : R → State → Prop} {pc n : Nat} {ls : XLs} {st : List Value} {cs : Nat × Nat} {shs : XSs} {hs : List Mem} {k : α → Option R} {a j ci idx p : Nat} {κs : List Nat} {dec : Bool} {v : Int32} {m : Mem} {hs2 : Mem → List Mem} {f : Mem → Option α} (hx : XF M.1 idx ci j .boolean false dec) (hsh : x_lk shs a = some (.inr (.inr (ci, κs)))) (hκ : κs[j]? = some 0) (hm : hs.getD (a / 64) (fun _ _ => 0) = m) (hp : a % 64 = p) (hg : a / 64 < hs.length) (hh : ∀ m', hs.set (a / 64) m' = hs2 m') (hz : isb v = true) (hd : decode M.2.1 pc = .ok (.putfield idx, 3)) (hn : pc + 3 = n) (kk : ∀ m', XE B M Q n ls (st) cs shs (hs2 m') k (f m')) : XE B M Q pc ls (.int v :: .ref a :: st) cs shs hs k (lt (xs m p j v) f) := by
  subst hn
  subst hp
  subst hm
  obtain ⟨p, l, e, Rm, s, m, args, below, meth, c, D, cc, A, H0, ad0, shs0⟩ := B
  intro hO ad H locs lsA hP hD hS hA hL r hr
  obtain ⟨C, T, N, ty0, h1, h2, h3, h4, h5, h6, h7, h8, h9⟩ := hx
  obtain ⟨i, hi⟩ := x_lk_at hsh
  have hcell : x_cell cc ad a (.inr (.inr (ci, κs))) (xs (hs.getD (a / 64) (fun _ _ => 0)) (a % 64) j v (a % 64)) = .inr (ci, (x_fs ad (a / 64) κs (x_hs hs a) 0).set j (x_cv ad (.int v))) := by
    show Sum.inr (ci, x_fs ad (a / 64) κs _ 0) = _
    rw [x_fs_upd hκ (x_hs hs a) (xs (hs.getD (a / 64) (fun _ _ => 0)) (a % 64) j v (a % 64)) (fun q hq => xs_ne _ _ _ _ q hq), xs_at]
    rfl
  refine va_put (ty := .boolean) (v := x_cv ad (.int v)) hO.1 hO.2.1 hO.2.2.2.2.1 h4 ty0 h5 h7 hO.2.2.2.1 hO.2.2.2.2.2.1 hP hD hS i (x_w_at hi) h1 j h2 (hO.2.2.2.2.1 _ h3) (fun _ z => z) h8 (by rw [h5 j h2, h6]) (narrow_isb hz) (fits_isb hz) (by rw [x_fs_len]; exact (List.getElem?_eq_some_iff.mp hκ).1) hd (fun H1 locs1 g1 g2 g3 => ?_)
  have g4 := x_P_set hi hD hg (fun q hq => xs_off _ _ _ _ q hq) hcell g1
  rw [hh] at g4
  exact kk _ hO ad H1 locs1 lsA g4 (x_D_any hD) g3 hA hL r hr
theorem XE_putd {α R : Type} {B : XB} {M : XM} {Q : R → State → Prop} {pc n : Nat} {ls : XLs} {st : List Value} {cs : Nat × Nat} {shs : XSs} {hs : List Mem} {k : α → Option R} {a j ci idx p : Nat} {κs : List Nat} {ty : FieldType} {dec : Bool} {v : Int32} {m : Mem} {hs2 : Mem → List Mem} {f : Mem → Option α} {b : Nat} (hx : XF M.1 idx ci j ty false dec) (hsh : x_lk shs a = some (.inr (.inr (ci, κs)))) (hκ : κs[j]? = some 2) (hm : hs.getD (a / 64) (fun _ _ => 0) = m) (hp : a % 64 = p) (hg : a / 64 < hs.length) (hh : ∀ m', hs.set (a / 64) m' = hs2 m') (hv0 : v ≠ 0) (hvb : 64 * (a / 64) + v.toNatClampNeg % 64 = b) (ht : (∃ t, ty = .array t) ∨ ∃ t, ty = .object t) (hd : decode M.2.1 pc = .ok (.putfield idx, 3)) (hn : pc + 3 = n) (kk : ∀ m', XE B M Q n ls (st) cs shs (hs2 m') k (f m')) : XE B M Q pc ls (.ref b :: .ref a :: st) cs shs hs k (lt (xs m p j v) f) := by
  subst hn
  subst hp
  subst hm
  obtain ⟨p, l, e, Rm, s, m, args, below, meth, c, D, cc, A, H0, ad0, shs0⟩ := B
  intro hO ad H locs lsA hP hD hS hA hL r hr
  obtain ⟨C, T, N, ty0, h1, h2, h3, h4, h5, h6, h7, h8, h9⟩ := hx
  obtain ⟨i, hi⟩ := x_lk_at hsh
  have hcell : x_cell cc ad a (.inr (.inr (ci, κs))) (xs (hs.getD (a / 64) (fun _ _ => 0)) (a % 64) j v (a % 64)) = .inr (ci, (x_fs ad (a / 64) κs (x_hs hs a) 0).set j (x_cv ad (.ref b))) := by
    show Sum.inr (ci, x_fs ad (a / 64) κs _ 0) = _
    rw [x_fs_upd hκ (x_hs hs a) (xs (hs.getD (a / 64) (fun _ _ => 0)) (a % 64) j v (a % 64)) (fun q hq => xs_ne _ _ _ _ q hq), xs_at]
    show Sum.inr (ci, (x_fs ad (a / 64) κs (x_hs hs a) 0).set j (if v = 0 then Value.null else .ref (ad (64 * (a / 64) + v.toNatClampNeg % 64)))) = _
    rw [if_neg hv0, hvb]; rfl
  refine va_put (ty := ty) (v := x_cv ad (.ref b)) hO.1 hO.2.1 hO.2.2.2.2.1 h4 ty0 h5 h7 hO.2.2.2.1 hO.2.2.2.2.2.1 hP hD hS i (x_w_at hi) h1 j h2 (hO.2.2.2.2.1 _ h3) (fun _ z => z) h8 (by rw [h5 j h2, h6]) (by cases ht with | inl h => obtain ⟨t, rfl⟩ := h; rfl | inr h => obtain ⟨t, rfl⟩ := h; rfl) (by cases ht with | inl h => obtain ⟨t, rfl⟩ := h; rfl | inr h => obtain ⟨t, rfl⟩ := h; rfl) (by rw [x_fs_len]; exact (List.getElem?_eq_some_iff.mp hκ).1) hd (fun H1 locs1 g1 g2 g3 => ?_)
  have g4 := x_P_set hi hD hg (fun q hq => xs_off _ _ _ _ q hq) hcell g1
  rw [hh] at g4
  exact kk _ hO ad H1 locs1 lsA g4 (x_D_any hD) g3 hA hL r hr
theorem XE_iald {α R : Type} {B : XB} {M : XM} {Q : R → State → Prop} {pc n : Nat} {ls : XLs} {st : List Value} {cs : Nat × Nat} {shs : XSs} {hs : List Mem} {k : α → Option R} {o : Option α} {a len : Nat} {i : Int32} {row : Nat → Int32} (hsh : x_lk shs a = some (.inl len)) (hv : x_hs hs a = row) (hd : decode M.2.1 pc = .ok (.iaload, 1)) (hn : pc + 1 = n) (kk : XE B M Q n ls (.int (row (ix i)) :: st) cs shs hs k o) : XE B M Q pc ls (.int i :: .ref a :: st) cs shs hs k (ck (inb i len) o) := by
  refine XE_ck (fun hin => ?_)
  subst hn
  subst hv
  obtain ⟨p, l, e, Rm, s, m, args, below, meth, c, D, cc, A, H0, ad0, shs0⟩ := B
  intro hO ad H locs lsA hP hD hS hA hL r hr
  obtain ⟨i0, hi⟩ := x_lk_at hsh
  exact va_iald hO.1 hO.2.1 hO.2.2.2.2.2.1 hP i0 0 (x_w_at hi) rfl (inb_in hin) hd (kk hO ad H locs lsA hP hD hS hA hL r hr)
theorem XE_ialdc {α R : Type} {B : XB} {M : XM} {Q : R → State → Prop} {pc n : Nat} {ls : XLs} {st : List Value} {cs : Nat × Nat} {shs : XSs} {hs : List Mem} {k : α → Option R} {o : Option α} {a len j : Nat} {i : Int32} {row : Nat → Int32} (hsh : x_lk shs a = some (.inl len)) (hv : x_hs hs a = row) (hin : inb i len = true) (hj : ix i = j) (hd : decode M.2.1 pc = .ok (.iaload, 1)) (hn : pc + 1 = n) (kk : XE B M Q n ls (.int (row j) :: st) cs shs hs k o) : XE B M Q pc ls (.int i :: .ref a :: st) cs shs hs k o := by
  subst hn
  subst hv
  subst hj
  obtain ⟨p, l, e, Rm, s, m, args, below, meth, c, D, cc, A, H0, ad0, shs0⟩ := B
  intro hO ad H locs lsA hP hD hS hA hL r hr
  obtain ⟨i0, hi⟩ := x_lk_at hsh
  exact va_iald hO.1 hO.2.1 hO.2.2.2.2.2.1 hP i0 0 (x_w_at hi) rfl (inb_in hin) hd (kk hO ad H locs lsA hP hD hS hA hL r hr)
theorem XE_iastj {α R : Type} {B : XB} {M : XM} {Q : R → State → Prop} {pc n : Nat} {ls : XLs} {st : List Value} {cs : Nat × Nat} {shs : XSs} {hs : List Mem} {k : α → Option R} {a len p : Nat} {i v : Int32} {m : Mem} {hs2 : Mem → List Mem} {f : Mem → Option α} {j : Nat} (hsh : x_lk shs a = some (.inl len)) (hm : hs.getD (a / 64) (fun _ _ => 0) = m) (hp : a % 64 = p) (hg : a / 64 < hs.length) (hh : ∀ m', hs.set (a / 64) m' = hs2 m') (hin : inb i len = true) (hj : ix i = j) (hd : decode M.2.1 pc = .ok (.iastore, 1)) (hn : pc + 1 = n) (kk : ∀ m', XE B M Q n ls (st) cs shs (hs2 m') k (f m')) : XE B M Q pc ls (.int v :: .int i :: .ref a :: st) cs shs hs k (lt (xs m p j v) f) := by
  subst hn
  subst hp
  subst hm
  subst hj
  obtain ⟨p, l, e, Rm, s, m, args, below, meth, c, D, cc, A, H0, ad0, shs0⟩ := B
  intro hO ad H locs lsA hP hD hS hA hL r hr
  obtain ⟨i0, hi⟩ := x_lk_at hsh
  refine va_iast (D := D) (cl := vwCl) hO.1 hO.2.1 hO.2.2.2.2.2.1 hP hD hS i0 0 (x_w_at hi) rfl (inb_in hin) hd (fun H1 locs1 g1 g2 g3 => ?_)
  have g4 := x_P_set (m' := xs (hs.getD (a / 64) (fun _ _ => 0)) (a % 64) (ix i) v) hi hD hg (fun q hq => xs_off _ _ _ _ q hq) (by rw [xs_row]; rfl) g1
  rw [hh] at g4
  exact kk _ hO ad H1 locs1 lsA g4 (x_D_any hD) g3 hA hL r hr
theorem XE_iast {α R : Type} {B : XB} {M : XM} {Q : R → State → Prop} {pc n : Nat} {ls : XLs} {st : List Value} {cs : Nat × Nat} {shs : XSs} {hs : List Mem} {k : α → Option R} {a len p : Nat} {i v : Int32} {m : Mem} {hs2 : Mem → List Mem} {f : Mem → Option α} (hsh : x_lk shs a = some (.inl len)) (hm : hs.getD (a / 64) (fun _ _ => 0) = m) (hp : a % 64 = p) (hg : a / 64 < hs.length) (hh : ∀ m', hs.set (a / 64) m' = hs2 m') (hd : decode M.2.1 pc = .ok (.iastore, 1)) (hn : pc + 1 = n) (kk : ∀ m', XE B M Q n ls (st) cs shs (hs2 m') k (f m')) : XE B M Q pc ls (.int v :: .int i :: .ref a :: st) cs shs hs k (ck (inb i len) (lt (xs m p (ix i) v) f)) := XE_ck (fun hin => XE_iastj hsh hm hp hg hh hin rfl hd hn kk)
theorem XE_alen {α R : Type} {B : XB} {M : XM} {Q : R → State → Prop} {pc n : Nat} {ls : XLs} {st : List Value} {cs : Nat × Nat} {shs : XSs} {hs : List Mem} {k : α → Option R} {o : Option α} {a len : Nat} {v : Int32} (hsh : x_lk shs a = some (.inl len)) (hv : Int32.ofNat len = v) (hd : decode M.2.1 pc = .ok (.arraylength, 1)) (hn : pc + 1 = n) (kk : XE B M Q n ls (.int v :: st) cs shs hs k o) : XE B M Q pc ls (.ref a :: st) cs shs hs k o := by
  subst hn
  obtain ⟨p, l, e, Rm, s, m, args, below, meth, c, D, cc, A, H0, ad0, shs0⟩ := B
  intro hO ad H locs lsA hP hD hS hA hL r hr
  obtain ⟨i0, hi⟩ := x_lk_at hsh
  exact va_alen (D := D) (cl := vwCl) hO.1 hO.2.1 hO.2.2.2.2.2.1 hP i0 0 (x_w_at hi) (ty := .int) rfl hv hd (kk hO ad H locs lsA hP hD hS hA hL r hr)
theorem XE_aald {α R : Type} {B : XB} {M : XM} {Q : R → State → Prop} {pc n : Nat} {ls : XLs} {st : List Value} {cs : Nat × Nat} {shs : XSs} {hs : List Mem} {k : α → Option R} {a b : Nat} {i j : Int32} {ks : List Nat} {o1 o2 : Option α} (hsh : x_lk shs a = some (.inr (.inl ks))) (hin : inb j ks.length = true) (hb : ks.getD (ix j) 0 = b + 1) (hd : decode M.2.1 pc = .ok (.aaload, 1)) (hn : pc + 1 = n) (kk : XE B M Q n ls (.ref b :: st) cs shs hs k (o1)) (k2 : XE B M Q pc ls (.int i :: .ref a :: st) cs shs hs k (o2)) : XE B M Q pc ls (.int i :: .ref a :: st) cs shs hs k (if i = j then o1 else o2) := by
  refine XE_if (fun h => ?_) (fun _ => k2)
  subst hn
  subst h
  obtain ⟨p, l, e, Rm, s, m, args, below, meth, c, D, cc, A, H0, ad0, shs0⟩ := B
  intro hO ad H locs lsA hP hD hS hA hL r hr
  obtain ⟨i0, hi⟩ := x_lk_at hsh
  have hrf : va_rf (x_rf ad ks i.toNatClampNeg) = .ref (ad b) := by
    unfold x_rf
    rw [show ks.getD i.toNatClampNeg 0 = b + 1 from hb]; rfl
  refine va_aldq (C := RX2) hO.1 hO.2.1 hO.2.2.2.2.2.1 hP i0 1 (x_w_at hi) rfl (inb_in hin) hd ?_
  rw [hrf]
  exact (kk hO ad H locs lsA hP hD hS hA hL r hr)
def imax (x y : Int32) : Int32 := if x < y then y else x
def imin (x y : Int32) : Int32 := if y < x then y else x
def iabs (x : Int32) : Int32 := if 0 ≤ x then x else 0 - x
def lmax (x y : Int64) : Int64 := if y < x then x else y
theorem XE_mmax {α R : Type} {B : XB} {M : XM} {Q : R → State → Prop} {pc n : Nat} {ls : XLs} {st : List Value} {cs : Nat × Nat} {shs : XSs} {hs : List Mem} {k : α → Option R} {o : Option α} {idx : Nat} {x y : Int32} (hx : XMa M.1 idx Lib.Math.max.name Lib.Math.max.code 2 (some .int)) (hcs : cs = (0, 0)) (h1 : 1 ≤ x_dp M) (hc : (st.map fun v => v.category).sum ≤ 20) (hd : decode M.2.1 pc = .ok (.invokestatic idx, 3)) (hn : pc + 3 = n) (kk : XE B M Q n ls (.int (imax x y) :: st) cs shs hs k o) : XE B M Q pc ls (.int y :: .int x :: st) cs shs hs k o := by
  subst hn
  subst hcs
  obtain ⟨p, l, e, Rm, s, m, args, below, meth, c, D, cc, A, H0, ad0, shs0⟩ := B
  intro hO ad H locs lsA hP hD hS hA hL r hr
  have hc' : ((st.map (x_cv ad)).map fun v => v.category).sum ≤ 20 := by rw [List.map_map, show ((fun v : Value => v.category) ∘ x_cv ad) = (fun v => v.category) from funext fun v => x_cv_cat ad v]; exact hc
  have hfr : x_dp M ≤ Rm.frames := hO.2.2.2.2.2.2.2.2.2.2.1
  have hlo : 40 * x_dp M ≤ Rm.locals := hO.2.2.2.2.2.2.2.2.2.2.2.1
  exact va_mmax hO.1 hO.2.1 (hO.2.2.1.trans hL.size.symm) hO.2.2.2.1 (hO.2.2.2.2.1 _ hx.1) (hO.2.2.2.2.1 _ hx.2.1) (hO.2.2.2.2.1 _ hx.2.2.1) (hO.2.2.2.2.1 _ hx.2.2.2) (by omega) (by omega) (Nat.zero_le _) (Nat.zero_le _) hd (kk hO ad H locs lsA hP hD hS hA hL r hr)
theorem XE_mmin {α R : Type} {B : XB} {M : XM} {Q : R → State → Prop} {pc n : Nat} {ls : XLs} {st : List Value} {cs : Nat × Nat} {shs : XSs} {hs : List Mem} {k : α → Option R} {o : Option α} {idx : Nat} {x y : Int32} (hx : XMa M.1 idx Lib.Math.min.name Lib.Math.min.code 2 (some .int)) (hcs : cs = (0, 0)) (h1 : 1 ≤ x_dp M) (hc : (st.map fun v => v.category).sum ≤ 20) (hd : decode M.2.1 pc = .ok (.invokestatic idx, 3)) (hn : pc + 3 = n) (kk : XE B M Q n ls (.int (imin x y) :: st) cs shs hs k o) : XE B M Q pc ls (.int y :: .int x :: st) cs shs hs k o := by
  subst hn
  subst hcs
  obtain ⟨p, l, e, Rm, s, m, args, below, meth, c, D, cc, A, H0, ad0, shs0⟩ := B
  intro hO ad H locs lsA hP hD hS hA hL r hr
  have hc' : ((st.map (x_cv ad)).map fun v => v.category).sum ≤ 20 := by rw [List.map_map, show ((fun v : Value => v.category) ∘ x_cv ad) = (fun v => v.category) from funext fun v => x_cv_cat ad v]; exact hc
  have hfr : x_dp M ≤ Rm.frames := hO.2.2.2.2.2.2.2.2.2.2.1
  have hlo : 40 * x_dp M ≤ Rm.locals := hO.2.2.2.2.2.2.2.2.2.2.2.1
  exact va_mmin hO.1 hO.2.1 (hO.2.2.1.trans hL.size.symm) hO.2.2.2.1 (hO.2.2.2.2.1 _ hx.1) (hO.2.2.2.2.1 _ hx.2.1) (hO.2.2.2.2.1 _ hx.2.2.1) (hO.2.2.2.2.1 _ hx.2.2.2) (by omega) (by omega) (Nat.zero_le _) (Nat.zero_le _) hd (kk hO ad H locs lsA hP hD hS hA hL r hr)
theorem XE_mabs {α R : Type} {B : XB} {M : XM} {Q : R → State → Prop} {pc n : Nat} {ls : XLs} {st : List Value} {cs : Nat × Nat} {shs : XSs} {hs : List Mem} {k : α → Option R} {o : Option α} {idx : Nat} {x : Int32} (hx : XMa M.1 idx Lib.Math.abs.name Lib.Math.abs.code 1 (some .int)) (hcs : cs = (0, 0)) (h1 : 1 ≤ x_dp M) (hc : (st.map fun v => v.category).sum ≤ 20) (hd : decode M.2.1 pc = .ok (.invokestatic idx, 3)) (hn : pc + 3 = n) (kk : XE B M Q n ls (.int (iabs x) :: st) cs shs hs k o) : XE B M Q pc ls (.int x :: st) cs shs hs k o := by
  subst hn
  subst hcs
  obtain ⟨p, l, e, Rm, s, m, args, below, meth, c, D, cc, A, H0, ad0, shs0⟩ := B
  intro hO ad H locs lsA hP hD hS hA hL r hr
  have hc' : ((st.map (x_cv ad)).map fun v => v.category).sum ≤ 20 := by rw [List.map_map, show ((fun v : Value => v.category) ∘ x_cv ad) = (fun v => v.category) from funext fun v => x_cv_cat ad v]; exact hc
  have hfr : x_dp M ≤ Rm.frames := hO.2.2.2.2.2.2.2.2.2.2.1
  have hlo : 40 * x_dp M ≤ Rm.locals := hO.2.2.2.2.2.2.2.2.2.2.2.1
  exact va_mabs hO.1 hO.2.1 (hO.2.2.1.trans hL.size.symm) hO.2.2.2.1 (hO.2.2.2.2.1 _ hx.1) (hO.2.2.2.2.1 _ hx.2.1) (hO.2.2.2.2.1 _ hx.2.2.1) (hO.2.2.2.2.1 _ hx.2.2.2) (by omega) (by omega) (Nat.zero_le _) (Nat.zero_le _) hd (kk hO ad H locs lsA hP hD hS hA hL r hr)
theorem XE_lmax {α R : Type} {B : XB} {M : XM} {Q : R → State → Prop} {pc n : Nat} {ls : XLs} {st : List Value} {cs : Nat × Nat} {shs : XSs} {hs : List Mem} {k : α → Option R} {o : Option α} {idx : Nat} {x y : Int64} (hx : XMa M.1 idx Lib.MathLoose.max_long.x Lib.MathLoose.max_long.code 4 (some .long)) (hcs : cs = (0, 0)) (h1 : 1 ≤ x_dp M) (hc : (st.map fun v => v.category).sum ≤ 20) (hd : decode M.2.1 pc = .ok (.invokestatic idx, 3)) (hn : pc + 3 = n) (kk : XE B M Q n ls (.long (lmax x y) :: st) cs shs hs k o) : XE B M Q pc ls (.long y :: .long x :: st) cs shs hs k o := by
  subst hn
  subst hcs
  obtain ⟨p, l, e, Rm, s, m, args, below, meth, c, D, cc, A, H0, ad0, shs0⟩ := B
  intro hO ad H locs lsA hP hD hS hA hL r hr
  have hc' : ((st.map (x_cv ad)).map fun v => v.category).sum ≤ 20 := by rw [List.map_map, show ((fun v : Value => v.category) ∘ x_cv ad) = (fun v => v.category) from funext fun v => x_cv_cat ad v]; exact hc
  have hfr : x_dp M ≤ Rm.frames := hO.2.2.2.2.2.2.2.2.2.2.1
  have hlo : 40 * x_dp M ≤ Rm.locals := hO.2.2.2.2.2.2.2.2.2.2.2.1
  exact va_mmax_long hO.1 hO.2.1 (hO.2.2.1.trans hL.size.symm) hO.2.2.2.1 (hO.2.2.2.2.1 _ hx.1) (hO.2.2.2.2.1 _ hx.2.1) (hO.2.2.2.2.1 _ hx.2.2.1) (hO.2.2.2.2.1 _ hx.2.2.2) (by omega) (by omega) (Nat.zero_le _) (Nat.zero_le _) hd (kk hO ad H locs lsA hP hD hS hA hL r hr)
def cpok (sp dp n : Int32) (n0 n1 : Nat) : Bool := decide (0 ≤ sp) && (decide (0 ≤ dp) && (decide (0 ≤ n) && (decide (ix sp + ix n ≤ n0) && decide (ix dp + ix n ≤ n1))))
theorem xcp_row (m : Mem) (p : Nat) (f : Nat → Int32) (sp dp n : Nat) : xcp m p f sp dp n p = va_cpy f (m p) sp dp n := by
  funext q; simp [xcp]
theorem xcp_off (m : Mem) (p : Nat) (f : Nat → Int32) (sp dp n q : Nat) (h : q ≠ p) : xcp m p f sp dp n q = m q := by
  funext i; simp [xcp, h]
theorem cpok_spec {sp dp n : Int32} {n0 n1 : Nat} (h : cpok sp dp n n0 n1 = true) : ¬ sp < 0 ∧ ¬ dp < 0 ∧ ¬ n < 0 ∧ sp.toNatClampNeg + n.toNatClampNeg ≤ n0 ∧ dp.toNatClampNeg + n.toNatClampNeg ≤ n1 := by
  unfold cpok at h
  simp only [Bool.and_eq_true, decide_eq_true_eq] at h
  exact ⟨Int32.not_lt.mpr h.1, Int32.not_lt.mpr h.2.1, Int32.not_lt.mpr h.2.2.1, h.2.2.2.1, h.2.2.2.2⟩
theorem XE_cpyk {α R : Type} {B : XB} {M : XM} {Q : R → State → Prop} {pc n : Nat} {ls : XLs} {st : List Value} {cs : Nat × Nat} {shs : XSs} {hs : List Mem} {k : α → Option R} {a a0 n0 n1 idx p j0 j1 jn : Nat} {sp dp z : Int32} {m : Mem} {row : Nat → Int32} {hs2 : Mem → List Mem} {f : Mem → Option α} (hx : XCp M.1 idx) (hs0 : x_lk shs a0 = some (.inl n0)) (hsh : x_lk shs a = some (.inl n1)) (hrow : x_hs hs a0 = row) (hm : hs.getD (a / 64) (fun _ _ => 0) = m) (hp : a % 64 = p) (hg : a / 64 < hs.length) (hh : ∀ m', hs.set (a / 64) m' = hs2 m') (hok : cpok sp dp z n0 n1 = true) (hj0 : ix sp = j0) (hj1 : ix dp = j1) (hjn : ix z = jn) (h1 : 1 ≤ x_dp M) (hst : st = []) (hd : decode M.2.1 pc = .ok (.invokestatic idx, 3)) (hn : pc + 3 = n) (kk : ∀ m', XE B M Q n ls (st) cs shs (hs2 m') k (f m')) : XE B M Q pc ls (.int z :: .int dp :: .ref a :: .int sp :: .ref a0 :: st) cs shs hs k (lt (xcp m p row j0 j1 jn) f) := by
  subst hn
  subst hp
  subst hm
  subst hrow
  subst hst
  subst hj0
  subst hj1
  subst hjn
  obtain ⟨p, l, e, Rm, s, m, args, below, meth, c, D, cc, A, H0, ad0, shs0⟩ := B
  intro hO ad H locs lsA hP hD hS hA hL r hr
  obtain ⟨i0, hi⟩ := x_lk_at hsh
  obtain ⟨i1, hi1⟩ := x_lk_at hs0
  obtain ⟨q1, q2, q3, q4, q5⟩ := cpok_spec hok
  have hfr : x_dp M ≤ Rm.frames := hO.2.2.2.2.2.2.2.2.2.2.1
  have hlo : 40 * x_dp M ≤ Rm.locals := hO.2.2.2.2.2.2.2.2.2.2.2.1
  refine va_copyi (D := D) (cl := vwCl) (ty := .int) hO.1 hO.2.1 (hO.2.2.1.trans hL.size.symm) hO.2.2.2.1 (hO.2.2.2.2.1 _ hx.1) (hO.2.2.2.2.1 _ hx.2.1) (hO.2.2.2.2.1 _ hx.2.2.1) (hO.2.2.2.2.1 _ hx.2.2.2) hO.2.2.2.2.2.1 hP hD hS i1 i0 0 0 (x_w_at hi1) (x_w_at hi) rfl rfl rfl q1 q2 q3 q4 q5 (fun _ _ => rfl) (by omega) ?_ hd (fun H1 locs1 g1 g2 g3 => ?_)
  · have : nativeFrameWords "java/lang/System" "arraycopy" 5 + 11 ≤ 40 := by decide
    simp only [List.map_nil, List.sum_nil]
    omega
  · have g4 := x_P_set (m' := xcp (hs.getD (a / 64) (fun _ _ => 0)) (a % 64) (x_hs hs a0) (ix sp) (ix dp) (ix z)) hi hD hg (fun q hq => xcp_off _ _ _ _ _ _ q hq) (by rw [xcp_row]; rfl) g1
    rw [hh] at g4
    exact kk _ hO ad H1 locs1 lsA g4 (x_D_any hD) g3 hA hL r hr
theorem XE_cpy {α R : Type} {B : XB} {M : XM} {Q : R → State → Prop} {pc n : Nat} {ls : XLs} {st : List Value} {cs : Nat × Nat} {shs : XSs} {hs : List Mem} {k : α → Option R} {a a0 n0 n1 idx p : Nat} {sp dp z : Int32} {m : Mem} {row : Nat → Int32} {hs2 : Mem → List Mem} {f : Mem → Option α} (hx : XCp M.1 idx) (hs0 : x_lk shs a0 = some (.inl n0)) (hsh : x_lk shs a = some (.inl n1)) (hrow : x_hs hs a0 = row) (hm : hs.getD (a / 64) (fun _ _ => 0) = m) (hp : a % 64 = p) (hg : a / 64 < hs.length) (hh : ∀ m', hs.set (a / 64) m' = hs2 m') (h1 : 1 ≤ x_dp M) (hst : st = []) (hd : decode M.2.1 pc = .ok (.invokestatic idx, 3)) (hn : pc + 3 = n) (kk : ∀ m', XE B M Q n ls (st) cs shs (hs2 m') k (f m')) : XE B M Q pc ls (.int z :: .int dp :: .ref a :: .int sp :: .ref a0 :: st) cs shs hs k (ck (cpok sp dp z n0 n1) (lt (xcp m p row (ix sp) (ix dp) (ix z)) f)) := XE_ck (fun hok => XE_cpyk hx hs0 hsh hrow hm hp hg hh hok rfl rfl rfl h1 hst hd hn kk)
