/-! THE FRAME. A world is a list of shapes by keys (64 * group + place) and a list of memories, one a group; XE says: from this frame of the machine, whenever the pure program o answers r, the machine comes to an end with Q r. A row an instruction. -/
abbrev Mem : Type := Nat → Nat → Int32
abbrev XSh : Type := Nat ⊕ (List Nat ⊕ (Nat × List Nat))
abbrev XSs : Type := List (Nat × XSh)
abbrev XLs : Type := List (Nat × Option Value)
abbrev XR : Type := Option Value × List Mem
def lt {α β : Type} (x : α) (f : α → β) : β := f x
def ck {α : Type} (b : Bool) (o : Option α) : Option α := if b then o else none
def xs (m : Mem) (p k : Nat) (v : Int32) : Mem := fun q j => if q = p ∧ j = k then v else m q j
def xcp (m : Mem) (p : Nat) (f : Nat → Int32) (sp dp n : Nat) : Mem := fun q j => if q = p then va_cpy f (m p) sp dp n j else m q j
def inb (i : Int32) (n : Nat) : Bool := decide (0 ≤ i) && decide (i.toNatClampNeg < n)
def ix (i : Int32) : Nat := i.toNatClampNeg
def isb (v : Int32) : Bool := decide (v = 0) || decide (v = 1)
theorem inb_in {i : Int32} {n : Nat} (h : inb i n = true) : vp_in i n := by
  unfold inb at h
  simp only [Bool.and_eq_true, decide_eq_true_eq] at h
  intro q
  rcases q with q | q
  · exact absurd h.1 (by rw [Int32.not_le]; exact q)
  · omega
theorem narrow_isb {v : Int32} (h : isb v = true) : narrow .boolean (.int v) = .int v := by
  unfold isb at h
  simp only [Bool.or_eq_true, decide_eq_true_eq] at h
  rcases h with rfl | rfl <;> rfl
theorem fits_isb {v : Int32} (h : isb v = true) : fits .boolean (.int v) = true := by
  unfold isb at h
  simp only [Bool.or_eq_true, decide_eq_true_eq] at h
  rcases h with rfl | rfl <;> rfl
def x_cv (ad : Nat → Nat) (v : Value) : Value := match v with
  | .ref k => .ref (ad k)
  | w => w
/-- a field: 0 a number, 1 null, 2 a place of its own group that changes (0: null), k + 3 the cell of key k -/
def x_fv (ad : Nat → Nat) (g : Nat) (κ : Nat) (v : Int32) : Value := match κ with
  | 0 => .int v
  | 1 => .null
  | 2 => if v = 0 then .null else .ref (ad (64 * g + v.toNatClampNeg % 64))
  | k + 3 => .ref (ad k)
def x_fs (ad : Nat → Nat) (g : Nat) : List Nat → (Nat → Int32) → Nat → List Value
  | [], _, _ => []
  | κ :: r, m, i => x_fv ad g κ (m i) :: x_fs ad g r m (i + 1)
def x_rf (ad : Nat → Nat) (ks : List Nat) (i : Nat) : Option Nat := match ks.getD i 0 with
  | 0 => none
  | k + 1 => some (ad k)
def x_cell (cc : ClassId × ClassId) (ad : Nat → Nat) (k : Nat) (sh : XSh) (m : Nat → Int32) : va_E := match sh with
  | .inl n => .inl (cc.1, (n, .inl m))
  | .inr (.inl ks) => .inl (cc.2, (ks.length, .inr (.inr (.inr (.inr (x_rf ad ks))))))
  | .inr (.inr o) => .inr (o.1, x_fs ad (k / 64) o.2 m 0)
def x_hs (hs : List Mem) (k : Nat) : Nat → Int32 := (hs.getD (k / 64) (fun _ _ => 0)) (k % 64)
def x_w (cc : ClassId × ClassId) (ad : Nat → Nat) (shs : XSs) (hs : List Mem) : va_W := shs.map (fun q => (ad q.1, x_cell cc ad q.1 q.2 (x_hs hs q.1)))
def x_lk : XSs → Nat → Option XSh
  | [], _ => none
  | q :: r, k => if q.1 = k then some q.2 else x_lk r k
def xlk : XLs → Nat → Option Value
  | [], _ => none
  | q :: r, i => if q.1 = i then q.2 else xlk r i
def x_nl (ls : XLs) (i : Nat) : Bool := match i with
  | 0 => true
  | j + 1 => match xlk ls j with
    | some (.long _) => false
    | some (.double _) => false
    | _ => true
def x_ls (ad : Nat → Nat) (lsA : Array Slot) (nL : Nat) (ls : XLs) : Prop := ∃ l, lv_has lsA nL l ∧ ∀ i v, xlk ls i = some v → (i, x_cv ad v) ∈ l
abbrev XB : Type := Program × Launch × Env × Room × State × MethodId × Array Value × List Frame × Method × Code × va_G × (ClassId × ClassId) × (Nat → Prop) × Heap × (Nat → Nat) × XSs
/-- own class, code, locals, what it returns, its name, its depth -/
abbrev XM : Type := String × ByteArray × Nat × Option FieldType × String × Nat × Nat × Nat
abbrev x_dp (M : XM) : Nat := M.2.2.2.2.2.1
abbrev x_mc (M : XM) : Nat := M.2.2.2.2.2.2.1
abbrev x_ms (M : XM) : Nat := M.2.2.2.2.2.2.2
abbrev x_tys (cc : ClassId × ClassId) : List (ClassId × FieldType) := [(cc.1, .int), (cc.2, .object RX2)]
def XOk (B : XB) (M : XM) : Prop := match B with
  | (p, _, _, Rm, s, m, args, _, meth, c, D, cc, A, H0, _, _) => p.tables.exec = Jvm.exec ∧ c.code = M.2.1 ∧ c.maxLocals = M.2.2.1 ∧ s.vm.findClass M.1 = some m.cls ∧ (∀ w ∈ xT, w.before args s = true) ∧ va_K D vwCl (x_tys cc) s ∧ (∀ q, H0.size ≤ q → A q) ∧ meth.sig.returnType = M.2.2.2.1 ∧ meth.name = M.2.2.2.2.1 ∧ meth.locks = false ∧ x_dp M ≤ Rm.frames ∧ 40 * x_dp M ≤ Rm.locals ∧ H0 = s.heap ∧ x_mc M ≤ Rm.cells ∧ x_ms M ≤ Rm.slots
def XE {α R : Type} (B : XB) (M : XM) (Q : R → State → Prop) (pc : Nat) (ls : XLs) (st : List Value) (cs : Nat × Nat) (shs : XSs) (hs : List Mem) (k : α → Option R) (o : Option α) : Prop := match B with
  | (p, l, e, Rm, s, m, args, below, meth, c, D, cc, A, H0, ad0, shs0) =>
    XOk (p, l, e, Rm, s, m, args, below, meth, c, D, cc, A, H0, ad0, shs0) M → ∀ (ad : Nat → Nat) (H : Heap) (locs : List Loc) (lsA : Array Slot), va_P D vwCl (x_w cc ad shs hs) H → va_D A (x_w cc ad shs hs) → va_S A H0 H locs → ((∀ k, x_lk shs0 k ≠ none → x_lk shs k ≠ none) ∧ ∀ k, (x_lk shs0 k ≠ none ∨ x_lk shs k = none) → ad k = ad0 k) → x_ls ad lsA M.2.2.1 ls → ∀ r, o.bind k = some r → W p l e Rm s m args below meth c H locs cs.1 cs.2 (Q r) (F0 m pc lsA (st.map (x_cv ad)))

theorem x_ls.at {ad : Nat → Nat} {lsA : Array Slot} {nL : Nat} {ls : XLs} (h : x_ls ad lsA nL ls) {i : Nat} {v : Value} (hv : xlk ls i = some v) : lsA[i]? = some (.val (x_cv ad v)) := by
  obtain ⟨l, h1, h2⟩ := h
  exact h1.2.2 _ (h2 i v hv)
theorem x_ls.size {ad : Nat → Nat} {lsA : Array Slot} {nL : Nat} {ls : XLs} (h : x_ls ad lsA nL ls) : lsA.size = nL := by
  obtain ⟨l, h1, h2⟩ := h
  exact h1.1
theorem x_cv_cat (ad : Nat → Nat) (v : Value) : (x_cv ad v).category = v.category := by cases v <;> rfl
theorem x_nl_cat {ad : Nat → Nat} {ls : XLs} {j : Nat} {v : Value} (h : x_nl ls (j + 1) = true) (hv : xlk ls j = some v) : ((x_cv ad v).category == 2) = false := by
  rw [x_cv_cat]
  simp only [x_nl, hv] at h
  cases v <;> first | rfl | cases h
theorem x_ls.put {ad : Nat → Nat} {ls' : Array Slot} {nL : Nat} {ls : XLs} {l : List (Nat × Value)} {i : Nat} {v : Value} (h2 : ∀ i v, xlk ls i = some v → (i, x_cv ad v) ∈ l) (hn : x_nl ls i = true) (h : lv_has ls' nL ((i, x_cv ad v) :: l.filter (fun q => !(q.1 == i) && !(q.1 + 1 == i && q.2.category == 2)))) : x_ls ad ls' nL ((i, some v) :: ls) := by
  refine ⟨_, h, fun j u hj => ?_⟩
  unfold xlk at hj
  by_cases e : i = j
  · rw [if_pos e] at hj
    cases hj
    subst e
    exact List.mem_cons_self
  · rw [if_neg e] at hj
    refine List.mem_cons_of_mem _ (List.mem_filter.mpr ⟨h2 j u hj, ?_⟩)
    have e1 : (j == i) = false := by simp; omega
    by_cases e2 : j + 1 = i
    · subst e2
      have e3 := x_nl_cat (ad := ad) hn hj
      simp [e3]
    · have e4 : (j + 1 == i) = false := by simp; omega
      simp [e1, e4]
theorem x_ls.putL {ad : Nat → Nat} {ls' : Array Slot} {nL : Nat} {ls : XLs} {l : List (Nat × Value)} {i : Nat} {v : Value} (h2 : ∀ i v, xlk ls i = some v → (i, x_cv ad v) ∈ l) (hn : x_nl ls i = true) (h : lv_has ls' nL ((i, x_cv ad v) :: l.filter (fun q => !(q.1 == i) && (!(q.1 == i + 1) && !(q.1 + 1 == i && q.2.category == 2))))) : x_ls ad ls' nL ((i, some v) :: (i + 1, none) :: ls) := by
  refine ⟨_, h, fun j u hj => ?_⟩
  unfold xlk at hj
  by_cases e : i = j
  · rw [if_pos e] at hj
    cases hj
    subst e
    exact List.mem_cons_self
  · rw [if_neg e] at hj
    unfold xlk at hj
    by_cases e0 : i + 1 = j
    · rw [if_pos e0] at hj; cases hj
    rw [if_neg e0] at hj
    refine List.mem_cons_of_mem _ (List.mem_filter.mpr ⟨h2 j u hj, ?_⟩)
    have e1 : (j == i) = false := by simp; omega
    have e5 : (j == i + 1) = false := by simp; omega
    by_cases e2 : j + 1 = i
    · subst e2
      have e3 := x_nl_cat (ad := ad) hn hj
      have e6 : ¬ j = j + 1 + 1 := by omega
      simp [e3, e6]
    · have e4 : (j + 1 == i) = false := by simp; omega
      simp [e1, e4, e5]
theorem x_lk_at {shs : XSs} {k : Nat} {sh : XSh} (h : x_lk shs k = some sh) : ∃ i : Nat, shs[i]? = some (k, sh) := by
  induction shs with
  | nil => cases h
  | cons q r ih =>
    unfold x_lk at h
    by_cases e : q.1 = k
    · rw [if_pos e] at h
      cases h
      subst e
      exact ⟨0, rfl⟩
    · rw [if_neg e] at h
      obtain ⟨i, hi⟩ := ih h
      exact ⟨i + 1, hi⟩
theorem x_lk_some {shs : XSs} {i : Nat} {q : Nat × XSh} (h : shs[i]? = some q) : x_lk shs q.1 ≠ none := by
  induction shs generalizing i with
  | nil => simp at h
  | cons a r ih =>
    unfold x_lk
    by_cases e : a.1 = q.1
    · rw [if_pos e]; exact fun h => by cases h
    · rw [if_neg e]
      cases i with
      | zero => cases h; exact absurd rfl e
      | succ i => exact ih h
theorem x_w_at {cc : ClassId × ClassId} {ad : Nat → Nat} {shs : XSs} {hs : List Mem} {i k : Nat} {sh : XSh} (h : shs[i]? = some (k, sh)) : (x_w cc ad shs hs)[i]? = some (ad k, x_cell cc ad k sh (x_hs hs k)) := by
  unfold x_w
  rw [List.getElem?_map, h]; rfl
theorem x_w_of {cc : ClassId × ClassId} {ad : Nat → Nat} {shs : XSs} {hs : List Mem} {i : Nat} {q : Nat × va_E} (h : (x_w cc ad shs hs)[i]? = some q) : ∃ (k : Nat) (sh : XSh), shs[i]? = some (k, sh) ∧ q = (ad k, x_cell cc ad k sh (x_hs hs k)) := by
  unfold x_w at h
  rw [List.getElem?_map] at h
  cases e : shs[i]? with
  | none => rw [e] at h; cases h
  | some a => rw [e] at h; cases h; exact ⟨a.1, a.2, rfl, rfl⟩
theorem x_uniq {cc : ClassId × ClassId} {ad : Nat → Nat} {shs : XSs} {hs : List Mem} {A : Nat → Prop} (hD : va_D A (x_w cc ad shs hs)) {i j : Nat} {p q : Nat × XSh} (hi : shs[i]? = some p) (hj : shs[j]? = some q) (h : ad p.1 = ad q.1) : i = j := hD.1 i j _ _ (x_w_at (sh := p.2) (k := p.1) hi) (x_w_at (sh := q.2) (k := q.1) hj) h
theorem x_fs_len (ad : Nat → Nat) (g : Nat) (m : Nat → Int32) : ∀ (κs : List Nat) (i : Nat), (x_fs ad g κs m i).length = κs.length
  | [], _ => rfl
  | _ :: r, i => by simp [x_fs, x_fs_len ad g m r (i + 1)]
theorem x_fs_at (ad : Nat → Nat) (g : Nat) (m : Nat → Int32) : ∀ (κs : List Nat) (i j : Nat), (x_fs ad g κs m i)[j]? = (κs[j]?).map (fun κ => x_fv ad g κ (m (i + j)))
  | [], i, j => by simp [x_fs]
  | κ :: r, i, 0 => by simp [x_fs]
  | κ :: r, i, j + 1 => by
    simp only [x_fs, List.getElem?_cons_succ, x_fs_at ad g m r (i + 1) j]
    congr 1
    funext κ
    congr 2
    omega
/-- a write in one place of one group: what the world's cells are then -/
theorem x_P_set {cc : ClassId × ClassId} {ad : Nat → Nat} {shs : XSs} {hs : List Mem} {A : Nat → Prop} {D : va_G} {H1 : Heap} {i k : Nat} {sh : XSh} {m' : Mem} {e : va_E} (hi : shs[i]? = some (k, sh)) (hD : va_D A (x_w cc ad shs hs)) (hm : k / 64 < hs.length) (hsame : ∀ p, p ≠ k % 64 → m' p = (hs.getD (k / 64) (fun _ _ => 0)) p) (he : x_cell cc ad k sh (m' (k % 64)) = e) (h : va_P D vwCl ((x_w cc ad shs hs).set i (ad k, e)) H1) : va_P D vwCl (x_w cc ad shs (hs.set (k / 64) m')) H1 := by
  intro j q hq
  obtain ⟨k2, sh2, hj, rfl⟩ := x_w_of hq
  by_cases hij : i = j
  · subst hij
    cases hi.symm.trans hj
    have hl : i < (x_w cc ad shs hs).length := (List.getElem?_eq_some_iff.mp (x_w_at (cc := cc) (ad := ad) (hs := hs) hi)).1
    have h1 := h i (ad k, e) (by rw [List.getElem?_set_self hl])
    rw [← he] at h1
    have e1 : x_hs (hs.set (k / 64) m') k = m' (k % 64) := by
      unfold x_hs
      congr 1
      simp [List.getD, List.getElem?_set_self hm]
    rw [e1]
    exact h1
  · have hk : k2 ≠ k := fun z => hij (x_uniq hD hi hj (by rw [z]))
    have h1 := h j _ (by rw [List.getElem?_set_ne hij]; exact x_w_at (cc := cc) (ad := ad) (hs := hs) hj)
    have e1 : x_hs (hs.set (k / 64) m') k2 = x_hs hs k2 := by
      unfold x_hs
      by_cases hg : k / 64 = k2 / 64
      · have hp : k2 % 64 ≠ k % 64 := fun z => hk (by omega)
        rw [← hg]
        simp only [List.getD, List.getElem?_set_self hm, Option.getD_some]
        exact hsame _ hp
      · congr 1
        simp [List.getD, List.getElem?_set_ne hg]
    rw [e1]
    exact h1
theorem x_D_any {cc : ClassId × ClassId} {ad : Nat → Nat} {shs : XSs} {hs hs' : List Mem} {A : Nat → Prop} (hD : va_D A (x_w cc ad shs hs)) : va_D A (x_w cc ad shs hs') := by
  refine ⟨fun i j p q hi hj hpq => ?_, fun i q hi => ?_⟩
  · obtain ⟨k, sh, h1, rfl⟩ := x_w_of hi
    obtain ⟨k2, sh2, h2, rfl⟩ := x_w_of hj
    exact x_uniq hD h1 h2 hpq
  · obtain ⟨k, sh, h1, rfl⟩ := x_w_of hi
    have h2 := hD.2 i _ (x_w_at (cc := cc) (ad := ad) (hs := hs) h1)
    exact h2

theorem XE_iconst {α R : Type} {B : XB} {M : XM} {Q : R → State → Prop} {pc n : Nat} {ls : XLs} {st : List Value} {cs : Nat × Nat} {shs : XSs} {hs : List Mem} {k : α → Option R} {o : Option α} {i : Int} {v : Int32} (hd : decode M.2.1 pc = .ok (.iconst i, 1)) (hn : pc + 1 = n) (hv : Int32.ofInt i = v) (kk : XE B M Q n ls (.int v :: st) cs shs hs k o) : XE B M Q pc ls (st) cs shs hs k o := by
  subst hn
  obtain ⟨p, l, e, Rm, s, m, args, below, meth, c, D, cc, A, H0, ad0, shs0⟩ := B
  intro hO ad H locs lsA hP hD hS hA hL r hr
  exact lv_iconst hO.1 hO.2.1 hd hv (kk hO ad H locs lsA hP hD hS hA hL r hr)
theorem XE_bipush {α R : Type} {B : XB} {M : XM} {Q : R → State → Prop} {pc n : Nat} {ls : XLs} {st : List Value} {cs : Nat × Nat} {shs : XSs} {hs : List Mem} {k : α → Option R} {o : Option α} {i : Int} {v : Int32} (hd : decode M.2.1 pc = .ok (.bipush i, 2)) (hn : pc + 2 = n) (hv : (Int8.ofInt i).toInt32 = v) (kk : XE B M Q n ls (.int v :: st) cs shs hs k o) : XE B M Q pc ls (st) cs shs hs k o := by
  subst hn
  obtain ⟨p, l, e, Rm, s, m, args, below, meth, c, D, cc, A, H0, ad0, shs0⟩ := B
  intro hO ad H locs lsA hP hD hS hA hL r hr
  exact lv_bipush hO.1 hO.2.1 hd hv (kk hO ad H locs lsA hP hD hS hA hL r hr)
theorem XE_sipush {α R : Type} {B : XB} {M : XM} {Q : R → State → Prop} {pc n : Nat} {ls : XLs} {st : List Value} {cs : Nat × Nat} {shs : XSs} {hs : List Mem} {k : α → Option R} {o : Option α} {i : Int} {v : Int32} (hd : decode M.2.1 pc = .ok (.sipush i, 3)) (hn : pc + 3 = n) (hv : (Int16.ofInt i).toInt32 = v) (kk : XE B M Q n ls (.int v :: st) cs shs hs k o) : XE B M Q pc ls (st) cs shs hs k o := by
  subst hn
  obtain ⟨p, l, e, Rm, s, m, args, below, meth, c, D, cc, A, H0, ad0, shs0⟩ := B
  intro hO ad H locs lsA hP hD hS hA hL r hr
  exact lv_sipush hO.1 hO.2.1 hd hv (kk hO ad H locs lsA hP hD hS hA hL r hr)
theorem XE_lconst {α R : Type} {B : XB} {M : XM} {Q : R → State → Prop} {pc n : Nat} {ls : XLs} {st : List Value} {cs : Nat × Nat} {shs : XSs} {hs : List Mem} {k : α → Option R} {o : Option α} {i : Fin 2} {v : Int64} (hd : decode M.2.1 pc = .ok (.lconst i, 1)) (hn : pc + 1 = n) (hv : Int64.ofNat (i : Nat) = v) (kk : XE B M Q n ls (.long v :: st) cs shs hs k o) : XE B M Q pc ls (st) cs shs hs k o := by
  subst hn
  obtain ⟨p, l, e, Rm, s, m, args, below, meth, c, D, cc, A, H0, ad0, shs0⟩ := B
  intro hO ad H locs lsA hP hD hS hA hL r hr
  exact lv_lconst hO.1 hO.2.1 hd hv (kk hO ad H locs lsA hP hD hS hA hL r hr)
theorem XE_iadd {α R : Type} {B : XB} {M : XM} {Q : R → State → Prop} {pc n : Nat} {ls : XLs} {st : List Value} {cs : Nat × Nat} {shs : XSs} {hs : List Mem} {k : α → Option R} {o : Option α} {x y : Int32} (hd : decode M.2.1 pc = .ok (.iadd, 1)) (hn : pc + 1 = n) (kk : XE B M Q n ls (.int (x + y) :: st) cs shs hs k o) : XE B M Q pc ls (.int y :: .int x :: st) cs shs hs k o := by
  subst hn
  obtain ⟨p, l, e, Rm, s, m, args, below, meth, c, D, cc, A, H0, ad0, shs0⟩ := B
  intro hO ad H locs lsA hP hD hS hA hL r hr
  exact lv_iadd hO.1 hO.2.1 hd  (kk hO ad H locs lsA hP hD hS hA hL r hr)
theorem XE_isub {α R : Type} {B : XB} {M : XM} {Q : R → State → Prop} {pc n : Nat} {ls : XLs} {st : List Value} {cs : Nat × Nat} {shs : XSs} {hs : List Mem} {k : α → Option R} {o : Option α} {x y : Int32} (hd : decode M.2.1 pc = .ok (.isub, 1)) (hn : pc + 1 = n) (kk : XE B M Q n ls (.int (x - y) :: st) cs shs hs k o) : XE B M Q pc ls (.int y :: .int x :: st) cs shs hs k o := by
  subst hn
  obtain ⟨p, l, e, Rm, s, m, args, below, meth, c, D, cc, A, H0, ad0, shs0⟩ := B
  intro hO ad H locs lsA hP hD hS hA hL r hr
  exact lv_isub hO.1 hO.2.1 hd  (kk hO ad H locs lsA hP hD hS hA hL r hr)
theorem XE_imul {α R : Type} {B : XB} {M : XM} {Q : R → State → Prop} {pc n : Nat} {ls : XLs} {st : List Value} {cs : Nat × Nat} {shs : XSs} {hs : List Mem} {k : α → Option R} {o : Option α} {x y : Int32} (hd : decode M.2.1 pc = .ok (.imul, 1)) (hn : pc + 1 = n) (kk : XE B M Q n ls (.int (x * y) :: st) cs shs hs k o) : XE B M Q pc ls (.int y :: .int x :: st) cs shs hs k o := by
  subst hn
  obtain ⟨p, l, e, Rm, s, m, args, below, meth, c, D, cc, A, H0, ad0, shs0⟩ := B
  intro hO ad H locs lsA hP hD hS hA hL r hr
  exact lv_imul hO.1 hO.2.1 hd  (kk hO ad H locs lsA hP hD hS hA hL r hr)
theorem XE_iand {α R : Type} {B : XB} {M : XM} {Q : R → State → Prop} {pc n : Nat} {ls : XLs} {st : List Value} {cs : Nat × Nat} {shs : XSs} {hs : List Mem} {k : α → Option R} {o : Option α} {x y : Int32} (hd : decode M.2.1 pc = .ok (.iand, 1)) (hn : pc + 1 = n) (kk : XE B M Q n ls (.int (x &&& y) :: st) cs shs hs k o) : XE B M Q pc ls (.int y :: .int x :: st) cs shs hs k o := by
  subst hn
  obtain ⟨p, l, e, Rm, s, m, args, below, meth, c, D, cc, A, H0, ad0, shs0⟩ := B
  intro hO ad H locs lsA hP hD hS hA hL r hr
  exact lv_iand hO.1 hO.2.1 hd  (kk hO ad H locs lsA hP hD hS hA hL r hr)
theorem XE_ior {α R : Type} {B : XB} {M : XM} {Q : R → State → Prop} {pc n : Nat} {ls : XLs} {st : List Value} {cs : Nat × Nat} {shs : XSs} {hs : List Mem} {k : α → Option R} {o : Option α} {x y : Int32} (hd : decode M.2.1 pc = .ok (.ior, 1)) (hn : pc + 1 = n) (kk : XE B M Q n ls (.int (x ||| y) :: st) cs shs hs k o) : XE B M Q pc ls (.int y :: .int x :: st) cs shs hs k o := by
  subst hn
  obtain ⟨p, l, e, Rm, s, m, args, below, meth, c, D, cc, A, H0, ad0, shs0⟩ := B
  intro hO ad H locs lsA hP hD hS hA hL r hr
  exact lv_ior hO.1 hO.2.1 hd  (kk hO ad H locs lsA hP hD hS hA hL r hr)
theorem XE_ishl {α R : Type} {B : XB} {M : XM} {Q : R → State → Prop} {pc n : Nat} {ls : XLs} {st : List Value} {cs : Nat × Nat} {shs : XSs} {hs : List Mem} {k : α → Option R} {o : Option α} {x y : Int32} (hd : decode M.2.1 pc = .ok (.ishl, 1)) (hn : pc + 1 = n) (kk : XE B M Q n ls (.int (x <<< (y &&& 31)) :: st) cs shs hs k o) : XE B M Q pc ls (.int y :: .int x :: st) cs shs hs k o := by
  subst hn
  obtain ⟨p, l, e, Rm, s, m, args, below, meth, c, D, cc, A, H0, ad0, shs0⟩ := B
  intro hO ad H locs lsA hP hD hS hA hL r hr
  exact lv_ishl hO.1 hO.2.1 hd  (kk hO ad H locs lsA hP hD hS hA hL r hr)
theorem XE_ishr {α R : Type} {B : XB} {M : XM} {Q : R → State → Prop} {pc n : Nat} {ls : XLs} {st : List Value} {cs : Nat × Nat} {shs : XSs} {hs : List Mem} {k : α → Option R} {o : Option α} {x y : Int32} (hd : decode M.2.1 pc = .ok (.ishr, 1)) (hn : pc + 1 = n) (kk : XE B M Q n ls (.int (x >>> (y &&& 31)) :: st) cs shs hs k o) : XE B M Q pc ls (.int y :: .int x :: st) cs shs hs k o := by
  subst hn
  obtain ⟨p, l, e, Rm, s, m, args, below, meth, c, D, cc, A, H0, ad0, shs0⟩ := B
  intro hO ad H locs lsA hP hD hS hA hL r hr
  exact lv_ishr hO.1 hO.2.1 hd  (kk hO ad H locs lsA hP hD hS hA hL r hr)
theorem XE_idiv {α R : Type} {B : XB} {M : XM} {Q : R → State → Prop} {pc n : Nat} {ls : XLs} {st : List Value} {cs : Nat × Nat} {shs : XSs} {hs : List Mem} {k : α → Option R} {o : Option α} {x y : Int32} (hd : decode M.2.1 pc = .ok (.idiv, 1)) (hn : pc + 1 = n) (hne : ¬ y = 0) (kk : XE B M Q n ls (.int (x / y) :: st) cs shs hs k o) : XE B M Q pc ls (.int y :: .int x :: st) cs shs hs k o := by
  subst hn
  obtain ⟨p, l, e, Rm, s, m, args, below, meth, c, D, cc, A, H0, ad0, shs0⟩ := B
  intro hO ad H locs lsA hP hD hS hA hL r hr
  exact lv_idiv hO.1 hO.2.1 hd hne (kk hO ad H locs lsA hP hD hS hA hL r hr)
theorem XE_irem {α R : Type} {B : XB} {M : XM} {Q : R → State → Prop} {pc n : Nat} {ls : XLs} {st : List Value} {cs : Nat × Nat} {shs : XSs} {hs : List Mem} {k : α → Option R} {o : Option α} {x y : Int32} (hd : decode M.2.1 pc = .ok (.irem, 1)) (hn : pc + 1 = n) (hne : ¬ y = 0) (kk : XE B M Q n ls (.int (x - x / y * y) :: st) cs shs hs k o) : XE B M Q pc ls (.int y :: .int x :: st) cs shs hs k o := by
  subst hn
  obtain ⟨p, l, e, Rm, s, m, args, below, meth, c, D, cc, A, H0, ad0, shs0⟩ := B
  intro hO ad H locs lsA hP hD hS hA hL r hr
  exact lv_irem hO.1 hO.2.1 hd hne (kk hO ad H locs lsA hP hD hS hA hL r hr)
theorem XE_ineg {α R : Type} {B : XB} {M : XM} {Q : R → State → Prop} {pc n : Nat} {ls : XLs} {st : List Value} {cs : Nat × Nat} {shs : XSs} {hs : List Mem} {k : α → Option R} {o : Option α} {x : Int32} (hd : decode M.2.1 pc = .ok (.ineg, 1)) (hn : pc + 1 = n) (kk : XE B M Q n ls (.int (-x) :: st) cs shs hs k o) : XE B M Q pc ls (.int x :: st) cs shs hs k o := by
  subst hn
  obtain ⟨p, l, e, Rm, s, m, args, below, meth, c, D, cc, A, H0, ad0, shs0⟩ := B
  intro hO ad H locs lsA hP hD hS hA hL r hr
  exact lv_ineg hO.1 hO.2.1 hd  (kk hO ad H locs lsA hP hD hS hA hL r hr)
theorem XE_iushr {α R : Type} {B : XB} {M : XM} {Q : R → State → Prop} {pc n : Nat} {ls : XLs} {st : List Value} {cs : Nat × Nat} {shs : XSs} {hs : List Mem} {k : α → Option R} {o : Option α} {x y v : Int32} (hd : decode M.2.1 pc = .ok (.iushr, 1)) (hn : pc + 1 = n) (hv : (x.toUInt32 >>> (y.toUInt32 &&& Int32.toUInt32 31)).toInt32 = v) (kk : XE B M Q n ls (.int v :: st) cs shs hs k o) : XE B M Q pc ls (.int y :: .int x :: st) cs shs hs k o := by
  subst hn
  obtain ⟨p, l, e, Rm, s, m, args, below, meth, c, D, cc, A, H0, ad0, shs0⟩ := B
  intro hO ad H locs lsA hP hD hS hA hL r hr
  exact lv_iushr hO.1 hO.2.1 hd hv (kk hO ad H locs lsA hP hD hS hA hL r hr)
theorem XE_i2l {α R : Type} {B : XB} {M : XM} {Q : R → State → Prop} {pc n : Nat} {ls : XLs} {st : List Value} {cs : Nat × Nat} {shs : XSs} {hs : List Mem} {k : α → Option R} {o : Option α} {x : Int32} (hd : decode M.2.1 pc = .ok (.i2l, 1)) (hn : pc + 1 = n) (kk : XE B M Q n ls (.long x.toInt64 :: st) cs shs hs k o) : XE B M Q pc ls (.int x :: st) cs shs hs k o := by
  subst hn
  obtain ⟨p, l, e, Rm, s, m, args, below, meth, c, D, cc, A, H0, ad0, shs0⟩ := B
  intro hO ad H locs lsA hP hD hS hA hL r hr
  exact lv_i2l hO.1 hO.2.1 hd rfl (kk hO ad H locs lsA hP hD hS hA hL r hr)
theorem XE_ladd {α R : Type} {B : XB} {M : XM} {Q : R → State → Prop} {pc n : Nat} {ls : XLs} {st : List Value} {cs : Nat × Nat} {shs : XSs} {hs : List Mem} {k : α → Option R} {o : Option α} {x y : Int64} (hd : decode M.2.1 pc = .ok (.ladd, 1)) (hn : pc + 1 = n) (kk : XE B M Q n ls (.long (x + y) :: st) cs shs hs k o) : XE B M Q pc ls (.long y :: .long x :: st) cs shs hs k o := by
  subst hn
  obtain ⟨p, l, e, Rm, s, m, args, below, meth, c, D, cc, A, H0, ad0, shs0⟩ := B
  intro hO ad H locs lsA hP hD hS hA hL r hr
  exact lv_ladd hO.1 hO.2.1 hd  (kk hO ad H locs lsA hP hD hS hA hL r hr)
theorem XE_lsub {α R : Type} {B : XB} {M : XM} {Q : R → State → Prop} {pc n : Nat} {ls : XLs} {st : List Value} {cs : Nat × Nat} {shs : XSs} {hs : List Mem} {k : α → Option R} {o : Option α} {x y : Int64} (hd : decode M.2.1 pc = .ok (.lsub, 1)) (hn : pc + 1 = n) (kk : XE B M Q n ls (.long (x - y) :: st) cs shs hs k o) : XE B M Q pc ls (.long y :: .long x :: st) cs shs hs k o := by
  subst hn
  obtain ⟨p, l, e, Rm, s, m, args, below, meth, c, D, cc, A, H0, ad0, shs0⟩ := B
  intro hO ad H locs lsA hP hD hS hA hL r hr
  exact lv_lsub hO.1 hO.2.1 hd  (kk hO ad H locs lsA hP hD hS hA hL r hr)
theorem XE_lmul {α R : Type} {B : XB} {M : XM} {Q : R → State → Prop} {pc n : Nat} {ls : XLs} {st : List Value} {cs : Nat × Nat} {shs : XSs} {hs : List Mem} {k : α → Option R} {o : Option α} {x y : Int64} (hd : decode M.2.1 pc = .ok (.lmul, 1)) (hn : pc + 1 = n) (kk : XE B M Q n ls (.long (x * y) :: st) cs shs hs k o) : XE B M Q pc ls (.long y :: .long x :: st) cs shs hs k o := by
  subst hn
  obtain ⟨p, l, e, Rm, s, m, args, below, meth, c, D, cc, A, H0, ad0, shs0⟩ := B
  intro hO ad H locs lsA hP hD hS hA hL r hr
  exact lv_lmul hO.1 hO.2.1 hd  (kk hO ad H locs lsA hP hD hS hA hL r hr)
theorem XE_lcmp {α R : Type} {B : XB} {M : XM} {Q : R → State → Prop} {pc n : Nat} {ls : XLs} {st : List Value} {cs : Nat × Nat} {shs : XSs} {hs : List Mem} {k : α → Option R} {o : Option α} {x y : Int64} (hd : decode M.2.1 pc = .ok (.lcmp, 1)) (hn : pc + 1 = n) (kk : XE B M Q n ls (.int (lg_cmp x y) :: st) cs shs hs k o) : XE B M Q pc ls (.long y :: .long x :: st) cs shs hs k o := by
  subst hn
  obtain ⟨p, l, e, Rm, s, m, args, below, meth, c, D, cc, A, H0, ad0, shs0⟩ := B
  intro hO ad H locs lsA hP hD hS hA hL r hr
  exact W.lcmp hO.1 hO.2.1 hd  (kk hO ad H locs lsA hP hD hS hA hL r hr)
theorem XE_dup {α R : Type} {B : XB} {M : XM} {Q : R → State → Prop} {pc n : Nat} {ls : XLs} {st : List Value} {cs : Nat × Nat} {shs : XSs} {hs : List Mem} {k : α → Option R} {o : Option α} {v : Value} (hd : decode M.2.1 pc = .ok (.dup, 1)) (hn : pc + 1 = n) (hv : v.category = 1) (kk : XE B M Q n ls (v :: v :: st) cs shs hs k o) : XE B M Q pc ls (v :: st) cs shs hs k o := by
  subst hn
  obtain ⟨p, l, e, Rm, s, m, args, below, meth, c, D, cc, A, H0, ad0, shs0⟩ := B
  intro hO ad H locs lsA hP hD hS hA hL r hr
  exact lv_dup hO.1 hO.2.1 hd ((x_cv_cat _ _).trans hv) (kk hO ad H locs lsA hP hD hS hA hL r hr)
theorem XE_pop {α R : Type} {B : XB} {M : XM} {Q : R → State → Prop} {pc n : Nat} {ls : XLs} {st : List Value} {cs : Nat × Nat} {shs : XSs} {hs : List Mem} {k : α → Option R} {o : Option α} {v : Value} (hd : decode M.2.1 pc = .ok (.pop, 1)) (hn : pc + 1 = n) (hv : v.category = 1) (kk : XE B M Q n ls (st) cs shs hs k o) : XE B M Q pc ls (v :: st) cs shs hs k o := by
  subst hn
  obtain ⟨p, l, e, Rm, s, m, args, below, meth, c, D, cc, A, H0, ad0, shs0⟩ := B
  intro hO ad H locs lsA hP hD hS hA hL r hr
  exact lv_pop hO.1 hO.2.1 hd ((x_cv_cat _ _).trans hv) (kk hO ad H locs lsA hP hD hS hA hL r hr)
theorem XE_dup2 {α R : Type} {B : XB} {M : XM} {Q : R → State → Prop} {pc n : Nat} {ls : XLs} {st : List Value} {cs : Nat × Nat} {shs : XSs} {hs : List Mem} {k : α → Option R} {o : Option α} {v u : Value} (hd : decode M.2.1 pc = .ok (.dup2, 1)) (hn : pc + 1 = n) (hv : v.category = 1) (hu : u.category = 1) (kk : XE B M Q n ls (v :: u :: v :: u :: st) cs shs hs k o) : XE B M Q pc ls (v :: u :: st) cs shs hs k o := by
  subst hn
  obtain ⟨p, l, e, Rm, s, m, args, below, meth, c, D, cc, A, H0, ad0, shs0⟩ := B
  intro hO ad H locs lsA hP hD hS hA hL r hr
  exact lv_dup2_11 hO.1 hO.2.1 hd ((x_cv_cat _ _).trans hv) ((x_cv_cat _ _).trans hu) (kk hO ad H locs lsA hP hD hS hA hL r hr)
theorem XE_ldiv {α R : Type} {B : XB} {M : XM} {Q : R → State → Prop} {pc n : Nat} {ls : XLs} {st : List Value} {cs : Nat × Nat} {shs : XSs} {hs : List Mem} {k : α → Option R} {o : Option α} {x y : Int64} (hd : decode M.2.1 pc = .ok (.ldiv, 1)) (hn : pc + 1 = n) (kk : XE B M Q n ls (.long (x / y) :: st) cs shs hs k o) : XE B M Q pc ls (.long y :: .long x :: st) cs shs hs k (ck (!decide (y = 0)) o) := by
  subst hn
  obtain ⟨p, l, e, Rm, s, m, args, below, meth, c, D, cc, A, H0, ad0, shs0⟩ := B
  intro hO ad H locs lsA hP hD hS hA hL r hr
  by_cases hy : y = 0
  · simp [ck, hy] at hr
  · simp only [ck, hy, decide_false, Bool.not_false, if_true] at hr
    exact lv_ldiv hO.1 hO.2.1 hd hy (kk hO ad H locs lsA hP hD hS hA hL r hr)
theorem XE_idiv_ck {α R : Type} {B : XB} {M : XM} {Q : R → State → Prop} {pc n : Nat} {ls : XLs} {st : List Value} {cs : Nat × Nat} {shs : XSs} {hs : List Mem} {k : α → Option R} {o : Option α} {x y : Int32} (hd : decode M.2.1 pc = .ok (.idiv, 1)) (hn : pc + 1 = n) (kk : XE B M Q n ls (.int (x / y) :: st) cs shs hs k o) : XE B M Q pc ls (.int y :: .int x :: st) cs shs hs k (ck (!decide (y = 0)) o) := by
  subst hn
  obtain ⟨p, l, e, Rm, s, m, args, below, meth, c, D, cc, A, H0, ad0, shs0⟩ := B
  intro hO ad H locs lsA hP hD hS hA hL r hr
  by_cases hy : y = 0
  · simp [ck, hy] at hr
  · simp only [ck, hy, decide_false, Bool.not_false, if_true] at hr
    exact lv_idiv hO.1 hO.2.1 hd hy (kk hO ad H locs lsA hP hD hS hA hL r hr)
theorem XE_lrem {α R : Type} {B : XB} {M : XM} {Q : R → State → Prop} {pc n : Nat} {ls : XLs} {st : List Value} {cs : Nat × Nat} {shs : XSs} {hs : List Mem} {k : α → Option R} {o : Option α} {x y : Int64} (hd : decode M.2.1 pc = .ok (.lrem, 1)) (hn : pc + 1 = n) (kk : XE B M Q n ls (.long (x - x / y * y) :: st) cs shs hs k o) : XE B M Q pc ls (.long y :: .long x :: st) cs shs hs k (ck (!decide (y = 0)) o) := by
  subst hn
  obtain ⟨p, l, e, Rm, s, m, args, below, meth, c, D, cc, A, H0, ad0, shs0⟩ := B
  intro hO ad H locs lsA hP hD hS hA hL r hr
  by_cases hy : y = 0
  · simp [ck, hy] at hr
  · simp only [ck, hy, decide_false, Bool.not_false, if_true] at hr
    exact lv_lrem hO.1 hO.2.1 hd hy (kk hO ad H locs lsA hP hD hS hA hL r hr)
theorem XE_irem_ck {α R : Type} {B : XB} {M : XM} {Q : R → State → Prop} {pc n : Nat} {ls : XLs} {st : List Value} {cs : Nat × Nat} {shs : XSs} {hs : List Mem} {k : α → Option R} {o : Option α} {x y : Int32} (hd : decode M.2.1 pc = .ok (.irem, 1)) (hn : pc + 1 = n) (kk : XE B M Q n ls (.int (x - x / y * y) :: st) cs shs hs k o) : XE B M Q pc ls (.int y :: .int x :: st) cs shs hs k (ck (!decide (y = 0)) o) := by
  subst hn
  obtain ⟨p, l, e, Rm, s, m, args, below, meth, c, D, cc, A, H0, ad0, shs0⟩ := B
  intro hO ad H locs lsA hP hD hS hA hL r hr
  by_cases hy : y = 0
  · simp [ck, hy] at hr
  · simp only [ck, hy, decide_false, Bool.not_false, if_true] at hr
    exact lv_irem hO.1 hO.2.1 hd hy (kk hO ad H locs lsA hP hD hS hA hL r hr)
theorem XE_ldc {α R : Type} {B : XB} {M : XM} {Q : R → State → Prop} {pc n : Nat} {ls : XLs} {st : List Value} {cs : Nat × Nat} {shs : XSs} {hs : List Mem} {k : α → Option R} {o : Option α} {i : Nat} {v : Int32} (hd : decode M.2.1 pc = .ok (.ldc i, 2)) (hn : pc + 2 = n) (hc : Cond.constant M.1 i v ∈ xT) (kk : XE B M Q n ls (.int v :: st) cs shs hs k o) : XE B M Q pc ls (st) cs shs hs k o := by
  subst hn
  obtain ⟨p, l, e, Rm, s, m, args, below, meth, c, D, cc, A, H0, ad0, shs0⟩ := B
  intro hO ad H locs lsA hP hD hS hA hL r hr
  exact lv_ldc hO.1 hO.2.1 hO.2.2.2.1 (hO.2.2.2.2.1 _ hc) hd (kk hO ad H locs lsA hP hD hS hA hL r hr)
theorem XE_ldc_w {α R : Type} {B : XB} {M : XM} {Q : R → State → Prop} {pc n : Nat} {ls : XLs} {st : List Value} {cs : Nat × Nat} {shs : XSs} {hs : List Mem} {k : α → Option R} {o : Option α} {i : Nat} {v : Int32} (hd : decode M.2.1 pc = .ok (.ldc_w i, 3)) (hn : pc + 3 = n) (hc : Cond.constant M.1 i v ∈ xT) (kk : XE B M Q n ls (.int v :: st) cs shs hs k o) : XE B M Q pc ls (st) cs shs hs k o := by
  subst hn
  obtain ⟨p, l, e, Rm, s, m, args, below, meth, c, D, cc, A, H0, ad0, shs0⟩ := B
  intro hO ad H locs lsA hP hD hS hA hL r hr
  exact lv_ldcw hO.1 hO.2.1 hO.2.2.2.1 (hO.2.2.2.2.1 _ hc) hd (kk hO ad H locs lsA hP hD hS hA hL r hr)
theorem XE_ldc2 {α R : Type} {B : XB} {M : XM} {Q : R → State → Prop} {pc n : Nat} {ls : XLs} {st : List Value} {cs : Nat × Nat} {shs : XSs} {hs : List Mem} {k : α → Option R} {o : Option α} {i : Nat} {v : Int64} (hd : decode M.2.1 pc = .ok (.ldc2_w i, 3)) (hn : pc + 3 = n) (hc : Cond.constantLong M.1 i v ∈ xT) (kk : XE B M Q n ls (.long v :: st) cs shs hs k o) : XE B M Q pc ls (st) cs shs hs k o := by
  subst hn
  obtain ⟨p, l, e, Rm, s, m, args, below, meth, c, D, cc, A, H0, ad0, shs0⟩ := B
  intro hO ad H locs lsA hP hD hS hA hL r hr
  exact lv_ldc2 hO.1 hO.2.1 hO.2.2.2.1 (hO.2.2.2.2.1 _ hc) hd (kk hO ad H locs lsA hP hD hS hA hL r hr)
theorem XE_iload_n {α R : Type} {B : XB} {M : XM} {Q : R → State → Prop} {pc n : Nat} {ls : XLs} {st : List Value} {cs : Nat × Nat} {shs : XSs} {hs : List Mem} {k : α → Option R} {o : Option α} {f : Fin 4} {i : Nat} {x : Int32} (hd : decode M.2.1 pc = .ok (.iload_n f, 1)) (hn : pc + 1 = n) (hf : (f : Nat) = i) (hl : xlk ls i = some (.int x)) (kk : XE B M Q n ls (.int x :: st) cs shs hs k o) : XE B M Q pc ls (st) cs shs hs k o := by
  subst hn
  obtain ⟨p, l, e, Rm, s, m, args, below, meth, c, D, cc, A, H0, ad0, shs0⟩ := B
  intro hO ad H locs lsA hP hD hS hA hL r hr
  exact lv_iload_n hO.1 hO.2.1 hd hf (hL.at hl) (kk hO ad H locs lsA hP hD hS hA hL r hr)
theorem XE_iload {α R : Type} {B : XB} {M : XM} {Q : R → State → Prop} {pc n : Nat} {ls : XLs} {st : List Value} {cs : Nat × Nat} {shs : XSs} {hs : List Mem} {k : α → Option R} {o : Option α} {i : Nat} {x : Int32} (hd : decode M.2.1 pc = .ok (.iload i, 2)) (hn : pc + 2 = n) (hl : xlk ls i = some (.int x)) (kk : XE B M Q n ls (.int x :: st) cs shs hs k o) : XE B M Q pc ls (st) cs shs hs k o := by
  subst hn
  obtain ⟨p, l, e, Rm, s, m, args, below, meth, c, D, cc, A, H0, ad0, shs0⟩ := B
  intro hO ad H locs lsA hP hD hS hA hL r hr
  exact lv_iload hO.1 hO.2.1 hd (hL.at hl) (kk hO ad H locs lsA hP hD hS hA hL r hr)
theorem XE_istore_n {α R : Type} {B : XB} {M : XM} {Q : R → State → Prop} {pc n : Nat} {ls : XLs} {st : List Value} {cs : Nat × Nat} {shs : XSs} {hs : List Mem} {k : α → Option R} {o : Option α} {f : Fin 4} {i : Nat} {x : Int32} (hd : decode M.2.1 pc = .ok (.istore_n f, 1)) (hn : pc + 1 = n) (hf : (f : Nat) = i) (hb : i < M.2.2.1) (hq : x_nl ls i = true) (kk : XE B M Q n ((i, some (.int x)) :: ls) (st) cs shs hs k o) : XE B M Q pc ls (.int x :: st) cs shs hs k o := by
  subst hn
  obtain ⟨p, l, e, Rm, s, m, args, below, meth, c, D, cc, A, H0, ad0, shs0⟩ := B
  intro hO ad H locs lsA hP hD hS hA hL r hr
  obtain ⟨l0, hl1, hl2⟩ := hL
  exact lv_istore_n hO.1 hO.2.1 hd hf hl1 hb rfl (fun ls' hl' => kk hO ad H locs ls' hP hD hS hA (x_ls.put (ls := ls) (v := .int x) hl2 hq hl') r hr)
theorem XE_istore {α R : Type} {B : XB} {M : XM} {Q : R → State → Prop} {pc n : Nat} {ls : XLs} {st : List Value} {cs : Nat × Nat} {shs : XSs} {hs : List Mem} {k : α → Option R} {o : Option α} {i : Nat} {x : Int32} (hd : decode M.2.1 pc = .ok (.istore i, 2)) (hn : pc + 2 = n) (hb : i < M.2.2.1) (hq : x_nl ls i = true) (kk : XE B M Q n ((i, some (.int x)) :: ls) (st) cs shs hs k o) : XE B M Q pc ls (.int x :: st) cs shs hs k o := by
  subst hn
  obtain ⟨p, l, e, Rm, s, m, args, below, meth, c, D, cc, A, H0, ad0, shs0⟩ := B
  intro hO ad H locs lsA hP hD hS hA hL r hr
  obtain ⟨l0, hl1, hl2⟩ := hL
  exact lv_istore hO.1 hO.2.1 hd hl1 hb rfl (fun ls' hl' => kk hO ad H locs ls' hP hD hS hA (x_ls.put (ls := ls) (v := .int x) hl2 hq hl') r hr)
theorem XE_lload_n {α R : Type} {B : XB} {M : XM} {Q : R → State → Prop} {pc n : Nat} {ls : XLs} {st : List Value} {cs : Nat × Nat} {shs : XSs} {hs : List Mem} {k : α → Option R} {o : Option α} {f : Fin 4} {i : Nat} {x : Int64} (hd : decode M.2.1 pc = .ok (.lload_n f, 1)) (hn : pc + 1 = n) (hf : (f : Nat) = i) (hl : xlk ls i = some (.long x)) (kk : XE B M Q n ls (.long x :: st) cs shs hs k o) : XE B M Q pc ls (st) cs shs hs k o := by
  subst hn
  obtain ⟨p, l, e, Rm, s, m, args, below, meth, c, D, cc, A, H0, ad0, shs0⟩ := B
  intro hO ad H locs lsA hP hD hS hA hL r hr
  exact lv_lload_n hO.1 hO.2.1 hd hf (hL.at hl) (kk hO ad H locs lsA hP hD hS hA hL r hr)
theorem XE_lload {α R : Type} {B : XB} {M : XM} {Q : R → State → Prop} {pc n : Nat} {ls : XLs} {st : List Value} {cs : Nat × Nat} {shs : XSs} {hs : List Mem} {k : α → Option R} {o : Option α} {i : Nat} {x : Int64} (hd : decode M.2.1 pc = .ok (.lload i, 2)) (hn : pc + 2 = n) (hl : xlk ls i = some (.long x)) (kk : XE B M Q n ls (.long x :: st) cs shs hs k o) : XE B M Q pc ls (st) cs shs hs k o := by
  subst hn
  obtain ⟨p, l, e, Rm, s, m, args, below, meth, c, D, cc, A, H0, ad0, shs0⟩ := B
  intro hO ad H locs lsA hP hD hS hA hL r hr
  exact lv_lload hO.1 hO.2.1 hd (hL.at hl) (kk hO ad H locs lsA hP hD hS hA hL r hr)
theorem XE_lstore_n {α R : Type} {B : XB} {M : XM} {Q : R → State → Prop} {pc n : Nat} {ls : XLs} {st : List Value} {cs : Nat × Nat} {shs : XSs} {hs : List Mem} {k : α → Option R} {o : Option α} {f : Fin 4} {i : Nat} {x : Int64} (hd : decode M.2.1 pc = .ok (.lstore_n f, 1)) (hn : pc + 1 = n) (hf : (f : Nat) = i) (hb : i + 1 < M.2.2.1) (hq : x_nl ls i = true) (kk : XE B M Q n ((i, some (.long x)) :: (i + 1, none) :: ls) (st) cs shs hs k o) : XE B M Q pc ls (.long x :: st) cs shs hs k o := by
  subst hn
  obtain ⟨p, l, e, Rm, s, m, args, below, meth, c, D, cc, A, H0, ad0, shs0⟩ := B
  intro hO ad H locs lsA hP hD hS hA hL r hr
  obtain ⟨l0, hl1, hl2⟩ := hL
  exact lv_lstore_n hO.1 hO.2.1 hd hf hl1 hb rfl (fun ls' hl' => kk hO ad H locs ls' hP hD hS hA (x_ls.putL (ls := ls) (v := .long x) hl2 hq hl') r hr)
theorem XE_lstore {α R : Type} {B : XB} {M : XM} {Q : R → State → Prop} {pc n : Nat} {ls : XLs} {st : List Value} {cs : Nat × Nat} {shs : XSs} {hs : List Mem} {k : α → Option R} {o : Option α} {i : Nat} {x : Int64} (hd : decode M.2.1 pc = .ok (.lstore i, 2)) (hn : pc + 2 = n) (hb : i + 1 < M.2.2.1) (hq : x_nl ls i = true) (kk : XE B M Q n ((i, some (.long x)) :: (i + 1, none) :: ls) (st) cs shs hs k o) : XE B M Q pc ls (.long x :: st) cs shs hs k o := by
  subst hn
  obtain ⟨p, l, e, Rm, s, m, args, below, meth, c, D, cc, A, H0, ad0, shs0⟩ := B
  intro hO ad H locs lsA hP hD hS hA hL r hr
  obtain ⟨l0, hl1, hl2⟩ := hL
  exact lv_lstore hO.1 hO.2.1 hd hl1 hb rfl (fun ls' hl' => kk hO ad H locs ls' hP hD hS hA (x_ls.putL (ls := ls) (v := .long x) hl2 hq hl') r hr)
theorem XE_aload_n {α R : Type} {B : XB} {M : XM} {Q : R → State → Prop} {pc n : Nat} {ls : XLs} {st : List Value} {cs : Nat × Nat} {shs : XSs} {hs : List Mem} {k : α → Option R} {o : Option α} {f : Fin 4} {i : Nat} {x : Nat} (hd : decode M.2.1 pc = .ok (.aload_n f, 1)) (hn : pc + 1 = n) (hf : (f : Nat) = i) (hl : xlk ls i = some (.ref x)) (kk : XE B M Q n ls (.ref x :: st) cs shs hs k o) : XE B M Q pc ls (st) cs shs hs k o := by
  subst hn
  obtain ⟨p, l, e, Rm, s, m, args, below, meth, c, D, cc, A, H0, ad0, shs0⟩ := B
  intro hO ad H locs lsA hP hD hS hA hL r hr
  exact lv_aload_n hO.1 hO.2.1 hd hf (hL.at hl) (kk hO ad H locs lsA hP hD hS hA hL r hr)
theorem XE_aload {α R : Type} {B : XB} {M : XM} {Q : R → State → Prop} {pc n : Nat} {ls : XLs} {st : List Value} {cs : Nat × Nat} {shs : XSs} {hs : List Mem} {k : α → Option R} {o : Option α} {i : Nat} {x : Nat} (hd : decode M.2.1 pc = .ok (.aload i, 2)) (hn : pc + 2 = n) (hl : xlk ls i = some (.ref x)) (kk : XE B M Q n ls (.ref x :: st) cs shs hs k o) : XE B M Q pc ls (st) cs shs hs k o := by
  subst hn
  obtain ⟨p, l, e, Rm, s, m, args, below, meth, c, D, cc, A, H0, ad0, shs0⟩ := B
  intro hO ad H locs lsA hP hD hS hA hL r hr
  exact lv_aload hO.1 hO.2.1 hd (hL.at hl) (kk hO ad H locs lsA hP hD hS hA hL r hr)
theorem XE_astore_n {α R : Type} {B : XB} {M : XM} {Q : R → State → Prop} {pc n : Nat} {ls : XLs} {st : List Value} {cs : Nat × Nat} {shs : XSs} {hs : List Mem} {k : α → Option R} {o : Option α} {f : Fin 4} {i : Nat} {x : Nat} (hd : decode M.2.1 pc = .ok (.astore_n f, 1)) (hn : pc + 1 = n) (hf : (f : Nat) = i) (hb : i < M.2.2.1) (hq : x_nl ls i = true) (kk : XE B M Q n ((i, some (.ref x)) :: ls) (st) cs shs hs k o) : XE B M Q pc ls (.ref x :: st) cs shs hs k o := by
  subst hn
  obtain ⟨p, l, e, Rm, s, m, args, below, meth, c, D, cc, A, H0, ad0, shs0⟩ := B
  intro hO ad H locs lsA hP hD hS hA hL r hr
  obtain ⟨l0, hl1, hl2⟩ := hL
  exact lv_astore_n hO.1 hO.2.1 hd hf hl1 hb rfl (fun ls' hl' => kk hO ad H locs ls' hP hD hS hA (x_ls.put (ls := ls) (v := .ref x) hl2 hq hl') r hr)
theorem XE_astore {α R : Type} {B : XB} {M : XM} {Q : R → State → Prop} {pc n : Nat} {ls : XLs} {st : List Value} {cs : Nat × Nat} {shs : XSs} {hs : List Mem} {k : α → Option R} {o : Option α} {i : Nat} {x : Nat} (hd : decode M.2.1 pc = .ok (.astore i, 2)) (hn : pc + 2 = n) (hb : i < M.2.2.1) (hq : x_nl ls i = true) (kk : XE B M Q n ((i, some (.ref x)) :: ls) (st) cs shs hs k o) : XE B M Q pc ls (.ref x :: st) cs shs hs k o := by
  subst hn
  obtain ⟨p, l, e, Rm, s, m, args, below, meth, c, D, cc, A, H0, ad0, shs0⟩ := B
  intro hO ad H locs lsA hP hD hS hA hL r hr
  obtain ⟨l0, hl1, hl2⟩ := hL
  exact lv_astore hO.1 hO.2.1 hd hl1 hb rfl (fun ls' hl' => kk hO ad H locs ls' hP hD hS hA (x_ls.put (ls := ls) (v := .ref x) hl2 hq hl') r hr)
theorem XE_iinc {α R : Type} {B : XB} {M : XM} {Q : R → State → Prop} {pc n : Nat} {ls : XLs} {st : List Value} {cs : Nat × Nat} {shs : XSs} {hs : List Mem} {k : α → Option R} {o : Option α} {i : Nat} {z : Int} {x v : Int32} (hd : decode M.2.1 pc = .ok (.iinc i z, 3)) (hn : pc + 3 = n) (hl : xlk ls i = some (.int x)) (hv : x + Int32.ofInt z = v) (hb : i < M.2.2.1) (hq : x_nl ls i = true) (kk : XE B M Q n ((i, some (.int v)) :: ls) (st) cs shs hs k o) : XE B M Q pc ls (st) cs shs hs k o := by
  subst hn
  obtain ⟨p, l, e, Rm, s, m, args, below, meth, c, D, cc, A, H0, ad0, shs0⟩ := B
  intro hO ad H locs lsA hP hD hS hA hL r hr
  obtain ⟨l0, hl1, hl2⟩ := hL
  obtain ⟨j, hj⟩ := List.getElem?_of_mem (hl2 _ _ hl)
  exact lv_iinc hO.1 hO.2.1 hd hl1 hj hv hb rfl (fun ls' hl' => kk hO ad H locs ls' hP hD hS hA (x_ls.put (ls := ls) (v := .int v) hl2 hq hl') r hr)
theorem XE_ls {α R : Type} {B : XB} {M : XM} {Q : R → State → Prop} {pc : Nat} {ls : XLs} {st : List Value} {cs : Nat × Nat} {shs : XSs} {hs : List Mem} {k : α → Option R} {o : Option α} {ls' : XLs} (h : ∀ i v, xlk ls' i = some v → xlk ls i = some v) (kk : XE B M Q pc ls' (st) cs shs hs k o) : XE B M Q pc ls (st) cs shs hs k o := by
  obtain ⟨p, l, e, Rm, s, m, args, below, meth, c, D, cc, A, H0, ad0, shs0⟩ := B
  intro hO ad H locs lsA hP hD hS hA hL r hr
  obtain ⟨l0, hl1, hl2⟩ := hL
  exact kk hO ad H locs lsA hP hD hS hA ⟨l0, hl1, fun i v hi => hl2 i v (h i v hi)⟩ r hr
/-- fewer locals: each of the new list is in the old one -/
def x_sub (ls : XLs) : XLs → Prop
  | [] => True
  | q :: r => (match q.2 with
    | none => True
    | some v => xlk ls q.1 = some v) ∧ x_sub ls r
theorem x_sub_ok {ls : XLs} : ∀ {ls' : XLs}, x_sub ls ls' → ∀ i v, xlk ls' i = some v → xlk ls i = some v
  | [], _, i, v, h => by cases h
  | q :: r, hs, i, v, h => by
    unfold xlk at h
    by_cases e : q.1 = i
    · rw [if_pos e] at h
      have h1 := hs.1
      rw [h] at h1
      rw [← e]; exact h1
    · rw [if_neg e] at h
      exact x_sub_ok hs.2 i v h
theorem XE_if_eq {α R : Type} {B : XB} {M : XM} {Q : R → State → Prop} {pc n : Nat} {ls : XLs} {st : List Value} {cs : Nat × Nat} {shs : XSs} {hs : List Mem} {k : α → Option R} {t : Nat} {off : Int} {x : Int32} {o1 o2 : Option α} [inst : Decidable (x = 0)] (hd : decode M.2.1 pc = .ok (.ifCond .eq off, 3)) (hn : pc + 3 = n) (ht : (pc : Int) + off = (t : Int)) (kt : x = 0 → XE B M Q t ls (st) cs shs hs k o1) (kf : ¬ x = 0 → XE B M Q n ls (st) cs shs hs k o2) : XE B M Q pc ls (.int x :: st) cs shs hs k (if x = 0 then o1 else o2) := by
  subst hn
  obtain ⟨p, l, e, Rm, s, m, args, below, meth, c, D, cc, A, H0, ad0, shs0⟩ := B
  intro hO ad H locs lsA hP hD hS hA hL r hr
  exact lv_if_eq hO.1 hO.2.1 hd ht (fun h => kt h hO ad H locs lsA hP hD hS hA hL r (by rw [if_pos h] at hr; exact hr)) (fun h => kf h hO ad H locs lsA hP hD hS hA hL r (by rw [if_neg h] at hr; exact hr))
theorem XE_if_eq_T {α R : Type} {B : XB} {M : XM} {Q : R → State → Prop} {pc : Nat} {ls : XLs} {st : List Value} {cs : Nat × Nat} {shs : XSs} {hs : List Mem} {k : α → Option R} {o : Option α} {t : Nat} {off : Int} {x : Int32} (hd : decode M.2.1 pc = .ok (.ifCond .eq off, 3)) (ht : (pc : Int) + off = (t : Int)) (hc : (x = 0)) (kk : XE B M Q t ls (st) cs shs hs k o) : XE B M Q pc ls (.int x :: st) cs shs hs k o := by
  obtain ⟨p, l, e, Rm, s, m, args, below, meth, c, D, cc, A, H0, ad0, shs0⟩ := B
  intro hO ad H locs lsA hP hD hS hA hL r hr
  exact lv_if_eq hO.1 hO.2.1 hd ht (fun _ => kk hO ad H locs lsA hP hD hS hA hL r hr) (fun h => absurd hc h)
theorem XE_if_eq_F {α R : Type} {B : XB} {M : XM} {Q : R → State → Prop} {pc n : Nat} {ls : XLs} {st : List Value} {cs : Nat × Nat} {shs : XSs} {hs : List Mem} {k : α → Option R} {o : Option α} {t : Nat} {off : Int} {x : Int32} (hd : decode M.2.1 pc = .ok (.ifCond .eq off, 3)) (hn : pc + 3 = n) (ht : (pc : Int) + off = (t : Int)) (hc : ¬ (x = 0)) (kk : XE B M Q n ls (st) cs shs hs k o) : XE B M Q pc ls (.int x :: st) cs shs hs k o := by
  subst hn
  obtain ⟨p, l, e, Rm, s, m, args, below, meth, c, D, cc, A, H0, ad0, shs0⟩ := B
  intro hO ad H locs lsA hP hD hS hA hL r hr
  exact lv_if_eq hO.1 hO.2.1 hd ht (fun h => absurd h hc) (fun _ => kk hO ad H locs lsA hP hD hS hA hL r hr)
theorem XE_icmp_eq {α R : Type} {B : XB} {M : XM} {Q : R → State → Prop} {pc n : Nat} {ls : XLs} {st : List Value} {cs : Nat × Nat} {shs : XSs} {hs : List Mem} {k : α → Option R} {t : Nat} {off : Int} {x y : Int32} {o1 o2 : Option α} [inst : Decidable (x = y)] (hd : decode M.2.1 pc = .ok (.if_icmp .eq off, 3)) (hn : pc + 3 = n) (ht : (pc : Int) + off = (t : Int)) (kt : x = y → XE B M Q t ls (st) cs shs hs k o1) (kf : ¬ x = y → XE B M Q n ls (st) cs shs hs k o2) : XE B M Q pc ls (.int y :: .int x :: st) cs shs hs k (if x = y then o1 else o2) := by
  subst hn
  obtain ⟨p, l, e, Rm, s, m, args, below, meth, c, D, cc, A, H0, ad0, shs0⟩ := B
  intro hO ad H locs lsA hP hD hS hA hL r hr
  exact lv_icmp_eq hO.1 hO.2.1 hd ht (fun h => kt h hO ad H locs lsA hP hD hS hA hL r (by rw [if_pos h] at hr; exact hr)) (fun h => kf h hO ad H locs lsA hP hD hS hA hL r (by rw [if_neg h] at hr; exact hr))
theorem XE_icmp_eq_T {α R : Type} {B : XB} {M : XM} {Q : R → State → Prop} {pc : Nat} {ls : XLs} {st : List Value} {cs : Nat × Nat} {shs : XSs} {hs : List Mem} {k : α → Option R} {o : Option α} {t : Nat} {off : Int} {x y : Int32} (hd : decode M.2.1 pc = .ok (.if_icmp .eq off, 3)) (ht : (pc : Int) + off = (t : Int)) (hc : (x = y)) (kk : XE B M Q t ls (st) cs shs hs k o) : XE B M Q pc ls (.int y :: .int x :: st) cs shs hs k o := by
  obtain ⟨p, l, e, Rm, s, m, args, below, meth, c, D, cc, A, H0, ad0, shs0⟩ := B
  intro hO ad H locs lsA hP hD hS hA hL r hr
  exact lv_icmp_eq hO.1 hO.2.1 hd ht (fun _ => kk hO ad H locs lsA hP hD hS hA hL r hr) (fun h => absurd hc h)
theorem XE_icmp_eq_F {α R : Type} {B : XB} {M : XM} {Q : R → State → Prop} {pc n : Nat} {ls : XLs} {st : List Value} {cs : Nat × Nat} {shs : XSs} {hs : List Mem} {k : α → Option R} {o : Option α} {t : Nat} {off : Int} {x y : Int32} (hd : decode M.2.1 pc = .ok (.if_icmp .eq off, 3)) (hn : pc + 3 = n) (ht : (pc : Int) + off = (t : Int)) (hc : ¬ (x = y)) (kk : XE B M Q n ls (st) cs shs hs k o) : XE B M Q pc ls (.int y :: .int x :: st) cs shs hs k o := by
  subst hn
  obtain ⟨p, l, e, Rm, s, m, args, below, meth, c, D, cc, A, H0, ad0, shs0⟩ := B
  intro hO ad H locs lsA hP hD hS hA hL r hr
  exact lv_icmp_eq hO.1 hO.2.1 hd ht (fun h => absurd h hc) (fun _ => kk hO ad H locs lsA hP hD hS hA hL r hr)
theorem XE_if_ne {α R : Type} {B : XB} {M : XM} {Q : R → State → Prop} {pc n : Nat} {ls : XLs} {st : List Value} {cs : Nat × Nat} {shs : XSs} {hs : List Mem} {k : α → Option R} {t : Nat} {off : Int} {x : Int32} {o1 o2 : Option α} [inst : Decidable (x = 0)] (hd : decode M.2.1 pc = .ok (.ifCond .ne off, 3)) (hn : pc + 3 = n) (ht : (pc : Int) + off = (t : Int)) (kt : x = 0 → XE B M Q n ls (st) cs shs hs k o1) (kf : ¬ x = 0 → XE B M Q t ls (st) cs shs hs k o2) : XE B M Q pc ls (.int x :: st) cs shs hs k (if x = 0 then o1 else o2) := by
  subst hn
  obtain ⟨p, l, e, Rm, s, m, args, below, meth, c, D, cc, A, H0, ad0, shs0⟩ := B
  intro hO ad H locs lsA hP hD hS hA hL r hr
  exact lv_if_ne hO.1 hO.2.1 hd ht (fun h => kf h hO ad H locs lsA hP hD hS hA hL r (by rw [if_neg h] at hr; exact hr)) (fun h => kt h hO ad H locs lsA hP hD hS hA hL r (by rw [if_pos h] at hr; exact hr))
theorem XE_if_ne_T {α R : Type} {B : XB} {M : XM} {Q : R → State → Prop} {pc : Nat} {ls : XLs} {st : List Value} {cs : Nat × Nat} {shs : XSs} {hs : List Mem} {k : α → Option R} {o : Option α} {t : Nat} {off : Int} {x : Int32} (hd : decode M.2.1 pc = .ok (.ifCond .ne off, 3)) (ht : (pc : Int) + off = (t : Int)) (hc : ¬ (x = 0)) (kk : XE B M Q t ls (st) cs shs hs k o) : XE B M Q pc ls (.int x :: st) cs shs hs k o := by
  obtain ⟨p, l, e, Rm, s, m, args, below, meth, c, D, cc, A, H0, ad0, shs0⟩ := B
  intro hO ad H locs lsA hP hD hS hA hL r hr
  exact lv_if_ne hO.1 hO.2.1 hd ht (fun _ => kk hO ad H locs lsA hP hD hS hA hL r hr) (fun h => absurd h hc)
theorem XE_if_ne_F {α R : Type} {B : XB} {M : XM} {Q : R → State → Prop} {pc n : Nat} {ls : XLs} {st : List Value} {cs : Nat × Nat} {shs : XSs} {hs : List Mem} {k : α → Option R} {o : Option α} {t : Nat} {off : Int} {x : Int32} (hd : decode M.2.1 pc = .ok (.ifCond .ne off, 3)) (hn : pc + 3 = n) (ht : (pc : Int) + off = (t : Int)) (hc : (x = 0)) (kk : XE B M Q n ls (st) cs shs hs k o) : XE B M Q pc ls (.int x :: st) cs shs hs k o := by
  subst hn
  obtain ⟨p, l, e, Rm, s, m, args, below, meth, c, D, cc, A, H0, ad0, shs0⟩ := B
  intro hO ad H locs lsA hP hD hS hA hL r hr
  exact lv_if_ne hO.1 hO.2.1 hd ht (fun h => absurd hc h) (fun _ => kk hO ad H locs lsA hP hD hS hA hL r hr)
theorem XE_icmp_ne {α R : Type} {B : XB} {M : XM} {Q : R → State → Prop} {pc n : Nat} {ls : XLs} {st : List Value} {cs : Nat × Nat} {shs : XSs} {hs : List Mem} {k : α → Option R} {t : Nat} {off : Int} {x y : Int32} {o1 o2 : Option α} [inst : Decidable (x = y)] (hd : decode M.2.1 pc = .ok (.if_icmp .ne off, 3)) (hn : pc + 3 = n) (ht : (pc : Int) + off = (t : Int)) (kt : x = y → XE B M Q n ls (st) cs shs hs k o1) (kf : ¬ x = y → XE B M Q t ls (st) cs shs hs k o2) : XE B M Q pc ls (.int y :: .int x :: st) cs shs hs k (if x = y then o1 else o2) := by
  subst hn
  obtain ⟨p, l, e, Rm, s, m, args, below, meth, c, D, cc, A, H0, ad0, shs0⟩ := B
  intro hO ad H locs lsA hP hD hS hA hL r hr
  exact lv_icmp_ne hO.1 hO.2.1 hd ht (fun h => kf h hO ad H locs lsA hP hD hS hA hL r (by rw [if_neg h] at hr; exact hr)) (fun h => kt h hO ad H locs lsA hP hD hS hA hL r (by rw [if_pos h] at hr; exact hr))
theorem XE_icmp_ne_T {α R : Type} {B : XB} {M : XM} {Q : R → State → Prop} {pc : Nat} {ls : XLs} {st : List Value} {cs : Nat × Nat} {shs : XSs} {hs : List Mem} {k : α → Option R} {o : Option α} {t : Nat} {off : Int} {x y : Int32} (hd : decode M.2.1 pc = .ok (.if_icmp .ne off, 3)) (ht : (pc : Int) + off = (t : Int)) (hc : ¬ (x = y)) (kk : XE B M Q t ls (st) cs shs hs k o) : XE B M Q pc ls (.int y :: .int x :: st) cs shs hs k o := by
  obtain ⟨p, l, e, Rm, s, m, args, below, meth, c, D, cc, A, H0, ad0, shs0⟩ := B
  intro hO ad H locs lsA hP hD hS hA hL r hr
  exact lv_icmp_ne hO.1 hO.2.1 hd ht (fun _ => kk hO ad H locs lsA hP hD hS hA hL r hr) (fun h => absurd h hc)
theorem XE_icmp_ne_F {α R : Type} {B : XB} {M : XM} {Q : R → State → Prop} {pc n : Nat} {ls : XLs} {st : List Value} {cs : Nat × Nat} {shs : XSs} {hs : List Mem} {k : α → Option R} {o : Option α} {t : Nat} {off : Int} {x y : Int32} (hd : decode M.2.1 pc = .ok (.if_icmp .ne off, 3)) (hn : pc + 3 = n) (ht : (pc : Int) + off = (t : Int)) (hc : (x = y)) (kk : XE B M Q n ls (st) cs shs hs k o) : XE B M Q pc ls (.int y :: .int x :: st) cs shs hs k o := by
  subst hn
  obtain ⟨p, l, e, Rm, s, m, args, below, meth, c, D, cc, A, H0, ad0, shs0⟩ := B
  intro hO ad H locs lsA hP hD hS hA hL r hr
  exact lv_icmp_ne hO.1 hO.2.1 hd ht (fun h => absurd hc h) (fun _ => kk hO ad H locs lsA hP hD hS hA hL r hr)
theorem XE_if_lt {α R : Type} {B : XB} {M : XM} {Q : R → State → Prop} {pc n : Nat} {ls : XLs} {st : List Value} {cs : Nat × Nat} {shs : XSs} {hs : List Mem} {k : α → Option R} {t : Nat} {off : Int} {x : Int32} {o1 o2 : Option α} [inst : Decidable (x < 0)] (hd : decode M.2.1 pc = .ok (.ifCond .lt off, 3)) (hn : pc + 3 = n) (ht : (pc : Int) + off = (t : Int)) (kt : x < 0 → XE B M Q t ls (st) cs shs hs k o1) (kf : ¬ x < 0 → XE B M Q n ls (st) cs shs hs k o2) : XE B M Q pc ls (.int x :: st) cs shs hs k (if x < 0 then o1 else o2) := by
  subst hn
  obtain ⟨p, l, e, Rm, s, m, args, below, meth, c, D, cc, A, H0, ad0, shs0⟩ := B
  intro hO ad H locs lsA hP hD hS hA hL r hr
  exact lv_if_lt hO.1 hO.2.1 hd ht (fun h => kt h hO ad H locs lsA hP hD hS hA hL r (by rw [if_pos h] at hr; exact hr)) (fun h => kf h hO ad H locs lsA hP hD hS hA hL r (by rw [if_neg h] at hr; exact hr))
theorem XE_if_lt_T {α R : Type} {B : XB} {M : XM} {Q : R → State → Prop} {pc : Nat} {ls : XLs} {st : List Value} {cs : Nat × Nat} {shs : XSs} {hs : List Mem} {k : α → Option R} {o : Option α} {t : Nat} {off : Int} {x : Int32} (hd : decode M.2.1 pc = .ok (.ifCond .lt off, 3)) (ht : (pc : Int) + off = (t : Int)) (hc : (x < 0)) (kk : XE B M Q t ls (st) cs shs hs k o) : XE B M Q pc ls (.int x :: st) cs shs hs k o := by
  obtain ⟨p, l, e, Rm, s, m, args, below, meth, c, D, cc, A, H0, ad0, shs0⟩ := B
  intro hO ad H locs lsA hP hD hS hA hL r hr
  exact lv_if_lt hO.1 hO.2.1 hd ht (fun _ => kk hO ad H locs lsA hP hD hS hA hL r hr) (fun h => absurd hc h)
theorem XE_if_lt_F {α R : Type} {B : XB} {M : XM} {Q : R → State → Prop} {pc n : Nat} {ls : XLs} {st : List Value} {cs : Nat × Nat} {shs : XSs} {hs : List Mem} {k : α → Option R} {o : Option α} {t : Nat} {off : Int} {x : Int32} (hd : decode M.2.1 pc = .ok (.ifCond .lt off, 3)) (hn : pc + 3 = n) (ht : (pc : Int) + off = (t : Int)) (hc : ¬ (x < 0)) (kk : XE B M Q n ls (st) cs shs hs k o) : XE B M Q pc ls (.int x :: st) cs shs hs k o := by
  subst hn
  obtain ⟨p, l, e, Rm, s, m, args, below, meth, c, D, cc, A, H0, ad0, shs0⟩ := B
  intro hO ad H locs lsA hP hD hS hA hL r hr
  exact lv_if_lt hO.1 hO.2.1 hd ht (fun h => absurd h hc) (fun _ => kk hO ad H locs lsA hP hD hS hA hL r hr)
theorem XE_icmp_lt {α R : Type} {B : XB} {M : XM} {Q : R → State → Prop} {pc n : Nat} {ls : XLs} {st : List Value} {cs : Nat × Nat} {shs : XSs} {hs : List Mem} {k : α → Option R} {t : Nat} {off : Int} {x y : Int32} {o1 o2 : Option α} [inst : Decidable (x < y)] (hd : decode M.2.1 pc = .ok (.if_icmp .lt off, 3)) (hn : pc + 3 = n) (ht : (pc : Int) + off = (t : Int)) (kt : x < y → XE B M Q t ls (st) cs shs hs k o1) (kf : ¬ x < y → XE B M Q n ls (st) cs shs hs k o2) : XE B M Q pc ls (.int y :: .int x :: st) cs shs hs k (if x < y then o1 else o2) := by
  subst hn
  obtain ⟨p, l, e, Rm, s, m, args, below, meth, c, D, cc, A, H0, ad0, shs0⟩ := B
  intro hO ad H locs lsA hP hD hS hA hL r hr
  exact lv_icmp_lt hO.1 hO.2.1 hd ht (fun h => kt h hO ad H locs lsA hP hD hS hA hL r (by rw [if_pos h] at hr; exact hr)) (fun h => kf h hO ad H locs lsA hP hD hS hA hL r (by rw [if_neg h] at hr; exact hr))
theorem XE_icmp_lt_T {α R : Type} {B : XB} {M : XM} {Q : R → State → Prop} {pc : Nat} {ls : XLs} {st : List Value} {cs : Nat × Nat} {shs : XSs} {hs : List Mem} {k : α → Option R} {o : Option α} {t : Nat} {off : Int} {x y : Int32} (hd : decode M.2.1 pc = .ok (.if_icmp .lt off, 3)) (ht : (pc : Int) + off = (t : Int)) (hc : (x < y)) (kk : XE B M Q t ls (st) cs shs hs k o) : XE B M Q pc ls (.int y :: .int x :: st) cs shs hs k o := by
  obtain ⟨p, l, e, Rm, s, m, args, below, meth, c, D, cc, A, H0, ad0, shs0⟩ := B
  intro hO ad H locs lsA hP hD hS hA hL r hr
  exact lv_icmp_lt hO.1 hO.2.1 hd ht (fun _ => kk hO ad H locs lsA hP hD hS hA hL r hr) (fun h => absurd hc h)
theorem XE_icmp_lt_F {α R : Type} {B : XB} {M : XM} {Q : R → State → Prop} {pc n : Nat} {ls : XLs} {st : List Value} {cs : Nat × Nat} {shs : XSs} {hs : List Mem} {k : α → Option R} {o : Option α} {t : Nat} {off : Int} {x y : Int32} (hd : decode M.2.1 pc = .ok (.if_icmp .lt off, 3)) (hn : pc + 3 = n) (ht : (pc : Int) + off = (t : Int)) (hc : ¬ (x < y)) (kk : XE B M Q n ls (st) cs shs hs k o) : XE B M Q pc ls (.int y :: .int x :: st) cs shs hs k o := by
  subst hn
  obtain ⟨p, l, e, Rm, s, m, args, below, meth, c, D, cc, A, H0, ad0, shs0⟩ := B
  intro hO ad H locs lsA hP hD hS hA hL r hr
  exact lv_icmp_lt hO.1 hO.2.1 hd ht (fun h => absurd h hc) (fun _ => kk hO ad H locs lsA hP hD hS hA hL r hr)
theorem XE_if_ge {α R : Type} {B : XB} {M : XM} {Q : R → State → Prop} {pc n : Nat} {ls : XLs} {st : List Value} {cs : Nat × Nat} {shs : XSs} {hs : List Mem} {k : α → Option R} {t : Nat} {off : Int} {x : Int32} {o1 o2 : Option α} [inst : Decidable (0 ≤ x)] (hd : decode M.2.1 pc = .ok (.ifCond .ge off, 3)) (hn : pc + 3 = n) (ht : (pc : Int) + off = (t : Int)) (kt : 0 ≤ x → XE B M Q t ls (st) cs shs hs k o1) (kf : ¬ 0 ≤ x → XE B M Q n ls (st) cs shs hs k o2) : XE B M Q pc ls (.int x :: st) cs shs hs k (if 0 ≤ x then o1 else o2) := by
  subst hn
  obtain ⟨p, l, e, Rm, s, m, args, below, meth, c, D, cc, A, H0, ad0, shs0⟩ := B
  intro hO ad H locs lsA hP hD hS hA hL r hr
  exact lv_if_ge hO.1 hO.2.1 hd ht (fun h => kt h hO ad H locs lsA hP hD hS hA hL r (by rw [if_pos h] at hr; exact hr)) (fun h => kf h hO ad H locs lsA hP hD hS hA hL r (by rw [if_neg h] at hr; exact hr))
theorem XE_if_ge_T {α R : Type} {B : XB} {M : XM} {Q : R → State → Prop} {pc : Nat} {ls : XLs} {st : List Value} {cs : Nat × Nat} {shs : XSs} {hs : List Mem} {k : α → Option R} {o : Option α} {t : Nat} {off : Int} {x : Int32} (hd : decode M.2.1 pc = .ok (.ifCond .ge off, 3)) (ht : (pc : Int) + off = (t : Int)) (hc : (0 ≤ x)) (kk : XE B M Q t ls (st) cs shs hs k o) : XE B M Q pc ls (.int x :: st) cs shs hs k o := by
  obtain ⟨p, l, e, Rm, s, m, args, below, meth, c, D, cc, A, H0, ad0, shs0⟩ := B
  intro hO ad H locs lsA hP hD hS hA hL r hr
  exact lv_if_ge hO.1 hO.2.1 hd ht (fun _ => kk hO ad H locs lsA hP hD hS hA hL r hr) (fun h => absurd hc h)
theorem XE_if_ge_F {α R : Type} {B : XB} {M : XM} {Q : R → State → Prop} {pc n : Nat} {ls : XLs} {st : List Value} {cs : Nat × Nat} {shs : XSs} {hs : List Mem} {k : α → Option R} {o : Option α} {t : Nat} {off : Int} {x : Int32} (hd : decode M.2.1 pc = .ok (.ifCond .ge off, 3)) (hn : pc + 3 = n) (ht : (pc : Int) + off = (t : Int)) (hc : ¬ (0 ≤ x)) (kk : XE B M Q n ls (st) cs shs hs k o) : XE B M Q pc ls (.int x :: st) cs shs hs k o := by
  subst hn
  obtain ⟨p, l, e, Rm, s, m, args, below, meth, c, D, cc, A, H0, ad0, shs0⟩ := B
  intro hO ad H locs lsA hP hD hS hA hL r hr
  exact lv_if_ge hO.1 hO.2.1 hd ht (fun h => absurd h hc) (fun _ => kk hO ad H locs lsA hP hD hS hA hL r hr)
theorem XE_icmp_ge {α R : Type} {B : XB} {M : XM} {Q : R → State → Prop} {pc n : Nat} {ls : XLs} {st : List Value} {cs : Nat × Nat} {shs : XSs} {hs : List Mem} {k : α → Option R} {t : Nat} {off : Int} {x y : Int32} {o1 o2 : Option α} [inst : Decidable (y ≤ x)] (hd : decode M.2.1 pc = .ok (.if_icmp .ge off, 3)) (hn : pc + 3 = n) (ht : (pc : Int) + off = (t : Int)) (kt : y ≤ x → XE B M Q t ls (st) cs shs hs k o1) (kf : ¬ y ≤ x → XE B M Q n ls (st) cs shs hs k o2) : XE B M Q pc ls (.int y :: .int x :: st) cs shs hs k (if y ≤ x then o1 else o2) := by
  subst hn
  obtain ⟨p, l, e, Rm, s, m, args, below, meth, c, D, cc, A, H0, ad0, shs0⟩ := B
  intro hO ad H locs lsA hP hD hS hA hL r hr
  exact lv_icmp_ge hO.1 hO.2.1 hd ht (fun h => kt h hO ad H locs lsA hP hD hS hA hL r (by rw [if_pos h] at hr; exact hr)) (fun h => kf h hO ad H locs lsA hP hD hS hA hL r (by rw [if_neg h] at hr; exact hr))
theorem XE_icmp_ge_T {α R : Type} {B : XB} {M : XM} {Q : R → State → Prop} {pc : Nat} {ls : XLs} {st : List Value} {cs : Nat × Nat} {shs : XSs} {hs : List Mem} {k : α → Option R} {o : Option α} {t : Nat} {off : Int} {x y : Int32} (hd : decode M.2.1 pc = .ok (.if_icmp .ge off, 3)) (ht : (pc : Int) + off = (t : Int)) (hc : (y ≤ x)) (kk : XE B M Q t ls (st) cs shs hs k o) : XE B M Q pc ls (.int y :: .int x :: st) cs shs hs k o := by
  obtain ⟨p, l, e, Rm, s, m, args, below, meth, c, D, cc, A, H0, ad0, shs0⟩ := B
  intro hO ad H locs lsA hP hD hS hA hL r hr
  exact lv_icmp_ge hO.1 hO.2.1 hd ht (fun _ => kk hO ad H locs lsA hP hD hS hA hL r hr) (fun h => absurd hc h)
theorem XE_icmp_ge_F {α R : Type} {B : XB} {M : XM} {Q : R → State → Prop} {pc n : Nat} {ls : XLs} {st : List Value} {cs : Nat × Nat} {shs : XSs} {hs : List Mem} {k : α → Option R} {o : Option α} {t : Nat} {off : Int} {x y : Int32} (hd : decode M.2.1 pc = .ok (.if_icmp .ge off, 3)) (hn : pc + 3 = n) (ht : (pc : Int) + off = (t : Int)) (hc : ¬ (y ≤ x)) (kk : XE B M Q n ls (st) cs shs hs k o) : XE B M Q pc ls (.int y :: .int x :: st) cs shs hs k o := by
  subst hn
  obtain ⟨p, l, e, Rm, s, m, args, below, meth, c, D, cc, A, H0, ad0, shs0⟩ := B
  intro hO ad H locs lsA hP hD hS hA hL r hr
  exact lv_icmp_ge hO.1 hO.2.1 hd ht (fun h => absurd h hc) (fun _ => kk hO ad H locs lsA hP hD hS hA hL r hr)
theorem XE_if_gt {α R : Type} {B : XB} {M : XM} {Q : R → State → Prop} {pc n : Nat} {ls : XLs} {st : List Value} {cs : Nat × Nat} {shs : XSs} {hs : List Mem} {k : α → Option R} {t : Nat} {off : Int} {x : Int32} {o1 o2 : Option α} [inst : Decidable (0 < x)] (hd : decode M.2.1 pc = .ok (.ifCond .gt off, 3)) (hn : pc + 3 = n) (ht : (pc : Int) + off = (t : Int)) (kt : 0 < x → XE B M Q t ls (st) cs shs hs k o1) (kf : ¬ 0 < x → XE B M Q n ls (st) cs shs hs k o2) : XE B M Q pc ls (.int x :: st) cs shs hs k (if 0 < x then o1 else o2) := by
  subst hn
  obtain ⟨p, l, e, Rm, s, m, args, below, meth, c, D, cc, A, H0, ad0, shs0⟩ := B
  intro hO ad H locs lsA hP hD hS hA hL r hr
  exact lv_if_gt hO.1 hO.2.1 hd ht (fun h => kt h hO ad H locs lsA hP hD hS hA hL r (by rw [if_pos h] at hr; exact hr)) (fun h => kf h hO ad H locs lsA hP hD hS hA hL r (by rw [if_neg h] at hr; exact hr))
theorem XE_if_gt_T {α R : Type} {B : XB} {M : XM} {Q : R → State → Prop} {pc : Nat} {ls : XLs} {st : List Value} {cs : Nat × Nat} {shs : XSs} {hs : List Mem} {k : α → Option R} {o : Option α} {t : Nat} {off : Int} {x : Int32} (hd : decode M.2.1 pc = .ok (.ifCond .gt off, 3)) (ht : (pc : Int) + off = (t : Int)) (hc : (0 < x)) (kk : XE B M Q t ls (st) cs shs hs k o) : XE B M Q pc ls (.int x :: st) cs shs hs k o := by
  obtain ⟨p, l, e, Rm, s, m, args, below, meth, c, D, cc, A, H0, ad0, shs0⟩ := B
  intro hO ad H locs lsA hP hD hS hA hL r hr
  exact lv_if_gt hO.1 hO.2.1 hd ht (fun _ => kk hO ad H locs lsA hP hD hS hA hL r hr) (fun h => absurd hc h)
theorem XE_if_gt_F {α R : Type} {B : XB} {M : XM} {Q : R → State → Prop} {pc n : Nat} {ls : XLs} {st : List Value} {cs : Nat × Nat} {shs : XSs} {hs : List Mem} {k : α → Option R} {o : Option α} {t : Nat} {off : Int} {x : Int32} (hd : decode M.2.1 pc = .ok (.ifCond .gt off, 3)) (hn : pc + 3 = n) (ht : (pc : Int) + off = (t : Int)) (hc : ¬ (0 < x)) (kk : XE B M Q n ls (st) cs shs hs k o) : XE B M Q pc ls (.int x :: st) cs shs hs k o := by
  subst hn
  obtain ⟨p, l, e, Rm, s, m, args, below, meth, c, D, cc, A, H0, ad0, shs0⟩ := B
  intro hO ad H locs lsA hP hD hS hA hL r hr
  exact lv_if_gt hO.1 hO.2.1 hd ht (fun h => absurd h hc) (fun _ => kk hO ad H locs lsA hP hD hS hA hL r hr)
theorem XE_icmp_gt {α R : Type} {B : XB} {M : XM} {Q : R → State → Prop} {pc n : Nat} {ls : XLs} {st : List Value} {cs : Nat × Nat} {shs : XSs} {hs : List Mem} {k : α → Option R} {t : Nat} {off : Int} {x y : Int32} {o1 o2 : Option α} [inst : Decidable (y < x)] (hd : decode M.2.1 pc = .ok (.if_icmp .gt off, 3)) (hn : pc + 3 = n) (ht : (pc : Int) + off = (t : Int)) (kt : y < x → XE B M Q t ls (st) cs shs hs k o1) (kf : ¬ y < x → XE B M Q n ls (st) cs shs hs k o2) : XE B M Q pc ls (.int y :: .int x :: st) cs shs hs k (if y < x then o1 else o2) := by
  subst hn
  obtain ⟨p, l, e, Rm, s, m, args, below, meth, c, D, cc, A, H0, ad0, shs0⟩ := B
  intro hO ad H locs lsA hP hD hS hA hL r hr
  exact lv_icmp_gt hO.1 hO.2.1 hd ht (fun h => kt h hO ad H locs lsA hP hD hS hA hL r (by rw [if_pos h] at hr; exact hr)) (fun h => kf h hO ad H locs lsA hP hD hS hA hL r (by rw [if_neg h] at hr; exact hr))
theorem XE_icmp_gt_T {α R : Type} {B : XB} {M : XM} {Q : R → State → Prop} {pc : Nat} {ls : XLs} {st : List Value} {cs : Nat × Nat} {shs : XSs} {hs : List Mem} {k : α → Option R} {o : Option α} {t : Nat} {off : Int} {x y : Int32} (hd : decode M.2.1 pc = .ok (.if_icmp .gt off, 3)) (ht : (pc : Int) + off = (t : Int)) (hc : (y < x)) (kk : XE B M Q t ls (st) cs shs hs k o) : XE B M Q pc ls (.int y :: .int x :: st) cs shs hs k o := by
  obtain ⟨p, l, e, Rm, s, m, args, below, meth, c, D, cc, A, H0, ad0, shs0⟩ := B
  intro hO ad H locs lsA hP hD hS hA hL r hr
  exact lv_icmp_gt hO.1 hO.2.1 hd ht (fun _ => kk hO ad H locs lsA hP hD hS hA hL r hr) (fun h => absurd hc h)
theorem XE_icmp_gt_F {α R : Type} {B : XB} {M : XM} {Q : R → State → Prop} {pc n : Nat} {ls : XLs} {st : List Value} {cs : Nat × Nat} {shs : XSs} {hs : List Mem} {k : α → Option R} {o : Option α} {t : Nat} {off : Int} {x y : Int32} (hd : decode M.2.1 pc = .ok (.if_icmp .gt off, 3)) (hn : pc + 3 = n) (ht : (pc : Int) + off = (t : Int)) (hc : ¬ (y < x)) (kk : XE B M Q n ls (st) cs shs hs k o) : XE B M Q pc ls (.int y :: .int x :: st) cs shs hs k o := by
  subst hn
  obtain ⟨p, l, e, Rm, s, m, args, below, meth, c, D, cc, A, H0, ad0, shs0⟩ := B
  intro hO ad H locs lsA hP hD hS hA hL r hr
  exact lv_icmp_gt hO.1 hO.2.1 hd ht (fun h => absurd h hc) (fun _ => kk hO ad H locs lsA hP hD hS hA hL r hr)
theorem XE_if_le {α R : Type} {B : XB} {M : XM} {Q : R → State → Prop} {pc n : Nat} {ls : XLs} {st : List Value} {cs : Nat × Nat} {shs : XSs} {hs : List Mem} {k : α → Option R} {t : Nat} {off : Int} {x : Int32} {o1 o2 : Option α} [inst : Decidable (x ≤ 0)] (hd : decode M.2.1 pc = .ok (.ifCond .le off, 3)) (hn : pc + 3 = n) (ht : (pc : Int) + off = (t : Int)) (kt : x ≤ 0 → XE B M Q t ls (st) cs shs hs k o1) (kf : ¬ x ≤ 0 → XE B M Q n ls (st) cs shs hs k o2) : XE B M Q pc ls (.int x :: st) cs shs hs k (if x ≤ 0 then o1 else o2) := by
  subst hn
  obtain ⟨p, l, e, Rm, s, m, args, below, meth, c, D, cc, A, H0, ad0, shs0⟩ := B
  intro hO ad H locs lsA hP hD hS hA hL r hr
  exact lv_if_le hO.1 hO.2.1 hd ht (fun h => kt h hO ad H locs lsA hP hD hS hA hL r (by rw [if_pos h] at hr; exact hr)) (fun h => kf h hO ad H locs lsA hP hD hS hA hL r (by rw [if_neg h] at hr; exact hr))
theorem XE_if_le_T {α R : Type} {B : XB} {M : XM} {Q : R → State → Prop} {pc : Nat} {ls : XLs} {st : List Value} {cs : Nat × Nat} {shs : XSs} {hs : List Mem} {k : α → Option R} {o : Option α} {t : Nat} {off : Int} {x : Int32} (hd : decode M.2.1 pc = .ok (.ifCond .le off, 3)) (ht : (pc : Int) + off = (t : Int)) (hc : (x ≤ 0)) (kk : XE B M Q t ls (st) cs shs hs k o) : XE B M Q pc ls (.int x :: st) cs shs hs k o := by
  obtain ⟨p, l, e, Rm, s, m, args, below, meth, c, D, cc, A, H0, ad0, shs0⟩ := B
  intro hO ad H locs lsA hP hD hS hA hL r hr
  exact lv_if_le hO.1 hO.2.1 hd ht (fun _ => kk hO ad H locs lsA hP hD hS hA hL r hr) (fun h => absurd hc h)
theorem XE_if_le_F {α R : Type} {B : XB} {M : XM} {Q : R → State → Prop} {pc n : Nat} {ls : XLs} {st : List Value} {cs : Nat × Nat} {shs : XSs} {hs : List Mem} {k : α → Option R} {o : Option α} {t : Nat} {off : Int} {x : Int32} (hd : decode M.2.1 pc = .ok (.ifCond .le off, 3)) (hn : pc + 3 = n) (ht : (pc : Int) + off = (t : Int)) (hc : ¬ (x ≤ 0)) (kk : XE B M Q n ls (st) cs shs hs k o) : XE B M Q pc ls (.int x :: st) cs shs hs k o := by
  subst hn
  obtain ⟨p, l, e, Rm, s, m, args, below, meth, c, D, cc, A, H0, ad0, shs0⟩ := B
  intro hO ad H locs lsA hP hD hS hA hL r hr
  exact lv_if_le hO.1 hO.2.1 hd ht (fun h => absurd h hc) (fun _ => kk hO ad H locs lsA hP hD hS hA hL r hr)
theorem XE_icmp_le {α R : Type} {B : XB} {M : XM} {Q : R → State → Prop} {pc n : Nat} {ls : XLs} {st : List Value} {cs : Nat × Nat} {shs : XSs} {hs : List Mem} {k : α → Option R} {t : Nat} {off : Int} {x y : Int32} {o1 o2 : Option α} [inst : Decidable (x ≤ y)] (hd : decode M.2.1 pc = .ok (.if_icmp .le off, 3)) (hn : pc + 3 = n) (ht : (pc : Int) + off = (t : Int)) (kt : x ≤ y → XE B M Q t ls (st) cs shs hs k o1) (kf : ¬ x ≤ y → XE B M Q n ls (st) cs shs hs k o2) : XE B M Q pc ls (.int y :: .int x :: st) cs shs hs k (if x ≤ y then o1 else o2) := by
  subst hn
  obtain ⟨p, l, e, Rm, s, m, args, below, meth, c, D, cc, A, H0, ad0, shs0⟩ := B
  intro hO ad H locs lsA hP hD hS hA hL r hr
  exact lv_icmp_le hO.1 hO.2.1 hd ht (fun h => kt h hO ad H locs lsA hP hD hS hA hL r (by rw [if_pos h] at hr; exact hr)) (fun h => kf h hO ad H locs lsA hP hD hS hA hL r (by rw [if_neg h] at hr; exact hr))
theorem XE_icmp_le_T {α R : Type} {B : XB} {M : XM} {Q : R → State → Prop} {pc : Nat} {ls : XLs} {st : List Value} {cs : Nat × Nat} {shs : XSs} {hs : List Mem} {k : α → Option R} {o : Option α} {t : Nat} {off : Int} {x y : Int32} (hd : decode M.2.1 pc = .ok (.if_icmp .le off, 3)) (ht : (pc : Int) + off = (t : Int)) (hc : (x ≤ y)) (kk : XE B M Q t ls (st) cs shs hs k o) : XE B M Q pc ls (.int y :: .int x :: st) cs shs hs k o := by
  obtain ⟨p, l, e, Rm, s, m, args, below, meth, c, D, cc, A, H0, ad0, shs0⟩ := B
  intro hO ad H locs lsA hP hD hS hA hL r hr
  exact lv_icmp_le hO.1 hO.2.1 hd ht (fun _ => kk hO ad H locs lsA hP hD hS hA hL r hr) (fun h => absurd hc h)
theorem XE_icmp_le_F {α R : Type} {B : XB} {M : XM} {Q : R → State → Prop} {pc n : Nat} {ls : XLs} {st : List Value} {cs : Nat × Nat} {shs : XSs} {hs : List Mem} {k : α → Option R} {o : Option α} {t : Nat} {off : Int} {x y : Int32} (hd : decode M.2.1 pc = .ok (.if_icmp .le off, 3)) (hn : pc + 3 = n) (ht : (pc : Int) + off = (t : Int)) (hc : ¬ (x ≤ y)) (kk : XE B M Q n ls (st) cs shs hs k o) : XE B M Q pc ls (.int y :: .int x :: st) cs shs hs k o := by
  subst hn
  obtain ⟨p, l, e, Rm, s, m, args, below, meth, c, D, cc, A, H0, ad0, shs0⟩ := B
  intro hO ad H locs lsA hP hD hS hA hL r hr
  exact lv_icmp_le hO.1 hO.2.1 hd ht (fun h => absurd h hc) (fun _ => kk hO ad H locs lsA hP hD hS hA hL r hr)
theorem XE_goto {α R : Type} {B : XB} {M : XM} {Q : R → State → Prop} {pc n : Nat} {ls : XLs} {st : List Value} {cs : Nat × Nat} {shs : XSs} {hs : List Mem} {k : α → Option R} {o : Option α} {off : Int} (hd : decode M.2.1 pc = .ok (.goto off, 3)) (ht : (pc : Int) + off = (n : Int)) (kk : XE B M Q n ls (st) cs shs hs k o) : XE B M Q pc ls (st) cs shs hs k o := by
  obtain ⟨p, l, e, Rm, s, m, args, below, meth, c, D, cc, A, H0, ad0, shs0⟩ := B
  intro hO ad H locs lsA hP hD hS hA hL r hr
  exact lv_goto hO.1 hO.2.1 hd ht (kk hO ad H locs lsA hP hD hS hA hL r hr)
