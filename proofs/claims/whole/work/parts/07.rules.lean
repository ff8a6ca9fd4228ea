/-! MORE RULES -/
theorem XE_topi {α R : Type} {B : XB} {M : XM} {Q : R → State → Prop} {pc : Nat} {ls : XLs} {st : List Value} {cs : Nat × Nat} {shs : XSs} {hs : List Mem} {k : α → Option R} {x : Int32} {f : Int32 → Option α} (kk : ∀ v, XE B M Q pc ls (.int v :: st) cs shs hs k (f v)) : XE B M Q pc ls (.int x :: st) cs shs hs k (lt x f) := kk x
theorem XE_topl {α R : Type} {B : XB} {M : XM} {Q : R → State → Prop} {pc : Nat} {ls : XLs} {st : List Value} {cs : Nat × Nat} {shs : XSs} {hs : List Mem} {k : α → Option R} {x : Int64} {f : Int64 → Option α} (kk : ∀ v, XE B M Q pc ls (.long v :: st) cs shs hs k (f v)) : XE B M Q pc ls (.long x :: st) cs shs hs k (lt x f) := kk x
theorem XE_iincl {α R : Type} {B : XB} {M : XM} {Q : R → State → Prop} {pc n : Nat} {ls : XLs} {st : List Value} {cs : Nat × Nat} {shs : XSs} {hs : List Mem} {k : α → Option R} {i : Nat} {z : Int} {x y : Int32} {f : Int32 → Option α} (hd : decode M.2.1 pc = .ok (.iinc i z, 3)) (hn : pc + 3 = n) (hl : xlk ls i = some (.int x)) (hz : Int32.ofInt z = y) (hb : i < M.2.2.1) (hq : x_nl ls i = true) (kk : ∀ v, XE B M Q n ((i, some (.int v)) :: ls) (st) cs shs hs k (f v)) : XE B M Q pc ls (st) cs shs hs k (lt (x + y) f) := XE_iinc hd hn hl (by rw [hz]) hb hq (kk _)
theorem XE_reg {α R : Type} {B : XB} {M : XM} {Q : R → State → Prop} {pc : Nat} {ls : XLs} {st : List Value} {cs : Nat × Nat} {shs : XSs} {hs : List Mem} {k : α → Option R} {τ : Type} {f : τ → Option α} {o1 : Option τ} {J : Nat} {lsJ : τ → XLs} {stJ : τ → List Value} {hsJ : τ → List Mem} (hJ : ∀ t, XE B M Q J (lsJ t) (stJ t) cs shs (hsJ t) k (f t)) (h1 : (∀ t, XE B M Q J (lsJ t) (stJ t) cs shs (hsJ t) (fun t => (f t).bind k) (some t)) → XE B M Q pc ls st cs shs hs (fun t => (f t).bind k) o1) : XE B M Q pc ls (st) cs shs hs k (o1.bind f) := XE_bind (h1 (fun t => XE_leaf (hJ t)))
theorem XE_regv {α R : Type} {B : XB} {M : XM} {Q : R → State → Prop} {pc : Nat} {ls : XLs} {st : List Value} {cs : Nat × Nat} {shs : XSs} {hs : List Mem} {k : α → Option R} {τ : Type} {f : τ → Option α} {x : τ} {J : Nat} {lsJ : τ → XLs} {stJ : τ → List Value} {hsJ : τ → List Mem} (hJ : ∀ t, XE B M Q J (lsJ t) (stJ t) cs shs (hsJ t) k (f t)) (h1 : (∀ t, XE B M Q J (lsJ t) (stJ t) cs shs (hsJ t) k (lt t f)) → XE B M Q pc ls (st) cs shs hs k (lt x f)) : XE B M Q pc ls (st) cs shs hs k (lt x f) := h1 (fun t => hJ t)
theorem XE_ltif {α R : Type} {B : XB} {M : XM} {Q : R → State → Prop} {pc : Nat} {ls : XLs} {st : List Value} {cs : Nat × Nat} {shs : XSs} {hs : List Mem} {k : α → Option R} {τ : Type} {f : τ → Option α} {P : Prop} [inst : Decidable P] {a b : τ} (kk : XE B M Q pc ls (st) cs shs hs k (if P then lt a f else lt b f)) : XE B M Q pc ls (st) cs shs hs k (lt (if P then a else b) f) := by
  by_cases h : P
  · rw [if_pos h] at kk ⊢; exact kk
  · rw [if_neg h] at kk ⊢; exact kk
theorem XE_tsw {α R : Type} {B : XB} {M : XM} {Q : R → State → Prop} {pc : Nat} {ls : XLs} {st : List Value} {cs : Nat × Nat} {shs : XSs} {hs : List Mem} {k : α → Option R} {dflt lo hi off : Int} {offs : Array Int} {len t : Nat} {x c : Int32} {o1 o2 : Option α} (hd : decode M.2.1 pc = .ok (.tableswitch dflt lo hi offs, len)) (h1 : ¬ c.toInt < lo) (h2 : ¬ hi < c.toInt) (ho : offs[(c.toInt - lo).toNat]? = some off) (ht : (pc : Int) + off = (t : Int)) (kk : XE B M Q t ls (st) cs shs hs k (o1)) (k2 : ¬ x = c → XE B M Q pc ls (.int x :: st) cs shs hs k (o2)) : XE B M Q pc ls (.int x :: st) cs shs hs k (if x = c then o1 else o2) := by
  refine XE_if (fun h => ?_) (fun h => k2 h)
  subst h
  obtain ⟨p, l, e, Rm, s, m, args, below, meth, c, D, cc, A, H0, ad0, shs0⟩ := B
  intro hO ad H locs lsA hP hD hS hA hL r hr
  exact lv_tableIn hO.1 hO.2.1 hd h1 h2 ho ht (kk hO ad H locs lsA hP hD hS hA hL r hr)
theorem XE_tswd {α R : Type} {B : XB} {M : XM} {Q : R → State → Prop} {pc : Nat} {ls : XLs} {st : List Value} {cs : Nat × Nat} {shs : XSs} {hs : List Mem} {k : α → Option R} {o : Option α} {dflt lo hi : Int} {offs : Array Int} {len t : Nat} {x : Int32} (hd : decode M.2.1 pc = .ok (.tableswitch dflt lo hi offs, len)) (h : x.toInt < lo ∨ hi < x.toInt) (ht : (pc : Int) + dflt = (t : Int)) (kk : XE B M Q t ls (st) cs shs hs k o) : XE B M Q pc ls (.int x :: st) cs shs hs k o := by
  obtain ⟨p, l, e, Rm, s, m, args, below, meth, c, D, cc, A, H0, ad0, shs0⟩ := B
  intro hO ad H locs lsA hP hD hS hA hL r hr
  exact lv_tableOut hO.1 hO.2.1 hd h ht (kk hO ad H locs lsA hP hD hS hA hL r hr)
theorem XE_lsw {α R : Type} {B : XB} {M : XM} {Q : R → State → Prop} {pc : Nat} {ls : XLs} {st : List Value} {cs : Nat × Nat} {shs : XSs} {hs : List Mem} {k : α → Option R} {dflt off : Int} {ps : Array (Int × Int)} {len t : Nat} {x c : Int32} {o1 o2 : Option α} (hd : decode M.2.1 pc = .ok (.lookupswitch dflt ps, len)) (hp : (ps.toList.zip (ps.toList.drop 1)).all (fun (a, next) => a.1 < next.1) = true) (ho : Op.lookupswitch.offset ps.toList dflt c.toInt = off) (ht : (pc : Int) + off = (t : Int)) (kk : XE B M Q t ls (st) cs shs hs k (o1)) (k2 : ¬ x = c → XE B M Q pc ls (.int x :: st) cs shs hs k (o2)) : XE B M Q pc ls (.int x :: st) cs shs hs k (if x = c then o1 else o2) := by
  refine XE_if (fun h => ?_) (fun h => k2 h)
  subst h
  obtain ⟨p, l, e, Rm, s, m, args, below, meth, c, D, cc, A, H0, ad0, shs0⟩ := B
  intro hO ad H locs lsA hP hD hS hA hL r hr
  exact lv_lookup hO.1 hO.2.1 hd hp ho ht (kk hO ad H locs lsA hP hD hS hA hL r hr)
theorem XE_lswd {α R : Type} {B : XB} {M : XM} {Q : R → State → Prop} {pc : Nat} {ls : XLs} {st : List Value} {cs : Nat × Nat} {shs : XSs} {hs : List Mem} {k : α → Option R} {o : Option α} {dflt off : Int} {ps : Array (Int × Int)} {len t : Nat} {x : Int32} (hd : decode M.2.1 pc = .ok (.lookupswitch dflt ps, len)) (hp : (ps.toList.zip (ps.toList.drop 1)).all (fun (a, next) => a.1 < next.1) = true) (ho : Op.lookupswitch.offset ps.toList dflt x.toInt = off) (ht : (pc : Int) + off = (t : Int)) (kk : XE B M Q t ls (st) cs shs hs k o) : XE B M Q pc ls (.int x :: st) cs shs hs k o := by
  obtain ⟨p, l, e, Rm, s, m, args, below, meth, c, D, cc, A, H0, ad0, shs0⟩ := B
  intro hO ad H locs lsA hP hD hS hA hL r hr
  exact lv_lookup hO.1 hO.2.1 hd hp ho ht (kk hO ad H locs lsA hP hD hS hA hL r hr)
theorem x_ne {x c : Int32} (h : ¬ x = c) {z : Int} (hz : c.toInt = z) : x.toInt ≠ z := fun e => h (Int32.toInt_inj.mp (e.trans hz.symm))
theorem x_pl {π : List Nat} {n : Nat} (h : π.all (fun g => decide (g < n)) = true) : ∀ g ∈ π, g < n := fun g hg => by
  have := List.all_eq_true.mp h g hg
  exact of_decide_eq_true this
