/-! PURE: the law of takes, told by its codes: frames with what is pending -/
theorem nidx {d N : Nat} (h : d < N) (hN : N < 2147483648) : ¬ (ii d < 0 ∨ N ≤ (ii d).toNatClampNeg) := by
  rw [ii_nneg (by omega), ii_nat (by omega)]
  simp
  omega
abbrev VV := (Nat → Int32) → Int32
abbrev Fm := Bool × Option (Nat × VV) × Option (Nat × VV) × Option (Nat × VV) × Option VV
def tmV (m : Option VV) (v : VV) : VV := match m with
  | none => v
  | some a => fun x => a x * v x
def smV (s : Option (Nat × VV)) (t : VV) : VV := match s with
  | none => t
  | some p => fun x => if p.1 = 21 then p.2 x - t x else p.2 x + t x
def cmV (c : Option (Nat × VV)) (t : VV) : VV := match c with
  | none => t
  | some p => fun x => if p.1 = 24 then (if p.2 x < t x then 1 else 0) else (if p.2 x = t x then 1 else 0)
def kpV (k : Option (Nat × VV)) (t : VV) : VV := match k with
  | none => t
  | some p => fun x => if p.1 = 26 then (if p.2 x = 0 then 0 else if t x = 0 then 0 else 1) else (if p.2 x = 0 then (if t x = 0 then 0 else 1) else 1)
def fvV (f : Fm) (v : VV) : VV := kpV f.2.1 (cmV f.2.2.1 (smV f.2.2.2.1 (tmV f.2.2.2.2 v)))
def ntV (v : VV) : VV := fun x => if v x = 0 then 1 else 0
def clN : List Fm → VV → List Fm × VV
  | [], v => ([], v)
  | f :: fs, v => if f.1 = true then clN fs (ntV v) else (f :: fs, v)
def vcV (c : Nat) : VV := if 100 ≤ c then fun _ => ii (c - 100) else fun x => x c
/-- a code read -/
def sy (st : List Fm × Option VV) (c : Nat) : List Fm × Option VV := match st with
  | ([], cur) => ([], cur)
  | (f :: fs, none) => if c = 28 then ((false, none, none, none, none) :: f :: fs, none) else if c = 30 then ((true, none, none, none, none) :: f :: fs, none) else ((clN (f :: fs) (vcV c)).1, some (clN (f :: fs) (vcV c)).2)
  | (f :: fs, some v) => if c = 20 ∨ c = 21 then ((f.1, f.2.1, f.2.2.1, some (c, smV f.2.2.2.1 (tmV f.2.2.2.2 v)), none) :: fs, none) else if c = 22 then ((f.1, f.2.1, f.2.2.1, f.2.2.2.1, some (tmV f.2.2.2.2 v)) :: fs, none) else if c = 24 ∨ c = 25 then ((f.1, f.2.1, some (c, smV f.2.2.2.1 (tmV f.2.2.2.2 v)), none, none) :: fs, none) else if c = 26 ∨ c = 27 then ((f.1, some (c, fvV f v), none, none, none) :: fs, none) else ((clN fs (fvV f v)).1, some (clN fs (fvV f v)).2)
def st0 : List Fm × Option VV := ([(false, none, none, none, none)], none)
def stC (C : List Nat) : List Fm × Option VV := C.foldl sy st0
/-- the signs that may come -/
def wfC (st : List Fm × Option VV) (c : Nat) : Prop := match st with
  | ([], _) => False
  | (f :: fs, none) => ((c = 28 ∨ c = 30) ∧ fs.length ≤ 4) ∨ (1 ≤ c ∧ c ≤ 4) ∨ (100 ≤ c ∧ c ≤ 10099)
  | (f :: fs, some _) => c = 20 ∨ c = 21 ∨ c = 22 ∨ ((c = 24 ∨ c = 25) ∧ f.2.2.1 = none) ∨ c = 26 ∨ c = 27 ∨ (c = 29 ∧ fs ≠ [])
def lgF : List Fm × Option VV → List Nat → Prop
  | _, [] => True
  | st, c :: D => wfC st c ∧ lgF (sy st c) D
def lgC (C : List Nat) : Prop := lgF st0 C
/-- frames: which signs are pending -/
def okF (f : Fm) : Prop := (∀ p, f.2.1 = some p → p.1 = 26 ∨ p.1 = 27) ∧ (∀ p, f.2.2.1 = some p → p.1 = 24 ∨ p.1 = 25) ∧ (∀ p, f.2.2.2.1 = some p → p.1 = 20 ∨ p.1 = 21) ∧ (f.1 = true → f.2 = (none, none, none, none))
def okFs : List Fm → Prop
  | [] => False
  | [f] => okF f ∧ f.1 = false
  | f :: g :: fs => okF f ∧ okFs (g :: fs)
def okSt (st : List Fm × Option VV) : Prop := okFs st.1 ∧ st.1.length ≤ 6 ∧ (∀ f fs v, st = (f :: fs, some v) → f.1 = false)
theorem okFs_tail {f g : Fm} {fs : List Fm} (h : okFs (f :: g :: fs)) : okFs (g :: fs) := h.2
theorem okFs_head {f : Fm} {fs : List Fm} (h : okFs (f :: fs)) : okF f := by
  cases fs with
  | nil => exact h.1
  | cons g fs => exact h.1
theorem okFs_set {f f' : Fm} {fs : List Fm} (h : okFs (f :: fs)) (h' : okF f') (hb : f'.1 = f.1) : okFs (f' :: fs) := by
  cases fs with
  | nil => exact ⟨h', (by rw [hb]; exact h.2)⟩
  | cons g fs => exact ⟨h', h.2⟩
theorem okF_new (b : Bool) : okF (b, none, none, none, none) := ⟨fun p h => (by cases h), fun p h => (by cases h), fun p h => (by cases h), fun _ => rfl⟩
theorem clN_ok : ∀ {fs : List Fm} {v : VV}, okFs fs → okFs (clN fs v).1 ∧ (clN fs v).1.length ≤ fs.length ∧ ∃ g gs, (clN fs v).1 = g :: gs ∧ g.1 = false := by
  intro fs
  induction fs with
  | nil => intro v h; exact absurd h id
  | cons f fs ih =>
    intro v h
    unfold clN
    by_cases hf : f.1 = true
    · rw [if_pos hf]
      cases fs with
      | nil =>
        exfalso
        have := h.2
        rw [hf] at this
        cases this
      | cons g fs =>
        obtain ⟨h1, h2, h3⟩ := ih (v := ntV v) h.2
        exact ⟨h1, by simp at h2 ⊢; omega, h3⟩
    · rw [if_neg hf]
      refine ⟨h, Nat.le_refl _, f, fs, rfl, ?_⟩
      cases hb : f.1
      · rfl
      · exact absurd hb hf
theorem sy_ok {st : List Fm × Option VV} {c : Nat} (h : okSt st) (hw : wfC st c) : okSt (sy st c) := by
  obtain ⟨fs, cur⟩ := st
  obtain ⟨h1, h2, h3⟩ := h
  cases fs with
  | nil => exact absurd hw id
  | cons f fs =>
    have hf := okFs_head h1
    cases cur with
    | none =>
      unfold sy
      have hw' : ((c = 28 ∨ c = 30) ∧ fs.length ≤ 4) ∨ (1 ≤ c ∧ c ≤ 4) ∨ (100 ≤ c ∧ c ≤ 10099) := hw
      by_cases c1 : c = 28
      · simp only [c1, if_true]
        exact ⟨⟨okF_new _, h1⟩, by simp; omega, fun f fs v h => (by cases h)⟩
      · by_cases c2 : c = 30
        · simp only [c2]
          exact ⟨⟨okF_new _, h1⟩, by simp; omega, fun f fs v h => (by cases h)⟩
        · simp only [c1, c2, if_false]
          obtain ⟨k1, k2, g, gs, k3, k4⟩ := clN_ok (v := vcV c) h1
          refine ⟨k1, Nat.le_trans k2 h2, fun f9 fs9 v9 h9 => ?_⟩
          have h10 : (clN (f :: fs) (vcV c)).1 = f9 :: fs9 := congrArg Prod.fst h9
          rw [k3] at h10
          cases h10
          exact k4
    | some v =>
      have hb := h3 f fs v rfl
      have hw' : c = 20 ∨ c = 21 ∨ c = 22 ∨ ((c = 24 ∨ c = 25) ∧ f.2.2.1 = none) ∨ c = 26 ∨ c = 27 ∨ (c = 29 ∧ fs ≠ []) := hw
      unfold sy
      by_cases c1 : c = 20 ∨ c = 21
      · simp only [c1, if_true]
        exact ⟨okFs_set h1 ⟨hf.1, hf.2.1, fun p hp => (by cases hp; exact c1), fun h => absurd (hb.symm.trans h) (by decide)⟩ rfl, h2, fun f fs v h => (by cases h)⟩
      · by_cases c2 : c = 22
        · simp only [c1, c2, if_true, if_false]
          exact ⟨okFs_set h1 ⟨hf.1, hf.2.1, hf.2.2.1, fun h => absurd (hb.symm.trans h) (by decide)⟩ rfl, h2, fun f fs v h => (by cases h)⟩
        · by_cases c3 : c = 24 ∨ c = 25
          · simp only [c1, c2, c3, if_true, if_false]
            exact ⟨okFs_set h1 ⟨hf.1, fun p hp => (by cases hp; exact c3), fun p hp => (by cases hp), fun h => absurd (hb.symm.trans h) (by decide)⟩ rfl, h2, fun f fs v h => (by cases h)⟩
          · by_cases c4 : c = 26 ∨ c = 27
            · simp only [c1, c2, c3, c4, if_true, if_false]
              exact ⟨okFs_set h1 ⟨fun p hp => (by cases hp; exact c4), fun p hp => (by cases hp), fun p hp => (by cases hp), fun h => absurd (hb.symm.trans h) (by decide)⟩ rfl, h2, fun f fs v h => (by cases h)⟩
            · simp only [c1, c2, c3, c4, if_false]
              cases fs with
              | nil =>
                exfalso
                rcases hw' with h | h | h | h | h | h | h
                · exact c1 (Or.inl h)
                · exact c1 (Or.inr h)
                · exact c2 h
                · exact c3 h.1
                · exact c4 (Or.inl h)
                · exact c4 (Or.inr h)
                · exact h.2 rfl
              | cons g gs =>
                obtain ⟨k1, k2, g9, gs9, k3, k4⟩ := clN_ok (v := fvV f v) h1.2
                refine ⟨k1, ?_, fun f9 fs9 v9 h9 => ?_⟩
                · simp at h2 k2 ⊢
                  omega
                · have h10 : (clN (g :: gs) (fvV f v)).1 = f9 :: fs9 := congrArg Prod.fst h9
                  rw [k3] at h10
                  cases h10
                  exact k4
theorem stC_snoc (C : List Nat) (c : Nat) : stC (C ++ [c]) = sy (stC C) c := by
  unfold stC
  rw [List.foldl_append]
  rfl
theorem st0_ok : okSt st0 := ⟨⟨okF_new _, rfl⟩, by decide, fun f fs v h => (by cases h)⟩
theorem lgF_ok : ∀ {D : List Nat} {st : List Fm × Option VV}, okSt st → lgF st D → okSt (D.foldl sy st)
  | [], _, h, _ => h
  | c :: D, st, h, hl => lgF_ok (D := D) (st := sy st c) (sy_ok h hl.1) hl.2
theorem stC_ok {C : List Nat} (hl : lgC C) : okSt (stC C) := lgF_ok st0_ok hl
theorem lgF_snoc {c : Nat} : ∀ {D : List Nat} {st : List Fm × Option VV}, lgF st D → wfC (D.foldl sy st) c → lgF st (D ++ [c])
  | [], _, _, h => ⟨h, trivial⟩
  | c9 :: D, st, hl, h => ⟨hl.1, lgF_snoc (D := D) (st := sy st c9) hl.2 h⟩
theorem lgC_snoc {C : List Nat} {c : Nat} (hl : lgC C) (hw : wfC (stC C) c) : lgC (C ++ [c]) := lgF_snoc hl hw
/-- the worth of a whole law -/
def wC (C : List Nat) : VV := match stC C with
  | ([f], some v) => fvV f v
  | _ => fun _ => 0
