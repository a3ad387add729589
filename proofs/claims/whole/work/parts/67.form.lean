/-! PURE: the form of a pile: what it says, and the reference's road to it -/
/-- a tie that nothing in front of it holds back -/
def fre (mk : Nat → Nat) (A : List Nat) (t : Nat) : Prop := ∀ y ∈ A, y / 2 ≠ t / 2 ∧ (mk (t / 2)).testBit (y / 2) = false
/-- the one of least folk among those -/
def bst (mk : Nat → Nat) (A : List Nat) (t : Nat) (B : List Nat) : Prop := fre mk A t ∧ ∀ A' t' B', A ++ t :: B = A' ++ t' :: B' → fre mk A' t' → t / 2 ≤ t' / 2
/-- bundles (tie, how many): what is written -/
def FM (mk : Nat → Nat) : Nat → List (Nat × Nat) → List Nat → Prop
  | 0, V, O => V = [] ∧ O = []
  | k + 1, V, O => ∃ A t m B O', V = A ++ (t, m) :: B ∧ bst mk (A.map Prod.fst) t (B.map Prod.fst) ∧ O = List.replicate m t ++ O' ∧ FM mk k (A ++ B) O'
theorem least_of (P : Nat → Prop) : ∀ n, P n → ∃ t, P t ∧ ∀ s, P s → t ≤ s := by
  intro n
  induction n using Nat.strongRecOn with
  | ind n ih =>
    intro h
    by_cases h1 : ∃ s, P s ∧ s < n
    · obtain ⟨s, h2, h3⟩ := h1
      exact ih s h3 h2
    · refine ⟨n, h, fun s hs => ?_⟩
      apply Nat.le_of_not_lt
      intro h3
      exact h1 ⟨s, hs, h3⟩
theorem bst_ex {mk : Nat → Nat} {H : List Nat} (h : H ≠ []) : ∃ A t B, H = A ++ t :: B ∧ bst mk A t B := by
  cases H with
  | nil => exact absurd rfl h
  | cons t0 H =>
    obtain ⟨f, ⟨A, t, B, e, hf, hfr⟩, hl⟩ := least_of (fun f => ∃ A t B, t0 :: H = A ++ t :: B ∧ t / 2 = f ∧ fre mk A t) (t0 / 2) ⟨[], t0, H, rfl, rfl, fun y hy => absurd hy List.not_mem_nil⟩
    refine ⟨A, t, B, e, hfr, fun A' t' B' e' h' => ?_⟩
    rw [hf]
    exact hl _ ⟨A', t', B', e.trans e', rfl, h'⟩
theorem map_split {V : List (Nat × Nat)} {A : List Nat} {t : Nat} {B : List Nat} (h : V.map Prod.fst = A ++ t :: B) : ∃ A' m B', V = A' ++ (t, m) :: B' ∧ A'.map Prod.fst = A ∧ B'.map Prod.fst = B := by
  obtain ⟨V1, V2, e, e1, e2⟩ := List.map_eq_append_iff.mp h
  obtain ⟨x, V3, e3, e4, e5⟩ := List.map_eq_cons_iff.mp e2
  refine ⟨V1, x.2, V3, ?_, e1, e5⟩
  rw [e, e3, ← e4]
theorem FM_ex {mk : Nat → Nat} : ∀ (k : Nat) (V : List (Nat × Nat)), V.length = k → ∃ O, FM mk k V O
  | 0, V, h => ⟨[], List.eq_nil_of_length_eq_zero h, rfl⟩
  | k + 1, V, h => by
    obtain ⟨A, t, B, e, hb⟩ := bst_ex (mk := mk) (H := V.map Prod.fst) (by
      intro h1
      have := congrArg List.length h1
      simp at this
      rw [this] at h
      simp at h)
    obtain ⟨A', m, B', e2, e3, e4⟩ := map_split e
    obtain ⟨O, hO⟩ := FM_ex (mk := mk) k (A' ++ B') (by rw [e2] at h; simp at h ⊢; omega)
    exact ⟨List.replicate m t ++ O, A', t, m, B', O, e2, by rw [e3, e4]; exact hb, rfl, hO⟩
theorem bst_strict {mk : Nat → Nat} {A B A' B' : List Nat} {t t' : Nat} (h : bst mk A t B) (e : A ++ t :: B = A' ++ t' :: B') (h' : fre mk A' t') : (A' = A ∧ t' = t ∧ B' = B) ∨ t / 2 < t' / 2 := by
  have hle := h.2 A' t' B' e h'
  by_cases hq : t / 2 = t' / 2
  · left
    rcases List.append_eq_append_iff.mp e with ⟨s, e1, e2⟩ | ⟨s, e1, e2⟩
    · cases s with
      | nil =>
        simp at e1 e2
        exact ⟨e1, e2.1.symm, e2.2.symm⟩
      | cons y s =>
        simp at e2
        have := (h' y (by rw [e1]; simp)).1
        rw [← e2.1] at this
        exact absurd hq this
    · cases s with
      | nil =>
        simp at e1 e2
        exact ⟨e1.symm, e2.1, e2.2⟩
      | cons y s =>
        simp at e2
        have := (h.1 y (by rw [e1]; simp)).1
        rw [← e2.1] at this
        exact absurd hq.symm this
  · right
    omega
/-- all ties, bundle after bundle -/
def flat (V : List (Nat × Nat)) : List Nat := V.flatMap (fun x => List.replicate x.2 x.1)
theorem flat_cons (x : Nat × Nat) (V : List (Nat × Nat)) : flat (x :: V) = List.replicate x.2 x.1 ++ flat V := rfl
theorem flat_app (V W : List (Nat × Nat)) : flat (V ++ W) = flat V ++ flat W := by unfold flat; rw [List.flatMap_append]
/-- nothing in front of place j holds it back -/
def freI (mk : Nat → Nat) (T : List Nat) (j : Nat) : Prop := ∀ i, i < j → T.getD i 0 / 2 ≠ T.getD j 0 / 2 ∧ (mk (T.getD j 0 / 2)).testBit (T.getD i 0 / 2) = false
theorem getD_app1 {A B : List Nat} {i : Nat} (h : i < A.length) : (A ++ B).getD i 0 = A.getD i 0 := by
  simp only [List.getD_eq_getElem?_getD]
  rw [List.getElem?_append_left h]
theorem getD_app2 {A B : List Nat} {i : Nat} (h : A.length ≤ i) : (A ++ B).getD i 0 = B.getD (i - A.length) 0 := by
  simp only [List.getD_eq_getElem?_getD]
  rw [List.getElem?_append_right h]
theorem getD_rep {m t i : Nat} (h : i < m) : (List.replicate m t).getD i 0 = t := by
  simp only [List.getD_eq_getElem?_getD]
  rw [List.getElem?_replicate, if_pos h]
  rfl
theorem fl_split {mk : Nat → Nat} : ∀ {V : List (Nat × Nat)} {j : Nat}, (∀ x ∈ V, 1 ≤ x.2) → j < (flat V).length → freI mk (flat V) j → ∃ A t m B, V = A ++ (t, m) :: B ∧ (flat V).getD j 0 = t ∧ j = (flat A).length ∧ fre mk (A.map Prod.fst) t
  | [], j, _, h, _ => absurd h (by simp [flat])
  | (t0, m0) :: V, j, hm, hj, hf => by
    have h1 : 1 ≤ m0 := hm (t0, m0) List.mem_cons_self
    rw [flat_cons] at hj hf ⊢
    have hl : (List.replicate m0 t0).length = m0 := List.length_replicate
    by_cases hjm : j < m0
    · have ej : (List.replicate m0 t0 ++ flat V).getD j 0 = t0 := by
        rw [getD_app1 (by rw [hl]; exact hjm), getD_rep hjm]
      have e0 : (List.replicate m0 t0 ++ flat V).getD 0 0 = t0 := by
        rw [getD_app1 (by rw [hl]; omega), getD_rep (by omega)]
      have hj0 : j = 0 := by
        by_cases h2 : j = 0
        · exact h2
        · have h3 := (hf 0 (by omega)).1
          simp only at h3
          rw [ej, e0] at h3
          exact absurd rfl h3
      refine ⟨[], t0, m0, V, rfl, ej, ?_, fun y hy => absurd hy List.not_mem_nil⟩
      rw [hj0]
      rfl
    · have hge : (List.replicate m0 t0).length ≤ j := by rw [hl]; omega
      have ej : (List.replicate m0 t0 ++ flat V).getD j 0 = (flat V).getD (j - m0) 0 := by rw [getD_app2 hge, hl]
      have h0 := hf 0 (by omega)
      have e0 : (List.replicate m0 t0 ++ flat V).getD 0 0 = t0 := by
        rw [getD_app1 (by rw [hl]; omega), getD_rep (by omega)]
      simp only at h0
      rw [ej, e0] at h0
      obtain ⟨A, t, m, B, e1, e2, e3, e4⟩ := fl_split (mk := mk) (V := V) (j := j - m0) (fun x hx => hm x (List.mem_cons_of_mem _ hx)) (by simp only [List.length_append] at hj; rw [List.length_replicate] at hj; omega) (fun i hi => by
        have h5 := hf (m0 + i) (by omega)
        simp only at h5
        rw [ej, getD_app2 (by rw [hl]; omega), hl, show m0 + i - m0 = i by omega] at h5
        exact h5)
      refine ⟨(t0, m0) :: A, t, m, B, by rw [e1]; rfl, by simp only; rw [ej, e2], ?_, ?_⟩
      · rw [flat_cons, List.length_append, ← e3]
        simp only
        rw [hl]
        omega
      · intro y hy
        rcases List.mem_cons.mp hy with h6 | h6
        · rw [h6, ← e2]
          exact h0
        · exact e4 y h6
theorem mem_flat {V : List (Nat × Nat)} {i : Nat} (h : i < (flat V).length) : (flat V).getD i 0 ∈ V.map Prod.fst := by
  have h1 : (flat V).getD i 0 ∈ flat V := rL_mem (a := fun _ => 0) h
  unfold flat at h1
  rw [List.mem_flatMap] at h1
  obtain ⟨x, hx, h2⟩ := h1
  have h3 : (flat V).getD i 0 = x.1 := (List.mem_replicate.mp h2).2
  rw [h3]
  exact List.mem_map.mpr ⟨x, hx, rfl⟩
theorem fl_free {mk : Nat → Nat} {A B : List (Nat × Nat)} {t m : Nat} (hm : 1 ≤ m) (h : fre mk (A.map Prod.fst) t) : (flat (A ++ (t, m) :: B)).getD (flat A).length 0 = t ∧ freI mk (flat (A ++ (t, m) :: B)) (flat A).length := by
  have e : (flat (A ++ (t, m) :: B)).getD (flat A).length 0 = t := by
    rw [flat_app, flat_cons, getD_app2 (Nat.le_refl _), Nat.sub_self, getD_app1 (by simp; omega), getD_rep (by omega)]
  refine ⟨e, fun i hi => ?_⟩
  rw [e, flat_app, getD_app1 hi]
  exact h _ (mem_flat hi)
/-- the place that the reference finds -/
theorem fl_best {mk : Nat → Nat} {A B : List (Nat × Nat)} {t m : Nat} (hm : ∀ x ∈ A ++ (t, m) :: B, 1 ≤ x.2) (h : bst mk (A.map Prod.fst) t (B.map Prod.fst)) {j : Nat} (hj : j < (flat (A ++ (t, m) :: B)).length) (hf : freI mk (flat (A ++ (t, m) :: B)) j) : j = (flat A).length ∨ t < (flat (A ++ (t, m) :: B)).getD j 0 := by
  obtain ⟨A', t', m', B', e1, e2, e3, e4⟩ := fl_split hm hj hf
  have e5 := congrArg (List.map Prod.fst) e1
  simp only [List.map_append, List.map_cons] at e5
  rcases bst_strict h e5 e4 with ⟨h1, h2, h3⟩ | h1
  · left
    have hl : A'.length = A.length := by
      have := congrArg List.length h1
      simpa using this
    have := List.append_inj_left e1 hl.symm
    rw [e3, this]
  · right
    rw [e2]
    omega
