/-! PURE: which of two comes first: coordinates of a row -/
def rc (f g : Nat) : List (Nat × Int) → Nat → Nat → Bool
  | [], _, _ => true
  | x :: X, i, j => if x.1 = f then (if i = 0 then true else rc f g X (i - 1) j) else if x.1 = g then (if j = 0 then false else rc f g X i (j - 1)) else rc f g X i j
theorem rc_f {f g : Nat} {x : Nat × Int} {X : List (Nat × Int)} {i j : Nat} (h : x.1 = f) : rc f g (x :: X) i j = if i = 0 then true else rc f g X (i - 1) j := if_pos h
theorem rc_g {f g : Nat} {x : Nat × Int} {X : List (Nat × Int)} {i j : Nat} (h1 : x.1 ≠ f) (h : x.1 = g) : rc f g (x :: X) i j = if j = 0 then false else rc f g X i (j - 1) := by
  show (if x.1 = f then _ else _) = _
  rw [if_neg h1, if_pos h]
theorem rc_o {f g : Nat} {x : Nat × Int} {X : List (Nat × Int)} {i j : Nat} (h1 : x.1 ≠ f) (h : x.1 ≠ g) : rc f g (x :: X) i j = rc f g X i j := by
  show (if x.1 = f then _ else _) = _
  rw [if_neg h1, if_neg h]
theorem ct_c (f : Nat) (x : Nat × Int) (X : List (Nat × Int)) : cnt0 f (x :: X) = (if x.1 = f then 1 else 0) + cnt0 f X := by
  unfold cnt0
  rw [List.filter_cons]
  by_cases h : x.1 = f
  · rw [if_pos (by simpa using h), if_pos h, List.length_cons]; omega
  · rw [if_neg (by simpa using h), if_neg h]; omega
theorem ct_app (f : Nat) (A B : List (Nat × Int)) : cnt0 f (A ++ B) = cnt0 f A + cnt0 f B := by
  unfold cnt0; rw [List.filter_append, List.length_append]
theorem ct_prj {f g : Nat} (X : List (Nat × Int)) : cnt0 f (prj f g X) = cnt0 f X := by
  unfold cnt0 prj
  rw [List.filter_filter]
  congr 1
  congr 1
  funext x
  cases h : x.1 == f <;> simp
theorem rc_prj {f g : Nat} : ∀ (X : List (Nat × Int)) (i j : Nat), rc f g (prj f g X) i j = rc f g X i j
  | [], _, _ => rfl
  | x :: X, i, j => by
    by_cases h1 : x.1 = f
    · rw [prj_cons_in (Or.inl h1), rc_f h1, rc_f h1, rc_prj X]
    · by_cases h2 : x.1 = g
      · rw [prj_cons_in (Or.inr h2), rc_g h1 h2, rc_g h1 h2, rc_prj X]
      · rw [prj_cons_out h1 h2, rc_o h1 h2, rc_prj X]
theorem rc_EQ {mk : Nat → Nat} {f g : Nat} {X Y : List (Nat × Int)} (h : EQ mk X Y) (hd : dpp mk f g) (i j : Nat) : rc f g X i j = rc f g Y i j := by
  rw [← rc_prj X, ← rc_prj Y, h f g hd]
theorem rc_app {f g : Nat} (hfg : f ≠ g) {X : List (Nat × Int)} : ∀ (A : List (Nat × Int)) (i j : Nat), rc f g (A ++ X) i j = if i < cnt0 f A then (if j < cnt0 g A then rc f g A i j else true) else (if j < cnt0 g A then false else rc f g X (i - cnt0 f A) (j - cnt0 g A))
  | [], i, j => by simp [cnt0]
  | x :: A, i, j => by
    rw [List.cons_append, ct_c, ct_c]
    by_cases h1 : x.1 = f
    · have h2 : x.1 ≠ g := fun e => hfg (h1.symm.trans e)
      rw [rc_f h1, rc_f h1, if_pos h1, if_neg h2, Nat.zero_add, rc_app hfg A]
      by_cases hi : i = 0
      · rw [if_pos hi, if_pos hi, if_pos (show i < 1 + cnt0 f A by omega)]
        split <;> rfl
      · rw [if_neg hi, if_neg hi]
        by_cases hl : i - 1 < cnt0 f A
        · rw [if_pos hl, if_pos (show i < 1 + cnt0 f A by omega)]
        · rw [if_neg hl, if_neg (show ¬ i < 1 + cnt0 f A by omega), show i - (1 + cnt0 f A) = i - 1 - cnt0 f A by omega]
    · by_cases h2 : x.1 = g
      · rw [rc_g h1 h2, rc_g h1 h2, if_neg h1, if_pos h2, Nat.zero_add, rc_app hfg A]
        by_cases hj : j = 0
        · rw [if_pos hj, if_pos hj]
          simp only [if_pos (show j < 1 + cnt0 g A by omega)]
          split <;> rfl
        · rw [if_neg hj, if_neg hj]
          by_cases hl : j - 1 < cnt0 g A
          · simp only [if_pos hl, if_pos (show j < 1 + cnt0 g A by omega)]
          · simp only [if_neg hl, if_neg (show ¬ j < 1 + cnt0 g A by omega)]
            rw [show j - (1 + cnt0 g A) = j - 1 - cnt0 g A by omega]
      · rw [rc_o h1 h2, rc_o h1 h2, if_neg h1, if_neg h2, Nat.zero_add, Nat.zero_add, rc_app hfg A]
theorem rc_anti {f g : Nat} (hfg : f ≠ g) : ∀ (X : List (Nat × Int)) (i j : Nat), i < cnt0 f X → j < cnt0 g X → rc g f X j i = !rc f g X i j
  | [], i, j, h, _ => by simp [cnt0] at h
  | x :: X, i, j, hi, hj => by
    rw [ct_c] at hi hj
    by_cases h1 : x.1 = f
    · have h2 : x.1 ≠ g := fun e => hfg (h1.symm.trans e)
      rw [if_pos h1] at hi
      rw [if_neg h2] at hj
      rw [rc_g h2 h1, rc_f h1]
      by_cases h0 : i = 0
      · rw [if_pos h0, if_pos h0]; rfl
      · rw [if_neg h0, if_neg h0]
        exact rc_anti hfg X (i - 1) j (by omega) (by omega)
    · by_cases h2 : x.1 = g
      · rw [if_neg h1] at hi
        rw [if_pos h2] at hj
        rw [rc_f h2, rc_g h1 h2]
        by_cases h0 : j = 0
        · rw [if_pos h0, if_pos h0]; rfl
        · rw [if_neg h0, if_neg h0]
          exact rc_anti hfg X i (j - 1) (by omega) (by omega)
      · rw [if_neg h1] at hi
        rw [if_neg h2] at hj
        rw [rc_o h2 h1, rc_o h1 h2]
        exact rc_anti hfg X i j (by omega) (by omega)
theorem rc_mono {f g : Nat} (hfg : f ≠ g) : ∀ (X : List (Nat × Int)) (i j i' j' : Nat), i' ≤ i → j ≤ j' → rc f g X i j = true → rc f g X i' j' = true
  | [], _, _, _, _, _, _, _ => rfl
  | x :: X, i, j, i', j', hi, hj, h => by
    by_cases h1 : x.1 = f
    · rw [rc_f h1] at h ⊢
      by_cases h0 : i' = 0
      · rw [if_pos h0]
      · rw [if_neg h0]
        rw [if_neg (by omega)] at h
        exact rc_mono hfg X _ _ _ _ (by omega) hj h
    · by_cases h2 : x.1 = g
      · rw [rc_g h1 h2] at h ⊢
        by_cases h0 : j = 0
        · rw [if_pos h0] at h; cases h
        · rw [if_neg h0] at h
          rw [if_neg (by omega)]
          exact rc_mono hfg X _ _ _ _ hi (by omega) h
      · rw [rc_o h1 h2] at h ⊢
        exact rc_mono hfg X _ _ _ _ hi hj h
/-- two rows of two folk, alike -/
theorem rc_det {f g : Nat} (hfg : f ≠ g) : ∀ (L L' : List (Nat × Int)), (∀ x ∈ L, x.1 = f ∨ x.1 = g) → (∀ x ∈ L', x.1 = f ∨ x.1 = g) → prj f f L = prj f f L' → prj g g L = prj g g L' → (∀ i j, i < cnt0 f L → j < cnt0 g L → rc f g L i j = rc f g L' i j) → L = L'
  | [], L', _, h2, h3, h4, _ => by
    cases L' with
    | nil => rfl
    | cons x L' =>
      rcases h2 x (List.mem_cons_self ..) with e | e
      · rw [prj_cons_in (Or.inl e)] at h3; cases h3
      · rw [prj_cons_in (Or.inl e)] at h4; cases h4
  | x :: L, [], h1, _, h3, h4, _ => by
    rcases h1 x (List.mem_cons_self ..) with e | e
    · rw [prj_cons_in (Or.inl e)] at h3; cases h3
    · rw [prj_cons_in (Or.inl e)] at h4; cases h4
  | x :: L, y :: L', h1, h2, h3, h4, h5 => by
    have hm : ∀ a : Nat, ∀ z : List (Nat × Int), cnt0 a z = (prj a a z).length := by
      intro a z
      unfold cnt0 prj
      congr 2
      funext b
      exact (Bool.or_self _).symm
    have hx := h1 x (List.mem_cons_self ..)
    have hy := h2 y (List.mem_cons_self ..)
    have h1' := fun z hz => h1 z (List.mem_cons_of_mem _ hz)
    have h2' := fun z hz => h2 z (List.mem_cons_of_mem _ hz)
    rcases hx with ex | ex
    · have exg : x.1 ≠ g := fun e => hfg (ex.symm.trans e)
      rcases hy with ey | ey
      · have eyg : y.1 ≠ g := fun e => hfg (ey.symm.trans e)
        rw [prj_cons_in (Or.inl ex), prj_cons_in (Or.inl ey)] at h3
        rw [prj_cons_out exg exg, prj_cons_out eyg eyg] at h4
        have e3 := List.cons.inj h3
        rw [e3.1]
        congr 1
        refine rc_det hfg L L' h1' h2' e3.2 h4 (fun i j hi hj => ?_)
        have := h5 (i + 1) j (by rw [ct_c, if_pos ex]; omega) (by rw [ct_c, if_neg exg]; omega)
        rw [rc_f ex, rc_f ey, if_neg (by omega), if_neg (by omega)] at this
        exact this
      · exfalso
        have eyf : y.1 ≠ f := fun e => hfg (e.symm.trans ey)
        have hg : 0 < cnt0 g (x :: L) := by rw [hm, h4, ← hm, ct_c, if_pos ey]; omega
        have := h5 0 0 (by rw [ct_c, if_pos ex]; omega) hg
        rw [rc_f ex, rc_g eyf ey, if_pos rfl, if_pos rfl] at this
        cases this
    · have exf : x.1 ≠ f := fun e => hfg (e.symm.trans ex)
      rcases hy with ey | ey
      · exfalso
        have hf : 0 < cnt0 f (x :: L) := by rw [hm, h3, ← hm, ct_c, if_pos ey]; omega
        have := h5 0 0 hf (by rw [ct_c, if_pos ex]; omega)
        rw [rc_f ey, rc_g exf ex, if_pos rfl, if_pos rfl] at this
        cases this
      · have eyf : y.1 ≠ f := fun e => hfg (e.symm.trans ey)
        rw [prj_cons_out exf exf, prj_cons_out eyf eyf] at h3
        rw [prj_cons_in (Or.inl ex), prj_cons_in (Or.inl ey)] at h4
        have e3 := List.cons.inj h4
        rw [e3.1]
        congr 1
        refine rc_det hfg L L' h1' h2' h3 e3.2 (fun i j hi hj => ?_)
        have := h5 i (j + 1) (by rw [ct_c, if_neg exf]; omega) (by rw [ct_c, if_pos ex]; omega)
        rw [rc_g exf ex, rc_g eyf ey, if_neg (by omega), if_neg (by omega)] at this
        exact this
theorem prj_sub {f g : Nat} (X : List (Nat × Int)) : prj f f (prj f g X) = prj f f X := by
  unfold prj
  rw [List.filter_filter]
  congr 1
  funext x
  cases h : x.1 == f <;> simp
theorem prj_sub2 {f g : Nat} (X : List (Nat × Int)) : prj g g (prj f g X) = prj g g X := by
  rw [prj_sw f g]; exact prj_sub X
theorem ct_one (f : Nat) (z : List (Nat × Int)) : cnt0 f z = (prj f f z).length := by
  unfold cnt0 prj
  congr 2
  funext b
  exact (Bool.or_self _).symm
theorem EQ_det {mk : Nat → Nat} {X Y : List (Nat × Int)} (h1 : ∀ f, prj f f X = prj f f Y) (h2 : ∀ f g, f ≠ g → (mk f).testBit g = true → ∀ i j, i < cnt0 f X → j < cnt0 g X → rc f g X i j = rc f g Y i j) : EQ mk X Y := by
  intro f g hfg
  by_cases e : f = g
  · subst e; exact h1 f
  · have hk : (mk f).testBit g = true := by
      rcases hfg with h | h
      · exact absurd h e
      · exact h
    refine rc_det e _ _ (fun x hx => (prj_mem.mp hx).2) (fun x hx => (prj_mem.mp hx).2) ?_ ?_ ?_
    · rw [prj_sub, prj_sub]; exact h1 f
    · rw [prj_sub2, prj_sub2]; exact h1 g
    · intro i j hi hj
      rw [ct_prj] at hi
      rw [prj_sw f g, ct_prj] at hj
      rw [rc_prj, rc_prj]
      exact h2 f g e hk i j hi hj
