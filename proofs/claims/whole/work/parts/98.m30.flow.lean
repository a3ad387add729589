/-! PURE: in how many orders, by sets of places -/
abbrev mF (mu : Nat → Nat) (S x : Nat) : Prop := S.testBit x = false ∧ subM (mu x) S
/-- pushed on: what stands after the first n -/
def tabP (cf : Nat → Nat → Nat) : Nat → Nat → Nat
  | 0 => fun j => ind (j = 0)
  | n + 1 => fun j => tabP cf n j + cf n j * tabP cf n n
theorem tabP_s (cf : Nat → Nat → Nat) (n j : Nat) : tabP cf (n + 1) j = tabP cf n j + cf n j * tabP cf n n := rfl
def tabW (cf : Nat → Nat → Nat) (j : Nat) : Nat := tabP cf j j
theorem tabP_sum (cf : Nat → Nat → Nat) (n j : Nat) : tabP cf n j = ind (j = 0) + sN n (fun s => cf s j * tabW cf s) := by
  induction n with
  | zero => rfl
  | succ n ih =>
    rw [tabP_s, ih, sN_s, Nat.add_assoc]
    rfl
theorem tabP_fin {cf : Nat → Nat → Nat} (hc : ∀ s j, j ≤ s → cf s j = 0) : ∀ (d j : Nat), tabP cf (j + d) j = tabW cf j := by
  intro d
  induction d with
  | zero => intro j; rfl
  | succ d ih =>
    intro j
    rw [← Nat.add_assoc, tabP_s, hc _ _ (by omega), Nat.zero_mul, Nat.add_zero]
    exact ih j
theorem tabW_fix {cf : Nat → Nat → Nat} (hc : ∀ s j, j ≤ s → cf s j = 0) {n j : Nat} (h : j < n) : tabW cf j = ind (j = 0) + sN n (fun s => cf s j * tabW cf s) := by
  rw [← tabP_sum]
  obtain ⟨d, rfl⟩ : ∃ d, n = j + d := ⟨n - j, by omega⟩
  exact (tabP_fin hc d j).symm
def cfS (m : Nat) (mu : Nat → Nat) (S S' : Nat) : Nat := sN m (fun x => ind (mF mu S x ∧ S ||| 2 ^ x = S'))
theorem cfS_0 (m : Nat) (mu : Nat → Nat) (S S' : Nat) (h : S' ≤ S) : cfS m mu S S' = 0 := by
  unfold cfS
  apply sN_z
  intro x hx
  apply ind_f
  intro hh
  have := or2_gt hh.1.1
  omega
def nW (m : Nat) (mu : Nat → Nat) : Nat → Nat := tabW (cfS m mu)
theorem nW_fix {m : Nat} {mu : Nat → Nat} {S' : Nat} (h : S' < 2 ^ m) : nW m mu S' = ind (S' = 0) + sN (2 ^ m) (fun S => cfS m mu S S' * nW m mu S) := tabW_fix (cfS_0 m mu) h
/-- what all sets weigh: by the sets before them -/
theorem nW_tr {m : Nat} {mu : Nat → Nat} (g : Nat → Nat) : sN (2 ^ m) (fun S' => g S' * nW m mu S') = g 0 + sN (2 ^ m) (fun S => sN m (fun x => ind (mF mu S x) * (g (S ||| 2 ^ x) * nW m mu S))) := by
  have h0 : 0 < 2 ^ m := Nat.two_pow_pos m
  rw [sN_c (g := fun S' => ind (0 = S') * g S' + sN (2 ^ m) (fun S => g S' * (cfS m mu S S' * nW m mu S))) (by
    intro S' hS'
    rw [nW_fix hS', Nat.mul_add, sN_mul]
    congr 1
    rw [ind_c (show S' = 0 ↔ 0 = S' from eq_comm), Nat.mul_comm]), sN_add, sN_1 h0]
  congr 1
  rw [sN_sw]
  apply sN_c
  intro S hS
  rw [sN_c (g := fun S' => sN m (fun x => ind (S ||| 2 ^ x = S') * (ind (mF mu S x) * (g S' * nW m mu S)))) (by
    intro S' hS'
    rw [show g S' * (cfS m mu S S' * nW m mu S) = (g S' * nW m mu S) * cfS m mu S S' by rw [Nat.mul_comm (cfS m mu S S'), Nat.mul_assoc]]
    unfold cfS
    rw [← sN_mul]
    apply sN_c
    intro x hx
    rw [ind_and, Nat.mul_comm, Nat.mul_comm (ind (mF mu S x)), Nat.mul_assoc])]
  rw [sN_sw]
  apply sN_c
  intro x hx
  exact sN_1 (or2_lt hS hx) (fun S' => ind (mF mu S x) * (g S' * nW m mu S))
/-- how many places a set holds -/
def pcS (m S : Nat) : Nat := sN m (fun i => ind (S.testBit i = true))
theorem pcS_or {m S x : Nat} (hx : x < m) (h : S.testBit x = false) : pcS m (S ||| 2 ^ x) = pcS m S + 1 := by
  unfold pcS
  rw [sN_c (g := fun i => ind (S.testBit i = true) + ind (x = i) * 1) (by
    intro i hi
    rw [Nat.mul_one, tb_or2]
    by_cases hxi : x = i
    · subst hxi
      rw [h, decide_eq_true rfl, ind_t (p := x = x) rfl]
      rfl
    · rw [decide_eq_false hxi, Bool.or_false, ind_f hxi, Nat.add_zero]), sN_add, sN_1 hx (fun _ => 1)]
theorem pcS_0 (m : Nat) : pcS m 0 = 0 := by
  unfold pcS
  apply sN_z
  intro k hk
  exact ind_f (by rw [Nat.zero_testBit]; decide)
theorem pcS_le (m S : Nat) : pcS m S ≤ m := by
  have : pcS m S ≤ m * 1 := sN_count (fun k hk => by
    unfold ind
    split
    · exact Nat.le_refl _
    · exact Nat.zero_le _)
  omega
theorem lev_le {m : Nat} (mu : Nat → Nat) : ∀ j, sN (2 ^ m) (fun S => ind (pcS m S = j) * nW m mu S) ≤ m ^ j := by
  intro j
  induction j with
  | zero =>
    rw [nW_tr, ind_t (pcS_0 m), sN_z (fun S hS => sN_z (fun x hx => ?_))]
    · exact Nat.le_refl _
    · by_cases h : mF mu S x
      · rw [ind_f (p := pcS m (S ||| 2 ^ x) = 0) (by rw [pcS_or hx h.1]; omega), Nat.zero_mul, Nat.mul_zero]
      · rw [ind_f h, Nat.zero_mul]
  | succ j ih =>
    rw [nW_tr, ind_f (by rw [pcS_0]; omega), Nat.zero_add]
    have h2 : sN (2 ^ m) (fun S => sN m (fun x => ind (mF mu S x) * (ind (pcS m (S ||| 2 ^ x) = j + 1) * nW m mu S))) ≤ sN (2 ^ m) (fun S => m * (ind (pcS m S = j) * nW m mu S)) := by
      apply sN_le
      intro S hS
      apply sN_count
      intro x hx
      by_cases h : mF mu S x
      · rw [ind_t h, Nat.one_mul, ind_c (show pcS m (S ||| 2 ^ x) = j + 1 ↔ pcS m S = j by rw [pcS_or hx h.1]; omega)]
        exact Nat.le_refl _
      · rw [ind_f h, Nat.zero_mul]
        exact Nat.zero_le _
    rw [sN_mul] at h2
    rw [Nat.pow_succ, Nat.mul_comm]
    exact Nat.le_trans h2 (Nat.mul_le_mul_left m ih)
theorem nW_le {m S : Nat} {mu : Nat → Nat} (hm : m ≤ 14) (hS : S < 2 ^ m) : nW m mu S ≤ 11112006825558016 := by
  have h1 := lev_le (m := m) mu (pcS m S)
  have h2 := sN_mem (f := fun S9 => ind (pcS m S9 = pcS m S) * nW m mu S9) hS
  rw [ind_t rfl, Nat.one_mul] at h2
  have h3 : m ^ pcS m S ≤ 14 ^ pcS m S := Nat.pow_le_pow_left hm _
  have h4 : 14 ^ pcS m S ≤ 14 ^ 14 := Nat.pow_le_pow_right (by decide) (Nat.le_trans (pcS_le m S) hm)
  have h5 : 14 ^ 14 = 11112006825558016 := by decide
  omega
/-- from a set on -/
def mfW (m : Nat) (mu : Nat → Nat) : Nat → Nat → Nat
  | 0, _ => 0
  | r + 1, S => ind (S = 2 ^ m - 1) + sN m (fun x => ind (mF mu S x) * mfW m mu r (S ||| 2 ^ x))
theorem mfW_s (m : Nat) (mu : Nat → Nat) (r S : Nat) : mfW m mu (r + 1) S = ind (S = 2 ^ m - 1) + sN m (fun x => ind (mF mu S x) * mfW m mu r (S ||| 2 ^ x)) := rfl
theorem mfW_st {m : Nat} {mu : Nat → Nat} : ∀ (r q S : Nat), S < 2 ^ m → 2 ^ m ≤ S + r → 2 ^ m ≤ S + q → mfW m mu r S = mfW m mu q S := by
  intro r
  induction r with
  | zero => intro q S h1 h2 h3; omega
  | succ r ih =>
    intro q S h1 h2 h3
    obtain ⟨q, rfl⟩ : ∃ q', q = q' + 1 := ⟨q - 1, by omega⟩
    rw [mfW_s, mfW_s]
    congr 1
    apply sN_c
    intro x hx
    by_cases h : mF mu S x
    · have := or2_gt h.1
      rw [ih q _ (or2_lt h1 hx) (by omega) (by omega)]
    · rw [ind_f h, Nat.zero_mul, Nat.zero_mul]
def mW (m : Nat) (mu : Nat → Nat) (S : Nat) : Nat := mfW m mu (2 ^ m - S) S
theorem mW_fix {m S : Nat} {mu : Nat → Nat} (h : S < 2 ^ m) : mW m mu S = ind (S = 2 ^ m - 1) + sN m (fun x => ind (mF mu S x) * mW m mu (S ||| 2 ^ x)) := by
  unfold mW
  obtain ⟨r, hr⟩ : ∃ r, 2 ^ m - S = r + 1 := ⟨2 ^ m - S - 1, by omega⟩
  rw [hr, mfW_s]
  congr 1
  apply sN_c
  intro x hx
  by_cases h2 : mF mu S x
  · have := or2_gt h2.1
    have h3 := or2_lt h hx
    rw [mfW_st r (2 ^ m - (S ||| 2 ^ x)) _ h3 (by omega) (by omega)]
  · rw [ind_f h2, Nat.zero_mul, Nat.zero_mul]
theorem full_b {m i : Nat} (h : i < m) : (2 ^ m - 1).testBit i = true := by
  rw [Nat.testBit_two_pow_sub_one]
  exact decide_eq_true h
theorem mW_full (m : Nat) (mu : Nat → Nat) : mW m mu (2 ^ m - 1) = 1 := by
  have h0 : 0 < 2 ^ m := Nat.two_pow_pos m
  rw [mW_fix (by omega), ind_t rfl, sN_z (fun x hx => by
    rw [ind_f (fun h => by
      have h9 := h.1
      rw [full_b hx] at h9
      cases h9), Nat.zero_mul])]
/-- in how many orders i comes before k -/
def aW (m : Nat) (mu : Nat → Nat) (i k : Nat) : Nat := sN (2 ^ m) (fun S => ind (mF mu S k) * (ind (S.testBit i = true) * (nW m mu S * mW m mu (S ||| 2 ^ k))))
theorem aW_all {m : Nat} (mu : Nat → Nat) {i k : Nat} (hi : i < m) (hk : k < m) (hik : i ≠ k) : aW m mu i k + aW m mu k i = nW m mu (2 ^ m - 1) := by
  have h0 : 0 < 2 ^ m := Nat.two_pow_pos m
  have hV0 : ¬ ((0 : Nat).testBit i = true ∧ (0 : Nat).testBit k = true) := by
    rw [Nat.zero_testBit]
    intro h
    cases h.1
  -- into V
  have t1 := nW_tr (m := m) (mu := mu) (fun S => ind (S.testBit i = true ∧ S.testBit k = true) * mW m mu S)
  rw [ind_f hV0, Nat.zero_mul, Nat.zero_add] at t1
  -- out of V
  have t2 : sN (2 ^ m) (fun S => ind (S.testBit i = true ∧ S.testBit k = true) * mW m mu S * nW m mu S) = nW m mu (2 ^ m - 1) + sN (2 ^ m) (fun S => sN m (fun x => ind (S.testBit i = true ∧ S.testBit k = true) * (ind (mF mu S x) * (mW m mu (S ||| 2 ^ x) * nW m mu S)))) := by
    rw [sN_c (g := fun S => ind (2 ^ m - 1 = S) * (ind (S.testBit i = true ∧ S.testBit k = true) * nW m mu S) + sN m (fun x => ind (S.testBit i = true ∧ S.testBit k = true) * (ind (mF mu S x) * (mW m mu (S ||| 2 ^ x) * nW m mu S)))) (by
      intro S hS
      rw [mW_fix hS, Nat.mul_add, Nat.add_mul]
      congr 1
      · rw [ind_c (show S = 2 ^ m - 1 ↔ 2 ^ m - 1 = S from eq_comm)]
        ac_rfl
      · rw [Nat.mul_right_comm, ← sN_mul]
        apply sN_c
        intro x hx
        ac_rfl), sN_add, sN_1 (by omega), ind_t ⟨full_b hi, full_b hk⟩, Nat.one_mul]
  have t3 : sN (2 ^ m) (fun S => sN m (fun x => ind (mF mu S x) * (ind ((S ||| 2 ^ x).testBit i = true ∧ (S ||| 2 ^ x).testBit k = true) * mW m mu (S ||| 2 ^ x) * nW m mu S))) = sN (2 ^ m) (fun S => sN m (fun x => ind (S.testBit i = true ∧ S.testBit k = true) * (ind (mF mu S x) * (mW m mu (S ||| 2 ^ x) * nW m mu S)))) + (aW m mu i k + aW m mu k i) := by
    unfold aW
    rw [← sN_add, ← sN_add]
    apply sN_c
    intro S hS
    rw [sN_c (g := fun x => ind (S.testBit i = true ∧ S.testBit k = true) * (ind (mF mu S x) * (mW m mu (S ||| 2 ^ x) * nW m mu S)) + (ind (k = x) * (ind (mF mu S x) * (ind (S.testBit i = true) * (nW m mu S * mW m mu (S ||| 2 ^ x)))) + ind (i = x) * (ind (mF mu S x) * (ind (S.testBit k = true) * (nW m mu S * mW m mu (S ||| 2 ^ x)))))) (by
      intro x hx
      by_cases h : mF mu S x
      · rw [ind_t h, tb_or2, tb_or2]
        by_cases h1 : k = x
        · subst h1
          rw [ind_t rfl, ind_f hik, decide_eq_true rfl, decide_eq_false (Ne.symm hik), Bool.or_false, Bool.or_true, ind_f (p := S.testBit i = true ∧ S.testBit k = true) (fun hh => by
            have h9 := hh.2
            rw [h.1] at h9
            cases h9), ind_c (show (S.testBit i = true ∧ true = true) ↔ S.testBit i = true from ⟨fun h => h.1, fun h => ⟨h, rfl⟩⟩)]
          simp only [Nat.one_mul, Nat.zero_mul, Nat.add_zero, Nat.zero_add]
          ac_rfl
        · by_cases h2 : i = x
          · subst h2
            rw [ind_t rfl, ind_f h1, decide_eq_true rfl, decide_eq_false hik, Bool.or_false, Bool.or_true, ind_f (p := S.testBit i = true ∧ S.testBit k = true) (fun hh => by
              have h9 := hh.1
              rw [h.1] at h9
              cases h9), ind_c (show (true = true ∧ S.testBit k = true) ↔ S.testBit k = true from ⟨fun h => h.2, fun h => ⟨rfl, h⟩⟩)]
            simp only [Nat.one_mul, Nat.zero_mul, Nat.add_zero, Nat.zero_add]
            ac_rfl
          · rw [ind_f h1, ind_f h2, decide_eq_false (Ne.symm h1), decide_eq_false (Ne.symm h2), Bool.or_false, Bool.or_false]
            simp only [Nat.one_mul, Nat.zero_mul, Nat.add_zero, Nat.zero_add]
            ac_rfl
      · rw [ind_f h]
        simp only [Nat.zero_mul, Nat.mul_zero, Nat.add_zero]), sN_add, sN_add, sN_1 hk (fun x => ind (mF mu S x) * (ind (S.testBit i = true) * (nW m mu S * mW m mu (S ||| 2 ^ x)))), sN_1 hi (fun x => ind (mF mu S x) * (ind (S.testBit k = true) * (nW m mu S * mW m mu (S ||| 2 ^ x))))]
  rw [t3, t2] at t1
  omega
