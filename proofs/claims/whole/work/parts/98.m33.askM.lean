/-! PURE: the reference asks -/
def tmA (m : Nat) (MU : Nat → Nat) (i k S : Nat) : Nat := ind (mF MU S k) * (ind (S.testBit i = true) * (nW m MU S * mW m MU (S ||| 2 ^ k)))
theorem aW_tm (m : Nat) (MU : Nat → Nat) (i k : Nat) : aW m MU i k = sN (2 ^ m) (tmA m MU i k) := rfl
theorem ii_14 (i k : Nat) : (14 : Int32) * ii i + ii k = ii (14 * i + k) := by
  rw [k_14, ii_mul, ii_add]
theorem ah_L95 {F m S k Z : Nat} {s : Nat → Int32} (hm : m ≤ 14) (hs : s 0 = ii m) (hS : S < 2 ^ m) (hk : k < m) (mu : Nat → Int32) (w v : Nat → Int64) (B : Nat → Nat → Nat) (k52 : Int32 → Int32 → (Nat → Int64) → Option (Nat → Int64)) :
    ∀ (t i : Nat) (A : Nat → Int64), m < i + t → i ≤ m → (∀ i' k', i' < m → k' < m → A (14 * i' + k') = il (B i' k' + ind (k' = k ∧ i' < i) * (ind (S.testBit i' = true) * Z))) → ∃ A', fX12_laysAheads_L95 F 25 s 14 mu 16384 w 16384 v 196 k52 t (ii S) (ii k) (il Z) (ii i) A = k52 (ii S) (ii (k + 1)) A' ∧ ∀ i' k', i' < m → k' < m → A' (14 * i' + k') = il (B i' k' + ind (k' = k) * (ind (S.testBit i' = true) * Z)) := by
  have hp := p2_le hm
  intro t
  induction t with
  | zero => intro i A h1 h2; omega
  | succ t ih =>
    intro i A h1 h2 h3
    rw [sX12_laysAheads_L95]
    unfold bX12_laysAheads_L95 bX12_laysAheads_L132 bX12_laysAheads_L138
    have z0 : ((0 : Int32)).toNatClampNeg = 0 := rfl
    have e1 : ii k + (1 : Int32) = ii (k + 1) := by rw [k_1, ii_add]
    have e2 : ii i + (1 : Int32) = ii (i + 1) := by rw [k_1, ii_add]
    rw [z0, hs, if_neg (show ¬ ((0 : Int32) < 0 ∨ 25 ≤ 0) by decide), e1, e2]
    by_cases h : m ≤ i
    · have : i = m := by omega
      subst this
      rw [if_pos (by rw [ii_le (by omega) (by omega)]; exact h)]
      refine ⟨A, rfl, ?_⟩
      intro i' k' hi' hk'
      rw [h3 i' k' hi' hk', ind_c (show (k' = k ∧ i' < i) ↔ k' = k from ⟨fun h => h.1, fun h => ⟨h, hi'⟩⟩)]
    · have b1 := iBit1 (S := S) (k := i) (by omega) (by omega)
      rw [if_neg (by rw [ii_le (by omega) (by omega)]; exact h), ii_14]
      by_cases hb : S.testBit i = true
      · rw [if_pos (by rw [b1]; exact hb), if_neg (by rw [ii_nneg (by omega), ii_nat (by omega)]; simp; omega), if_neg (by rw [ii_nneg (by omega), ii_nat (by omega)]; simp; omega), ii_nat (by omega)]
        refine ih (i + 1) _ (by omega) (by omega) ?_
        intro i' k' hi' hk'
        by_cases hj : 14 * i' + k' = 14 * i + k
        · have a1 : i' = i := by omega
          have a2 : k' = k := by omega
          subst a1 a2
          rw [pk_uLs, h3 i' k' hi' hk', il_add, ind_f (p := k' = k' ∧ i' < i') (fun h9 => by omega), ind_t (p := k' = k' ∧ i' < i' + 1) ⟨rfl, by omega⟩, ind_t hb, Nat.zero_mul, Nat.add_zero, Nat.one_mul, Nat.one_mul]
        · rw [pk_uLn hj, h3 i' k' hi' hk', ind_c (show (k' = k ∧ i' < i) ↔ (k' = k ∧ i' < i + 1) from ⟨fun h => ⟨h.1, by omega⟩, fun h => ⟨h.1, by omega⟩⟩)]
      · rw [if_neg (by rw [b1]; exact hb)]
        refine ih (i + 1) A (by omega) (by omega) ?_
        intro i' k' hi' hk'
        rw [h3 i' k' hi' hk']
        by_cases hj : i' = i
        · subst hj
          rw [ind_f hb, Nat.zero_mul, Nat.mul_zero, Nat.mul_zero]
        · rw [ind_c (show (k' = k ∧ i' < i) ↔ (k' = k ∧ i' < i + 1) from ⟨fun h => ⟨h.1, by omega⟩, fun h => ⟨h.1, by omega⟩⟩)]
theorem ah_L52 {F m S : Nat} {s mu : Nat → Int32} {MU : Nat → Nat} {w v : Nat → Int64} (hF : 20000 ≤ F) (hm : m ≤ 14) (hs : s 0 = ii m) (hmu : ∀ k, k < m → mu k = ii (MU k)) (hMU : ∀ k, k < m → MU k < 2 ^ m) (hw : ∀ j, j < 2 ^ m → w j = il (nW m MU j)) (hv : ∀ j, j < 2 ^ m → v j = il (mW m MU j)) (hS : S < 2 ^ m) (B : Nat → Nat → Nat) (k24 : Int32 → (Nat → Int64) → Option (Nat → Int64)) :
    ∀ (t k : Nat) (A : Nat → Int64), m < k + t → k ≤ m → (∀ i' k', i' < m → k' < m → A (14 * i' + k') = il (B i' k' + ind (k' < k) * tmA m MU i' k' S)) → ∃ A', fX12_laysAheads_L52 F 25 s 14 mu 16384 w 16384 v 196 k24 t (ii S) (ii k) A = k24 (ii (S + 1)) A' ∧ ∀ i' k', i' < m → k' < m → A' (14 * i' + k') = il (B i' k' + tmA m MU i' k' S) := by
  have hp := p2_le hm
  intro t
  induction t with
  | zero => intro k A h1 h2; omega
  | succ t ih =>
    intro k A h1 h2 h3
    rw [sX12_laysAheads_L52]
    unfold bX12_laysAheads_L52 bX12_laysAheads_L144 bX12_laysAheads_L138
    have z0 : ((0 : Int32)).toNatClampNeg = 0 := rfl
    have e1 : ii S + (1 : Int32) = ii (S + 1) := by rw [k_1, ii_add]
    have e2 : ii k + (1 : Int32) = ii (k + 1) := by rw [k_1, ii_add]
    rw [z0, hs, if_neg (show ¬ ((0 : Int32) < 0 ∨ 25 ≤ 0) by decide), e1, e2]
    by_cases h : m ≤ k
    · have : k = m := by omega
      subst this
      rw [if_pos (by rw [ii_le (by omega) (by omega)]; exact h)]
      refine ⟨A, rfl, ?_⟩
      intro i' k' hi' hk'
      rw [h3 i' k' hi' hk', ind_t hk', Nat.one_mul]
    · have hor := or2_lt hS (show k < m by omega)
      rw [if_neg (by rw [ii_le (by omega) (by omega)]; exact h)]
      have fo := follow_M (F := F) hm hS (show k < m by omega) (hmu k (by omega)) (hMU k (by omega))
      by_cases hf : mF MU S k
      · rw [fo.1 hf]
        simp only [Option.bind_some]
        rw [if_neg (by decide), ii_or2 (by omega), if_neg (by rw [ii_nneg (by omega), ii_nat (by omega)]; simp; omega), if_neg (by rw [ii_nneg (by omega), ii_nat (by omega)]; simp; omega), ii_nat (by omega), ii_nat (by omega), hw S hS, hv _ hor, il_mul]
        obtain ⟨A', e, g⟩ := ah_L95 (F := F) (Z := nW m MU S * mW m MU (S ||| 2 ^ k)) hm hs hS (show k < m by omega) mu w v (fun i' k' => B i' k' + ind (k' < k) * tmA m MU i' k' S) (fX12_laysAheads_L52 F 25 s 14 mu 16384 w 16384 v 196 k24 t) F 0 A (by omega) (by omega) (by
          intro i' k' hi' hk'
          rw [h3 i' k' hi' hk', ind_f (p := k' = k ∧ i' < 0) (fun h9 => by omega), Nat.zero_mul, Nat.add_zero])
        rw [k_0, e]
        refine ih (k + 1) A' (by omega) (by omega) ?_
        intro i' k' hi' hk'
        rw [g i' k' hi' hk']
        by_cases hkk : k' = k
        · subst hkk
          rw [ind_t (p := k' = k') rfl, ind_f (p := k' < k') (by omega), ind_t (p := k' < k' + 1) (by omega), Nat.zero_mul, Nat.add_zero, Nat.one_mul, Nat.one_mul]
          unfold tmA
          rw [ind_t hf, Nat.one_mul]
        · rw [ind_f hkk, Nat.zero_mul, Nat.add_zero, ind_c (show k' < k ↔ k' < k + 1 from ⟨fun h => by omega, fun h => by omega⟩)]
      · rw [fo.2 hf]
        simp only [Option.bind_some]
        rw [if_pos trivial]
        refine ih (k + 1) A (by omega) (by omega) ?_
        intro i' k' hi' hk'
        rw [h3 i' k' hi' hk']
        by_cases hkk : k' = k
        · subst hkk
          unfold tmA
          rw [ind_f hf, Nat.zero_mul, Nat.mul_zero, Nat.mul_zero]
        · rw [ind_c (show k' < k ↔ k' < k + 1 from ⟨fun h => by omega, fun h => by omega⟩)]
theorem ah_L24 {F m : Nat} {s mu : Nat → Int32} {MU : Nat → Nat} {w v : Nat → Int64} (hF : 20000 ≤ F) (hm : m ≤ 14) (hs : s 0 = ii m) (hmu : ∀ k, k < m → mu k = ii (MU k)) (hMU : ∀ k, k < m → MU k < 2 ^ m) (hw : ∀ j, j < 2 ^ m → w j = il (nW m MU j)) (hv : ∀ j, j < 2 ^ m → v j = il (mW m MU j)) :
    ∀ (t S : Nat) (A : Nat → Int64), 2 ^ m < S + t → S ≤ 2 ^ m → (∀ i' k', i' < m → k' < m → A (14 * i' + k') = il (sN S (tmA m MU i' k'))) → ∃ A', fX12_laysAheads_L24 F 25 s 14 mu 16384 w 16384 v 196 t (ii S) A = some A' ∧ ∀ i' k', i' < m → k' < m → A' (14 * i' + k') = il (aW m MU i' k') := by
  have hp := p2_le hm
  intro t
  induction t with
  | zero => intro S A h1 h2; omega
  | succ t ih =>
    intro S A h1 h2 h3
    rw [sX12_laysAheads_L24]
    unfold bX12_laysAheads_L24 bX12_laysAheads_L144
    have z0 : ((0 : Int32)).toNatClampNeg = 0 := rfl
    have e1 : ii S + (1 : Int32) = ii (S + 1) := by rw [k_1, ii_add]
    rw [z0, hs, if_neg (show ¬ ((0 : Int32) < 0 ∨ 25 ≤ 0) by decide), e1, iSh m (by omega)]
    by_cases h : 2 ^ m ≤ S
    · have : S = 2 ^ m := by omega
      subst this
      rw [if_pos (by rw [ii_le (by omega) (by omega)]; exact h)]
      exact ⟨A, rfl, h3⟩
    · have hS : S < 2 ^ m := by omega
      have hN := nW_le (mu := MU) hm hS
      rw [if_neg (by rw [ii_le (by omega) (by omega)]; exact h), if_neg (by rw [ii_nneg (by omega), ii_nat (by omega)]; simp; omega), ii_nat (by omega), hw S hS]
      by_cases hz : nW m MU S = 0
      · rw [if_pos (by rw [lg_cmp_eq, hz]; rfl)]
        refine ih (S + 1) A (by omega) (by omega) ?_
        intro i' k' hi' hk'
        rw [h3 i' k' hi' hk', sN_s]
        unfold tmA
        rw [hz, Nat.zero_mul, Nat.mul_zero, Nat.mul_zero, Nat.add_zero]
      · rw [if_neg (by
          rw [lg_cmp_eq, il_0]
          exact fun h9 => hz (il_in2 (by omega) (by omega) h9))]
        obtain ⟨A', e, g⟩ := ah_L52 (F := F) hF hm hs hmu hMU hw hv hS (fun i' k' => sN S (tmA m MU i' k')) (fX12_laysAheads_L24 F 25 s 14 mu 16384 w 16384 v 196 t) F 0 A (by omega) (by omega) (by
          intro i' k' hi' hk'
          rw [h3 i' k' hi' hk', ind_f (by omega), Nat.zero_mul, Nat.add_zero])
        rw [k_0, e]
        exact ih (S + 1) A' (by omega) (by omega) g
theorem ah_L2 {F m : Nat} {s mu : Nat → Int32} {MU : Nat → Nat} {w v : Nat → Int64} (hF : 20000 ≤ F) (hm : m ≤ 14) (hs : s 0 = ii m) (hmu : ∀ k, k < m → mu k = ii (MU k)) (hMU : ∀ k, k < m → MU k < 2 ^ m) (hw : ∀ j, j < 2 ^ m → w j = il (nW m MU j)) (hv : ∀ j, j < 2 ^ m → v j = il (mW m MU j)) :
    ∀ (t j : Nat) (A : Nat → Int64), 196 < j + t → j ≤ 196 → (∀ k, k < j → A k = il 0) → ∃ A', fX12_laysAheads_L2 F 25 s 14 mu 16384 w 16384 v 196 t (ii j) A = some A' ∧ ∀ i' k', i' < m → k' < m → A' (14 * i' + k') = il (aW m MU i' k') := by
  intro t
  induction t with
  | zero => intro j A h1 h2; omega
  | succ t ih =>
    intro j A h1 h2 h3
    rw [sX12_laysAheads_L2]
    unfold bX12_laysAheads_L2
    have e1 : ii j + (1 : Int32) = ii (j + 1) := by rw [k_1, ii_add]
    rw [e1]
    by_cases h : 196 ≤ j
    · have : j = 196 := by omega
      subst this
      rw [if_pos (by rw [k_196, ii_le (by omega) (by omega)]; exact h), k_0]
      have := Nat.two_pow_pos m
      have hp := p2_le hm
      exact ah_L24 hF hm hs hmu hMU hw hv F 0 A (by omega) (by omega) (fun i' k' hi' hk' => h3 _ (by omega))
    · rw [if_neg (by rw [k_196, ii_le (by omega) (by omega)]; exact h), if_neg (by rw [ii_nneg (by omega), ii_nat (by omega)]; simp; omega), ii_nat (by omega)]
      refine ih (j + 1) _ (by omega) (by omega) ?_
      intro k hk
      by_cases hkj : k = j
      · rw [hkj, pk_uLs]
        rfl
      · rw [pk_uLn hkj]
        exact h3 k (by omega)
/-- which two to ask for -/
def mxN (a b : Nat) : Nat := if a ≤ b then b else a
def stA (A : Nat → Nat → Nat) (a b : Nat) (st : Nat × Int32) : Nat × Int32 := if mxN (A a b) (A b a) < st.1 then (mxN (A a b) (A b a), ii (24 * a + b)) else st
def akI (A : Nat → Nat → Nat) (a : Nat) : Nat → Nat → Nat × Int32 → Nat × Int32
  | 0, _, st => st
  | r + 1, b, st => akI A a r (b + 1) (stA A a b st)
def akO (A : Nat → Nat → Nat) (m : Nat) : Nat → Nat → Nat × Int32 → Nat × Int32
  | 0, _, st => st
  | r + 1, a, st => akO A m r (a + 1) (akI A a (m - (a + 1)) (a + 1) st)
theorem stA_le {A : Nat → Nat → Nat} {a b : Nat} {st : Nat × Int32} : (stA A a b st).1 ≤ st.1 := by
  unfold stA
  split
  · simp only; omega
  · exact Nat.le_refl _
theorem akI_le {A : Nat → Nat → Nat} {a : Nat} : ∀ (r b : Nat) (st : Nat × Int32), (akI A a r b st).1 ≤ st.1
  | 0, _, st => Nat.le_refl _
  | r + 1, b, st => Nat.le_trans (akI_le r (b + 1) (stA A a b st)) stA_le
theorem mxN_le {a b c : Nat} (ha : a ≤ c) (hb : b ≤ c) : mxN a b ≤ c := by
  unfold mxN
  split <;> omega
theorem ask_L49 {F m : Nat} {s : Nat → Int32} {A : Nat → Nat → Nat} {ia : Nat → Int64} (hm : m ≤ 14) (hs : s 0 = ii m) (hA : ∀ i k, i < m → k < m → ia (14 * i + k) = il (A i k)) (hA2 : ∀ i k, i < m → k < m → A i k < 2 ^ 62) (kn ah on tw mu : Nat → Int32) (w v : Nat → Int64) (th : Int32) {a : Nat} (ha : a < m) (k32 : Int64 → Int32 → Int32 → Int32 → (Nat → Int32) → (Nat → Int64) → (Nat → Int64) → (Nat → Int64) → Option (Int32 × (Int32) × (Nat → Int32) × (Nat → Int64) × (Nat → Int64) × (Nat → Int64))) :
    ∀ (t b : Nat) (st : Nat × Int32), m < b + t → a < b → b ≤ m → st.1 < 2 ^ 62 → fX12_ask_L49 F 12 kn 25 s 5 ah 40 on 40 tw 14 16384 16384 196 k32 t (il st.1) st.2 (ii a) (ii b) th mu w v ia = k32 (il (akI A a (m - b) b st).1) (akI A a (m - b) b st).2 (ii (a + 1)) th mu w v ia := by
  intro t
  induction t with
  | zero => intro b st h1 h2; omega
  | succ t ih =>
    intro b st h1 h2 h3 h4
    rw [sX12_ask_L49]
    unfold bX12_ask_L49 bX12_ask_L119 bX12_ask_L143
    have z0 : ((0 : Int32)).toNatClampNeg = 0 := rfl
    have e1 : ii a + (1 : Int32) = ii (a + 1) := by rw [k_1, ii_add]
    have e2 : ii b + (1 : Int32) = ii (b + 1) := by rw [k_1, ii_add]
    have e3 : (24 : Int32) * ii a + ii b = ii (24 * a + b) := by rw [k_24, ii_mul, ii_add]
    rw [z0, hs, if_neg (show ¬ ((0 : Int32) < 0 ∨ 25 ≤ 0) by decide), e1, e2, e3, ii_14, ii_14]
    by_cases h : m ≤ b
    · have : b = m := by omega
      subst this
      rw [if_pos (by rw [ii_le (by omega) (by omega)]; exact h), Nat.sub_self]
      rfl
    · have q1 := hA2 a b ha (by omega)
      have q2 := hA2 b a (by omega) ha
      have er : m - b = (m - (b + 1)) + 1 := by omega
      rw [if_neg (by rw [ii_le (by omega) (by omega)]; exact h), if_neg (by rw [ii_nneg (by omega), ii_nat (by omega)]; simp; omega), if_neg (by rw [ii_nneg (by omega), ii_nat (by omega)]; simp; omega), ii_nat (by omega), ii_nat (by omega), hA a b ha (by omega), hA b a (by omega) ha, er]
      show _ = k32 (il (akI A a (m - (b + 1)) (b + 1) (stA A a b st)).1) (akI A a (m - (b + 1)) (b + 1) (stA A a b st)).2 (ii (a + 1)) th mu w v ia
      have go : ∀ y : Nat, y = mxN (A a b) (A b a) → (if lg_cmp (il y) (il st.1) < 0 then fX12_ask_L49 F 12 kn 25 s 5 ah 40 on 40 tw 14 16384 16384 196 k32 t (il y) (ii (24 * a + b)) (ii a) (ii (b + 1)) th mu w v ia else fX12_ask_L49 F 12 kn 25 s 5 ah 40 on 40 tw 14 16384 16384 196 k32 t (il st.1) st.2 (ii a) (ii (b + 1)) th mu w v ia) = k32 (il (akI A a (m - (b + 1)) (b + 1) (stA A a b st)).1) (akI A a (m - (b + 1)) (b + 1) (stA A a b st)).2 (ii (a + 1)) th mu w v ia := by
        intro y hy
        have hyl : y < 2 ^ 62 := by
          have := mxN_le (a := A a b) (b := A b a) (c := 2 ^ 62 - 1) (by omega) (by omega)
          omega
        have hs9 := ih (b + 1) (stA A a b st) (by omega) (by omega) (by omega) (by have := stA_le (A := A) (a := a) (b := b) (st := st); omega)
        by_cases hc : y < st.1
        · rw [if_pos (by rw [lg_cmp_lt, il_lt (by omega) (by omega)]; exact hc), ← hs9]
          unfold stA
          rw [if_pos (by rw [← hy]; exact hc), ← hy]
        · rw [if_neg (by rw [lg_cmp_lt, il_lt (by omega) (by omega)]; exact hc), ← hs9]
          unfold stA
          rw [if_neg (by rw [← hy]; exact hc)]
      by_cases hc : A a b ≤ A b a
      · rw [if_pos (by rw [lg_cmp_le, il_le (by omega) (by omega)]; exact hc), if_neg (by rw [ii_nneg (by omega)]; simp; omega)]
        exact go _ (by unfold mxN; rw [if_pos hc])
      · rw [if_neg (by rw [lg_cmp_le, il_le (by omega) (by omega)]; exact hc), if_neg (by rw [ii_nneg (by omega)]; simp; omega)]
        exact go _ (by unfold mxN; rw [if_neg hc])
theorem ask_L32 {F m : Nat} {s : Nat → Int32} {A : Nat → Nat → Nat} {ia : Nat → Int64} (hF : 20000 ≤ F) (hm : m ≤ 14) (hs : s 0 = ii m) (hA : ∀ i k, i < m → k < m → ia (14 * i + k) = il (A i k)) (hA2 : ∀ i k, i < m → k < m → A i k < 2 ^ 62) (kn ah on tw mu : Nat → Int32) (w v : Nat → Int64) (th : Int32) :
    ∀ (t a : Nat) (st : Nat × Int32), m < a + t → a ≤ m → st.1 < 2 ^ 62 → fX12_ask_L32 F 12 kn 25 s 5 ah 40 on 40 tw 14 16384 16384 196 t (il st.1) st.2 (ii a) th mu w v ia = some ((akO A m (m - a) a st).2, th, mu, w, v, ia) := by
  intro t
  induction t with
  | zero => intro a st h1 h2; omega
  | succ t ih =>
    intro a st h1 h2 h4
    rw [sX12_ask_L32]
    unfold bX12_ask_L32
    have z0 : ((0 : Int32)).toNatClampNeg = 0 := rfl
    have e1 : ii a + (1 : Int32) = ii (a + 1) := by rw [k_1, ii_add]
    rw [z0, hs, if_neg (show ¬ ((0 : Int32) < 0 ∨ 25 ≤ 0) by decide), e1]
    by_cases h : m ≤ a
    · have : a = m := by omega
      subst this
      rw [if_pos (by rw [ii_le (by omega) (by omega)]; exact h), Nat.sub_self]
      rfl
    · have er : m - a = (m - (a + 1)) + 1 := by omega
      rw [if_neg (by rw [ii_le (by omega) (by omega)]; exact h), ask_L49 hm hs hA hA2 kn ah on tw mu w v th (show a < m by omega) _ F (a + 1) st (by omega) (by omega) (by omega) h4, er]
      have := akI_le (A := A) (a := a) (m - (a + 1)) (a + 1) st
      rw [ih (a + 1) _ (by omega) (by omega) (by omega)]
      rfl
theorem ask_M {F n : Nat} {mk rd : Nat → Nat} {ki kn : Nat → Int32} (hn : okN n mk rd) (hm : netM n mk rd ki kn) (hF : 20000 ≤ F) {L E G : List Nat} {s ah on tw : Nat → Int32} (hL : okL n L) (hs : rS s L) (h14 : L.length ≤ 14) (hA : ahM ah on tw 0 E G) (hG : G.length = E.length) (h8 : E.length ≤ 8) (hE1 : ∀ e ∈ E, e < L.length) (hG1 : ∀ g ∈ G, g < L.length) (th : Int32) (mu : Nat → Int32) (w v ia : Nat → Int64) :
    ∃ mu' w' v' ia', fX12_ask F 12 kn 25 s 5 ah 40 on 40 tw 14 16384 16384 196 th mu w v ia = some ((akO (aW L.length (muA mk L E G)) L.length L.length 0 (nW L.length (muA mk L E G) (2 ^ L.length - 1), -1)).2, 0, mu', w', v', ia') := by
  obtain ⟨mu', w', v', e, g1, g2, g3⟩ := laysOrders_M (F := F) hn hm hF hL hs h14 hA hG h8 hE1 hG1 mu w v
  have hMU : ∀ k, k < L.length → muA mk L E G k < 2 ^ L.length := fun k hk => muE_lt (by omega) (Nat.le_refl _) hE1
  obtain ⟨ia', e2, g4⟩ := ah_L2 (F := F) (s := s) hF h14 hs.1 g1 hMU g2 g3 F 0 ia (by omega) (by omega) (fun k hk => by omega)
  have hp0 := Nat.two_pow_pos L.length
  have hN := nW_le (mu := muA mk L E G) h14 (show 2 ^ L.length - 1 < 2 ^ L.length by omega)
  have hself : ∀ i, i < L.length → aW L.length (muA mk L E G) i i = 0 := by
    intro i hi
    unfold aW
    apply sN_z
    intro S hS
    by_cases hf : mF (muA mk L E G) S i
    · rw [ind_f (p := S.testBit i = true) (by rw [hf.1]; decide), Nat.zero_mul, Nat.mul_zero]
    · rw [ind_f hf, Nat.zero_mul]
  have hA2 : ∀ i k, i < L.length → k < L.length → aW L.length (muA mk L E G) i k < 2 ^ 62 := by
    intro i k hi hk
    by_cases hik : i = k
    · rw [hik, hself k hk]
      exact Nat.two_pow_pos 62
    · have := aW_all (muA mk L E G) hi hk hik
      omega
  unfold fX12_ask
  have z0 : ((0 : Int32)).toNatClampNeg = 0 := rfl
  rw [z0, hs.1, if_neg (by decide), if_pos (by rw [k_14, ii_le (by omega) (by omega)]; exact h14), e]
  simp only [Option.bind_some]
  unfold fX12_laysAheads
  rw [show (0 : Int32) = ii 0 from rfl, e2]
  simp only [Option.bind_some]
  have := ask_L32 (F := F) (s := s) hF h14 hs.1 g4 hA2 kn ah on tw mu' w' v' (ii 0) F 0 (nW L.length (muA mk L E G) (2 ^ L.length - 1), -1) (by omega) (by omega) (by show nW _ _ _ < _; omega)
  rw [Nat.sub_zero] at this
  exact ⟨mu', w', v', ia', this⟩
theorem ask_M0 {F : Nat} {L : List Nat} {s : Nat → Int32} (hs : rS s L) (h14 : 14 < L.length) (h24 : L.length ≤ 24) (kn ah on tw : Nat → Int32) (th : Int32) (mu : Nat → Int32) (w v ia : Nat → Int64) : fX12_ask F 12 kn 25 s 5 ah 40 on 40 tw 14 16384 16384 196 th mu w v ia = some (-1, 0, mu, w, v, ia) := by
  unfold fX12_ask
  have z0 : ((0 : Int32)).toNatClampNeg = 0 := rfl
  rw [z0, hs.1, if_neg (by decide), if_neg (by rw [k_14, ii_le (by omega) (by omega)]; omega)]
