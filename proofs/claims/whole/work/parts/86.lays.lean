/-! PURE: the reference lays one slot over another -/
def cpQ (p q c : Nat) (g : Nat → Int32) : Nat → Int32 := fun k => if q ≤ k ∧ k < q + c then g (p + (k - q)) else g k
theorem cpQ_0 {p q : Nat} {g : Nat → Int32} : cpQ p q 0 g = g := by
  funext k
  unfold cpQ
  rw [if_neg (by omega)]
theorem cpQ_s {p q w c : Nat} {g : Nat → Int32} (h : p + w ≤ q ∨ q + w ≤ p) (hc : c < w) : upd (cpQ p q c g) (q + c) (cpQ p q c g (p + c)) = cpQ p q (c + 1) g := by
  have e : cpQ p q c g (p + c) = g (p + c) := by
    unfold cpQ
    rw [if_neg (by omega)]
  rw [e]
  funext k
  by_cases h1 : k = q + c
  · rw [h1, upd_same]
    unfold cpQ
    rw [if_pos (by omega), show p + (q + c - q) = p + c by omega]
  · rw [upd_ne _ _ h1]
    unfold cpQ
    by_cases h2 : q ≤ k ∧ k < q + c
    · rw [if_pos h2, if_pos (by omega)]
    · rw [if_neg h2, if_neg (by omega)]
theorem laysLines_L {F a b : Nat} (ha : a < 6) (hb : b < 6) (hab : a ≠ b) {li lw ln : Nat → Int32} : ∀ (t c : Nat), c ≤ 40 → 40 < c + t → fX12_laysLines_L14 F 6 240 240 t (ii a) (ii b) (ii c) li (cpQ (40 * a) (40 * b) c lw) (cpQ (40 * a) (40 * b) c ln) = some (li, cpQ (40 * a) (40 * b) 40 lw, cpQ (40 * a) (40 * b) 40 ln) := by
  intro t
  induction t with
  | zero => intro c h1 h2; omega
  | succ t ih =>
    intro c h1 h2
    rw [sX12_laysLines_L14]
    unfold bX12_laysLines_L14
    simp (disch := omega) only [k_40, k_1, ii_mul, ii_add, ii_le, ii_nneg, ii_nat, false_or]
    by_cases h : 40 ≤ c
    · rw [if_pos h, show c = 40 by omega]
    · rw [if_neg h, if_neg (by omega), if_neg (by omega), if_neg (by omega), if_neg (by omega), cpQ_s (w := 40) (by omega) (by omega), cpQ_s (w := 40) (by omega) (by omega)]
      exact ih (c + 1) (by omega) (by omega)
theorem laysLines_eq {F a b : Nat} (hF : 1000 ≤ F) (ha : a < 6) (hb : b < 6) (hab : a ≠ b) (li lw ln : Nat → Int32) : fX12_laysLines F 6 240 240 (ii a) (ii b) li lw ln = some (upd li b (li a), cpQ (40 * a) (40 * b) 40 lw, cpQ (40 * a) (40 * b) 40 ln) := by
  unfold fX12_laysLines
  simp (disch := omega) only [ii_nneg, ii_nat, false_or]
  rw [if_neg (by omega), if_neg (by omega)]
  have h := laysLines_L (F := F) ha hb hab (li := upd li b (li a)) (lw := lw) (ln := ln) F 0 (by omega) (by omega)
  rw [cpQ_0, cpQ_0] at h
  exact h
theorem laysOther_L {F a b : Nat} (ha : a < 6) (hb : b < 6) (hab : a ≠ b) {li lw : Nat → Int32} : ∀ (t c : Nat), c ≤ 24 → 24 < c + t → fX12_laysOther_L14 F 6 144 t (ii a) (ii b) (ii c) li (cpQ (24 * a) (24 * b) c lw) = some (li, cpQ (24 * a) (24 * b) 24 lw) := by
  intro t
  induction t with
  | zero => intro c h1 h2; omega
  | succ t ih =>
    intro c h1 h2
    rw [sX12_laysOther_L14]
    unfold bX12_laysOther_L14
    simp (disch := omega) only [k_24, k_1, ii_mul, ii_add, ii_le, ii_nneg, ii_nat, false_or]
    by_cases h : 24 ≤ c
    · rw [if_pos h, show c = 24 by omega]
    · rw [if_neg h, if_neg (by omega), if_neg (by omega), cpQ_s (w := 24) (by omega) (by omega)]
      exact ih (c + 1) (by omega) (by omega)
theorem laysOther_eq {F a b : Nat} (hF : 1000 ≤ F) (ha : a < 6) (hb : b < 6) (hab : a ≠ b) (li lw : Nat → Int32) : fX12_laysOther F 6 144 (ii a) (ii b) li lw = some (upd li b (li a), cpQ (24 * a) (24 * b) 24 lw) := by
  unfold fX12_laysOther
  simp (disch := omega) only [ii_nneg, ii_nat, false_or]
  rw [if_neg (by omega), if_neg (by omega)]
  have h := laysOther_L (F := F) ha hb hab (li := upd li b (li a)) (lw := lw) F 0 (by omega) (by omega)
  rw [cpQ_0] at h
  exact h
theorem laysAhead_L {F a b : Nat} (ha : a < 5) (hb : b < 5) (hab : a ≠ b) {li lw ln : Nat → Int32} : ∀ (t c : Nat), c ≤ 8 → 8 < c + t → fX12_laysAhead_L14 F 5 40 40 t (ii a) (ii b) (ii c) li (cpQ (8 * a) (8 * b) c lw) (cpQ (8 * a) (8 * b) c ln) = some (li, cpQ (8 * a) (8 * b) 8 lw, cpQ (8 * a) (8 * b) 8 ln) := by
  intro t
  induction t with
  | zero => intro c h1 h2; omega
  | succ t ih =>
    intro c h1 h2
    rw [sX12_laysAhead_L14]
    unfold bX12_laysAhead_L14
    simp (disch := omega) only [k_8, k_1, ii_mul, ii_add, ii_le, ii_nneg, ii_nat, false_or]
    by_cases h : 8 ≤ c
    · rw [if_pos h, show c = 8 by omega]
    · rw [if_neg h, if_neg (by omega), if_neg (by omega), if_neg (by omega), if_neg (by omega), cpQ_s (w := 8) (by omega) (by omega), cpQ_s (w := 8) (by omega) (by omega)]
      exact ih (c + 1) (by omega) (by omega)
theorem laysAhead_eq {F a b : Nat} (hF : 1000 ≤ F) (ha : a < 5) (hb : b < 5) (hab : a ≠ b) (li lw ln : Nat → Int32) : fX12_laysAhead F 5 40 40 (ii a) (ii b) li lw ln = some (upd li b (li a), cpQ (8 * a) (8 * b) 8 lw, cpQ (8 * a) (8 * b) 8 ln) := by
  unfold fX12_laysAhead
  simp (disch := omega) only [ii_nneg, ii_nat, false_or]
  rw [if_neg (by omega), if_neg (by omega)]
  have h := laysAhead_L (F := F) ha hb hab (li := upd li b (li a)) (lw := lw) (ln := ln) F 0 (by omega) (by omega)
  rw [cpQ_0, cpQ_0] at h
  exact h
