/-! PURE: numbers -/
def ii (n : Nat) : Int32 := Int32.ofNat n
def iz (z : Int) : Int32 := Int32.ofInt z
theorem ofNat_ii (n : Nat) : Int32.ofNat n = ii n := rfl
theorem ii_iz (n : Nat) : ii n = iz n := Int32.ofInt_eq_ofNat.symm
theorem ii_int {n : Nat} (h : n < 2147483648) : (ii n).toInt = n := Int32.toInt_ofNat_of_lt h
theorem ii_nat {n : Nat} (h : n < 2147483648) : (ii n).toNatClampNeg = n := Int32.toNatClampNeg_ofNat_of_lt h
theorem ii_lt {a b : Nat} (ha : a < 2147483648) (hb : b < 2147483648) : (ii a < ii b) = (a < b) := propext (Int32.ofNat_lt_iff_lt ha hb)
theorem ii_le {a b : Nat} (ha : a < 2147483648) (hb : b < 2147483648) : (ii a ≤ ii b) = (a ≤ b) := propext (Int32.ofNat_le_iff_le ha hb)
theorem ii_inj {a b : Nat} (ha : a < 2147483648) (hb : b < 2147483648) : (ii a = ii b) = (a = b) := propext ⟨fun h => by
  have h1 := congrArg Int32.toInt h
  rw [ii_int ha, ii_int hb] at h1
  omega, fun h => by rw [h]⟩
theorem ii_add (a b : Nat) : ii a + ii b = ii (a + b) := (Int32.ofNat_add a b).symm
theorem ii_sub {a b : Nat} (h : b ≤ a) : ii a - ii b = ii (a - b) := (Int32.ofNat_sub a b h).symm
theorem ii_mul (a b : Nat) : ii a * ii b = ii (a * b) := (Int32.ofNat_mul a b).symm
theorem ii_m1 {a : Nat} (h : 1 ≤ a) : ii a + (-1 : Int32) = ii (a - 1) := by
  rw [← ii_sub h]
  show ii a + -ii 1 = ii a - ii 1
  exact (Int32.sub_eq_add_neg (ii a) (ii 1)).symm
theorem ii_nneg {a : Nat} (h : a < 2147483648) : (ii a < 0) = False := by
  have h1 : (ii a < ii 0) = (a < 0) := ii_lt h (by decide)
  have h2 : (a < 0) = False := by simp
  exact h1.trans h2
theorem iz_int {z : Int} (h1 : -2147483648 ≤ z) (h2 : z < 2147483648) : (iz z).toInt = z := Int32.toInt_ofInt_of_le h1 h2
theorem iz_lt {a b : Int} (ha : -2147483648 ≤ a) (ha' : a < 2147483648) (hb : -2147483648 ≤ b) (hb' : b < 2147483648) : (iz a < iz b) = (a < b) := by
  rw [Int32.lt_iff_toInt_lt, iz_int ha ha', iz_int hb hb']
theorem iz_le {a b : Int} (ha : -2147483648 ≤ a) (ha' : a < 2147483648) (hb : -2147483648 ≤ b) (hb' : b < 2147483648) : (iz a ≤ iz b) = (a ≤ b) := by
  rw [Int32.le_iff_toInt_le, iz_int ha ha', iz_int hb hb']
theorem iz_inj {a b : Int} (ha : -2147483648 ≤ a) (ha' : a < 2147483648) (hb : -2147483648 ≤ b) (hb' : b < 2147483648) : (iz a = iz b) = (a = b) := propext ⟨fun h => by
  have h1 := congrArg Int32.toInt h
  rw [iz_int ha ha', iz_int hb hb'] at h1
  exact h1, fun h => by rw [h]⟩
theorem iz_add (a b : Int) : iz a + iz b = iz (a + b) := (Int32.ofInt_add a b).symm
theorem iz_sub (a b : Int) : iz a - iz b = iz (a - b) := (Int32.ofInt_sub a b).symm
theorem iz_mul (a b : Int) : iz a * iz b = iz (a * b) := (Int32.ofInt_mul a b).symm
theorem iz_neg (a : Int) : -iz a = iz (-a) := (Int32.ofInt_neg a).symm
theorem kz_m1 : (-1 : Int32) = iz (-1) := rfl
theorem kz_m2 : (-2 : Int32) = iz (-2) := rfl
theorem k_0 : (0 : Int32) = ii 0 := rfl
theorem k_1 : (1 : Int32) = ii 1 := rfl
theorem k_2 : (2 : Int32) = ii 2 := rfl
theorem k_3 : (3 : Int32) = ii 3 := rfl
theorem k_4 : (4 : Int32) = ii 4 := rfl
theorem k_5 : (5 : Int32) = ii 5 := rfl
theorem k_6 : (6 : Int32) = ii 6 := rfl
theorem k_7 : (7 : Int32) = ii 7 := rfl
theorem k_8 : (8 : Int32) = ii 8 := rfl
theorem k_9 : (9 : Int32) = ii 9 := rfl
theorem k_10 : (10 : Int32) = ii 10 := rfl
theorem k_11 : (11 : Int32) = ii 11 := rfl
theorem k_12 : (12 : Int32) = ii 12 := rfl
theorem k_13 : (13 : Int32) = ii 13 := rfl
theorem k_14 : (14 : Int32) = ii 14 := rfl
theorem k_15 : (15 : Int32) = ii 15 := rfl
theorem k_16 : (16 : Int32) = ii 16 := rfl
theorem k_17 : (17 : Int32) = ii 17 := rfl
theorem k_18 : (18 : Int32) = ii 18 := rfl
theorem k_19 : (19 : Int32) = ii 19 := rfl
theorem k_20 : (20 : Int32) = ii 20 := rfl
theorem k_21 : (21 : Int32) = ii 21 := rfl
theorem k_22 : (22 : Int32) = ii 22 := rfl
theorem k_23 : (23 : Int32) = ii 23 := rfl
theorem k_24 : (24 : Int32) = ii 24 := rfl
theorem k_25 : (25 : Int32) = ii 25 := rfl
theorem k_26 : (26 : Int32) = ii 26 := rfl
theorem k_27 : (27 : Int32) = ii 27 := rfl
theorem k_28 : (28 : Int32) = ii 28 := rfl
theorem k_29 : (29 : Int32) = ii 29 := rfl
theorem k_30 : (30 : Int32) = ii 30 := rfl
theorem k_31 : (31 : Int32) = ii 31 := rfl
theorem k_32 : (32 : Int32) = ii 32 := rfl
theorem k_33 : (33 : Int32) = ii 33 := rfl
theorem k_34 : (34 : Int32) = ii 34 := rfl
theorem k_35 : (35 : Int32) = ii 35 := rfl
theorem k_36 : (36 : Int32) = ii 36 := rfl
theorem k_37 : (37 : Int32) = ii 37 := rfl
theorem k_38 : (38 : Int32) = ii 38 := rfl
theorem k_39 : (39 : Int32) = ii 39 := rfl
theorem k_40 : (40 : Int32) = ii 40 := rfl
theorem k_42 : (42 : Int32) = ii 42 := rfl
theorem k_43 : (43 : Int32) = ii 43 := rfl
theorem k_45 : (45 : Int32) = ii 45 := rfl
theorem k_48 : (48 : Int32) = ii 48 := rfl
theorem k_57 : (57 : Int32) = ii 57 := rfl
theorem k_59 : (59 : Int32) = ii 59 := rfl
theorem k_60 : (60 : Int32) = ii 60 := rfl
theorem k_61 : (61 : Int32) = ii 61 := rfl
theorem k_62 : (62 : Int32) = ii 62 := rfl
theorem k_96 : (96 : Int32) = ii 96 := rfl
theorem k_97 : (97 : Int32) = ii 97 := rfl
theorem k_99 : (99 : Int32) = ii 99 := rfl
theorem k_100 : (100 : Int32) = ii 100 := rfl
theorem k_122 : (122 : Int32) = ii 122 := rfl
theorem k_126 : (126 : Int32) = ii 126 := rfl
theorem k_130 : (130 : Int32) = ii 130 := rfl
theorem k_196 : (196 : Int32) = ii 196 := rfl
theorem k_200 : (200 : Int32) = ii 200 := rfl
theorem k_255 : (255 : Int32) = ii 255 := rfl
theorem k_375 : (375 : Int32) = ii 375 := rfl
theorem k_999 : (999 : Int32) = ii 999 := rfl
theorem k_1000 : (1000 : Int32) = ii 1000 := rfl
theorem k_1001 : (1001 : Int32) = ii 1001 := rfl
theorem k_1296 : (1296 : Int32) = ii 1296 := rfl
theorem k_2000 : (2000 : Int32) = ii 2000 := rfl
theorem k_9999 : (9999 : Int32) = ii 9999 := rfl
theorem k_16384 : (16384 : Int32) = ii 16384 := rfl
/-! PURE: rows of numbers as functions -/
theorem upd_same (f : Nat → Int32) (k : Nat) (x : Int32) : upd f k x k = x := by simp [upd]
theorem upd_ne (f : Nat → Int32) {k j : Nat} (x : Int32) (h : j ≠ k) : upd f k x j = f j := by simp [upd, h]
/-- what stands behind p moves up by one -/
def shA (a : Nat → Int32) (p len : Nat) : Nat → Int32 := fun j => if p ≤ j ∧ j + 1 < len then a (j + 1) else a j
theorem shA_end {a : Nat → Int32} {p len : Nat} (h : len ≤ p + 1) : shA a p len = a := by
  funext j
  unfold shA
  rw [if_neg (by omega)]
theorem shA_step {a : Nat → Int32} {p len : Nat} (h : p + 1 < len) : shA (upd a p (a (p + 1))) (p + 1) len = shA a p len := by
  funext j
  unfold shA upd
  by_cases h1 : p ≤ j ∧ j + 1 < len
  · rw [if_pos h1]
    by_cases h2 : p + 1 ≤ j ∧ j + 1 < len
    · rw [if_pos h2, if_neg (by omega)]
    · rw [if_neg h2, if_pos (by omega)]
      have : j = p := by omega
      rw [this]
  · rw [if_neg h1, if_neg (by omega), if_neg (by omega)]
theorem row_out_L {F N len : Nat} (hN : len ≤ N) (hb : N < 1000000) : ∀ (n p : Nat) (a : Nat → Int32), len ≤ p + n → p < len → fX7_takeOut_L15 F N n (ii p) (ii len) a = some (ii (len - 1), shA a p len) := by
  intro n
  induction n with
  | zero => intro p a h1 h2; omega
  | succ n ih =>
    intro p a h1 h2
    show bX7_takeOut_L15 F N (fX7_takeOut_L15 F N n) (ii p) (ii len) a = _
    unfold bX7_takeOut_L15
    simp (disch := omega) only [k_1, k_0, ii_add, ii_le, ii_lt, ii_nat, ii_sub, Nat.not_lt_zero, false_or]
    by_cases h : len ≤ p + 1
    · rw [if_pos h, shA_end h]
    · rw [if_neg h, if_neg (by omega), if_neg (by omega), ih (p + 1) _ (by omega) (by omega), shA_step (by omega)]
theorem row_out {F N len p : Nat} (hN : len ≤ N) (hb : N < 1000000) (hF : len ≤ F) (hp : p < len) (a : Nat → Int32) : fX7_takeOut F N (ii p) (ii len) a = some (ii (len - 1), shA a p len) := by
  unfold fX7_takeOut
  simp (disch := omega) only [k_0, ii_lt, Nat.not_lt_zero, if_false]
  rw [if_pos hp]
  exact row_out_L hN hb F p a (by omega) hp
theorem row_add {F N len : Nat} (hN : len < N) (hb : N < 1000000) (x : Int32) (a : Nat → Int32) : fX7_add F N x (ii len) a = some (ii (len + 1), upd a len x) := by
  unfold fX7_add bX7_add_L32
  simp (disch := omega) only [ofNat_ii, k_1, k_0, ii_add, ii_le, ii_lt, ii_nat, Nat.not_lt_zero, false_or]
  rw [if_neg (by omega), if_neg (by omega)]
theorem row_full {F N : Nat} (x : Int32) (hb : N < 1000000) (a : Nat → Int32) : fX7_add F N x (ii N) a = some (ii N, a) := by
  unfold fX7_add bX7_add_L32
  simp (disch := omega) only [ofNat_ii, ii_le, Nat.le_refl, if_true]
theorem row_at {F N len p : Nat} (hN : len ≤ N) (hb : N < 1000000) (a : Nat → Int32) (hp : p < 1000000) : fX7_tieAt F (ii len) N a (ii p) = some (if p < len then a p else -1) := by
  unfold fX7_tieAt bX7_tieAt_L21 bX7_tieAt_L22
  simp (disch := omega) only [k_0, ii_lt, ii_le, ii_nat, Nat.not_lt_zero, false_or, if_false]
  by_cases h : len ≤ p
  · rw [if_pos h, if_neg (by omega)]
  · rw [if_neg h, if_neg (by omega), if_pos (by omega)]
/-- as much of a row as there is, over another one -/
def cpA (f g : Nat → Int32) (n : Nat) : Nat → Int32 := fun k => if k < n then f k else g k
theorem row_copy {F N M len len2 : Nat} (h1 : len ≤ N) (h2 : len ≤ M) (hb : N < 1000000) (hb2 : M < 1000000) (f g : Nat → Int32) : fX7_copyFrom F N (ii len) M f (ii len2) g = some (ii len, cpA f g len) := by
  unfold fX7_copyFrom
  simp (disch := omega) only [ofNat_ii, k_0, ii_lt, ii_nat, Nat.not_lt_zero, false_or]
  rw [if_neg (show ¬ N < len by omega)]
  simp (disch := omega) only [ii_lt, ii_nat, Nat.not_lt_zero, false_or]
  rw [if_neg (by omega)]
  refine congrArg some (Prod.ext rfl ?_)
  funext k
  unfold va_cpy cpA
  simp
