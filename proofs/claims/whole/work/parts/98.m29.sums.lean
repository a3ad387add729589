/-! PURE: sums, and masks of many bits -/
def sN : Nat → (Nat → Nat) → Nat
  | 0, _ => 0
  | n + 1, f => sN n f + f n
theorem sN_0 (f : Nat → Nat) : sN 0 f = 0 := rfl
theorem sN_s (n : Nat) (f : Nat → Nat) : sN (n + 1) f = sN n f + f n := rfl
theorem sN_c {n : Nat} {f g : Nat → Nat} (h : ∀ k, k < n → f k = g k) : sN n f = sN n g := by
  induction n with
  | zero => rfl
  | succ n ih => rw [sN_s, sN_s, ih (fun k hk => h k (by omega)), h n (by omega)]
theorem sN_add (n : Nat) (f g : Nat → Nat) : sN n (fun k => f k + g k) = sN n f + sN n g := by
  induction n with
  | zero => rfl
  | succ n ih => rw [sN_s, sN_s, sN_s, ih]; omega
theorem sN_z {n : Nat} {f : Nat → Nat} (h : ∀ k, k < n → f k = 0) : sN n f = 0 := by
  induction n with
  | zero => rfl
  | succ n ih => rw [sN_s, ih (fun k hk => h k (by omega)), h n (by omega)]
theorem sN_mul (n : Nat) (f : Nat → Nat) (c : Nat) : sN n (fun k => c * f k) = c * sN n f := by
  induction n with
  | zero => rfl
  | succ n ih => rw [sN_s, sN_s, ih, Nat.mul_add]
theorem sN_sw (n m : Nat) (f : Nat → Nat → Nat) : sN n (fun a => sN m (fun b => f a b)) = sN m (fun b => sN n (fun a => f a b)) := by
  induction n with
  | zero => exact (sN_z (fun k _ => rfl)).symm
  | succ n ih =>
    rw [sN_s, ih, ← sN_add]
    rfl
theorem sN_le {n : Nat} {f g : Nat → Nat} (h : ∀ k, k < n → f k ≤ g k) : sN n f ≤ sN n g := by
  induction n with
  | zero => exact Nat.le_refl _
  | succ n ih =>
    rw [sN_s, sN_s]
    exact Nat.add_le_add (ih (fun k hk => h k (by omega))) (h n (by omega))
theorem sN_mem {n : Nat} {f : Nat → Nat} {k : Nat} (h : k < n) : f k ≤ sN n f := by
  induction n with
  | zero => omega
  | succ n ih =>
    rw [sN_s]
    by_cases hk : k = n
    · rw [hk]; omega
    · have := ih (by omega); omega
def ind (p : Prop) [Decidable p] : Nat := if p then 1 else 0
theorem ind_t {p : Prop} [Decidable p] (h : p) : ind p = 1 := if_pos h
theorem ind_f {p : Prop} [Decidable p] (h : ¬ p) : ind p = 0 := if_neg h
theorem ind_c {p q : Prop} [Decidable p] [Decidable q] (h : p ↔ q) : ind p = ind q := by
  by_cases hp : p
  · rw [ind_t hp, ind_t (h.mp hp)]
  · rw [ind_f hp, ind_f (fun hq => hp (h.mpr hq))]
theorem ind_and (p q : Prop) [Decidable p] [Decidable q] : ind (p ∧ q) = ind p * ind q := by
  by_cases hp : p
  · by_cases hq : q
    · rw [ind_t ⟨hp, hq⟩, ind_t hp, ind_t hq]
    · rw [ind_f (fun h => hq h.2), ind_f hq, Nat.mul_zero]
  · rw [ind_f (fun h => hp h.1), ind_f hp, Nat.zero_mul]
theorem sN_1 {n y : Nat} (hy : y < n) (g : Nat → Nat) : sN n (fun k => ind (y = k) * g k) = g y := by
  induction n with
  | zero => omega
  | succ n ih =>
    rw [sN_s]
    by_cases h : y = n
    · subst h
      rw [ind_t rfl, Nat.one_mul, sN_z (fun k hk => by rw [ind_f (by omega), Nat.zero_mul]), Nat.zero_add]
    · rw [ih (by omega), ind_f h, Nat.zero_mul, Nat.add_zero]
theorem sN_count {n : Nat} {f : Nat → Nat} {c : Nat} (h : ∀ k, k < n → f k ≤ c) : sN n f ≤ n * c := by
  induction n with
  | zero => rw [Nat.zero_mul]; exact Nat.le_refl _
  | succ n ih =>
    rw [sN_s, Nat.succ_mul]
    exact Nat.add_le_add (ih (fun k hk => h k (by omega))) (h n (by omega))
theorem ii_bv (a : Nat) : (ii a).toBitVec = BitVec.ofNat 32 a := rfl
theorem iAnd (a b : Nat) : ii a &&& ii b = ii (a &&& b) := by
  apply Int32.toBitVec_inj.1
  rw [Int32.toBitVec_and, ii_bv, ii_bv, ii_bv]
  apply BitVec.eq_of_getLsbD_eq
  intro i hi
  rw [BitVec.getLsbD_and, BitVec.getLsbD_ofNat, BitVec.getLsbD_ofNat, BitVec.getLsbD_ofNat, Nat.testBit_and]
  cases decide (i < 32) <;> rfl
theorem iOr (a b : Nat) : ii a ||| ii b = ii (a ||| b) := by
  apply Int32.toBitVec_inj.1
  rw [Int32.toBitVec_or, ii_bv, ii_bv, ii_bv]
  apply BitVec.eq_of_getLsbD_eq
  intro i hi
  rw [BitVec.getLsbD_or, BitVec.getLsbD_ofNat, BitVec.getLsbD_ofNat, BitVec.getLsbD_ofNat, Nat.testBit_or]
  cases decide (i < 32) <;> rfl
theorem iSh : ∀ k, k < 31 → (1 : Int32) <<< (ii k &&& 31) = ii (2 ^ k) := by decide +kernel
theorem iSh2 : ∀ k, k < 31 → (ii k &&& 31).toBitVec.smod 32 = BitVec.ofNat 32 k := by decide +kernel
theorem iBit {S k : Nat} (hS : S < 2 ^ 31) (hk : k < 31) : (ii S >>> (ii k &&& 31)) &&& (1 : Int32) = if S.testBit k = true then 1 else 0 := by
  apply Int32.toBitVec_inj.1
  rw [Int32.toBitVec_and, Int32.toBitVec_shiftRight, iSh2 k hk, ii_bv, BitVec.sshiftRight'_ofNat_eq_sshiftRight, Nat.mod_eq_of_lt (by omega)]
  have hm : (BitVec.ofNat 32 S).msb = false := by
    rw [BitVec.msb_eq_decide, BitVec.toNat_ofNat, Nat.mod_eq_of_lt (by omega)]
    exact decide_eq_false (by omega)
  rw [BitVec.sshiftRight_eq_of_msb_false hm]
  apply BitVec.eq_of_getLsbD_eq
  intro i hi
  rw [BitVec.getLsbD_and, BitVec.getLsbD_ushiftRight, BitVec.getLsbD_ofNat, show (1 : Int32).toBitVec = 1#32 from rfl, BitVec.getLsbD_one]
  by_cases h0 : i = 0
  · subst h0
    rw [Nat.add_zero]
    cases S.testBit k
    · rw [if_neg (by decide), Bool.and_false, Bool.false_and]
      rfl
    · rw [if_pos rfl, Bool.and_true, decide_eq_true (show k < 32 by omega)]
      rfl
  · rw [decide_eq_false h0, Bool.and_false, Bool.and_false]
    split
    · rw [show (1 : Int32).toBitVec = 1#32 from rfl, BitVec.getLsbD_one, decide_eq_false h0, Bool.and_false]
    · show false = (0#32).getLsbD i
      rw [BitVec.getLsbD_zero]
theorem iBit0 {S k : Nat} (hS : S < 2 ^ 31) (hk : k < 31) : ((ii S >>> (ii k &&& 31)) &&& (1 : Int32) = 0) = (S.testBit k = false) := by
  rw [iBit hS hk]
  cases S.testBit k
  · rw [if_neg (by decide)]
    exact eq_of_heq (by simp)
  · rw [if_pos rfl]
    exact propext ⟨fun h => absurd h (by decide), fun h => absurd h (by decide)⟩
theorem iBit1 {S k : Nat} (hS : S < 2 ^ 31) (hk : k < 31) : ((ii S >>> (ii k &&& 31)) &&& (1 : Int32) = 1) = (S.testBit k = true) := by
  rw [iBit hS hk]
  cases S.testBit k
  · rw [if_neg (by decide)]
    exact propext ⟨fun h => absurd h (by decide), fun h => absurd h (by decide)⟩
  · rw [if_pos rfl]
    exact eq_of_heq (by simp)
/-- b holds all of a -/
abbrev subM (a b : Nat) : Prop := a &&& b = a
theorem subM_b {a b : Nat} : subM a b ↔ ∀ i, a.testBit i = true → b.testBit i = true := by
  constructor
  · intro h i hi
    have : (a &&& b).testBit i = a.testBit i := by rw [h]
    rw [Nat.testBit_and, hi] at this
    simpa using this
  · intro h
    apply Nat.eq_of_testBit_eq
    intro i
    rw [Nat.testBit_and]
    cases ha : a.testBit i
    · rfl
    · rw [h i ha]
      rfl
theorem iSub {a b : Nat} (ha : a < 2 ^ 31) (hb : b < 2 ^ 31) : (ii a &&& (ii b ^^^ (-1 : Int32)) = 0) = subM a b := by
  apply propext
  rw [subM_b]
  constructor
  · intro h i hi
    have h2 := congrArg Int32.toBitVec h
    rw [Int32.toBitVec_and, Int32.toBitVec_xor, ii_bv, ii_bv] at h2
    have hi32 : i < 31 := by
      by_cases hc : i < 31
      · exact hc
      · exfalso
        rw [Nat.testBit_lt_two_pow (Nat.lt_of_lt_of_le ha (Nat.pow_le_pow_right (by decide) (by omega)))] at hi
        cases hi
    have h3 := congrArg (fun v => v.getLsbD i) h2
    rw [BitVec.getLsbD_and, BitVec.getLsbD_xor, BitVec.getLsbD_ofNat, BitVec.getLsbD_ofNat, hi, decide_eq_true (show i < 32 by omega), show (-1 : Int32).toBitVec = BitVec.allOnes 32 from by decide, BitVec.getLsbD_allOnes, decide_eq_true (show i < 32 by omega), show (0 : Int32).toBitVec = 0#32 from rfl, BitVec.getLsbD_zero] at h3
    cases hb2 : b.testBit i
    · rw [hb2] at h3
      cases h3
    · rfl
  · intro h
    apply Int32.toBitVec_inj.1
    rw [Int32.toBitVec_and, Int32.toBitVec_xor, ii_bv, ii_bv]
    apply BitVec.eq_of_getLsbD_eq
    intro i hi
    rw [BitVec.getLsbD_and, BitVec.getLsbD_xor, BitVec.getLsbD_ofNat, BitVec.getLsbD_ofNat, decide_eq_true hi, show (-1 : Int32).toBitVec = BitVec.allOnes 32 from by decide, BitVec.getLsbD_allOnes, decide_eq_true hi, show (0 : Int32).toBitVec = 0#32 from rfl, BitVec.getLsbD_zero]
    cases ha2 : a.testBit i
    · rfl
    · rw [h i ha2]
      rfl
theorem tb_or2 (S x i : Nat) : (S ||| 2 ^ x).testBit i = (S.testBit i || decide (x = i)) := by
  rw [Nat.testBit_or, Nat.testBit_two_pow]
theorem or2_lt {S x m : Nat} (hS : S < 2 ^ m) (hx : x < m) : S ||| 2 ^ x < 2 ^ m := Nat.or_lt_two_pow hS (Nat.pow_lt_pow_right (by decide) hx)
theorem or2_gt {S x : Nat} (h : S.testBit x = false) : S < S ||| 2 ^ x := by
  have h1 : S ≤ S ||| 2 ^ x := Nat.left_le_or
  have h2 : S ≠ S ||| 2 ^ x := by
    intro h3
    have h4 := tb_or2 S x x
    rw [← h3, h, decide_eq_true rfl] at h4
    cases h4
  omega
