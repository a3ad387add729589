/-! PURE: decided by trying all -/
theorem bit_kin : ∀ m, m < 64 → ∀ g, g < 6 → ((ii m >>> (ii g &&& 31)) &&& (1 : Int32) = 0) = (m.testBit g = false) := by
  have h : ∀ m, m < 64 → ∀ g, g < 6 → decide ((ii m >>> (ii g &&& 31)) &&& (1 : Int32) = 0) = decide (m.testBit g = false) := by decide +kernel
  intro m hm g hg
  exact propext (decide_eq_decide.mp (h m hm g hg))
theorem bit_stop : ∀ m, m < 64 → ∀ f, f < 6 → ∀ g, g < 6 → (m ||| 2 ^ f).testBit g = (m.testBit g || decide (g = f)) := by decide +kernel
theorem or_lt64 : ∀ m, m < 64 → ∀ f, f < 6 → m ||| 2 ^ f < 64 := by decide +kernel
def fmE (a0 a1 : Int32) : Int32 := if 0 ≤ (a0 ^^^ a1) then a0 - a0 / a1 * a1 else if (a0 - a0 / a1 * a1) = 0 then a0 - a0 / a1 * a1 else (a0 - a0 / a1 * a1) + a1
theorem fm_ok : ∀ k : Nat, k < 401 → ∀ m, m < 5 → 2 ≤ m → fmE (iz ((k : Int) - 200)) (ii m) = iz (((k : Int) - 200) % (m : Int)) := by decide +kernel
def cnE (z m : Int32) : Int32 := if (0 : Int32) ≤ (z - z / m * m) then z - z / m * m else (z - z / m * m) + m
theorem cn_ok : ∀ k : Nat, k < 401 → ∀ m, m < 5 → 2 ≤ m → cnE (iz ((k : Int) - 200)) (ii m) = iz (((k : Int) - 200) % (m : Int)) := by decide +kernel
theorem tie_half : ∀ t, t < 12 → ii t / (2 : Int32) = ii (t / 2) := by decide +kernel
theorem tie_even : ∀ t, t < 12 → decide (ii t - ii t / (2 : Int32) * (2 : Int32) = 0) = decide (t % 2 = 0) := by decide +kernel
theorem tie_folk : ∀ t, t < 12 → ii t >>> ((1 : Int32) &&& 31) = ii (t / 2) := by decide +kernel
theorem tie_bit : ∀ t, t < 12 → decide (ii t &&& (1 : Int32) = 0) = decide (t % 2 = 0) := by decide +kernel
/-- the other way -/
def tn (t : Nat) : Nat := if t % 2 = 0 then t + 1 else t - 1
theorem turned_ok : ∀ t, t < 12 → (if (ii t - ii t / (2 : Int32) * (2 : Int32)) = 0 then ii t + (1 : Int32) else ii t - (1 : Int32)) = ii (tn t) := by decide +kernel
