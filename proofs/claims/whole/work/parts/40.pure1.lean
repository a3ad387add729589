/-! PURE: rests -/
def vGain (own others needs gets loses : Int32) : Int32 := (if own + others < needs then 0 else gets) - loses * own
theorem gain_eq (F : Nat) (a0 a1 a2 a3 a4 : Int32) : fX11_gain F a0 a1 a2 a3 a4 = some (vGain a0 a1 a2 a3 a4) := by
  unfold fX11_gain bX11_gain_L12 vGain
  split <;> rfl
theorem getsBy_eq (F : Nat) (a0 a1 a2 a3 a4 : Int32) : fX12_getsBy F a0 a1 a2 a3 a4 = some (vGain a3 a4 a0 a1 a2) := by
  unfold fX12_getsBy bX12_getsBy_L13 vGain
  split <;> rfl
/-- giving otherwise brings no more -/
def vBest (own others needs gets loses : Int32) : Bool := [0, 1, 2, 3, 4, 5].all (fun x => decide (vGain x others needs gets loses ≤ vGain own others needs gets loses))
theorem isBest_eq (F : Nat) (a0 a1 a2 a3 a4 : Int32) : fX11_isBest (F + 7) a0 a1 a2 a3 a4 = some (if vBest a0 a1 a2 a3 a4 = true then 1 else 0) := by
  unfold fX11_isBest
  simp only [gain_eq, Option.bind_some]
  have e1 : ∀ (n : Nat) (x5 x6 : Int32), fX11_isBest_L14 (F + 7) (n + 1) a1 a2 a3 a4 x5 x6 = if (5 : Int32) < x6 then some 1 else if vGain x6 a1 a2 a3 a4 ≤ x5 then fX11_isBest_L14 (F + 7) n a1 a2 a3 a4 x5 (x6 + 1) else some 0 := by
    intro n x5 x6
    show bX11_isBest_L14 (F + 7) (fX11_isBest_L14 (F + 7) n) a1 a2 a3 a4 x5 x6 = _
    unfold bX11_isBest_L14
    simp only [gain_eq, Option.bind_some]
  rw [e1, if_neg (show ¬ (5 : Int32) < 0 by decide), e1, if_neg (show ¬ (5 : Int32) < 0 + 1 by decide), e1, if_neg (show ¬ (5 : Int32) < 0 + 1 + 1 by decide), e1, if_neg (show ¬ (5 : Int32) < 0 + 1 + 1 + 1 by decide), e1, if_neg (show ¬ (5 : Int32) < 0 + 1 + 1 + 1 + 1 by decide), e1, if_neg (show ¬ (5 : Int32) < 0 + 1 + 1 + 1 + 1 + 1 by decide), e1, if_pos (show (5 : Int32) < 0 + 1 + 1 + 1 + 1 + 1 + 1 by decide)]
  simp only [show (0 : Int32) + 1 = 1 by decide, show (1 : Int32) + 1 = 2 by decide, show (2 : Int32) + 1 = 3 by decide, show (3 : Int32) + 1 = 4 by decide, show (4 : Int32) + 1 = 5 by decide, vBest, List.all_cons, List.all_nil, Bool.and_true, Bool.and_eq_true, decide_eq_true_eq]
  repeat' split
  all_goals simp_all
theorem isRest_eq (F : Nat) (a0 a1 a2 a3 a4 : Int32) : fX12_isRest (F + 7) a0 a1 a2 a3 a4 = some (if vBest a3 a4 a0 a1 a2 = true ∧ vBest a4 a3 a0 a1 a2 = true then 1 else 0) := by
  unfold fX12_isRest
  have e1 : ∀ (n : Nat) (x5 : Int32), fX12_isRest_L3 (F + 7) (n + 1) a0 a1 a2 a3 a4 x5 = if (6 : Int32) ≤ x5 then some 1 else if vGain x5 a4 a0 a1 a2 ≤ vGain a3 a4 a0 a1 a2 ∧ vGain x5 a3 a0 a1 a2 ≤ vGain a4 a3 a0 a1 a2 then fX12_isRest_L3 (F + 7) n a0 a1 a2 a3 a4 (x5 + 1) else some 0 := by
    intro n x5
    show bX12_isRest_L3 (F + 7) (fX12_isRest_L3 (F + 7) n) a0 a1 a2 a3 a4 x5 = _
    unfold bX12_isRest_L3 bX12_isRest_L53
    simp only [getsBy_eq, Option.bind_some]
    by_cases h1 : (6 : Int32) ≤ x5
    · rw [if_pos h1, if_pos h1]
    · rw [if_neg h1, if_neg h1]
      by_cases h2 : vGain a3 a4 a0 a1 a2 < vGain x5 a4 a0 a1 a2
      · rw [if_pos h2, if_neg (fun h => Int32.not_le.mpr h2 h.1)]
      · rw [if_neg h2]
        have h3 := Int32.not_lt.mp h2
        by_cases h4 : vGain x5 a3 a0 a1 a2 ≤ vGain a4 a3 a0 a1 a2
        · rw [if_pos h4, if_pos ⟨h3, h4⟩]
        · rw [if_neg h4, if_neg (fun h => h4 h.2)]
  rw [e1, if_neg (show ¬ (6 : Int32) ≤ 0 by decide), e1, if_neg (show ¬ (6 : Int32) ≤ 0 + 1 by decide), e1, if_neg (show ¬ (6 : Int32) ≤ 0 + 1 + 1 by decide), e1, if_neg (show ¬ (6 : Int32) ≤ 0 + 1 + 1 + 1 by decide), e1, if_neg (show ¬ (6 : Int32) ≤ 0 + 1 + 1 + 1 + 1 by decide), e1, if_neg (show ¬ (6 : Int32) ≤ 0 + 1 + 1 + 1 + 1 + 1 by decide), e1, if_pos (show (6 : Int32) ≤ 0 + 1 + 1 + 1 + 1 + 1 + 1 by decide)]
  simp only [show (0 : Int32) + 1 = 1 by decide, show (1 : Int32) + 1 = 2 by decide, show (2 : Int32) + 1 = 3 by decide, show (3 : Int32) + 1 = 4 by decide, show (4 : Int32) + 1 = 5 by decide, vBest, List.all_cons, List.all_nil, Bool.and_true, Bool.and_eq_true, decide_eq_true_eq]
  repeat' split
  all_goals simp_all
