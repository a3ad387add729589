/-! PURE: undo and ahead of both sides -/
theorem undo_X0 {F : Nat} {o ah sz : Int32} {rs a : Nat → Int32} {rt : Nat → Nat → Int32} : fX11_undo F 24 o 16 rs 24 rt ah sz a (ii 0) = some (0, ah, sz, a, ii 0) := by
  unfold fX11_undo
  rw [if_pos (show ii 0 = (0 : Int32) from rfl)]
theorem undo_X1 {F o : Nat} {rs : Nat → Int32} {rt : Nat → Nat → Int32} {P : List (List Nat)} {M : List Nat} (h : rPX o rs rt (P ++ [M])) (h24 : M.length ≤ 24) (ah sz : Int32) (a : Nat → Int32) :
    ∃ a', fX11_undo F 24 (ii o) 16 rs 24 rt ah sz a (ii (P ++ [M]).length) = some (1, 0, ii M.length, a', ii P.length) ∧ rL a' M ∧ rPX o rs rt P := by
  obtain ⟨a', e1, h1, h2⟩ := back_X (F := F) h h24 sz a
  refine ⟨a', ?_, h1, h2⟩
  have hl := h.2.1
  unfold fX11_undo
  rw [if_neg (by rw [len0 (by omega)]; simp), e1]
  rfl
theorem undo_M0 {F : Nat} {th : Int32} {un s ah : Nat → Int32} : fX12_undo F 25 400 un 5 th (ii 0) s ah = some (0, 0, ii 0, s, ah) := by
  unfold fX12_undo
  rw [if_pos (show ii 0 = (0 : Int32) from rfl)]
theorem undo_M1 {F : Nat} (hF : 1000 ≤ F) {un : Nat → Int32} {P : List (List Nat)} {M : List Nat} (h : rPM un (P ++ [M])) (h24 : M.length ≤ 24) (th : Int32) (s ah : Nat → Int32) :
    ∃ s', fX12_undo F 25 400 un 5 th (ii (P ++ [M]).length) s ah = some (1, 0, ii P.length, s', upd ah 0 0) ∧ rS s' M ∧ rPM un P := by
  obtain ⟨h1, h2⟩ := h
  have hl : (P ++ [M]).length = P.length + 1 := by simp
  have h4 := h2 P.length (by omega)
  have e2 : (P ++ [M]).getD P.length [] = M := by
    rw [getDL2 (Nat.le_refl _), Nat.sub_self]
    rfl
  rw [e2] at h4
  rw [hl] at h1 ⊢
  unfold fX12_undo
  have e3 : ii (P.length + 1) - (1 : Int32) = ii P.length := by rw [k_1, ii_sub (by omega)]; rfl
  have e4 : (25 : Int32) * ii P.length = ii (25 * P.length) := by rw [k_25, ii_mul]
  have e5 : fX12_copies F 400 un 25 (ii (25 * P.length)) (0 : Int32) s = some (cpB un s (25 * P.length) 0 0) := copies_eq (q := 0) (by omega) (by omega) (by omega) (by omega) (by omega)
  rw [if_neg (by rw [len0 (by omega)]; omega), e3, e4, e5]
  simp only [Option.bind_some]
  rw [if_neg (by decide)]
  refine ⟨_, rfl, ⟨?_, fun j hj => ?_⟩, by omega, fun k hk => ?_⟩
  · show cpB un s (25 * P.length) 0 0 0 = _
    unfold cpB
    rw [if_pos (by omega)]
    exact h4.1
  · show cpB un s (25 * P.length) 0 0 (j + 1) = _
    unfold cpB
    rw [if_pos (by omega), show j + 1 - 0 = j + 1 by omega]
    exact h4.2 j hj
  · have h5 := h2 k (by omega)
    rw [getDL1 hk] at h5
    exact h5
/-- two places of the line, one ahead of the other -/
def ahOk (len : Nat) (a b : Int32) : Prop := ¬ a < 0 ∧ ¬ ii len ≤ a ∧ ¬ b < 0 ∧ ¬ ii len ≤ b ∧ a ≠ b
theorem ahead_X1 {F len m : Nat} {a b : Int32} (h : ahOk len a b) (hm : m < 8) (ea la : Nat → Int32) : fX11_ahead F (ii len) 8 8 a b (ii m) ea la = some (1, ii (m + 1), upd ea m a, upd la m b) := by
  obtain ⟨h1, h2, h3, h4, h5⟩ := h
  unfold fX11_ahead fX8_addAhead
  rw [if_neg h1, if_neg h2, if_neg h3, if_neg h4, if_neg h5]
  simp (disch := omega) only [k_8, ii_lt, ii_nneg, ii_nat, false_or, k_1, ii_add]
  rw [if_pos hm, if_neg (by omega), if_neg (by omega)]
  simp only [Option.bind_some]
  rw [if_pos (Or.inr trivial)]
theorem ahead_X0 {F len m : Nat} {a b : Int32} (h : ¬ ahOk len a b ∨ m = 8) (hm : m ≤ 8) (ea la : Nat → Int32) : fX11_ahead F (ii len) 8 8 a b (ii m) ea la = some (0, ii m, ea, la) := by
  unfold fX11_ahead fX8_addAhead bX11_ahead_L34
  by_cases h1 : a < 0
  · rw [if_pos h1]
  · rw [if_neg h1]
    by_cases h2 : ii len ≤ a
    · rw [if_pos h2]
    · rw [if_neg h2]
      by_cases h3 : b < 0
      · rw [if_pos h3]
      · rw [if_neg h3]
        by_cases h4 : ii len ≤ b
        · rw [if_pos h4]
        · rw [if_neg h4]
          by_cases h5 : a = b
          · rw [if_pos h5]
          · rw [if_neg h5]
            have h6 : m = 8 := h.resolve_left (fun h7 => h7 ⟨h1, h2, h3, h4, h5⟩)
            rw [if_neg (by rw [k_8, ii_lt (by omega) (by omega)]; omega)]
            simp only [Option.bind_some]
            rw [if_pos (Or.inl trivial)]
theorem ahead_M1 {F m : Nat} {L : List Nat} {s : Nat → Int32} (hs : rS s L) {a b th : Int32} (h : ahOk L.length a b) (hm : m < 8) {ah : Nat → Int32} (hah : ah 0 = ii m) (on tw : Nat → Int32) : fX12_ahead F 25 s 5 40 40 a b th ah on tw = some (1, 0, upd ah 0 (ii (m + 1)), upd on m a, upd tw m b) := by
  obtain ⟨h1, h2, h3, h4, h5⟩ := h
  have e0 : s ((0 : Int32).toNatClampNeg) = ii L.length := hs.1
  have e1 : ah ((0 : Int32).toNatClampNeg) = ii m := hah
  unfold fX12_ahead
  have d1 : ¬ ((0 : Int32) < 0 ∨ 25 ≤ (0 : Int32).toNatClampNeg) := by decide
  have d2 : ¬ ((0 : Int32) < 0 ∨ 5 ≤ (0 : Int32).toNatClampNeg) := by decide
  have d3 : ¬ (ii m < 0 ∨ 40 ≤ (ii m).toNatClampNeg) := by
    rw [ii_nneg (by omega), ii_nat (by omega)]
    intro h9
    rcases h9 with h9 | h9
    · exact h9
    · omega
  have d4 : ¬ ii m = (8 : Int32) := by
    rw [k_8, ii_inj (by omega) (by omega)]
    omega
  simp only [e0, e1, h1, h2, h3, h4, h5, d1, d2, d3, d4, if_false]
  rw [ii_nat (by omega), k_1, ii_add]
  rfl
theorem ahead_M0 {F m : Nat} {L : List Nat} {s : Nat → Int32} (hs : rS s L) {a b th : Int32} (h : ¬ ahOk L.length a b ∨ m = 8) {ah : Nat → Int32} (hah : ah 0 = ii m) (on tw : Nat → Int32) : fX12_ahead F 25 s 5 40 40 a b th ah on tw = some (0, 0, ah, on, tw) := by
  have e0 : s ((0 : Int32).toNatClampNeg) = ii L.length := hs.1
  have e1 : ah ((0 : Int32).toNatClampNeg) = ii m := hah
  unfold fX12_ahead bX12_ahead_L49
  have d1 : ¬ ((0 : Int32) < 0 ∨ 25 ≤ (0 : Int32).toNatClampNeg) := by decide
  have d2 : ¬ ((0 : Int32) < 0 ∨ 5 ≤ (0 : Int32).toNatClampNeg) := by decide
  by_cases h1 : a < 0
  · rw [if_pos h1]
  · rw [if_neg h1, if_neg d1, e0]
    by_cases h2 : ii L.length ≤ a
    · rw [if_pos h2]
    · rw [if_neg h2]
      by_cases h3 : b < 0
      · rw [if_pos h3]
      · rw [if_neg h3, if_neg d1]
        by_cases h4 : ii L.length ≤ b
        · rw [if_pos h4]
        · rw [if_neg h4]
          by_cases h5 : a = b
          · rw [if_pos h5]
          · rw [if_neg h5, if_neg d2, e1]
            have h6 : m = 8 := h.resolve_left (fun h7 => h7 ⟨h1, h2, h3, h4, h5⟩)
            rw [h6, if_pos (show ii 8 = (8 : Int32) from rfl)]
