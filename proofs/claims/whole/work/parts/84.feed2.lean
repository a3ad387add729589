/-! PURE: feed of both sides -/
def fd (T : List Nat) (c : Nat) : List Nat := if (c = 10 ∨ (32 ≤ c ∧ c ≤ 126)) ∧ T.length < 1000 then T ++ [c] else T
theorem fd_t {T : List Nat} {c : Nat} (h : c = 10 ∨ (32 ≤ c ∧ c ≤ 126)) (hl : T.length < 1000) : fd T c = T ++ [c] := if_pos ⟨h, hl⟩
theorem fd_f {T : List Nat} {c : Nat} (h : ¬ (c = 10 ∨ (32 ≤ c ∧ c ≤ 126)) ∨ 1000 ≤ T.length) : fd T c = T := if_neg (by
  rintro ⟨h1, h2⟩
  rcases h with h | h
  · exact h h1
  · omega)
theorem fd_len {T : List Nat} {c : Nat} (h : T.length ≤ 1000) : (fd T c).length ≤ 1000 := by
  unfold fd
  split
  · simp
    omega
  · exact h
theorem nar_b : ∀ c, c < 128 → vp_nar .byte (ii c).toInt8.toInt32 = ii c := by decide +kernel
