/-! PURE: cut of both sides -/
theorem cut_X0 {F : Nat} {len : Nat} {k : Int32} (h : k < 0 ∨ ¬ k < ii len) (ah po pz : Int32) (a rs : Nat → Int32) (rt : Nat → Nat → Int32) : fX11_cut F 24 16 24 k ah (ii len) a po pz rs rt = some (-1, ah, ii len, a, po, pz, rs, rt) := by
  unfold fX11_cut bX11_cut_L18
  by_cases h1 : k < 0
  · rw [if_pos h1]
  · rw [if_neg h1, if_neg (h.resolve_left h1)]
theorem cut_X1 {F o : Nat} (hF : 1000 ≤ F) {A B : List Nat} {t : Nat} {a : Nat → Int32} (ha : rL a (A ++ t :: B)) (h24 : (A ++ t :: B).length ≤ 24) {P : List (List Nat)} {rs : Nat → Int32} {rt : Nat → Nat → Int32} (hp : rPX o rs rt P) (ah : Int32) :
    ∃ a' o' rs' rt', fX11_cut F 24 16 24 (ii A.length) ah (ii (A ++ t :: B).length) a (ii o) (ii P.length) rs rt = some (ii (A ++ B).length, 0, ii (A ++ B).length, a', ii o', ii (kp P (A ++ t :: B)).length, rs', rt') ∧ rL a' (A ++ B) ∧ rPX o' rs' rt' (kp P (A ++ t :: B)) := by
  obtain ⟨o', rs', rt', e2, h5⟩ := keep_X (F := F) hp ha h24
  have hl : (A ++ t :: B).length = A.length + B.length + 1 := by simp; omega
  have hl2 : (A ++ B).length = A.length + B.length := by simp
  unfold fX11_cut
  rw [if_neg (by rw [ii_nneg (by omega)]; simp), if_pos (by rw [ii_lt (by omega) (by omega)]; omega), e2]
  simp only [Option.bind_some]
  rw [row_out h24 (by omega) (by omega) (by omega)]
  simp only [Option.bind_some]
  have e3 : (A ++ t :: B).length - 1 = (A ++ B).length := by omega
  refine ⟨shA a A.length (A ++ t :: B).length, o', rs', rt', ?_, shA_rL ha, h5⟩
  rw [e3]
