/-! PURE: cut of both sides -/
theorem cut_X0 {F : Nat} {len : Nat} {k : Int32} (h : k < 0 ∨ ¬ k < ii len) (ah po pz : Int32) (a rs : Nat → Int32) (rt : Nat → Nat → Int32) : fX11_cut F 24 16 24 k ah (ii len) a po pz rs rt = some (-1, ah, ii len, a, po, pz, rs, rt) := by
  unfold fX11_cut bX11_cut_L18
  by_cases h1 : k < 0
  · rw [if_pos h1]
  · rw [if_neg h1, if_neg (h.resolve_left h1)]
theorem cut_X1 {F o : Nat} (hF : 1000 ≤ F) {A B : List Nat} {t : Nat} {a : Nat → Int32} (ha : rL a (A ++ t :: B)) (h24 : (A ++ t :: B).length ≤ 24) {P : List (List Nat)} {rs : Nat → Int32} {rt : Nat → Nat → Int32} (hp : rPX o rs rt P) (ah : Int32) :
    ∃ a' o' rs' rt', fX11_cut F 24 16 24 (ii A.length) ah (ii (A ++ t :: B).length) a (ii o) (ii P.length) rs rt = some (ii (A ++ B).length, 0, ii (A ++ B).length, a', ii o', ii (kp P (A ++ t :: B)).length, rs', rt') ∧ rL a' (A ++ B) ∧ rPX o' rs' rt' (kp P (A ++ t :: B)) := by
  obtain ⟨o', rs', rt', e2, h5⟩ := keep_X (F := F) hp ha h24
  have hl : (A ++ t :: B).length = A.length + B.length + 1 := by simp; omega
  have hl2 : (A ++ B).length = A.length + B.length := by simp
  unfold fX11_cut
  rw [if_neg (by rw [ii_nneg (by omega)]; simp), if_pos (by rw [ii_lt (by omega) (by omega)]; omega), e2]
  simp only [Option.bind_some]
  rw [row_out h24 (by omega) (by omega) (by omega)]
  simp only [Option.bind_some]
  have e3 : (A ++ t :: B).length - 1 = (A ++ B).length := by omega
  refine ⟨shA a A.length (A ++ t :: B).length, o', rs', rt', ?_, shA_rL ha, h5⟩
  rw [e3]
theorem goes_L {F len : Nat} (h24 : len ≤ 24) (h0 : 1 ≤ len) : ∀ (t k : Nat) (s : Nat → Int32), 1 ≤ k → k ≤ len → len < k + t → s 0 = ii len → fX12_goesAt_L4 F 25 t (ii k) s = some (upd (shA s k (len + 1)) 0 (ii (len - 1))) := by
  intro t
  induction t with
  | zero => intro k s h1 h2 h3; omega
  | succ t ih =>
    intro k s h1 h2 h3 h4
    rw [sX12_goesAt_L4]
    unfold bX12_goesAt_L4
    have e0 : s ((0 : Int32).toNatClampNeg) = ii len := h4
    rw [if_neg (by decide), e0]
    have ek : ii k + (1 : Int32) = ii (k + 1) := by rw [k_1, ii_add]
    rw [ek]
    simp (disch := omega) only [ii_le, ii_nneg, ii_nat, false_or]
    by_cases h : len ≤ k
    · rw [if_pos h, if_neg (by decide), shA_end (by omega), k_1, ii_sub (by omega)]
      rfl
    · rw [if_neg h, if_neg (by omega), if_neg (by omega), ih (k + 1) _ (by omega) (by omega) (by omega) (by rw [upd_ne _ _ (by omega)]; exact h4), shA_step (by omega)]
theorem cut_M0 {F : Nat} {L : List Nat} {s : Nat → Int32} (hs : rS s L) {k : Int32} (h : k < 0 ∨ ¬ k < ii L.length) (th d : Int32) (un ah : Nat → Int32) : fX12_cut F 25 400 5 k th d s un ah = some (-1, 0, d, s, un, ah) := by
  have e0 : s ((0 : Int32).toNatClampNeg) = ii L.length := hs.1
  unfold fX12_cut bX12_cut_L19
  by_cases h1 : k < 0
  · rw [if_pos h1]
  · rw [if_neg h1, if_neg (by decide), e0, if_neg (h.resolve_left h1)]
theorem cut_M1 {F : Nat} (hF : 1000 ≤ F) {A B : List Nat} {t : Nat} {s : Nat → Int32} (hs : rS s (A ++ t :: B)) (h24 : (A ++ t :: B).length ≤ 24) {un : Nat → Int32} {P : List (List Nat)} (hp : rPM un P) (hP : ∀ k, k < P.length → (P.getD k []).length ≤ 24) (th : Int32) (ah : Nat → Int32) :
    ∃ s' un', fX12_cut F 25 400 5 (ii A.length) th (ii P.length) s un ah = some (ii (A ++ B).length, 0, ii (kp P (A ++ t :: B)).length, s', un', upd ah 0 0) ∧ rS s' (A ++ B) ∧ rPM un' (kp P (A ++ t :: B)) := by
  obtain ⟨un', e2, h5⟩ := keeps_M hF hp hs h24 hP
  have hl : (A ++ t :: B).length = A.length + B.length + 1 := by simp; omega
  have hl2 : (A ++ B).length = A.length + B.length := by simp
  have e0 : s ((0 : Int32).toNatClampNeg) = ii (A ++ t :: B).length := hs.1
  have e4 : fX12_goesAt F 25 (ii A.length) s = some (upd (shA s (A.length + 1) ((A ++ t :: B).length + 1)) 0 (ii ((A ++ t :: B).length - 1))) := by
    unfold fX12_goesAt
    rw [k_1, ii_add]
    exact goes_L h24 (by omega) F (A.length + 1) s (by omega) (by omega) (by omega) hs.1
  have h7 : rS (upd (shA s (A.length + 1) ((A ++ t :: B).length + 1)) 0 (ii ((A ++ t :: B).length - 1))) (A ++ B) := by
    refine ⟨?_, fun k hk => ?_⟩
    · rw [upd_same, hl, hl2]
      rfl
    · rw [upd_ne _ _ (by omega)]
      have h8 := shA_rL (a := fun j => s (j + 1)) (A := A) (B := B) (t := t) hs.2 k hk
      rw [← h8]
      unfold shA
      by_cases h9 : A.length ≤ k ∧ k + 1 < (A ++ t :: B).length
      · rw [if_pos h9, if_pos (by omega)]
      · rw [if_neg h9, if_neg (by omega)]
  unfold fX12_cut
  rw [if_neg (by rw [ii_nneg (by omega)]; simp), if_neg (by decide), e0, if_pos (by rw [ii_lt (by omega) (by omega)]; omega), e2]
  simp only [Option.bind_some]
  rw [e4]
  simp only [Option.bind_some]
  rw [if_neg (by decide), if_neg (by decide)]
  have e6 : (upd (shA s (A.length + 1) ((A ++ t :: B).length + 1)) 0 (ii ((A ++ t :: B).length - 1))) (0 : Int32).toNatClampNeg = ii (A ++ B).length := h7.1
  rw [e6]
  exact ⟨_, _, rfl, h7, h5⟩
