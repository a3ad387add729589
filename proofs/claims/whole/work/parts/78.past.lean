/-! PURE: the past, in the class -/
theorem fm16 : ∀ k, k < 32 → fmE (ii k) (16 : Int32) = ii (k % 16) := by decide +kernel
theorem floor16 {F k : Nat} (h : k < 32) : fJ9_floorMod_7cf53 F (ii k) (16 : Int32) = some (ii (k % 16)) := by
  have h1 := fm16 k h
  unfold fJ9_floorMod_7cf53 bJ9_floorMod_7cf53_L18
  rw [if_neg (by decide), ← h1]
  unfold fmE
  split <;> (try split) <;> rfl
/-- what is kept of the past: oldest first, at most sixteen -/
def kp (P : List (List Nat)) (L : List Nat) : List (List Nat) := if P.length = 16 then P.tail ++ [L] else P ++ [L]
def rPX (o : Nat) (rs : Nat → Int32) (rt : Nat → Nat → Int32) (P : List (List Nat)) : Prop := o < 16 ∧ P.length ≤ 16 ∧ ∀ k, k < P.length → rs ((o + k) % 16) = ii (P.getD k []).length ∧ rL (rt ((o + k) % 16)) (P.getD k [])
theorem cpA_rL {f g : Nat → Int32} {L : List Nat} (h : rL f L) : rL (cpA f g L.length) L := by
  intro k hk
  unfold cpA
  rw [if_pos hk]
  exact h k hk
theorem vu_same {α : Type} (f : Nat → α) (k : Nat) (x : α) : va_up f k x k = x := by simp [va_up]
theorem vu_ne {α : Type} (f : Nat → α) {k j : Nat} (x : α) (h : j ≠ k) : va_up f k x j = f j := by simp [va_up, h]
theorem getDL1 {A B : List (List Nat)} {i : Nat} (h : i < A.length) : (A ++ B).getD i [] = A.getD i [] := by
  simp only [List.getD_eq_getElem?_getD]
  rw [List.getElem?_append_left h]
theorem getDL2 {A B : List (List Nat)} {i : Nat} (h : A.length ≤ i) : (A ++ B).getD i [] = B.getD (i - A.length) [] := by
  simp only [List.getD_eq_getElem?_getD]
  rw [List.getElem?_append_right h]
theorem row_copy2 {F N M len : Nat} (h1 : len ≤ N) (h2 : len ≤ M) (hb : N < 1000000) (hb2 : M < 1000000) (f g : Nat → Int32) (z : Int32) : fX7_copyFrom F N (ii len) M f z g = some (ii len, cpA f g len) := by
  unfold fX7_copyFrom
  simp (disch := omega) only [ofNat_ii, k_0, ii_lt, ii_nat, Nat.not_lt_zero, false_or]
  rw [if_neg (show ¬ N < len by omega)]
  simp (disch := omega) only [ii_lt, ii_nat, Nat.not_lt_zero, false_or]
  rw [if_neg (by omega)]
  refine congrArg some (Prod.ext rfl ?_)
  funext k
  unfold va_cpy cpA
  simp
theorem keep_X {F o : Nat} {rs : Nat → Int32} {rt : Nat → Nat → Int32} {P : List (List Nat)} (h : rPX o rs rt P) {L : List Nat} {a : Nat → Int32} (ha : rL a L) (h24 : L.length ≤ 24) :
    ∃ o' rs' rt', fX4_keep F 16 (ii L.length) 24 a 24 (ii o) (ii P.length) rs rt = some (ii o', ii (kp P L).length, rs', rt') ∧ rPX o' rs' rt' (kp P L) := by
  obtain ⟨h1, h2, h3⟩ := h
  unfold fX4_keep bX4_keep_L60
  rw [ii_add, floor16 (by omega)]
  simp only [Option.bind_some]
  simp (disch := omega) only [ii_nneg, ii_nat, false_or]
  rw [if_neg (by omega), row_copy2 h24 h24 (by omega) (by omega)]
  simp only [Option.bind_some]
  have e16 : ((16 : Int32) ≤ ii P.length) = (16 ≤ P.length) := ii_le (a := 16) (by omega) (by omega)
  by_cases hl : P.length = 16
  · rw [if_pos (by rw [e16]; omega), k_1, ii_add, floor16 (by omega)]
    simp only [Option.bind_some]
    have ek : kp P L = P.tail ++ [L] := by unfold kp; rw [if_pos hl]
    have hT : P.tail.length = 15 := by rw [List.length_tail]; omega
    have hkl : (kp P L).length = 16 := by rw [ek]; simp; omega
    have ei : (o + 16) % 16 = o := by omega
    refine ⟨(o + 1) % 16, _, _, by rw [hkl, hl], by omega, by omega, fun k hk => ?_⟩
    rw [hkl] at hk
    rw [ei]
    by_cases h15 : k = 15
    · have e1 : ((o + 1) % 16 + k) % 16 = o := by omega
      have e2 : (kp P L).getD k [] = L := by
        rw [ek, getDL2 (by omega), show k - P.tail.length = 0 by omega]
        rfl
      rw [e1, e2, vu_same, vu_same]
      exact ⟨rfl, cpA_rL ha⟩
    · have e1 : ((o + 1) % 16 + k) % 16 = (o + (k + 1)) % 16 := by omega
      have e2 : (kp P L).getD k [] = P.getD (k + 1) [] := by
        rw [ek, getDL1 (by omega)]
        cases P with
        | nil => simp at hl
        | cons x T => rfl
      rw [e1, e2, vu_ne _ _ (by omega), vu_ne _ _ (by omega)]
      exact h3 (k + 1) (by omega)
  · rw [if_neg (by rw [e16]; omega), k_1, ii_add]
    have ek : kp P L = P ++ [L] := by unfold kp; rw [if_neg hl]
    have hkl : (kp P L).length = P.length + 1 := by rw [ek]; simp
    refine ⟨o, _, _, by rw [hkl], h1, by omega, fun k hk => ?_⟩
    rw [hkl] at hk
    by_cases hkp : k = P.length
    · have e2 : (kp P L).getD k [] = L := by
        rw [ek, getDL2 (by omega), show k - P.length = 0 by omega]
        rfl
      rw [e2, hkp, vu_same, vu_same]
      exact ⟨rfl, cpA_rL ha⟩
    · have e2 : (kp P L).getD k [] = P.getD k [] := by rw [ek, getDL1 (by omega)]
      rw [e2, vu_ne _ _ (by omega), vu_ne _ _ (by omega)]
      exact h3 k (by omega)
theorem back_X {F o : Nat} {rs : Nat → Int32} {rt : Nat → Nat → Int32} {P : List (List Nat)} {M : List Nat} (h : rPX o rs rt (P ++ [M])) (h24 : M.length ≤ 24) (sz : Int32) (a : Nat → Int32) :
    ∃ a', fX4_giveBack F (ii o) 16 24 rs 24 rt (ii (P ++ [M]).length) sz a = some (ii P.length, ii M.length, a') ∧ rL a' M ∧ rPX o rs rt P := by
  obtain ⟨h1, h2, h3⟩ := h
  have hl : (P ++ [M]).length = P.length + 1 := by simp
  have h4 := h3 P.length (by omega)
  have e2 : (P ++ [M]).getD P.length [] = M := by
    rw [getDL2 (Nat.le_refl _), Nat.sub_self]
    rfl
  rw [e2] at h4
  unfold fX4_giveBack bX4_giveBack_L40
  rw [hl] at h2 ⊢
  have e3 : (ii (P.length + 1) ≤ 0) = (P.length + 1 ≤ 0) := ii_le (b := 0) (by omega) (by omega)
  rw [if_neg (by rw [e3]; omega), k_1, ii_sub (by omega), ii_add, show P.length + 1 - 1 = P.length by omega, floor16 (by omega)]
  simp only [Option.bind_some]
  simp (disch := omega) only [ii_nneg, ii_nat, false_or]
  rw [if_neg (by omega), h4.1, row_copy2 h24 h24 (by omega) (by omega)]
  refine ⟨_, rfl, cpA_rL h4.2, h1, by omega, fun k hk => ?_⟩
  have h5 := h3 k (by omega)
  rw [getDL1 hk] at h5
  exact h5
/-! PURE: the past, in the reference -/
def rPM (un : Nat → Int32) (P : List (List Nat)) : Prop := P.length ≤ 16 ∧ ∀ k, k < P.length → rS (fun j => un (25 * k + j)) (P.getD k [])
def cpB (f g : Nat → Int32) (p q c : Nat) : Nat → Int32 := fun k => if q + c ≤ k ∧ k < q + 25 then f (p + (k - q)) else g k
theorem copies_L {F N M : Nat} {f : Nat → Int32} {p q : Nat} (hp : p + 25 ≤ N) (hq : q + 25 ≤ M) (hN : N < 1000000) (hM : M < 1000000) : ∀ (t c : Nat) (g : Nat → Int32), c ≤ 25 → 25 < c + t → fX12_copies_L3 F N f M t (ii p) (ii q) (ii c) g = some (cpB f g p q c) := by
  intro t
  induction t with
  | zero => intro c g h1 h2; omega
  | succ t ih =>
    intro c g h1 h2
    rw [sX12_copies_L3]
    unfold bX12_copies_L3
    have e25 : ((25 : Int32) ≤ ii c) = (25 ≤ c) := ii_le (a := 25) (by omega) (by omega)
    by_cases h : 25 ≤ c
    · rw [if_pos (by rw [e25]; exact h)]
      refine congrArg some ?_
      funext k
      unfold cpB
      rw [if_neg (by omega)]
    · rw [if_neg (by rw [e25]; exact h)]
      simp (disch := omega) only [k_1, ii_add, ii_nneg, ii_nat, false_or]
      rw [if_neg (by omega), if_neg (by omega), ih (c + 1) _ (by omega) (by omega)]
      refine congrArg some ?_
      funext k
      unfold cpB
      by_cases hk : q + (c + 1) ≤ k ∧ k < q + 25
      · rw [if_pos hk, if_pos (by omega)]
      · rw [if_neg hk]
        by_cases hk2 : k = q + c
        · rw [hk2, upd_same, if_pos (by omega), show q + c - q = c by omega]
        · rw [upd_ne _ _ hk2, if_neg (by omega)]
theorem copies_eq {F N M : Nat} {f g : Nat → Int32} {p q : Nat} (hF : 100 ≤ F) (hp : p + 25 ≤ N) (hq : q + 25 ≤ M) (hN : N < 1000000) (hM : M < 1000000) : fX12_copies F N f M (ii p) (ii q) g = some (cpB f g p q 0) := by
  unfold fX12_copies
  exact copies_L hp hq hN hM F 0 g (by omega) (by omega)
theorem kept_M {F : Nat} (hF : 1000 ≤ F) {un : Nat → Int32} {P : List (List Nat)} (h : rPM un P) (hl : P.length < 16) {L : List Nat} {s : Nat → Int32} (hs : rS s L) (h24 : L.length ≤ 24) (hP : ∀ k, k < P.length → (P.getD k []).length ≤ 24) :
    ∃ un', bX12_keeps_L49 F 25 s 400 (ii P.length) un = some (ii (P ++ [L]).length, un') ∧ rPM un' (P ++ [L]) := by
  unfold bX12_keeps_L49
  have e1 : (25 : Int32) * ii P.length = ii (25 * P.length) := by rw [k_25, ii_mul]
  have e2 : fX12_copies F 25 s 400 (0 : Int32) (ii (25 * P.length)) un = some (cpB s un 0 (25 * P.length) 0) := copies_eq (p := 0) (by omega) (by omega) (by omega) (by omega) (by omega)
  rw [e1, e2]
  simp only [Option.bind_some]
  refine ⟨cpB s un 0 (25 * P.length) 0, by rw [k_1, ii_add]; simp, by simp; omega, fun k hk => ?_⟩
  simp only [List.length_append, List.length_cons, List.length_nil] at hk
  by_cases hkp : k = P.length
  · have e3 : (P ++ [L]).getD k [] = L := by
      rw [getDL2 (by omega), show k - P.length = 0 by omega]
      rfl
    rw [e3, hkp]
    refine ⟨?_, fun j hj => ?_⟩
    · show cpB s un 0 (25 * P.length) 0 (25 * P.length + 0) = _
      unfold cpB
      rw [if_pos (by omega), show 0 + (25 * P.length + 0 - 25 * P.length) = 0 by omega]
      exact hs.1
    · show cpB s un 0 (25 * P.length) 0 (25 * P.length + (j + 1)) = _
      unfold cpB
      rw [if_pos (by omega), show 0 + (25 * P.length + (j + 1) - 25 * P.length) = j + 1 by omega]
      exact hs.2 j hj
  · have e3 : (P ++ [L]).getD k [] = P.getD k [] := getDL1 (by omega)
    have h5 := h.2 k (by omega)
    have h6 := hP k (by omega)
    rw [e3]
    refine ⟨?_, fun j hj => ?_⟩
    · show cpB s un 0 (25 * P.length) 0 (25 * k + 0) = _
      unfold cpB
      rw [if_neg (by omega)]
      exact h5.1
    · show cpB s un 0 (25 * P.length) 0 (25 * k + (j + 1)) = _
      unfold cpB
      rw [if_neg (by omega)]
      exact h5.2 j hj
def shB (un : Nat → Int32) (c : Nat) : Nat → Int32 := fun k => if c ≤ k ∧ k < 375 then un (k + 25) else un k
theorem keeps_L {F : Nat} {s : Nat → Int32} {d : Nat} : ∀ (t c : Nat) (un : Nat → Int32), c ≤ 375 → 375 < c + t → fX12_keeps_L11 F 25 s 400 t (ii c) (ii d) un = bX12_keeps_L49 F 25 s 400 (ii d - (1 : Int32)) (shB un c) := by
  intro t
  induction t with
  | zero => intro c un h1 h2; omega
  | succ t ih =>
    intro c un h1 h2
    rw [sX12_keeps_L11]
    unfold bX12_keeps_L11
    have e1 : ((375 : Int32) ≤ ii c) = (375 ≤ c) := ii_le (a := 375) (by omega) (by omega)
    by_cases h : 375 ≤ c
    · rw [if_pos (by rw [e1]; exact h)]
      have e2 : shB un c = un := by
        funext k
        unfold shB
        rw [if_neg (by omega)]
      rw [e2]
    · rw [if_neg (by rw [e1]; exact h)]
      simp (disch := omega) only [k_25, k_1, ii_add, ii_nneg, ii_nat, false_or]
      rw [if_neg (by omega), if_neg (by omega), ih (c + 1) _ (by omega) (by omega)]
      have e2 : shB (upd un c (un (c + 25))) (c + 1) = shB un c := by
        funext k
        unfold shB
        by_cases hk : c + 1 ≤ k ∧ k < 375
        · rw [if_pos hk, if_pos (by omega), upd_ne _ _ (by omega)]
        · rw [if_neg hk]
          by_cases hk2 : k = c
          · rw [hk2, upd_same, if_pos (by omega)]
          · rw [upd_ne _ _ hk2, if_neg (by omega)]
      rw [e2]
      rfl
theorem keeps_M {F : Nat} (hF : 1000 ≤ F) {un : Nat → Int32} {P : List (List Nat)} (h : rPM un P) {L : List Nat} {s : Nat → Int32} (hs : rS s L) (h24 : L.length ≤ 24) (hP : ∀ k, k < P.length → (P.getD k []).length ≤ 24) :
    ∃ un', fX12_keeps F 25 s 400 (ii P.length) un = some (ii (kp P L).length, un') ∧ rPM un' (kp P L) := by
  have h16 := h.1
  unfold fX12_keeps
  have e1 : (ii P.length = (16 : Int32)) = (P.length = 16) := ii_inj (b := 16) (by omega) (by omega)
  by_cases hl : P.length = 16
  · rw [if_pos (by rw [e1]; exact hl)]
    have ek : kp P L = P.tail ++ [L] := by unfold kp; rw [if_pos hl]
    have hT : P.tail.length = 15 := by rw [List.length_tail]; omega
    have eg : ∀ k, P.tail.getD k [] = P.getD (k + 1) [] := by
      intro k
      cases P with
      | nil => rfl
      | cons x T => rfl
    have e2 : fX12_keeps_L11 F 25 s 400 F (0 : Int32) (ii P.length) un = bX12_keeps_L49 F 25 s 400 (ii P.length - (1 : Int32)) (shB un 0) := keeps_L F 0 un (by omega) (by omega)
    have e3 : ii P.length - (1 : Int32) = ii P.tail.length := by rw [k_1, ii_sub (by omega), List.length_tail]
    rw [e2, e3, ek]
    refine kept_M hF (P := P.tail) ⟨by omega, fun k hk => ?_⟩ (by omega) hs h24 (fun k hk => by
      rw [eg]
      exact hP (k + 1) (by omega))
    have h5 := h.2 (k + 1) (by omega)
    have h6 := hP (k + 1) (by omega)
    rw [eg]
    refine ⟨?_, fun j hj => ?_⟩
    · show shB un 0 (25 * k + 0) = _
      unfold shB
      rw [if_pos (by omega), show 25 * k + 0 + 25 = 25 * (k + 1) + 0 by omega]
      exact h5.1
    · show shB un 0 (25 * k + (j + 1)) = _
      unfold shB
      rw [if_pos (by omega), show 25 * k + (j + 1) + 25 = 25 * (k + 1) + (j + 1) by omega]
      exact h5.2 j hj
  · rw [if_neg (by rw [e1]; exact hl)]
    have ek : kp P L = P ++ [L] := by unfold kp; rw [if_neg hl]
    rw [ek]
    exact kept_M hF h (by omega) hs h24 hP
