/-! PURE: words of the language, as letters -/
theorem cmp0 (x y : Int64) : (lg_cmp x y = 0) = (x = y) := by
  apply propext
  constructor
  · intro h
    unfold lg_cmp at h
    by_cases h1 : y < x
    · rw [if_pos h1] at h
      exact absurd h (by decide)
    · rw [if_neg h1] at h
      by_cases h2 : x = y
      · exact h2
      · rw [if_neg h2] at h
        exact absurd h (by decide)
  · intro h
    rw [h]
    simp [lg_cmp]
/-- the words: folk kin line rope takes over under cut pull bend slip hitch war not and or place sort kins below -/
def WL (k : Nat) : List Nat := [[102, 111, 108, 107], [107, 105, 110], [108, 105, 110, 101], [114, 111, 112, 101], [116, 97, 107, 101, 115], [111, 118, 101, 114], [117, 110, 100, 101, 114], [99, 117, 116], [112, 117, 108, 108], [98, 101, 110, 100], [115, 108, 105, 112], [104, 105, 116, 99, 104], [119, 97, 114], [110, 111, 116], [97, 110, 100], [111, 114], [112, 108, 97, 99, 101], [115, 111, 114, 116], [107, 105, 110, 115], [98, 101, 108, 111, 119]].getD k []
def okW (w : List Nat) : Prop := ∀ c ∈ w, 97 ≤ c ∧ c ≤ 122
theorem WL_ok : ∀ k, k < 20 → (WL k).length ≤ 5 ∧ 1 ≤ (WL k).length ∧ ∀ c ∈ WL k, 97 ≤ c ∧ c ≤ 122 := by decide +kernel
/-- which word it is, from the k-th on -/
def kwF (w : List Nat) : Nat → Nat → Nat
  | 0, _ => 20
  | r + 1, k => if w = WL k then k else kwF w r (k + 1)
def kw (w : List Nat) : Nat := kwF w 20 0
theorem kwF_le (w : List Nat) : ∀ r k, k + r = 20 → kwF w r k ≤ 20 ∧ (kwF w r k < 20 → w = WL (kwF w r k))
  | 0, k, _ => ⟨Nat.le_refl _, fun h => absurd h (Nat.lt_irrefl _)⟩
  | r + 1, k, h => by
    unfold kwF
    by_cases h1 : w = WL k
    · rw [if_pos h1]
      exact ⟨by omega, fun _ => h1⟩
    · rw [if_neg h1]
      exact kwF_le w r (k + 1) (by omega)
theorem kw_le (w : List Nat) : kw w ≤ 20 ∧ (kw w < 20 → w = WL (kw w)) := kwF_le w 20 0 rfl
theorem WL_kw : ∀ k, k < 20 → kw (WL k) = k := by decide +kernel
theorem kw_iff {w : List Nat} {k : Nat} (hk : k < 20) : (kw w = k) = (w = WL k) := by
  apply propext
  constructor
  · intro h
    rw [← h]
    exact (kw_le w).2 (by omega)
  · intro h
    rw [h]
    exact WL_kw k hk
/-- values of words -/
def bv (b : Nat) (w : List Nat) : Nat := w.foldl (fun v c => v * b + (c - 96)) 0
theorem bv_snoc (b : Nat) (w : List Nat) (c : Nat) : bv b (w ++ [c]) = bv b w * b + (c - 96) := by
  unfold bv
  rw [List.foldl_append]
  rfl
theorem last_ex : ∀ (w : List Nat), w = [] ∨ ∃ w' c, w = w' ++ [c] := by
  intro w
  rcases List.eq_nil_or_concat w with h | ⟨w', c, h⟩
  · exact Or.inl h
  · exact Or.inr ⟨w', c, by rw [h, List.concat_eq_append]⟩
theorem bv_lt {b : Nat} (hb : 27 ≤ b) : ∀ (n : Nat) (w : List Nat), w.length = n → okW w → bv b w < b ^ n := by
  intro n
  induction n with
  | zero =>
    intro w hw _
    rw [List.eq_nil_of_length_eq_zero hw]
    exact Nat.zero_lt_one
  | succ n ih =>
    intro w hw h
    rcases last_ex w with h0 | ⟨w', c, h0⟩
    · rw [h0] at hw
      cases hw
    · subst h0
      have hc := h c (by simp)
      rw [List.length_append, List.length_singleton] at hw
      have := ih w' (by omega) (fun d hd => h d (by simp [hd]))
      rw [bv_snoc, Nat.pow_succ]
      have h2 : bv b w' * b + b ≤ b ^ n * b := by
        rw [← Nat.succ_mul]
        exact Nat.mul_le_mul_right b this
      omega
theorem bv_inj {b : Nat} (hb : b = 27 ∨ b = 32) : ∀ (n : Nat) (w u : List Nat), w.length = n → okW w → okW u → bv b w = bv b u → w = u := by
  intro n
  induction n with
  | zero =>
    intro w u hw h1 h2 h
    rw [List.eq_nil_of_length_eq_zero hw] at h ⊢
    rcases last_ex u with h0 | ⟨u', c, h0⟩
    · exact h0.symm
    · subst h0
      have hc := h2 c (by simp)
      rw [bv_snoc] at h
      have h3 : bv b [] = 0 := rfl
      rw [h3] at h
      exfalso
      omega
  | succ n ih =>
    intro w u hw h1 h2 h
    rcases last_ex w with h0 | ⟨w', c, h0⟩
    · rw [h0] at hw
      cases hw
    · subst h0
      have hc := h1 c (by simp)
      rw [List.length_append, List.length_singleton] at hw
      rcases last_ex u with h0 | ⟨u', d, h0⟩
      · subst h0
        rw [bv_snoc] at h
        have h3 : bv b [] = 0 := rfl
        rw [h3] at h
        exfalso
        omega
      · subst h0
        have hd := h2 d (by simp)
        rw [bv_snoc, bv_snoc] at h
        have h4 : bv b w' = bv b u' ∧ c = d := by
          rcases hb with rfl | rfl <;> omega
        rw [ih w' u' (by omega) (fun e he => h1 e (by simp [he])) (fun e he => h2 e (by simp [he])) h4.1, h4.2]
theorem bv_iff {b : Nat} (hb : b = 27 ∨ b = 32) {w u : List Nat} (h1 : okW w) (h2 : okW u) : (bv b w = bv b u) = (w = u) := propext ⟨fun h => bv_inj hb _ w u rfl h1 h2 h, fun h => by rw [h]⟩
theorem il_inj {a b : Nat} (ha : a < 2 ^ 63) (hb : b < 2 ^ 63) : (il a = il b) = (a = b) := by
  apply propext
  constructor
  · intro h
    have h2 := congrArg Int64.toInt h
    have h3 : (il a).toInt = a := Int64.toInt_ofNat_of_lt ha
    have h4 : (il b).toInt = b := Int64.toInt_ofNat_of_lt hb
    rw [h3, h4] at h2
    omega
  · intro h
    rw [h]
theorem bv_small {b : Nat} (hb : b = 27 ∨ b = 32) {w : List Nat} (h : okW w) (hl : w.length ≤ 8) : bv b w < 2 ^ 63 := by
  have h1 := bv_lt (b := b) (by omega) w.length w rfl h
  have h2 : b ^ w.length ≤ b ^ 8 := Nat.pow_le_pow_right (by omega) hl
  have h3 : b ^ 8 < 2 ^ 63 := by rcases hb with rfl | rfl <;> decide
  omega
theorem cmp_w {b : Nat} (hb : b = 27 ∨ b = 32) {w u : List Nat} (h1 : okW w) (h2 : okW u) (l1 : w.length ≤ 8) (l2 : u.length ≤ 8) : (lg_cmp (il (bv b w)) (il (bv b u)) = 0) = (w = u) := by
  rw [cmp0, il_inj (bv_small hb h1 l1) (bv_small hb h2 l2), bv_iff hb h1 h2]
/-- the numbers that the reference knows the words by -/
def WC (k : Nat) : Nat := [129368, 8276, 243140, 365666, 10656676, 311436, 11438892, 2774, 330573, 43393, 382984, 4443344, 16812, 10631, 1111, 423, 8740067, 385418, 223471, 1170473].getD k 0
theorem WC_ok : ∀ k, k < 20 → bv 27 (WL k) = WC k := by decide +kernel
theorem cmp_k {w : List Nat} {k : Nat} (h1 : okW w) (l1 : w.length ≤ 8) (hk : k < 20) : (lg_cmp (il (bv 27 w)) (il (WC k)) = 0) = (kw w = k) := by
  obtain ⟨q1, q2, q3⟩ := WL_ok k hk
  rw [← WC_ok k hk, cmp_w (Or.inl rfl) h1 q3 l1 (by omega), kw_iff hk]
/-- digits -/
def okD (w : List Nat) : Prop := ∀ c ∈ w, 48 ≤ c ∧ c ≤ 57
def dv (w : List Nat) : Nat := w.foldl (fun v c => v * 10 + (c - 48)) 0
theorem dv_snoc (w : List Nat) (c : Nat) : dv (w ++ [c]) = dv w * 10 + (c - 48) := by
  unfold dv
  rw [List.foldl_append]
  rfl
theorem dv_lt : ∀ (n : Nat) (w : List Nat), w.length = n → okD w → dv w < 10 ^ n := by
  intro n
  induction n with
  | zero =>
    intro w hw _
    rw [List.eq_nil_of_length_eq_zero hw]
    exact Nat.zero_lt_one
  | succ n ih =>
    intro w hw h
    rcases last_ex w with h0 | ⟨w', c, h0⟩
    · rw [h0] at hw
      cases hw
    · subst h0
      have hc := h c (by simp)
      rw [List.length_append, List.length_singleton] at hw
      have := ih w' (by omega) (fun d hd => h d (by simp [hd]))
      rw [dv_snoc, Nat.pow_succ]
      omega
theorem dv_small {w : List Nat} (h : okD w) (hl : w.length ≤ 4) : dv w < 10000 := by
  have h1 := dv_lt w.length w rfl h
  have h2 : 10 ^ w.length ≤ 10 ^ 4 := Nat.pow_le_pow_right (by omega) hl
  omega
/-- runs of letters and of digits -/
def twL (T : List Nat) (p : Nat) : List Nat := (T.drop p).takeWhile (fun c => decide (97 ≤ c ∧ c ≤ 122))
def twD (T : List Nat) (p : Nat) : List Nat := (T.drop p).takeWhile (fun c => decide (48 ≤ c ∧ c ≤ 57))
theorem drop_consN {L : List Nat} {k : Nat} (hk : k < L.length) : L.drop k = L.getD k 0 :: L.drop (k + 1) := drop_cons hk
theorem twL_s {T : List Nat} {p : Nat} (hp : p < T.length) (h : 97 ≤ T.getD p 0 ∧ T.getD p 0 ≤ 122) : twL T p = T.getD p 0 :: twL T (p + 1) := by
  unfold twL
  rw [drop_cons hp, List.takeWhile_cons_of_pos (by simpa using h)]
theorem twL_0 {T : List Nat} {p : Nat} (h : T.length ≤ p ∨ ¬ (97 ≤ T.getD p 0 ∧ T.getD p 0 ≤ 122)) : twL T p = [] := by
  unfold twL
  by_cases hp : T.length ≤ p
  · rw [List.drop_of_length_le hp]
    rfl
  · rw [drop_cons (by omega), List.takeWhile_cons_of_neg (by
      have := h.resolve_left hp
      simpa using this)]
theorem twD_s {T : List Nat} {p : Nat} (hp : p < T.length) (h : 48 ≤ T.getD p 0 ∧ T.getD p 0 ≤ 57) : twD T p = T.getD p 0 :: twD T (p + 1) := by
  unfold twD
  rw [drop_cons hp, List.takeWhile_cons_of_pos (by simpa using h)]
theorem twD_0 {T : List Nat} {p : Nat} (h : T.length ≤ p ∨ ¬ (48 ≤ T.getD p 0 ∧ T.getD p 0 ≤ 57)) : twD T p = [] := by
  unfold twD
  by_cases hp : T.length ≤ p
  · rw [List.drop_of_length_le hp]
    rfl
  · rw [drop_cons (by omega), List.takeWhile_cons_of_neg (by
      have := h.resolve_left hp
      simpa using this)]
theorem mem_tw (f : Nat → Bool) : ∀ (l : List Nat) (c : Nat), c ∈ l.takeWhile f → f c = true
  | [], c, h => by cases h
  | a :: l, c, h => by
    by_cases ha : f a = true
    · rw [List.takeWhile_cons_of_pos ha] at h
      rcases List.mem_cons.mp h with h | h
      · rw [h]
        exact ha
      · exact mem_tw f l c h
    · rw [List.takeWhile_cons_of_neg ha] at h
      cases h
theorem twL_ok (T : List Nat) (p : Nat) : okW (twL T p) := by
  intro c hc
  have := mem_tw _ _ _ hc
  simpa using this
theorem twD_ok (T : List Nat) (p : Nat) : okD (twD T p) := by
  intro c hc
  have := mem_tw _ _ _ hc
  simpa using this
theorem twL_len (T : List Nat) (p : Nat) (hp : p ≤ T.length) : p + (twL T p).length ≤ T.length := by
  have h := List.IsPrefix.length_le (List.takeWhile_prefix (l := T.drop p) (fun c => decide (97 ≤ c ∧ c ≤ 122)))
  rw [List.length_drop] at h
  unfold twL
  omega
theorem twD_len (T : List Nat) (p : Nat) (hp : p ≤ T.length) : p + (twD T p).length ≤ T.length := by
  have h := List.IsPrefix.length_le (List.takeWhile_prefix (l := T.drop p) (fun c => decide (48 ≤ c ∧ c ≤ 57)))
  rw [List.length_drop] at h
  unfold twD
  omega
/-- tokens: kind (as the class numbers them), letters or digits, where it begins -/
def sgK (c : Nat) : Prop := c = 40 ∨ c = 41 ∨ c = 42 ∨ c = 43 ∨ c = 45 ∨ c = 59 ∨ c = 60 ∨ c = 61
def tl (T : List Nat) : Nat → Nat → List (Nat × List Nat × Nat)
  | 0, _ => [(22, [], T.length)]
  | f + 1, p => if T.length ≤ p then [(22, [], T.length)] else if 97 ≤ T.getD p 0 ∧ T.getD p 0 ≤ 122 then ((if (twL T p).length ≤ 8 then kw (twL T p) else 23), twL T p, p) :: tl T f (p + (twL T p).length) else if 48 ≤ T.getD p 0 ∧ T.getD p 0 ≤ 57 then ((if (twD T p).length ≤ 4 then 21 else 23), twD T p, p) :: tl T f (p + (twD T p).length) else if T.getD p 0 = 10 ∨ T.getD p 0 = 32 then tl T f (p + 1) else ((if (T.getD p 0 = 40 ∨ T.getD p 0 = 41 ∨ T.getD p 0 = 42 ∨ T.getD p 0 = 43 ∨ T.getD p 0 = 45 ∨ T.getD p 0 = 59 ∨ T.getD p 0 = 60 ∨ T.getD p 0 = 61) then T.getD p 0 else 23), [], p) :: tl T f (p + 1)
theorem tl_fuel (T : List Nat) : ∀ (f g p : Nat), T.length < p + f → T.length < p + g → tl T f p = tl T g p := by
  intro f
  induction f with
  | zero =>
    intro g p h1 h2
    cases g with
    | zero => rfl
    | succ g =>
      unfold tl
      rw [if_pos (by omega)]
  | succ f ih =>
    intro g p h1 h2
    cases g with
    | zero =>
      unfold tl
      rw [if_pos (by omega)]
    | succ g =>
      show (if T.length ≤ p then _ else _) = (if T.length ≤ p then _ else _)
      by_cases h : T.length ≤ p
      · rw [if_pos h, if_pos h]
      · rw [if_neg h, if_neg h]
        by_cases hw : 97 ≤ T.getD p 0 ∧ T.getD p 0 ≤ 122
        · have e := twL_s (show p < T.length by omega) hw
          have hl : 1 ≤ (twL T p).length := by rw [e]; simp
          rw [if_pos hw, if_pos hw, ih g (p + (twL T p).length) (by omega) (by omega)]
        · rw [if_neg hw, if_neg hw]
          by_cases hd : 48 ≤ T.getD p 0 ∧ T.getD p 0 ≤ 57
          · have e := twD_s (show p < T.length by omega) hd
            have hl : 1 ≤ (twD T p).length := by rw [e]; simp
            rw [if_pos hd, if_pos hd, ih g (p + (twD T p).length) (by omega) (by omega)]
          · rw [if_neg hd, if_neg hd, ih g (p + 1) (by omega) (by omega)]
def tlT (T : List Nat) (p : Nat) : List (Nat × List Nat × Nat) := tl T (T.length + 1) p
theorem tlT_end {T : List Nat} {p : Nat} (h : T.length ≤ p) : tlT T p = [(22, [], T.length)] := by
  unfold tlT tl
  rw [if_pos h]
theorem tlT_w {T : List Nat} {p : Nat} (h : p < T.length) (hw : 97 ≤ T.getD p 0 ∧ T.getD p 0 ≤ 122) : tlT T p = ((if (twL T p).length ≤ 8 then kw (twL T p) else 23), twL T p, p) :: tlT T (p + (twL T p).length) := by
  have e := twL_s h hw
  have hl : 1 ≤ (twL T p).length := by rw [e]; simp
  unfold tlT
  rw [tl_fuel T (T.length + 1) T.length (p + (twL T p).length) (by omega) (by omega)]
  show (if T.length ≤ p then _ else _) = _
  rw [if_neg (by omega), if_pos hw]
theorem tlT_d {T : List Nat} {p : Nat} (h : p < T.length) (hw : 48 ≤ T.getD p 0 ∧ T.getD p 0 ≤ 57) : tlT T p = ((if (twD T p).length ≤ 4 then 21 else 23), twD T p, p) :: tlT T (p + (twD T p).length) := by
  have e := twD_s h hw
  have hl : 1 ≤ (twD T p).length := by rw [e]; simp
  unfold tlT
  rw [tl_fuel T (T.length + 1) T.length (p + (twD T p).length) (by omega) (by omega)]
  show (if T.length ≤ p then _ else _) = _
  rw [if_neg (by omega), if_neg (by omega), if_pos hw]
theorem tlT_b {T : List Nat} {p : Nat} (h : p < T.length) (hw : T.getD p 0 = 10 ∨ T.getD p 0 = 32) : tlT T p = tlT T (p + 1) := by
  unfold tlT
  rw [tl_fuel T (T.length + 1) T.length (p + 1) (by omega) (by omega)]
  show (if T.length ≤ p then _ else _) = _
  rw [if_neg (by omega), if_neg (by omega), if_neg (by omega), if_pos hw]
theorem tlT_s {T : List Nat} {p : Nat} (h : p < T.length) (h1 : ¬ (97 ≤ T.getD p 0 ∧ T.getD p 0 ≤ 122)) (h2 : ¬ (48 ≤ T.getD p 0 ∧ T.getD p 0 ≤ 57)) (h3 : ¬ (T.getD p 0 = 10 ∨ T.getD p 0 = 32)) : tlT T p = ((if (T.getD p 0 = 40 ∨ T.getD p 0 = 41 ∨ T.getD p 0 = 42 ∨ T.getD p 0 = 43 ∨ T.getD p 0 = 45 ∨ T.getD p 0 = 59 ∨ T.getD p 0 = 60 ∨ T.getD p 0 = 61) then T.getD p 0 else 23), [], p) :: tlT T (p + 1) := by
  unfold tlT
  rw [tl_fuel T (T.length + 1) T.length (p + 1) (by omega) (by omega)]
  show (if T.length ≤ p then _ else _) = _
  rw [if_neg (by omega), if_neg h1, if_neg h2, if_neg h3]
