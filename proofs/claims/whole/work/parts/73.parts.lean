/-! PURE: parts of the line that come out: fault, shown -/
/-- a number's bits below n -/
def btO (n : Nat) (a : Int32) (p : Nat → Bool) : Prop := ∀ g, g < n → ((a >>> (ii g &&& 31)) &&& (1 : Int32)) = if p g = true then 1 else 0
theorem btO_0 {n : Nat} {a : Int32} {p : Nat → Bool} (h : btO n a p) {g : Nat} (hg : g < n) : (((a >>> (ii g &&& 31)) &&& (1 : Int32)) = 0) = (p g = false) := by
  rw [h g hg]
  cases p g <;> simp
theorem btO_1 {n : Nat} {a : Int32} {p : Nat → Bool} (h : btO n a p) {g : Nat} (hg : g < n) : (((a >>> (ii g &&& 31)) &&& (1 : Int32)) = 1) = (p g = true) := by
  rw [h g hg]
  cases p g <;> simp
/-- what is left of a row -/
def fil (p : Nat → Bool) (L : List Nat) : List Nat := L.filter (fun t => p (t / 2))
theorem fil_t {p : Nat → Bool} {t : Nat} {L : List Nat} (h : p (t / 2) = true) : fil p (t :: L) = t :: fil p L := List.filter_cons_of_pos h
theorem fil_f {p : Nat → Bool} {t : Nat} {L : List Nat} (h : p (t / 2) = false) : fil p (t :: L) = fil p L := List.filter_cons_of_neg (by rw [h]; decide)
theorem pushTie_eq {F N n : Nat} {mk rd : Nat → Nat} {st ro : Nat → Int32} (hn : okN n mk rd) (hx : netX n mk rd st ro) (hb : N < 1000000) (hF : N < F) {t : Nat} (ht : t < 2 * n) {fo co : Nat → Int32} {Q : List (Nat × Int)} (hP : okP n 100 Q) (hN : Q.length < N) (hr : rP fo co Q) :
    isP N (psT mk rd Q t) (fX5_pushTie F N N (ii n) 6 st 6 ro (ii t) (ii Q.length) fo co) := by
  have h6 := hn.1
  obtain ⟨fo', co', e, hl, hr'⟩ := pushT_eq hn hx hb hF ht hP hN hr
  unfold fX5_pushTie
  rw [folkOf_eq (by omega)]
  simp only [Option.bind_some]
  rw [countOf_eq (by omega)]
  simp only [Option.bind_some]
  rw [e]
  exact ⟨fo', co', rfl, hl, hr'⟩
theorem outOf_X_L {F n : Nat} {mk rd : Nat → Nat} {st ro : Nat → Int32} (hn : okN n mk rd) (hx : netX n mk rd st ro) (hF : 1000 ≤ F) {L : List Nat} {a : Nat → Int32} (hL : okL n L) (ha : rL a L) (h24 : L.length ≤ 24) {b : Int32} {p : Nat → Bool} (hb : btO n b p) :
    ∀ (t i : Nat) (Q : List (Nat × Int)) (fo co : Nat → Int32) (B : Int), L.length < i + t → i ≤ L.length → 3 ≤ B → B + (L.length - i : Nat) ≤ 100 → okP n B Q → Q.length + (L.length - i) ≤ 96 → rP fo co Q → ∃ z fo' co', fX11_comesOutOf_L9 F (ii n) 6 st 6 ro (ii L.length) 24 a 96 96 t b (ii i) (ii Q.length) fo co = some (ov (psL mk rd Q (fil p (L.drop i))), z, fo', co') := by
  intro t
  induction t with
  | zero => intro i Q fo co B h1 h2; omega
  | succ t ih =>
    intro i Q fo co B h1 h2 hB hB2 hQ hN hr
    rw [sX11_comesOutOf_L9]
    unfold bX11_comesOutOf_L9 bX11_comesOutOf_L59 bX11_comesOutOf_L80
    have h6 := hn.1
    simp (disch := omega) only [ii_le, ii_nneg, ii_nat, false_or]
    by_cases h : L.length ≤ i
    · rw [if_pos h, List.drop_of_length_le h]
      have e0 := len0 (k := Q.length) (by omega)
      show ∃ z fo' co', _ = some (ov Q, z, fo', co')
      unfold ov
      by_cases hq : Q.length = 0
      · rw [if_pos (by rw [e0]; exact hq), if_pos hq, if_pos (Or.inr trivial)]
        exact ⟨_, _, _, rfl⟩
      · rw [if_neg (by rw [e0]; exact hq), if_neg hq, if_pos (Or.inl trivial)]
        exact ⟨_, _, _, rfl⟩
    · have hi : i < L.length := by omega
      have ht := hL _ (rL_mem (a := a) hi)
      rw [if_neg h, if_neg (by omega), ha i hi, folkOf_eq (by omega)]
      simp only [Option.bind_some]
      have hb0 := btO_0 hb (g := L.getD i 0 / 2) (by omega)
      rw [drop_cons hi]
      by_cases hp : p (L.getD i 0 / 2) = false
      · rw [if_pos (by rw [hb0]; exact hp), fil_f hp, k_1, ii_add]
        exact ih (i + 1) Q fo co B (by omega) (by omega) hB (by omega) hQ (by omega) hr
      · rw [if_neg (by rw [hb0]; exact hp)]
        obtain ⟨fo', co', e, hl, hr'⟩ := pushTie_eq (F := F) (N := 96) hn hx (by omega) (by omega) ht (okP_mono (by omega) hQ) (by omega) hr
        rw [e]
        simp only [Option.bind_some]
        rw [fil_t (by simpa using hp), k_1, ii_add]
        have hln := ps_len (mk := mk) (rd := rd) (f := L.getD i 0 / 2) (c := sg (L.getD i 0)) (Q := Q)
        exact ih (i + 1) (psT mk rd Q (L.getD i 0)) fo' co' (B + 1) (by omega) (by omega) (by omega) (by omega) (psT_ok hn ht hB hQ) (by unfold psT; omega) hr'
theorem outOf_X {F n : Nat} {mk rd : Nat → Nat} {st ro : Nat → Int32} (hn : okN n mk rd) (hx : netX n mk rd st ro) (hF : 1000 ≤ F) {L : List Nat} {a : Nat → Int32} (hL : okL n L) (ha : rL a L) (h24 : L.length ≤ 24) {b : Int32} {p : Nat → Bool} (hb : btO n b p) (sz : Int32) (fo co : Nat → Int32) :
    ∃ z fo' co', fX11_comesOutOf F (ii n) 6 st 6 ro (ii L.length) 24 a 96 96 b sz fo co = some (ov (psL mk rd [] (fil p L)), z, fo', co') := by
  unfold fX11_comesOutOf fX5_clear
  simp only [Option.bind_some]
  exact outOf_X_L hn hx hF hL ha h24 hb F 0 [] fo co 4 (by omega) (by omega) (by omega) (by omega) okP_nil (by simp; omega) trivial
theorem outOf_M_L {F n : Nat} {mk rd : Nat → Nat} {ki kn : Nat → Int32} (hn : okN n mk rd) (hm : netM n mk rd ki kn) (hF : 1000 ≤ F) {L : List Nat} {s : Nat → Int32} (hL : okL n L) (hs : rS s L) (h24 : L.length ≤ 24) {b : Int32} {p : Nat → Bool} (hb : btO n b p) :
    ∀ (t i : Nat) (Q : List (Nat × Int)) (fo co : Nat → Int32) (B : Int), L.length < i + t → i ≤ L.length → 3 ≤ B → B + (L.length - i : Nat) ≤ 100 → okP n B Q → Q.length + (L.length - i) ≤ 96 → rP fo co Q → ∃ z fo' co', fX12_comesOutOf_L7 F 12 ki 12 kn 25 s 96 96 t b (ii (i + 1)) (ii Q.length) fo co = some (ov (psL mk rd Q (fil p (L.drop i))), z, fo', co') := by
  intro t
  induction t with
  | zero => intro i Q fo co B h1 h2; omega
  | succ t ih =>
    intro i Q fo co B h1 h2 hB hB2 hQ hN hr
    rw [sX12_comesOutOf_L7]
    unfold bX12_comesOutOf_L7 bX12_comesOutOf_L43 bX12_comesOutOf_L61
    have h6 := hn.1
    have e0 : s ((0 : Int32).toNatClampNeg) = ii L.length := hs.1
    rw [if_neg (by decide), e0]
    simp (disch := omega) only [ii_lt, ii_nneg, ii_nat, false_or]
    by_cases h : L.length ≤ i
    · rw [if_pos (by omega), List.drop_of_length_le h]
      have e0 := len0 (k := Q.length) (by omega)
      show ∃ z fo' co', _ = some (ov Q, z, fo', co')
      unfold ov
      by_cases hq : Q.length = 0
      · rw [if_pos (by rw [e0]; exact hq), if_pos hq, if_pos (Or.inr trivial)]
        exact ⟨_, _, _, rfl⟩
      · rw [if_neg (by rw [e0]; exact hq), if_neg hq, if_pos (Or.inl trivial)]
        exact ⟨_, _, _, rfl⟩
    · have hi : i < L.length := by omega
      have ht := hL _ (rL_mem (a := s) hi)
      rw [if_neg (by omega), if_neg (by omega), hs.2 i hi, tie_half _ (by omega)]
      have hb1 := btO_1 hb (g := L.getD i 0 / 2) (by omega)
      rw [drop_cons hi]
      by_cases hp : p (L.getD i 0 / 2) = true
      · rw [if_pos (by rw [hb1]; exact hp), if_neg (by omega)]
        obtain ⟨fo', co', e, hl, hr'⟩ := jT_eq (F := F) hn hm (by omega) ht (okP_mono (by omega) hQ) (by omega) hr
        rw [e]
        simp only [Option.bind_some]
        rw [fil_t hp, k_1, ii_add]
        have hln := ps_len (mk := mk) (rd := rd) (f := L.getD i 0 / 2) (c := sg (L.getD i 0)) (Q := Q)
        exact ih (i + 1) (psT mk rd Q (L.getD i 0)) fo' co' (B + 1) (by omega) (by omega) (by omega) (by omega) (psT_ok hn ht hB hQ) (by unfold psT; omega) hr'
      · rw [if_neg (by rw [hb1]; exact hp), fil_f (by simpa using hp), k_1, ii_add]
        exact ih (i + 1) Q fo co B (by omega) (by omega) hB (by omega) hQ (by omega) hr
theorem outOf_M {F n : Nat} {mk rd : Nat → Nat} {ki kn : Nat → Int32} (hn : okN n mk rd) (hm : netM n mk rd ki kn) (hF : 1000 ≤ F) {L : List Nat} {s : Nat → Int32} (hL : okL n L) (hs : rS s L) (h24 : L.length ≤ 24) {b : Int32} {p : Nat → Bool} (hb : btO n b p) (sz : Int32) (fo co : Nat → Int32) :
    ∃ z fo' co', fX12_comesOutOf F 12 ki 12 kn 25 s 96 96 b sz fo co = some (ov (psL mk rd [] (fil p L)), z, fo', co') := by
  unfold fX12_comesOutOf
  exact outOf_M_L hn hm hF hL hs h24 hb F 0 [] fo co 4 (by omega) (by omega) (by omega) (by omega) okP_nil (by simp; omega) trivial
/-- bits of the sets that are asked for -/
theorem bit_but : ∀ m, m < 64 → ∀ f, f < 6 → ∀ g, g < 6 → (((ii m &&& (((1 : Int32) <<< (ii f &&& 31)) ^^^ (-1 : Int32))) >>> (ii g &&& 31)) &&& (1 : Int32)) = if (m.testBit g && !(g == f)) = true then 1 else 0 := by decide +kernel
theorem bit_two : ∀ i, i < 6 → ∀ j, j < 6 → ∀ g, g < 6 → (((((1 : Int32) <<< (ii i &&& 31)) ||| ((1 : Int32) <<< (ii j &&& 31))) >>> (ii g &&& 31)) &&& (1 : Int32)) = if (g == i || g == j) = true then 1 else 0 := by decide +kernel
theorem all_n : ∀ n, n < 7 → ((1 : Int32) <<< (ii n &&& 31)) - (1 : Int32) = ii (2 ^ n - 1) ∧ 2 ^ n - 1 < 64 ∧ ∀ g, g < n → (2 ^ n - 1).testBit g = true := by decide +kernel
theorem bit_m : ∀ m, m < 64 → ∀ g, g < 6 → ((ii m >>> (ii g &&& 31)) &&& (1 : Int32)) = if m.testBit g = true then 1 else 0 := by decide +kernel
