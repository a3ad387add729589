/-! PURE: loose of both sides -/
/-- how far it comes out last -/
def mo (mk rd : Nat → Nat) : List (Nat × Int) → List Nat → Nat → Nat → Nat
  | _, [], _, l => l
  | Q, t :: M, c, l => mo mk rd (psT mk rd Q t) M (c + 1) (if (psT mk rd Q t).length = 0 then c + 1 else l)
theorem mo_t {mk rd : Nat → Nat} {Q : List (Nat × Int)} {t c l : Nat} {M : List Nat} (h : (psT mk rd Q t).length = 0) : mo mk rd Q (t :: M) c l = mo mk rd (psT mk rd Q t) M (c + 1) (c + 1) := by
  show mo mk rd (psT mk rd Q t) M (c + 1) (if (psT mk rd Q t).length = 0 then c + 1 else l) = _
  rw [if_pos h]
theorem mo_f {mk rd : Nat → Nat} {Q : List (Nat × Int)} {t c l : Nat} {M : List Nat} (h : (psT mk rd Q t).length ≠ 0) : mo mk rd Q (t :: M) c l = mo mk rd (psT mk rd Q t) M (c + 1) l := by
  show mo mk rd (psT mk rd Q t) M (c + 1) (if (psT mk rd Q t).length = 0 then c + 1 else l) = _
  rw [if_neg h]
def pb (b l : Nat) : Nat := if b < l then l else b
def pw (b l : Nat) (s x : Int32) : Int32 := if b < l then x else s
def lo (mk rd : Nat → Nat) (L : List Nat) (q : Int32) : Nat → Nat → Nat → Int32 → Int32
  | 0, _, b, s => if q = 0 then ii b else s
  | r + 1, i, b, s => lo mk rd L q r (i + 1) (pb b (mo mk rd [] (L.drop i) 0 0)) (pw b (mo mk rd [] (L.drop i) 0 0) s (ii i))
theorem mo_le {mk rd : Nat → Nat} : ∀ {M : List Nat} {Q : List (Nat × Int)} {c l : Nat}, l ≤ c → mo mk rd Q M c l ≤ c + M.length
  | [], Q, c, l, h => by show l ≤ c + 0; omega
  | t :: M, Q, c, l, h => by
    by_cases h1 : (psT mk rd Q t).length = 0
    · rw [mo_t h1]
      have := mo_le (mk := mk) (rd := rd) (M := M) (Q := psT mk rd Q t) (c := c + 1) (l := c + 1) (by omega)
      simp only [List.length_cons]
      omega
    · rw [mo_f h1]
      have := mo_le (mk := mk) (rd := rd) (M := M) (Q := psT mk rd Q t) (c := c + 1) (l := l) (by omega)
      simp only [List.length_cons]
      omega
theorem most_X_L {F n : Nat} {mk rd : Nat → Nat} {st ro : Nat → Int32} (hn : okN n mk rd) (hx : netX n mk rd st ro) (hF : 1000 ≤ F) {L : List Nat} {a : Nat → Int32} (hL : okL n L) (ha : rL a L) (h24 : L.length ≤ 24) (i0 : Nat) :
    ∀ (t c l : Nat) (Q : List (Nat × Int)) (fo co : Nat → Int32) (B : Int), L.length < i0 + c + t → i0 + c ≤ L.length → 3 ≤ B → B + (L.length - (i0 + c) : Nat) ≤ 100 → okP n B Q → Q.length + (L.length - (i0 + c)) ≤ 96 → rP fo co Q → ∃ z fo' co', fX11_mostOutFrom_L15 F (ii n) 6 st 6 ro (ii L.length) 24 a 96 96 t (ii i0) (ii l) (ii (i0 + c)) (ii Q.length) fo co = some (ii (mo mk rd Q (L.drop (i0 + c)) c l), z, fo', co') := by
  intro t
  induction t with
  | zero => intro c l Q fo co B h1 h2; omega
  | succ t ih =>
    intro c l Q fo co B h1 h2 hB hB2 hQ hN hr
    rw [sX11_mostOutFrom_L15]
    unfold bX11_mostOutFrom_L15 bX11_mostOutFrom_L68
    have h6 := hn.1
    simp (disch := omega) only [ii_le, ii_nneg, ii_nat, false_or]
    by_cases h : L.length ≤ i0 + c
    · rw [if_pos h, List.drop_of_length_le h]
      exact ⟨_, _, _, rfl⟩
    · have hi : i0 + c < L.length := by omega
      have ht := hL _ (rL_mem (a := a) hi)
      rw [if_neg h, if_neg (by omega), ha _ hi]
      obtain ⟨fo', co', e, hl, hr'⟩ := pushTie_eq (F := F) (N := 96) hn hx (by omega) (by omega) ht (okP_mono (by omega) hQ) (by omega) hr
      rw [e]
      simp only [Option.bind_some]
      have hln := ps_len (mk := mk) (rd := rd) (f := L.getD (i0 + c) 0 / 2) (c := sg (L.getD (i0 + c) 0)) (Q := Q)
      have e0 := len0 (k := (psT mk rd Q (L.getD (i0 + c) 0)).length) (by omega)
      have e3 : ii (i0 + c) + (1 : Int32) = ii (i0 + (c + 1)) := by rw [k_1, ii_add]; rfl
      rw [drop_cons hi, e3]
      have go : ∀ l', ∃ z f2 c2, fX11_mostOutFrom_L15 F (ii n) 6 st 6 ro (ii L.length) 24 a 96 96 t (ii i0) (ii l') (ii (i0 + (c + 1))) (ii (psT mk rd Q (L.getD (i0 + c) 0)).length) fo' co' = some (ii (mo mk rd (psT mk rd Q (L.getD (i0 + c) 0)) (L.drop (i0 + (c + 1))) (c + 1) l'), z, f2, c2) := fun l' =>
        ih (c + 1) l' _ fo' co' (B + 1) (by omega) (by omega) (by omega) (by omega) (psT_ok hn ht hB hQ) (by unfold psT; omega) hr'
      by_cases hq : (psT mk rd Q (L.getD (i0 + c) 0)).length = 0
      · rw [if_pos (by rw [e0]; exact hq), mo_t hq]
        have e4 : ii (i0 + c) - ii i0 + (1 : Int32) = ii (c + 1) := by
          rw [ii_sub (by omega), k_1, ii_add]
          congr 1
          omega
        rw [e4]
        exact go (c + 1)
      · rw [if_neg (by rw [e0]; exact hq), mo_f hq]
        exact go l
theorem most_X {F n : Nat} {mk rd : Nat → Nat} {st ro : Nat → Int32} (hn : okN n mk rd) (hx : netX n mk rd st ro) (hF : 1000 ≤ F) {L : List Nat} {a : Nat → Int32} (hL : okL n L) (ha : rL a L) (h24 : L.length ≤ 24) {i : Nat} (hi : i ≤ L.length) (sz : Int32) (fo co : Nat → Int32) :
    ∃ z fo' co', fX11_mostOutFrom F (ii n) 6 st 6 ro (ii L.length) 24 a 96 96 (ii i) sz fo co = some (ii (mo mk rd [] (L.drop i) 0 0), z, fo', co') := by
  unfold fX11_mostOutFrom fX5_clear
  simp only [Option.bind_some]
  rw [if_neg (by rw [ii_nneg (by omega)]; simp)]
  exact most_X_L hn hx hF hL ha h24 i F 0 0 [] fo co 4 (by omega) (by omega) (by omega) (by omega) okP_nil (by simp; omega) trivial
theorem loose_X_L {F n : Nat} {mk rd : Nat → Nat} {st ro : Nat → Int32} (hn : okN n mk rd) (hx : netX n mk rd st ro) (hF : 1000 ≤ F) {L : List Nat} {a : Nat → Int32} (hL : okL n L) (ha : rL a L) (h24 : L.length ≤ 24) (q : Int32) :
    ∀ (t i b : Nat) (s sz : Int32) (fo co : Nat → Int32), i ≤ L.length → L.length < i + t → b ≤ 24 → ∃ z fo' co', fX11_loose_L19 F (ii n) 6 st 6 ro (ii L.length) 24 a 96 96 t q (ii b) s (ii i) sz fo co = some (lo mk rd L q (L.length - i) i b s, z, fo', co') := by
  intro t
  induction t with
  | zero => intro i b s sz fo co h1 h2; omega
  | succ t ih =>
    intro i b s sz fo co h1 h2 h3
    rw [sX11_loose_L19]
    unfold bX11_loose_L19 bX11_loose_L54 bX11_loose_L69
    have e1 : (ii L.length ≤ ii i) = (L.length ≤ i) := ii_le (by omega) (by omega)
    by_cases hi : L.length ≤ i
    · rw [if_pos (by rw [e1]; exact hi), show L.length - i = 0 by omega]
      unfold lo
      by_cases hq : q = 0
      · rw [if_pos hq, if_pos hq]
        exact ⟨_, _, _, rfl⟩
      · rw [if_neg hq, if_neg hq]
        exact ⟨_, _, _, rfl⟩
    · rw [if_neg (by rw [e1]; exact hi), show L.length - i = (L.length - (i + 1)) + 1 by omega]
      obtain ⟨z, fo', co', e2⟩ := most_X hn hx hF hL ha h24 h1 sz fo co
      rw [e2]
      simp only [Option.bind_some]
      have hm := mo_le (mk := mk) (rd := rd) (M := L.drop i) (Q := []) (c := 0) (l := 0) (by omega)
      rw [List.length_drop] at hm
      have e3 : (ii (mo mk rd [] (L.drop i) 0 0) ≤ ii b) = (mo mk rd [] (L.drop i) 0 0 ≤ b) := ii_le (by omega) (by omega)
      have e4 : lo mk rd L q (L.length - (i + 1) + 1) i b s = lo mk rd L q (L.length - (i + 1)) (i + 1) (pb b (mo mk rd [] (L.drop i) 0 0)) (pw b (mo mk rd [] (L.drop i) 0 0) s (ii i)) := rfl
      rw [e4, k_1, ii_add]
      by_cases hle : mo mk rd [] (L.drop i) 0 0 ≤ b
      · rw [if_pos (by rw [e3]; exact hle)]
        have e5 : pb b (mo mk rd [] (L.drop i) 0 0) = b := if_neg (by omega)
        have e6 : pw b (mo mk rd [] (L.drop i) 0 0) s (ii i) = s := if_neg (by omega)
        rw [e5, e6]
        exact ih (i + 1) _ _ _ _ _ (by omega) (by omega) h3
      · rw [if_neg (by rw [e3]; exact hle)]
        have e5 : pb b (mo mk rd [] (L.drop i) 0 0) = mo mk rd [] (L.drop i) 0 0 := if_pos (by omega)
        have e6 : pw b (mo mk rd [] (L.drop i) 0 0) s (ii i) = ii i := if_pos (by omega)
        rw [e5, e6]
        exact ih (i + 1) _ _ _ _ _ (by omega) (by omega) (by omega)
def loA (mk rd : Nat → Nat) (L : List Nat) (q : Int32) : Int32 := if q < 0 then -2 else if (1 : Int32) < q then -2 else lo mk rd L q L.length 0 0 (-1)
theorem not_le_32 {a b : Int32} : ¬ a ≤ b ↔ b < a := by
  rw [Int32.le_iff_toInt_le, Int32.lt_iff_toInt_lt]
  omega
theorem loose_X {F n : Nat} {mk rd : Nat → Nat} {st ro : Nat → Int32} (hn : okN n mk rd) (hx : netX n mk rd st ro) (hF : 1000 ≤ F) {L : List Nat} {a : Nat → Int32} (hL : okL n L) (ha : rL a L) (h24 : L.length ≤ 24) (q sz : Int32) (fo co : Nat → Int32) :
    ∃ z fo' co', fX11_loose F (ii n) 6 st 6 ro (ii L.length) 24 a 96 96 q sz fo co = some (loA mk rd L q, z, fo', co') := by
  unfold fX11_loose bX11_loose_L9 loA
  by_cases h1 : q < 0
  · rw [if_pos h1, if_pos h1]
    exact ⟨_, _, _, rfl⟩
  · rw [if_neg h1, if_neg h1]
    by_cases h2 : q ≤ 1
    · rw [if_pos h2, if_neg (fun h => not_le_32.mpr h h2)]
      exact loose_X_L hn hx hF hL ha h24 q F 0 0 (-1) sz fo co (by omega) (by omega) (by omega)
    · rw [if_neg h2, if_pos (not_le_32.mp h2)]
      exact ⟨_, _, _, rfl⟩
theorem loose_M_J {F n : Nat} {mk rd : Nat → Nat} {ki kn : Nat → Int32} (hn : okN n mk rd) (hm : netM n mk rd ki kn) (hF : 1000 ≤ F) {L : List Nat} {s : Nat → Int32} (hL : okL n L) (hs : rS s L) (h24 : L.length ≤ 24) (q th : Int32) (i0 b0 : Nat) (hb0 : b0 ≤ 24) (s0 : Int32) (v : Int32) (k24 : Int32 → Int32 → Int32 → Int32 → Int32 → Int32 → (Nat → Int32) → (Nat → Int32) → Option (Int32 × Int32 × Int32 × (Nat → Int32) × (Nat → Int32)))
    (hk : ∀ sz fo co, ∃ z fo' co', k24 q (ii (pb b0 (mo mk rd [] (L.drop i0) 0 0))) (pw b0 (mo mk rd [] (L.drop i0) 0 0) s0 (ii i0)) (ii (i0 + 1 + 1)) th sz fo co = some (v, th, z, fo', co')) :
    ∀ (t c l : Nat) (Q : List (Nat × Int)) (fo co : Nat → Int32) (B : Int), L.length < i0 + c + t → i0 + c ≤ L.length → l ≤ c → mo mk rd Q (L.drop (i0 + c)) c l = mo mk rd [] (L.drop i0) 0 0 → 3 ≤ B → B + (L.length - (i0 + c) : Nat) ≤ 100 → okP n B Q → Q.length + (L.length - (i0 + c)) ≤ 96 → rP fo co Q → ∃ z fo' co', fX12_loose_L44 F 12 ki 12 kn 25 s 96 96 k24 t q (ii (pb b0 l)) (pw b0 l s0 (ii i0)) (ii (i0 + 1)) (ii (i0 + c + 1)) th (ii Q.length) fo co = some (v, th, z, fo', co') := by
  intro t
  induction t with
  | zero => intro c l Q fo co B h1 h2; omega
  | succ t ih =>
    intro c l Q fo co B h1 h2 hlc hmo hB hB2 hQ hN hr
    rw [sX12_loose_L44]
    unfold bX12_loose_L44 bX12_loose_L100
    have h6 := hn.1
    have e0 : s ((0 : Int32).toNatClampNeg) = ii L.length := hs.1
    rw [if_neg (by decide), e0]
    have hpb : pb b0 l ≤ 24 := by unfold pb; split <;> omega
    simp (disch := omega) only [ii_lt, ii_nneg, ii_nat, false_or]
    by_cases h : L.length ≤ i0 + c
    · rw [if_pos (by omega)]
      rw [List.drop_of_length_le h] at hmo
      have e1 : l = mo mk rd [] (L.drop i0) 0 0 := hmo
      rw [e1, k_1, ii_add]
      exact hk _ _ _
    · have hi : i0 + c < L.length := by omega
      have ht := hL _ (rL_mem (a := s) hi)
      rw [if_neg (by omega), if_neg (by omega), hs.2 _ hi]
      obtain ⟨fo', co', e, hl, hr'⟩ := jT_eq (F := F) hn hm (by omega) ht (okP_mono (by omega) hQ) (by omega) hr
      rw [e]
      simp only [Option.bind_some]
      have hln := ps_len (mk := mk) (rd := rd) (f := L.getD (i0 + c) 0 / 2) (c := sg (L.getD (i0 + c) 0)) (Q := Q)
      have e2 : ((0 : Int32) < ii (psT mk rd Q (L.getD (i0 + c) 0)).length) = (0 < (psT mk rd Q (L.getD (i0 + c) 0)).length) := ii_lt (a := 0) (by omega) (by omega)
      have e3 : ii (i0 + c + 1) + (1 : Int32) = ii (i0 + (c + 1) + 1) := by rw [k_1, ii_add]; rfl
      have e4 : ii (i0 + (c + 1) + 1) - ii (i0 + 1) = ii (c + 1) := by
        rw [ii_sub (by omega)]
        congr 1
        omega
      have e7 : ii (i0 + 1) - (1 : Int32) = ii i0 := by rw [k_1, ii_sub (by omega)]; rfl
      rw [e3, e4, e7]
      have e5 : (ii (pb b0 l) < ii (c + 1)) = (pb b0 l < c + 1) := ii_lt (by omega) (by omega)
      rw [drop_cons hi] at hmo
      have go : ∀ l', l' ≤ c + 1 → mo mk rd (psT mk rd Q (L.getD (i0 + c) 0)) (L.drop (i0 + (c + 1))) (c + 1) l' = mo mk rd [] (L.drop i0) 0 0 → ∃ z f2 c2, fX12_loose_L44 F 12 ki 12 kn 25 s 96 96 k24 t q (ii (pb b0 l')) (pw b0 l' s0 (ii i0)) (ii (i0 + 1)) (ii (i0 + (c + 1) + 1)) th (ii (psT mk rd Q (L.getD (i0 + c) 0)).length) fo' co' = some (v, th, z, f2, c2) := fun l' h8 h9 =>
        ih (c + 1) l' _ fo' co' (B + 1) (by omega) (by omega) h8 h9 (by omega) (by omega) (psT_ok hn ht hB hQ) (by unfold psT; omega) hr'
      by_cases hq : (psT mk rd Q (L.getD (i0 + c) 0)).length = 0
      · rw [if_neg (by rw [e2]; omega)]
        rw [mo_t hq] at hmo
        have h10 := go (c + 1) (by omega) hmo
        by_cases hb : pb b0 l < c + 1
        · rw [if_pos (by rw [e5]; exact hb)]
          have h11 : b0 < c + 1 := by
            unfold pb at hb
            split at hb <;> omega
          have e8 : pb b0 (c + 1) = c + 1 := if_pos h11
          have e9 : pw b0 (c + 1) s0 (ii i0) = ii i0 := if_pos h11
          rw [e8, e9] at h10
          exact h10
        · rw [if_neg (by rw [e5]; exact hb)]
          have h11 : ¬ b0 < c + 1 ∧ ¬ b0 < l := by
            unfold pb at hb
            split at hb <;> omega
          have e8 : pb b0 (c + 1) = b0 := if_neg h11.1
          have e9 : pw b0 (c + 1) s0 (ii i0) = s0 := if_neg h11.1
          have e10 : pb b0 l = b0 := if_neg h11.2
          have e11 : pw b0 l s0 (ii i0) = s0 := if_neg h11.2
          rw [e8, e9] at h10
          rw [e10, e11]
          exact h10
      · rw [if_pos (by rw [e2]; omega)]
        rw [mo_f hq] at hmo
        exact go l (by omega) hmo
theorem loose_M_I {F n : Nat} {mk rd : Nat → Nat} {ki kn : Nat → Int32} (hn : okN n mk rd) (hm : netM n mk rd ki kn) (hF : 1000 ≤ F) {L : List Nat} {s : Nat → Int32} (hL : okL n L) (hs : rS s L) (h24 : L.length ≤ 24) (q th : Int32) :
    ∀ (t i b : Nat) (s0 sz : Int32) (fo co : Nat → Int32), i ≤ L.length → L.length < i + t → b ≤ 24 → ∃ z fo' co', fX12_loose_L24 F 12 ki 12 kn 25 s 96 96 t q (ii b) s0 (ii (i + 1)) th sz fo co = some (lo mk rd L q (L.length - i) i b s0, th, z, fo', co') := by
  intro t
  induction t with
  | zero => intro i b s0 sz fo co h1 h2; omega
  | succ t ih =>
    intro i b s0 sz fo co h1 h2 h3
    rw [sX12_loose_L24]
    unfold bX12_loose_L24 bX12_loose_L121
    have e0 : s ((0 : Int32).toNatClampNeg) = ii L.length := hs.1
    rw [if_neg (by decide), e0]
    have e1 : (ii L.length < ii (i + 1)) = (L.length < i + 1) := ii_lt (by omega) (by omega)
    by_cases hi : L.length ≤ i
    · rw [if_pos (by rw [e1]; omega), show L.length - i = 0 by omega]
      unfold lo
      by_cases hq : q = 0
      · rw [if_pos hq, if_pos hq]
        exact ⟨_, _, _, rfl⟩
      · rw [if_neg hq, if_neg hq]
        exact ⟨_, _, _, rfl⟩
    · rw [if_neg (by rw [e1]; omega), show L.length - i = (L.length - (i + 1)) + 1 by omega]
      have hmo := mo_le (mk := mk) (rd := rd) (M := L.drop i) (Q := []) (c := 0) (l := 0) (by omega)
      rw [List.length_drop] at hmo
      have hpb : pb b (mo mk rd [] (L.drop i) 0 0) ≤ 24 := by unfold pb; split <;> omega
      have h5 := loose_M_J hn hm hF hL hs h24 q th i b h3 s0 (lo mk rd L q (L.length - (i + 1)) (i + 1) (pb b (mo mk rd [] (L.drop i) 0 0)) (pw b (mo mk rd [] (L.drop i) 0 0) s0 (ii i))) (fX12_loose_L24 F 12 ki 12 kn 25 s 96 96 t) (fun sz fo co => ih (i + 1) _ _ sz fo co (by omega) (by omega) hpb) F 0 0 [] fo co 4 (by omega) (by omega) (by omega) rfl (by omega) (by omega) okP_nil (by simp; omega) trivial
      have e8 : pb b 0 = b := if_neg (by omega)
      have e9 : pw b 0 s0 (ii i) = s0 := if_neg (by omega)
      rw [e8, e9] at h5
      exact h5
theorem loose_M {F n : Nat} {mk rd : Nat → Nat} {ki kn : Nat → Int32} (hn : okN n mk rd) (hm : netM n mk rd ki kn) (hF : 1000 ≤ F) {L : List Nat} {s : Nat → Int32} (hL : okL n L) (hs : rS s L) (h24 : L.length ≤ 24) (q th sz : Int32) (fo co : Nat → Int32) :
    ∃ z fo' co', fX12_loose F 12 ki 12 kn 25 s 96 96 q th sz fo co = some (loA mk rd L q, 0, z, fo', co') := by
  unfold fX12_loose fX12_within bX12_within_L14 bX12_within_L15 loA
  by_cases h1 : q < 0
  · rw [if_pos h1, if_pos h1, if_pos (Or.inl rfl)]
    exact ⟨_, _, _, rfl⟩
  · rw [if_neg h1, if_neg h1]
    by_cases h2 : (1 : Int32) < q
    · rw [if_pos h2, if_pos h2, if_pos (Or.inl rfl)]
      exact ⟨_, _, _, rfl⟩
    · rw [if_neg h2, if_neg h2, if_pos (Or.inr rfl)]
      simp only [Option.bind_some]
      rw [if_neg (by decide)]
      exact loose_M_I hn hm hF hL hs h24 q 0 F 0 0 (-1) sz fo co (by omega) (by omega) (by omega)
