/-! PURE: the reference's rows, joined one by one, forth and back -/
/-- the reference's line: its length first -/
def rS (s : Nat → Int32) (L : List Nat) : Prop := s 0 = ii L.length ∧ ∀ k, k < L.length → s (k + 1) = ii (L.getD k 0)
theorem jT_eq {F n : Nat} {mk rd : Nat → Nat} {ki kn : Nat → Int32} (hn : okN n mk rd) (hm : netM n mk rd ki kn) (hF : 97 ≤ F) {t : Nat} (ht : t < 2 * n) {fo co : Nat → Int32} {Q : List (Nat × Int)} (hP : okP n 100 Q) (hN : Q.length < 96) (hr : rP fo co Q) :
    isP 96 (psT mk rd Q t) (fX12_joins F 12 ki 12 kn 96 96 (ii t) (ii Q.length) fo co) := joins_eq hn hm hF ht hP hN hr
theorem turned_eq {F t : Nat} (h : t < 12) : fX12_turned F (ii t) = some (ii (tn t)) := by
  rw [← turned_ok t h]
  unfold fX12_turned bX12_turned_L15
  split <;> rfl
theorem joinsLine_L {F n : Nat} {mk rd : Nat → Nat} {ki kn : Nat → Int32} (hn : okN n mk rd) (hm : netM n mk rd ki kn) (hF : 97 ≤ F) {L : List Nat} {s : Nat → Int32} (hL : okL n L) (hs : rS s L) (h24 : L.length ≤ 24) :
    ∀ (t i : Nat) (Q : List (Nat × Int)) (fo co : Nat → Int32) (B : Int), L.length < i + t → i ≤ L.length → 3 ≤ B → B + (L.length - i : Nat) ≤ 100 → okP n B Q → Q.length + (L.length - i) ≤ 96 → rP fo co Q → isP 96 (psL mk rd Q (L.drop i)) (fX12_joinsLine_L2 F 12 ki 12 kn 25 s 96 96 t (ii (i + 1)) (ii Q.length) fo co) := by
  intro t
  induction t with
  | zero => intro i Q fo co B h1 h2; omega
  | succ t ih =>
    intro i Q fo co B h1 h2 hB hB2 hQ hN hr
    rw [sX12_joinsLine_L2]
    unfold bX12_joinsLine_L2
    have h6 := hn.1
    have e0 : s ((0 : Int32).toNatClampNeg) = ii L.length := hs.1
    rw [if_neg (by decide), e0]
    simp (disch := omega) only [ii_lt, ii_nneg, ii_nat, false_or, k_1, ii_add]
    by_cases h : L.length ≤ i
    · rw [if_pos (by omega), List.drop_of_length_le h]
      exact ⟨fo, co, rfl, (show Q.length ≤ 96 by omega), hr⟩
    · have hi : i < L.length := by omega
      have ht := hL _ (rL_mem (a := s) hi)
      rw [if_neg (by omega), if_neg (by omega), hs.2 i hi]
      obtain ⟨fo', co', e, hl, hr'⟩ := jT_eq hn hm hF ht (okP_mono (by omega) hQ) (by omega) hr
      rw [e]
      simp only [Option.bind_some]
      have hln := ps_len (mk := mk) (rd := rd) (f := L.getD i 0 / 2) (c := sg (L.getD i 0)) (Q := Q)
      have h5 := ih (i + 1) (psT mk rd Q (L.getD i 0)) fo' co' (B + 1) (by omega) (by omega) (by omega) (by omega) (psT_ok hn ht hB hQ) (by unfold psT; omega) hr'
      rw [drop_cons hi]
      exact h5
theorem joinsLine_eq {F n : Nat} {mk rd : Nat → Nat} {ki kn : Nat → Int32} (hn : okN n mk rd) (hm : netM n mk rd ki kn) (hF : 97 ≤ F) {L : List Nat} {s : Nat → Int32} (hL : okL n L) (hs : rS s L) (h24 : L.length ≤ 24) {Q : List (Nat × Int)} {fo co : Nat → Int32} {B : Int} (hB : 3 ≤ B) (hB2 : B + L.length ≤ 100) (hQ : okP n B Q) (hN : Q.length + L.length ≤ 96) (hr : rP fo co Q) :
    isP 96 (psL mk rd Q L) (fX12_joinsLine F 12 ki 12 kn 25 s 96 96 (ii Q.length) fo co) := by
  unfold fX12_joinsLine
  rw [k_1]
  have h := joinsLine_L hn hm hF hL hs h24 F 0 Q fo co B (by omega) (by omega) hB (by omega) hQ (by omega) hr
  simpa using h
theorem joinsLineBack_L {F n : Nat} {mk rd : Nat → Nat} {ki kn : Nat → Int32} (hn : okN n mk rd) (hm : netM n mk rd ki kn) (hF : 97 ≤ F) {L : List Nat} {s : Nat → Int32} (hL : okL n L) (hs : rS s L) (h24 : L.length ≤ 24) :
    ∀ (i t : Nat) (Q : List (Nat × Int)) (fo co : Nat → Int32) (B : Int), i < t → i ≤ L.length → 3 ≤ B → B + i ≤ 100 → okP n B Q → Q.length + i ≤ 96 → rP fo co Q → isP 96 (psL mk rd Q (bk (L.take i))) (fX12_joinsLineBack_L7 F 12 ki 12 kn 25 s 96 96 t (ii i) (ii Q.length) fo co) := by
  intro i
  induction i with
  | zero =>
    intro t Q fo co B h1 h2 hB hB2 hQ hN hr
    obtain ⟨t, rfl⟩ : ∃ t', t = t' + 1 := ⟨t - 1, by omega⟩
    rw [sX12_joinsLineBack_L7]
    have e0 : ii 0 ≤ 0 := by decide
    unfold bX12_joinsLineBack_L7
    rw [if_pos e0]
    exact ⟨fo, co, rfl, (show Q.length ≤ 96 by omega), hr⟩
  | succ i ih =>
    intro t Q fo co B h1 h2 hB hB2 hQ hN hr
    obtain ⟨t, rfl⟩ : ∃ t', t = t' + 1 := ⟨t - 1, by omega⟩
    rw [sX12_joinsLineBack_L7]
    have h6 := hn.1
    have hi : i < L.length := by omega
    have ht := hL _ (rL_mem (a := s) hi)
    unfold bX12_joinsLineBack_L7
    simp (disch := omega) only [k_0, ii_le, ii_lt, ii_nat, Nat.not_lt_zero, false_or]
    rw [if_neg (by omega), if_neg (by omega), hs.2 i hi, turned_eq (by omega)]
    simp only [Option.bind_some]
    obtain ⟨fo', co', e, hl, hr'⟩ := jT_eq hn hm hF (tn_lt ht) (okP_mono (by omega) hQ) (by omega) hr
    rw [e]
    simp only [Option.bind_some]
    have hln := ps_len (mk := mk) (rd := rd) (f := tn (L.getD i 0) / 2) (c := sg (tn (L.getD i 0))) (Q := Q)
    have h5 := ih t (psT mk rd Q (tn (L.getD i 0))) fo' co' (B + 1) (by omega) (by omega) (by omega) (by omega) (psT_ok hn (tn_lt ht) hB hQ) (by unfold psT; omega) hr'
    rw [bk_take hi]
    rw [ii_m1 (by omega)]
    exact h5
theorem joinsLineBack_eq {F n : Nat} {mk rd : Nat → Nat} {ki kn : Nat → Int32} (hn : okN n mk rd) (hm : netM n mk rd ki kn) (hF : 97 ≤ F) {L : List Nat} {s : Nat → Int32} (hL : okL n L) (hs : rS s L) (h24 : L.length ≤ 24) {Q : List (Nat × Int)} {fo co : Nat → Int32} {B : Int} (hB : 3 ≤ B) (hB2 : B + L.length ≤ 100) (hQ : okP n B Q) (hN : Q.length + L.length ≤ 96) (hr : rP fo co Q) :
    isP 96 (psL mk rd Q (bk L)) (fX12_joinsLineBack F 12 ki 12 kn 25 s 96 96 (ii Q.length) fo co) := by
  unfold fX12_joinsLineBack
  rw [if_neg (by decide)]
  have e0 : s ((0 : Int32).toNatClampNeg) = ii L.length := hs.1
  rw [e0]
  have h := joinsLineBack_L hn hm hF hL hs h24 L.length F Q fo co B (by omega) (by omega) hB (by omega) hQ (by omega) hr
  simpa using h
theorem joinsOther_L {F n : Nat} {mk rd : Nat → Nat} {ki kn : Nat → Int32} (hn : okN n mk rd) (hm : netM n mk rd ki kn) (hF : 97 ≤ F) {L : List Nat} {os ot : Nat → Int32} (hL : okL n L) (hs : os 0 = ii L.length) (ha : rL ot L) (h24 : L.length ≤ 24) :
    ∀ (t i : Nat) (Q : List (Nat × Int)) (fo co : Nat → Int32) (B : Int), L.length < i + t → i ≤ L.length → 3 ≤ B → B + (L.length - i : Nat) ≤ 100 → okP n B Q → Q.length + (L.length - i) ≤ 96 → rP fo co Q → isP 96 (psL mk rd Q (L.drop i)) (fX12_joinsOther_L2 F 12 ki 12 kn 6 os 144 ot 96 96 t (ii i) (ii Q.length) fo co) := by
  intro t
  induction t with
  | zero => intro i Q fo co B h1 h2; omega
  | succ t ih =>
    intro i Q fo co B h1 h2 hB hB2 hQ hN hr
    rw [sX12_joinsOther_L2]
    unfold bX12_joinsOther_L2
    have h6 := hn.1
    have e0 : os ((0 : Int32).toNatClampNeg) = ii L.length := hs
    rw [if_neg (by decide), e0]
    simp (disch := omega) only [ii_le, ii_nneg, ii_nat, false_or, k_1, ii_add]
    by_cases h : L.length ≤ i
    · rw [if_pos h, List.drop_of_length_le h]
      exact ⟨fo, co, rfl, (show Q.length ≤ 96 by omega), hr⟩
    · have hi : i < L.length := by omega
      have ht := hL _ (rL_mem (a := ot) hi)
      rw [if_neg h, if_neg (by omega), ha i hi]
      obtain ⟨fo', co', e, hl, hr'⟩ := jT_eq hn hm hF ht (okP_mono (by omega) hQ) (by omega) hr
      rw [e]
      simp only [Option.bind_some]
      have hln := ps_len (mk := mk) (rd := rd) (f := L.getD i 0 / 2) (c := sg (L.getD i 0)) (Q := Q)
      have h5 := ih (i + 1) (psT mk rd Q (L.getD i 0)) fo' co' (B + 1) (by omega) (by omega) (by omega) (by omega) (psT_ok hn ht hB hQ) (by unfold psT; omega) hr'
      rw [drop_cons hi]
      exact h5
theorem joinsOther_eq {F n : Nat} {mk rd : Nat → Nat} {ki kn : Nat → Int32} (hn : okN n mk rd) (hm : netM n mk rd ki kn) (hF : 97 ≤ F) {L : List Nat} {os ot : Nat → Int32} (hL : okL n L) (hs : os 0 = ii L.length) (ha : rL ot L) (h24 : L.length ≤ 24) {Q : List (Nat × Int)} {fo co : Nat → Int32} {B : Int} (hB : 3 ≤ B) (hB2 : B + L.length ≤ 100) (hQ : okP n B Q) (hN : Q.length + L.length ≤ 96) (hr : rP fo co Q) :
    isP 96 (psL mk rd Q L) (fX12_joinsOther F 12 ki 12 kn 6 os 144 ot 96 96 (ii Q.length) fo co) := by
  unfold fX12_joinsOther
  rw [k_0]
  have h := joinsOther_L hn hm hF hL hs ha h24 F 0 Q fo co B (by omega) (by omega) hB (by omega) hQ (by omega) hr
  simpa using h
theorem joinsOtherBack_L {F n : Nat} {mk rd : Nat → Nat} {ki kn : Nat → Int32} (hn : okN n mk rd) (hm : netM n mk rd ki kn) (hF : 97 ≤ F) {L : List Nat} {os ot : Nat → Int32} (hL : okL n L) (ha : rL ot L) (h24 : L.length ≤ 24) :
    ∀ (i t : Nat) (Q : List (Nat × Int)) (fo co : Nat → Int32) (B : Int), i < t → i ≤ L.length → 3 ≤ B → B + i ≤ 100 → okP n B Q → Q.length + i ≤ 96 → rP fo co Q → isP 96 (psL mk rd Q (bk (L.take i))) (fX12_joinsOtherBack_L9 F 12 ki 12 kn 6 os 144 ot 96 96 t (iz ((i : Int) - 1)) (ii Q.length) fo co) := by
  intro i
  induction i with
  | zero =>
    intro t Q fo co B h1 h2 hB hB2 hQ hN hr
    obtain ⟨t, rfl⟩ : ∃ t', t = t' + 1 := ⟨t - 1, by omega⟩
    rw [sX12_joinsOtherBack_L9]
    have e0 : iz (((0 : Nat) : Int) - 1) < 0 := by decide
    unfold bX12_joinsOtherBack_L9
    rw [if_pos e0]
    exact ⟨fo, co, rfl, (show Q.length ≤ 96 by omega), hr⟩
  | succ i ih =>
    intro t Q fo co B h1 h2 hB hB2 hQ hN hr
    obtain ⟨t, rfl⟩ : ∃ t', t = t' + 1 := ⟨t - 1, by omega⟩
    rw [sX12_joinsOtherBack_L9]
    have e1 : iz (((i + 1 : Nat) : Int) - 1) = ii i := by
      rw [ii_iz]
      congr 1
      omega
    have h6 := hn.1
    have hi : i < L.length := by omega
    have ht := hL _ (rL_mem (a := ot) hi)
    rw [e1]
    unfold bX12_joinsOtherBack_L9
    simp (disch := omega) only [ii_nneg, ii_nat, false_or, if_false]
    rw [if_neg (by omega), ha i hi, turned_eq (by omega)]
    simp only [Option.bind_some]
    obtain ⟨fo', co', e, hl, hr'⟩ := jT_eq hn hm hF (tn_lt ht) (okP_mono (by omega) hQ) (by omega) hr
    rw [e]
    simp only [Option.bind_some]
    have hln := ps_len (mk := mk) (rd := rd) (f := tn (L.getD i 0) / 2) (c := sg (tn (L.getD i 0))) (Q := Q)
    have e3 : ii i + (-1 : Int32) = iz ((i : Int) - 1) := by
      rw [ii_iz, kz_m1, iz_add]
      rfl
    have h5 := ih t (psT mk rd Q (tn (L.getD i 0))) fo' co' (B + 1) (by omega) (by omega) (by omega) (by omega) (psT_ok hn (tn_lt ht) hB hQ) (by unfold psT; omega) hr'
    rw [bk_take hi]
    rw [e3]
    exact h5
theorem joinsOtherBack_eq {F n : Nat} {mk rd : Nat → Nat} {ki kn : Nat → Int32} (hn : okN n mk rd) (hm : netM n mk rd ki kn) (hF : 97 ≤ F) {L : List Nat} {os ot : Nat → Int32} (hL : okL n L) (hs : os 0 = ii L.length) (ha : rL ot L) (h24 : L.length ≤ 24) {Q : List (Nat × Int)} {fo co : Nat → Int32} {B : Int} (hB : 3 ≤ B) (hB2 : B + L.length ≤ 100) (hQ : okP n B Q) (hN : Q.length + L.length ≤ 96) (hr : rP fo co Q) :
    isP 96 (psL mk rd Q (bk L)) (fX12_joinsOtherBack F 12 ki 12 kn 6 os 144 ot 96 96 (ii Q.length) fo co) := by
  unfold fX12_joinsOtherBack
  rw [if_neg (by decide)]
  have e0 : os ((0 : Int32).toNatClampNeg) = ii L.length := hs
  have e : ii L.length - (1 : Int32) = iz ((L.length : Int) - 1) := by
    rw [ii_iz, k_1, ii_iz, iz_sub]
    rfl
  rw [e0, e]
  have h := joinsOtherBack_L (os := os) hn hm hF hL ha h24 L.length F Q fo co B (by omega) (by omega) hB (by omega) hQ (by omega) hr
  simpa using h
