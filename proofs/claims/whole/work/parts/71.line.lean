/-! PURE: questions about the line: out, form, held, fault -/
theorem okP_nil {n : Nat} {B : Int} : okP n B [] := fun x hx => absurd hx List.not_mem_nil
theorem okC_nil {rd : Nat → Nat} : okC rd [] := fun x hx => absurd hx List.not_mem_nil
def ov (Q : List (Nat × Int)) : Int32 := if Q.length = 0 then 1 else 0
theorem len0 {k : Nat} (h : k < 1000000) : (ii k = 0) = (k = 0) := ii_inj (b := 0) (by omega) (by omega)
theorem push0_eq {F N n M : Nat} {mk rd : Nat → Nat} {st ro : Nat → Int32} (hn : okN n mk rd) (hx : netX n mk rd st ro) (hb : N < 1000000) (hF : N < F) {L : List Nat} {a : Nat → Int32} (hL : okL n L) (ha : rL a L) (hM : L.length ≤ M) (hM2 : M < 1000000) (hF2 : M < F) (hB2 : L.length ≤ 96) (hN : L.length ≤ N) (fo co : Nat → Int32) :
    ∃ fo' co', fX5_pushRow F N N (ii n) 6 st 6 ro (ii L.length) M a (0 : Int32) fo co = some (ii (psL mk rd [] L).length, fo', co') ∧ rP fo' co' (psL mk rd [] L) := by
  obtain ⟨fo', co', e1, h1, h2⟩ := pushRow_eq hn hx hb hF hL ha hM hM2 hF2 (B := 4) (Q := []) (fo := fo) (co := co) (by omega) (by omega) okP_nil (by simpa using hN) trivial
  exact ⟨fo', co', e1, h2⟩
/-- the class lays a row anew -/
theorem lay_eq {F N n M : Nat} {mk rd : Nat → Nat} {st ro : Nat → Int32} (hn : okN n mk rd) (hx : netX n mk rd st ro) (hb : N < 1000000) (hF : N < F) {L : List Nat} {a : Nat → Int32} (hL : okL n L) (ha : rL a L) (hM : L.length ≤ M) (hM2 : M < 1000000) (hF2 : M < F) (hB2 : L.length ≤ 96) (hN : L.length ≤ N) (sz : Int32) (fo co : Nat → Int32) :
    ∃ fo' co', fX5_lay F N N (ii n) 6 st 6 ro (ii L.length) M a sz fo co = some (ii (psL mk rd [] L).length, fo', co') ∧ rP fo' co' (psL mk rd [] L) := by
  obtain ⟨fo', co', e1, h2⟩ := push0_eq hn hx hb hF hL ha hM hM2 hF2 hB2 hN fo co
  refine ⟨fo', co', ?_, h2⟩
  unfold fX5_lay fX5_clear
  simp only [Option.bind_some]
  rw [e1]
  rfl
theorem out_X {F n : Nat} {mk rd : Nat → Nat} {st ro : Nat → Int32} (hn : okN n mk rd) (hx : netX n mk rd st ro) (hF : 1000 ≤ F) {L : List Nat} {a : Nat → Int32} (hL : okL n L) (ha : rL a L) (h24 : L.length ≤ 24) (sz : Int32) (fo co : Nat → Int32) :
    ∃ z fo' co', fX11_out F (ii n) 6 st 6 ro (ii L.length) 24 a 96 96 sz fo co = some (ov (psL mk rd [] L), z, fo', co') := by
  obtain ⟨fo', co', e1, h2⟩ := lay_eq (F := F) (N := 96) hn hx (by omega) (by omega) hL ha h24 (by omega) (by omega) (by omega) (by omega) sz fo co
  have hl := psL_len (mk := mk) (rd := rd) (L := L) (Q := [])
  simp only [List.length_nil] at hl
  unfold fX11_out bX11_out_L33 ov
  rw [e1]
  simp only [Option.bind_some]
  have e0 := len0 (k := (psL mk rd [] L).length) (by omega)
  by_cases h : (psL mk rd [] L).length = 0
  · rw [if_pos (by rw [e0]; exact h), if_pos h, if_pos (Or.inr trivial)]
    exact ⟨_, _, _, rfl⟩
  · rw [if_neg (by rw [e0]; exact h), if_neg h, if_pos (Or.inl trivial)]
    exact ⟨_, _, _, rfl⟩
theorem lineM_eq {F n : Nat} {mk rd : Nat → Nat} {ki kn : Nat → Int32} (hn : okN n mk rd) (hm : netM n mk rd ki kn) (hF : 97 ≤ F) {L : List Nat} {s : Nat → Int32} (hL : okL n L) (hs : rS s L) (h24 : L.length ≤ 24) (fo co : Nat → Int32) :
    ∃ fo' co', fX12_joinsLine F 12 ki 12 kn 25 s 96 96 (0 : Int32) fo co = some (ii (psL mk rd [] L).length, fo', co') ∧ rP fo' co' (psL mk rd [] L) := by
  obtain ⟨fo', co', e1, h1, h2⟩ := joinsLine_eq hn hm hF hL hs h24 (B := 4) (Q := []) (fo := fo) (co := co) (by omega) (by omega) okP_nil (by simp; omega) trivial
  exact ⟨fo', co', e1, h2⟩
theorem out_M {F n : Nat} {mk rd : Nat → Nat} {ki kn : Nat → Int32} (hn : okN n mk rd) (hm : netM n mk rd ki kn) (hF : 97 ≤ F) {L : List Nat} {s : Nat → Int32} (hL : okL n L) (hs : rS s L) (h24 : L.length ≤ 24) (th b : Int32) (fo co : Nat → Int32) :
    ∃ z fo' co', fX12_out F 12 ki 12 kn 25 s 96 96 th b fo co = some (ov (psL mk rd [] L), 0, z, fo', co') := by
  obtain ⟨fo', co', e1, h2⟩ := lineM_eq (F := F) hn hm hF hL hs h24 fo co
  have hl := psL_len (mk := mk) (rd := rd) (L := L) (Q := [])
  simp only [List.length_nil] at hl
  unfold fX12_out fX12_comesOut bX12_comesOut_L21 ov
  rw [e1]
  simp only [Option.bind_some]
  have e0 := len0 (k := (psL mk rd [] L).length) (by omega)
  by_cases h : (psL mk rd [] L).length = 0
  · rw [if_pos (by rw [e0]; exact h), if_pos h, if_pos (Or.inr trivial)]
    simp only [Option.bind_some]
    rw [if_pos (Or.inr trivial)]
    exact ⟨_, _, _, rfl⟩
  · rw [if_neg (by rw [e0]; exact h), if_neg h, if_pos (Or.inl trivial)]
    simp only [Option.bind_some]
    rw [if_pos (Or.inl trivial)]
    exact ⟨_, _, _, rfl⟩
/-- the answer of a place in a row -/
def atL (O : List Nat) (a : Int32) : Int32 := if a < 0 then -1 else if ii O.length ≤ a then -1 else ii (O.getD a.toNatClampNeg 0)
theorem i_nat {a : Int32} (h : ¬ a < 0) : a = ii a.toNatClampNeg ∧ a.toNatClampNeg < 2147483648 := by
  have h1 : ¬ a.toInt < 0 := by
    intro h2
    exact h (Int32.lt_iff_toInt_lt.mpr h2)
  have h2 := Int32.toInt_lt a
  have h3 : (a.toNatClampNeg : Int) = a.toInt := by
    show ((a.toInt.toNat : Nat) : Int) = a.toInt
    omega
  refine ⟨?_, by omega⟩
  rw [ii_iz, h3]
  exact (Int32.ofInt_toInt a).symm
/-- all that a pile of the line is -/
theorem pile_facts {n : Nat} {mk rd : Nat → Nat} (hn : okN n mk rd) (hr : okR rd) {L : List Nat} (hL : okL n L) (h : L.length ≤ 90) : okP n 100 (psL mk rd [] L) ∧ okC rd (psL mk rd [] L) ∧ (psL mk rd [] L).length ≤ L.length ∧ (flat (bu rd (psL mk rd [] L))).length ≤ L.length := by
  have hl := psL_len (mk := mk) (rd := rd) (L := L) (Q := [])
  simp only [List.length_nil] at hl
  have ht := tt_psL (mk := mk) hr (L := L) (Q := []) okC_nil
  refine ⟨okP_mono (by omega) (psL_ok hn hL (B := 4) (by omega) okP_nil), psL_okC hr okC_nil, by omega, ?_⟩
  rw [flat_len]
  simp only [tt] at ht
  omega
theorem form_X {F n : Nat} {mk rd : Nat → Nat} {st ro : Nat → Int32} (hn : okN n mk rd) (hr : okR rd) (hx : netX n mk rd st ro) (hF : 1000 ≤ F) {L : List Nat} {a : Nat → Int32} (hL : okL n L) (ha : rL a L) (h24 : L.length ≤ 24) {O : List Nat} (hO : FM mk (psL mk rd [] L).length (bu rd (psL mk rd [] L)) O) (k : Int32) (sz : Int32) (fo co w : Nat → Int32) (ks : Int32) (kt : Nat → Int32) :
    ∃ z fo' co' w' kt', fX11_form F (ii n) 6 st 6 ro (ii L.length) 24 a 96 96 96 24 k sz fo co w ks kt = some (atL O k, z, fo', co', w', ii O.length, kt') ∧ rL kt' O := by
  obtain ⟨fo', co', e1, h2⟩ := push0_eq (F := F) (N := 96) hn hx (by omega) (by omega) hL ha h24 (by omega) (by omega) (by omega) (by omega) fo co
  obtain ⟨p1, p2, p3, p4⟩ := pile_facts hn hr hL (by omega)
  have hOl : O.length ≤ 24 := by rw [FM_len hO]; omega
  obtain ⟨w', kt', e2, h3⟩ := writeForm_eq (F := F) (S := 6) (R := 6) (N := 96) (N2 := 96) (W := 96) (M := 24) hn hx (by have := hn.1; omega) (by have := hn.1; omega) p1 p2 h2 (by omega) (by omega) (by omega) (by omega) (by omega) (by omega) (by omega) hO hOl w kt ks
  unfold fX11_form fX5_layForm fX5_clear
  simp only [Option.bind_some]
  rw [e1]
  simp only [Option.bind_some]
  rw [e2]
  simp only [Option.bind_some]
  have e3 : fX7_tieAt F (ii O.length) 24 kt' k = some (atL O k) := by
    unfold atL
    by_cases hk : k < 0
    · unfold fX7_tieAt
      rw [if_pos hk, if_pos hk]
      rfl
    · obtain ⟨e4, e5⟩ := i_nat hk
      rw [if_neg hk]
      by_cases hk2 : ii O.length ≤ k
      · rw [if_pos hk2]
        unfold fX7_tieAt
        rw [if_neg hk, if_pos hk2]
        rfl
      · rw [if_neg hk2]
        rw [e4, ii_le (by omega) (by omega)] at hk2
        have h5 := row_at (F := F) (N := 24) hOl (by omega) kt' (p := k.toNatClampNeg) (by omega)
        rw [← e4] at h5
        rw [h5, if_pos (by omega), h3 _ (by omega)]
  rw [e3]
  exact ⟨_, _, _, _, _, rfl, h3⟩
theorem form_M {F n : Nat} {mk rd : Nat → Nat} {ki kn : Nat → Int32} (hn : okN n mk rd) (hr : okR rd) (hm : netM n mk rd ki kn) (hF : 1000 ≤ F) {L : List Nat} {s : Nat → Int32} (hL : okL n L) (hs : rS s L) (h24 : L.length ≤ 24) {O : List Nat} (hO : FM mk (psL mk rd [] L).length (bu rd (psL mk rd [] L)) O) (b tm fmn : Int32) (fo co ti fm : Nat → Int32) :
    ∃ fo' co' ti' fm', fX12_formOfLine F 12 ki 12 kn 25 s 96 96 96 96 b tm fmn fo co ti fm = some (ii (psL mk rd [] L).length, ii 0, ii O.length, fo', co', ti', fm') ∧ rL fm' O ∧ rP fo' co' (psL mk rd [] L) := by
  obtain ⟨fo', co', e1, h2⟩ := lineM_eq (F := F) hn hm (by omega) hL hs h24 fo co
  obtain ⟨p1, p2, p3, p4⟩ := pile_facts hn hr hL (by omega)
  obtain ⟨ti', fm', e2, h3⟩ := laysForm_eq (F := F) (N := 96) (M := 96) hn hm (by omega) (by omega) (by omega) (by omega) p1 p2 (by omega) h2 hO (by omega) (by omega) tm fmn ti fm
  unfold fX12_formOfLine
  rw [e1]
  simp only [Option.bind_some]
  rw [e2]
  exact ⟨_, _, _, _, rfl, h3, h2⟩
theorem form_M2 {F n : Nat} {mk rd : Nat → Nat} {ki kn : Nat → Int32} (hn : okN n mk rd) (hr : okR rd) (hm : netM n mk rd ki kn) (hF : 1000 ≤ F) {L : List Nat} {s : Nat → Int32} (hL : okL n L) (hs : rS s L) (h24 : L.length ≤ 24) {O : List Nat} (hO : FM mk (psL mk rd [] L).length (bu rd (psL mk rd [] L)) O) (k th b tm fmn : Int32) (fo co ti fm : Nat → Int32) :
    ∃ b' tm' fmn' fo' co' ti' fm', fX12_form F 12 ki 12 kn 25 s 96 96 96 96 k th b tm fmn fo co ti fm = some (atL O k, 0, b', tm', fmn', fo', co', ti', fm') := by
  obtain ⟨fo', co', ti', fm', e1, h3, -⟩ := form_M hn hr hm hF hL hs h24 hO b tm fmn fo co ti fm
  obtain ⟨p1, p2, p3, p4⟩ := pile_facts (mk := mk) hn hr hL (by omega)
  have hOl : O.length ≤ 24 := by rw [FM_len hO]; omega
  unfold fX12_form bX12_form_L30 bX12_form_L31
  rw [e1]
  simp only [Option.bind_some]
  unfold atL
  by_cases hk : k < 0
  · rw [if_pos hk, if_pos hk]
    exact ⟨_, _, _, _, _, _, _, rfl⟩
  · rw [if_neg hk, if_neg hk]
    by_cases hk2 : ii O.length ≤ k
    · rw [if_pos hk2, if_pos hk2]
      exact ⟨_, _, _, _, _, _, _, rfl⟩
    · rw [if_neg hk2, if_neg hk2]
      obtain ⟨e4, e5⟩ := i_nat hk
      have hk3 := hk2
      rw [e4, ii_le (by omega) (by omega)] at hk3
      rw [if_neg (by
        intro h
        rcases h with h | h
        · exact hk h
        · omega), h3 _ (by omega)]
      exact ⟨_, _, _, _, _, _, _, rfl⟩
