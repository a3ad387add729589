/-! PURE: yet of both sides -/
def yA (O : List Nat) (k : Int32) : Int32 := if k = -1 then ii O.length else if k < 0 then -2 else if k < ii O.length then ii (O.getD k.toNatClampNeg 0) else -2
theorem yet_X {F n : Nat} {mk rd : Nat → Nat} {st ro : Nat → Int32} (hn : okN n mk rd) (hr : okR rd) (hx : netX n mk rd st ro) (hF : 1000 ≤ F) {L : List Nat} {a : Nat → Int32} (hL : okL n L) (ha : rL a L) (h24 : L.length ≤ 24) {O : List Nat} (hO : FM mk (psL mk rd [] (bk L)).length (bu rd (psL mk rd [] (bk L))) O) (k sz : Int32) (fo co w : Nat → Int32) (ks : Int32) (kt : Nat → Int32) :
    ∃ z fo' co' w' z2 kt', fX11_yet F (ii n) 6 st 6 ro (ii L.length) 24 a 96 96 96 24 k sz fo co w ks kt = some (yA O k, z, fo', co', w', z2, kt') := by
  obtain ⟨p1, p2, p3, p4⟩ := pile_facts (mk := mk) hn hr (bk_ok hL) (by rw [bk_len]; omega)
  rw [bk_len] at p3 p4
  have hOl : O.length ≤ 24 := by rw [FM_len hO]; omega
  obtain ⟨fo1, co1, e1, l1, h1⟩ := pushAgainst_eq (F := F) (N := 96) (Q := []) (B := 4) (fo := fo) (co := co) hn hx (by omega) (by omega) hL ha h24 (by omega) (by omega) (by omega) (by omega) okP_nil (by simp; omega) trivial
  have e1' : fX5_pushAgainst F 96 96 (ii n) 6 st 6 ro (ii L.length) 24 a (0 : Int32) fo co = some (ii (psL mk rd [] (bk L)).length, fo1, co1) := e1
  obtain ⟨w', kt', e2, h3⟩ := writeForm_eq (F := F) (S := 6) (R := 6) (N := 96) (N2 := 96) (W := 96) (M := 24) hn hx (by have := hn.1; omega) (by have := hn.1; omega) p1 p2 h1 (by omega) (by omega) (by omega) (by omega) (by omega) (by omega) (by omega) hO hOl w kt ks
  unfold fX11_yet fX5_clear bX11_yet_L68 bX11_yet_L81
  simp only [Option.bind_some]
  rw [e1']
  simp only [Option.bind_some]
  rw [e2]
  simp only [Option.bind_some]
  unfold yA
  by_cases h5 : k = -1
  · rw [if_pos h5, if_pos h5]
    exact ⟨_, _, _, _, _, _, rfl⟩
  · rw [if_neg h5, if_neg h5]
    by_cases hk : k < 0
    · rw [if_pos hk, if_pos hk]
      exact ⟨_, _, _, _, _, _, rfl⟩
    · rw [if_neg hk, if_neg hk]
      by_cases hk2 : k < ii O.length
      · rw [if_pos hk2, if_pos hk2]
        have e3 := at_X (F := F) h3 hOl k
        have e4 : fX7_tieAt F (ii O.length) 24 kt' k = some (ii (O.getD k.toNatClampNeg 0)) := by
          obtain ⟨e6, e7⟩ := i_nat hk
          unfold fX7_tieAt bX7_tieAt_L22
          rw [if_neg hk, if_neg (fun h => not_le_32.mpr hk2 h)]
          rw [e6, ii_lt (by omega) (by omega)] at hk2
          rw [if_neg (by
            intro h
            rcases h with h | h
            · exact hk h
            · omega), h3 _ hk2]
        rw [e4]
        exact ⟨_, _, _, _, _, _, rfl⟩
      · rw [if_neg hk2, if_neg hk2]
        exact ⟨_, _, _, _, _, _, rfl⟩
theorem yet_M {F n : Nat} {mk rd : Nat → Nat} {ki kn : Nat → Int32} (hn : okN n mk rd) (hr : okR rd) (hm : netM n mk rd ki kn) (hF : 1000 ≤ F) {L : List Nat} {s : Nat → Int32} (hL : okL n L) (hs : rS s L) (h24 : L.length ≤ 24) {O : List Nat} (hO : FM mk (psL mk rd [] (bk L)).length (bu rd (psL mk rd [] (bk L))) O) (k th b tm fmn : Int32) (fo co ti fm : Nat → Int32) :
    ∃ b' tm' fmn' fo' co' ti' fm', fX12_yet F 12 ki 12 kn 25 s 96 96 96 96 k th b tm fmn fo co ti fm = some (yA O k, 0, b', tm', fmn', fo', co', ti', fm') := by
  obtain ⟨p1, p2, p3, p4⟩ := pile_facts (mk := mk) hn hr (bk_ok hL) (by rw [bk_len]; omega)
  rw [bk_len] at p3 p4
  have hOl : O.length ≤ 24 := by rw [FM_len hO]; omega
  obtain ⟨fo1, co1, e1, l1, h1⟩ := joinsLineBack_eq (F := F) (Q := []) (B := 4) (fo := fo) (co := co) hn hm (by omega) hL hs h24 (by omega) (by omega) okP_nil (by simp; omega) trivial
  have e1' : fX12_joinsLineBack F 12 ki 12 kn 25 s 96 96 (0 : Int32) fo co = some (ii (psL mk rd [] (bk L)).length, fo1, co1) := e1
  obtain ⟨ti', fm', e2, h3⟩ := laysForm_eq (F := F) (N := 96) (M := 96) hn hm (by omega) (by omega) (by omega) (by omega) p1 p2 (by omega) h1 hO (by omega) (by omega) tm fmn ti fm
  unfold fX12_yet bX12_yet_L53 fX12_within bX12_within_L14 bX12_within_L15
  rw [e1']
  simp only [Option.bind_some]
  rw [e2]
  simp only [Option.bind_some]
  unfold yA
  have eO : ii O.length - (1 : Int32) = iz ((O.length : Int) - 1) := by
    rw [ii_iz, k_1, ii_iz, iz_sub]
    rfl
  rw [eO]
  by_cases h5 : k = -1
  · have e3 : ¬ iz ((O.length : Int) - 1) < (-1 : Int32) := by
      rw [kz_m1, iz_lt (by omega) (by omega) (by omega) (by omega)]
      omega
    subst h5
    rw [if_neg (by decide), if_neg e3, if_pos (Or.inr trivial)]
    simp only [Option.bind_some]
    rw [if_neg (by decide), if_pos trivial, if_pos trivial]
    exact ⟨_, _, _, _, _, _, _, rfl⟩
  · rw [if_neg h5, if_neg h5]
    by_cases hk : k < 0
    · have e3 : k < (-1 : Int32) := by
        rw [Int32.lt_iff_toInt_lt] at hk ⊢
        have e4 : (-1 : Int32).toInt = -1 := by decide
        have e5 : (0 : Int32).toInt = 0 := by decide
        rw [e5] at hk
        rw [e4]
        have e6 : k.toInt ≠ -1 := by
          intro h
          apply h5
          apply Int32.toInt_inj.mp
          rw [h, e4]
        omega
      rw [if_pos e3, if_pos (Or.inl trivial)]
      simp only [Option.bind_some]
      rw [if_pos trivial, if_pos hk]
      exact ⟨_, _, _, _, _, _, _, rfl⟩
    · have e3 : ¬ k < (-1 : Int32) := by
        rw [Int32.lt_iff_toInt_lt] at hk ⊢
        have e4 : (-1 : Int32).toInt = -1 := by decide
        have e5 : (0 : Int32).toInt = 0 := by decide
        rw [e5] at hk
        rw [e4]
        omega
      rw [if_neg e3, if_neg hk]
      obtain ⟨e6, e7⟩ := i_nat hk
      have e8 : (iz ((O.length : Int) - 1) < k) = (O.length ≤ k.toNatClampNeg) := by
        rw [e6, ii_iz, iz_lt (by omega) (by omega) (by omega) (by omega), ← ii_iz, ii_nat e7]
        apply propext
        omega
      by_cases hk2 : k < ii O.length
      · have hk3 := hk2
        rw [e6, ii_lt (by omega) (by omega)] at hk3
        rw [if_neg (by rw [e8]; omega), if_pos (Or.inr trivial)]
        simp only [Option.bind_some]
        rw [if_neg (by decide), if_neg (by
          intro h
          rcases h with h | h
          · exact hk h
          · omega), if_pos hk2, h3 _ hk3]
        exact ⟨_, _, _, _, _, _, _, rfl⟩
      · have hk3 := hk2
        rw [e6, ii_lt (by omega) (by omega)] at hk3
        rw [if_pos (by rw [e8]; omega), if_pos (Or.inl trivial)]
        simp only [Option.bind_some]
        rw [if_pos trivial, if_neg hk2]
        exact ⟨_, _, _, _, _, _, _, rfl⟩
/-- folk -/
def foA (n : Nat) (kx nx : Nat → Int32) (a b : Int32) : Int32 := if a < 0 then -1 else if ii n ≤ a then -1 else if b = 0 then kx a.toNatClampNeg else if b = 1 then nx a.toNatClampNeg else -1
theorem folk_X {F n : Nat} (hn : n ≤ 6) (kx nx : Nat → Int32) (a b : Int32) : fX11_folk F (ii n) 6 kx 6 nx a b = some (foA n kx nx a b) := by
  unfold fX11_folk fX2_hasFolk bX2_hasFolk_L16 bX2_hasFolk_L17 bX11_folk_L45 foA
  by_cases h1 : a < 0
  · rw [if_pos h1, if_pos h1, if_pos (Or.inl rfl)]
    rfl
  · obtain ⟨e6, e7⟩ := i_nat h1
    by_cases h2 : ii n ≤ a
    · rw [if_neg h1, if_pos h2, if_pos (Or.inl rfl), if_neg h1, if_pos h2]
      rfl
    · have h3 := h2
      rw [e6, ii_le (by omega) (by omega)] at h3
      have h4 : ¬ (a < 0 ∨ 6 ≤ a.toNatClampNeg) := by
        intro h
        rcases h with h | h
        · exact h1 h
        · omega
      rw [if_neg h1, if_neg h2, if_pos (Or.inr rfl)]
      simp only [Option.bind_some]
      rw [if_neg (by decide), if_neg h4, if_neg h4]
      by_cases h5 : b = 0
      · simp only [h5, if_true, if_neg h1, if_neg h2]
      · by_cases h6 : b = 1
        · subst h6
          rw [if_neg (by decide), if_pos rfl, if_neg h1, if_neg h2, if_neg (by decide), if_pos rfl]
        · simp only [h5, h6, if_false, if_neg h1, if_neg h2]
theorem folk_M {F n : Nat} (hn : n ≤ 6) {nt : Nat → Int32} (hnt : nt 0 = ii n) (kx nx : Nat → Int32) (a b th : Int32) : fX12_folk F 8 nt 12 kx 12 nx a b th = some (foA n kx nx a b, 0) := by
  unfold fX12_folk fX12_isFolk bX12_isFolk_L18 bX12_isFolk_L19 bX12_folk_L44 bX12_folk_L45 fX12_within bX12_within_L14 bX12_within_L15 foA
  have e0 : nt ((0 : Int32).toNatClampNeg) = ii n := hnt
  by_cases h1 : a < 0
  · rw [if_pos h1, if_pos h1, if_pos (Or.inl rfl)]
    rfl
  · obtain ⟨e6, e7⟩ := i_nat h1
    rw [if_neg h1, if_neg (by decide), e0]
    by_cases h2 : ii n ≤ a
    · rw [if_pos h2, if_pos (Or.inl rfl), if_neg h1, if_pos h2]
      rfl
    · have h3 := h2
      rw [e6, ii_le (by omega) (by omega)] at h3
      have h4 : ¬ (a < 0 ∨ 12 ≤ a.toNatClampNeg) := by
        intro h
        rcases h with h | h
        · exact h1 h
        · omega
      rw [if_neg h2, if_pos (Or.inr rfl)]
      simp only [Option.bind_some]
      rw [if_neg (by decide)]
      rw [if_neg h1, if_neg h2]
      by_cases h5 : b = 0
      · subst h5
        rw [if_neg (by decide), if_neg (by decide)]
        simp only [Option.bind_some]
        rw [if_neg (by decide), if_pos trivial, if_neg h4, if_pos trivial]
      · by_cases h6 : b = 1
        · subst h6
          rw [if_neg (by decide), if_neg (by decide)]
          simp only [Option.bind_some]
          rw [if_neg (by decide), if_neg (by decide), if_neg h4, if_neg (by decide), if_pos trivial]
        · have h7 : b < 0 ∨ (1 : Int32) < b := by
            rw [Int32.lt_iff_toInt_lt, Int32.lt_iff_toInt_lt]
            have e4 : (1 : Int32).toInt = 1 := by decide
            have e5 : (0 : Int32).toInt = 0 := by decide
            rw [e4, e5]
            have e8 : b.toInt ≠ 0 := fun h => h5 (Int32.toInt_inj.mp (h.trans e5.symm))
            have e9 : b.toInt ≠ 1 := fun h => h6 (Int32.toInt_inj.mp (h.trans e4.symm))
            omega
          by_cases h8 : b < 0
          · rw [if_pos h8, if_pos (Or.inl trivial)]
            simp only [Option.bind_some]
            rw [if_pos trivial, if_neg h5, if_neg h6]
          · rw [if_neg h8, if_pos (h7.resolve_left h8), if_pos (Or.inl trivial)]
            simp only [Option.bind_some]
            rw [if_pos trivial, if_neg h5, if_neg h6]
