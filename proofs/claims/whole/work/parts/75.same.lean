/-! PURE: same, pass, at, loose of both sides -/
theorem bk_len (L : List Nat) : (bk L).length = L.length := by unfold bk; simp
theorem bk_ok {n : Nat} {L : List Nat} (h : okL n L) : okL n (bk L) := by
  intro t ht
  unfold bk at ht
  obtain ⟨y, hy, rfl⟩ := List.mem_map.mp ht
  exact tn_lt (h y (List.mem_reverse.mp hy))
theorem same_X {F n : Nat} {mk rd : Nat → Nat} {st ro : Nat → Int32} (hn : okN n mk rd) (hx : netX n mk rd st ro) (hF : 1000 ≤ F) {L M : List Nat} {a c : Nat → Int32} (hL : okL n L) (ha : rL a L) (h24 : L.length ≤ 24) (hM : okL n M) (hc : rL c M) (hM24 : M.length ≤ 24) (sz : Int32) (fo co : Nat → Int32) :
    ∃ z fo' co', fX11_same F (ii n) 6 st 6 ro (ii L.length) 24 a (ii M.length) 24 c 96 96 sz fo co = some (ov (psL mk rd (psL mk rd [] L) (bk M)), z, fo', co') := by
  obtain ⟨fo1, co1, e1, h1⟩ := lay_eq (F := F) (N := 96) hn hx (by omega) (by omega) hL ha h24 (by omega) (by omega) (by omega) (by omega) sz fo co
  have l1 := psL_len (mk := mk) (rd := rd) (L := L) (Q := [])
  have p1 := psL_ok hn hL (B := 4) (Q := []) (by omega) okP_nil
  simp only [List.length_nil] at l1
  obtain ⟨fo2, co2, e2, l2, h2⟩ := pushAgainst_eq (F := F) (N := 96) hn hx (by omega) (by omega) hM hc hM24 (by omega) (by omega) (by omega) (by omega) p1 (by omega) h1
  unfold fX11_same bX11_same_L51
  rw [e1]
  simp only [Option.bind_some]
  rw [e2]
  simp only [Option.bind_some]
  have e0 := len0 (k := (psL mk rd (psL mk rd [] L) (bk M)).length) (by omega)
  by_cases h : (psL mk rd (psL mk rd [] L) (bk M)).length = 0
  · rw [if_pos (by rw [e0]; exact h), ov_1 h, if_pos (Or.inr trivial)]
    exact ⟨_, _, _, rfl⟩
  · rw [if_neg (by rw [e0]; exact h), ov_0 h, if_pos (Or.inl trivial)]
    exact ⟨_, _, _, rfl⟩
theorem same_M {F n : Nat} {mk rd : Nat → Nat} {ki kn : Nat → Int32} (hn : okN n mk rd) (hm : netM n mk rd ki kn) (hF : 1000 ≤ F) {L M : List Nat} {s os ot : Nat → Int32} (hL : okL n L) (hs : rS s L) (h24 : L.length ≤ 24) (hM : okL n M) (hos : os 0 = ii M.length) (hot : rL ot M) (hM24 : M.length ≤ 24) (th sz : Int32) (fo co : Nat → Int32) :
    ∃ z fo' co', fX12_same F 12 ki 12 kn 25 s 6 os 144 ot 96 96 th sz fo co = some (ov (psL mk rd (psL mk rd [] L) (bk M)), 0, z, fo', co') := by
  obtain ⟨fo1, co1, e1, h1⟩ := lineM_eq (F := F) hn hm (by omega) hL hs h24 fo co
  have l1 := psL_len (mk := mk) (rd := rd) (L := L) (Q := [])
  have p1 := psL_ok hn hL (B := 4) (Q := []) (by omega) okP_nil
  simp only [List.length_nil] at l1
  obtain ⟨fo2, co2, e2, l2, h2⟩ := joinsOtherBack_eq (F := F) hn hm (by omega) hM hos hot hM24 (by omega) (by omega) p1 (by omega) h1
  unfold fX12_same bX12_same_L30
  rw [e1]
  simp only [Option.bind_some]
  rw [e2]
  simp only [Option.bind_some]
  have e0 := len0 (k := (psL mk rd (psL mk rd [] L) (bk M)).length) (by omega)
  by_cases h : (psL mk rd (psL mk rd [] L) (bk M)).length = 0
  · rw [if_pos (by rw [e0]; exact h), ov_1 h, if_pos (Or.inr trivial)]
    exact ⟨_, _, _, rfl⟩
  · rw [if_neg (by rw [e0]; exact h), ov_0 h, if_pos (Or.inl trivial)]
    exact ⟨_, _, _, rfl⟩
theorem pass_X {F n : Nat} {mk rd : Nat → Nat} {st ro : Nat → Int32} (hn : okN n mk rd) (hx : netX n mk rd st ro) (hF : 1000 ≤ F) {L M : List Nat} {a c : Nat → Int32} (hL : okL n L) (ha : rL a L) (h24 : L.length ≤ 24) (hM : okL n M) (hc : rL c M) (hM24 : M.length ≤ 24) (sz : Int32) (fo co : Nat → Int32) :
    ∃ z fo' co', fX11_pass F (ii n) 6 st 6 ro (ii L.length) 24 a (ii M.length) 24 c 96 96 sz fo co = some (ov (psL mk rd (psL mk rd (psL mk rd (psL mk rd [] L) M) (bk L)) (bk M)), z, fo', co') := by
  obtain ⟨fo1, co1, e1, h1⟩ := lay_eq (F := F) (N := 96) hn hx (by omega) (by omega) hL ha h24 (by omega) (by omega) (by omega) (by omega) sz fo co
  have l1 := psL_len (mk := mk) (rd := rd) (L := L) (Q := [])
  have p1 := psL_ok hn hL (B := 4) (Q := []) (by omega) okP_nil
  simp only [List.length_nil] at l1
  obtain ⟨fo2, co2, e2, -, h2⟩ := pushRow_eq (F := F) (N := 96) hn hx (by omega) (by omega) hM hc hM24 (by omega) (by omega) (by omega) (by omega) p1 (by omega) h1
  have l2 := psL_len (mk := mk) (rd := rd) (L := M) (Q := psL mk rd [] L)
  have p2 := psL_ok hn hM (by omega) p1
  obtain ⟨fo3, co3, e3, -, h3⟩ := pushAgainst_eq (F := F) (N := 96) hn hx (by omega) (by omega) hL ha h24 (by omega) (by omega) (by omega) (by omega) p2 (by omega) h2
  have l3 := psL_len (mk := mk) (rd := rd) (L := bk L) (Q := psL mk rd (psL mk rd [] L) M)
  have p3 := psL_ok hn (bk_ok hL) (by omega) p2
  rw [bk_len] at l3 p3
  obtain ⟨fo4, co4, e4, l4, h4⟩ := pushAgainst_eq (F := F) (N := 96) hn hx (by omega) (by omega) hM hc hM24 (by omega) (by omega) (by omega) (by omega) p3 (by omega) h3
  unfold fX11_pass bX11_pass_L87
  rw [e1]
  simp only [Option.bind_some]
  rw [e2]
  simp only [Option.bind_some]
  rw [e3]
  simp only [Option.bind_some]
  rw [e4]
  simp only [Option.bind_some]
  have e0 := len0 (k := (psL mk rd (psL mk rd (psL mk rd (psL mk rd [] L) M) (bk L)) (bk M)).length) (by omega)
  by_cases h : (psL mk rd (psL mk rd (psL mk rd (psL mk rd [] L) M) (bk L)) (bk M)).length = 0
  · rw [if_pos (by rw [e0]; exact h), ov_1 h, if_pos (Or.inr trivial)]
    exact ⟨_, _, _, rfl⟩
  · rw [if_neg (by rw [e0]; exact h), ov_0 h, if_pos (Or.inl trivial)]
    exact ⟨_, _, _, rfl⟩
theorem pass_M {F n : Nat} {mk rd : Nat → Nat} {ki kn : Nat → Int32} (hn : okN n mk rd) (hm : netM n mk rd ki kn) (hF : 1000 ≤ F) {L M : List Nat} {s os ot : Nat → Int32} (hL : okL n L) (hs : rS s L) (h24 : L.length ≤ 24) (hM : okL n M) (hos : os 0 = ii M.length) (hot : rL ot M) (hM24 : M.length ≤ 24) (th sz : Int32) (fo co : Nat → Int32) :
    ∃ z fo' co', fX12_pass F 12 ki 12 kn 25 s 6 os 144 ot 96 96 th sz fo co = some (ov (psL mk rd (psL mk rd (psL mk rd (psL mk rd [] L) M) (bk L)) (bk M)), 0, z, fo', co') := by
  obtain ⟨fo1, co1, e1, h1⟩ := lineM_eq (F := F) hn hm (by omega) hL hs h24 fo co
  have l1 := psL_len (mk := mk) (rd := rd) (L := L) (Q := [])
  have p1 := psL_ok hn hL (B := 4) (Q := []) (by omega) okP_nil
  simp only [List.length_nil] at l1
  obtain ⟨fo2, co2, e2, -, h2⟩ := joinsOther_eq (F := F) hn hm (by omega) hM hos hot hM24 (by omega) (by omega) p1 (by omega) h1
  have l2 := psL_len (mk := mk) (rd := rd) (L := M) (Q := psL mk rd [] L)
  have p2 := psL_ok hn hM (by omega) p1
  obtain ⟨fo3, co3, e3, -, h3⟩ := joinsLineBack_eq (F := F) hn hm (by omega) hL hs h24 (by omega) (by omega) p2 (by omega) h2
  have l3 := psL_len (mk := mk) (rd := rd) (L := bk L) (Q := psL mk rd (psL mk rd [] L) M)
  have p3 := psL_ok hn (bk_ok hL) (by omega) p2
  rw [bk_len] at l3 p3
  obtain ⟨fo4, co4, e4, l4, h4⟩ := joinsOtherBack_eq (F := F) hn hm (by omega) hM hos hot hM24 (by omega) (by omega) p3 (by omega) h3
  unfold fX12_pass bX12_pass_L38
  rw [e1]
  simp only [Option.bind_some]
  rw [e2]
  simp only [Option.bind_some]
  rw [e3]
  simp only [Option.bind_some]
  rw [e4]
  simp only [Option.bind_some]
  have e0 := len0 (k := (psL mk rd (psL mk rd (psL mk rd (psL mk rd [] L) M) (bk L)) (bk M)).length) (by omega)
  by_cases h : (psL mk rd (psL mk rd (psL mk rd (psL mk rd [] L) M) (bk L)) (bk M)).length = 0
  · rw [if_pos (by rw [e0]; exact h), ov_1 h, if_pos (Or.inr trivial)]
    exact ⟨_, _, _, rfl⟩
  · rw [if_neg (by rw [e0]; exact h), ov_0 h, if_pos (Or.inl trivial)]
    exact ⟨_, _, _, rfl⟩
theorem at_X {F : Nat} {L : List Nat} {a : Nat → Int32} (ha : rL a L) (h24 : L.length ≤ 24) (k : Int32) : fX11_at F (ii L.length) 24 a k = some (atL L k) := by
  unfold fX11_at fX7_tieAt bX7_tieAt_L21 bX7_tieAt_L22 atL
  by_cases hk : k < 0
  · rw [if_pos hk, if_pos hk]
    rfl
  · rw [if_neg hk, if_neg hk]
    by_cases hk2 : ii L.length ≤ k
    · rw [if_pos hk2, if_pos hk2]
      rfl
    · rw [if_neg hk2, if_neg hk2]
      obtain ⟨e4, e5⟩ := i_nat hk
      have hk3 := hk2
      rw [e4, ii_le (by omega) (by omega)] at hk3
      rw [if_neg (by
        intro h
        rcases h with h | h
        · exact hk h
        · omega), ha _ (by omega)]
      rfl
theorem at_M {F : Nat} {L : List Nat} {s : Nat → Int32} (hs : rS s L) (h24 : L.length ≤ 24) (k th : Int32) : fX12_at F 25 s k th = some (atL L k, 0) := by
  unfold fX12_at bX12_at_L30 bX12_at_L31 atL
  by_cases hk : k < 0
  · rw [if_pos hk, if_pos hk]
  · have e0 : s ((0 : Int32).toNatClampNeg) = ii L.length := hs.1
    rw [if_neg hk, if_neg hk, if_neg (by decide), e0]
    by_cases hk2 : ii L.length ≤ k
    · rw [if_pos hk2, if_pos hk2]
    · rw [if_neg hk2, if_neg hk2]
      obtain ⟨e4, e5⟩ := i_nat hk
      rw [e4, ii_le (by omega) (by omega)] at hk2
      have e6 : k + (1 : Int32) = ii (k.toNatClampNeg + 1) := by
        rw [← ii_add, ← k_1, ← e4]
      rw [e6]
      simp (disch := omega) only [ii_nneg, ii_nat, false_or]
      rw [if_neg (by omega), hs.2 _ (by omega)]
