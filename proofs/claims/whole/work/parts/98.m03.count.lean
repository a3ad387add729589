/-! PURE: count of both sides -/
def coA (c0 c1 c2 c3 c4 c5 c6 c7 c8 c9 c10 c11 : Int32) (a : Int32) : Int32 := if a = 0 then c0 else if a = 1 then c1 else if a = 2 then c2 else if a = 3 then c3 else if a = 4 then c4 else if a = 5 then c5 else if a = 6 then c6 else if a = 7 then c7 else if a = 8 then c8 else if a = 9 then c9 else if a = 10 then c10 else if a = 11 then c11 else -1
theorem count_X {F n ln rp : Nat} {mk rd : Nat → Nat} {st ro : Nat → Int32} (hn : okN n mk rd) (hr : okR rd) (hx : netX n mk rd st ro) (hF : 1000 ≤ F) (hl : ln ≤ 24) {τ : Nat → Nat → Nat} (hτ : ∀ p t, τ p t ≤ 99) {tk : Nat → Int32} (htk : tkX n ln τ tk) {L : List Nat} {x : Nat → Int32} (hL : okL n L) (ha : rL x L) (hln : L.length ≤ ln) (tp pr ah ys os pz : Int32) (a : Int32) (sz : Int32) (fo co w : Nat → Int32) (ks : Int32) (kt : Nat → Int32) :
    ∃ z fo' co' w' z2 kt', fX11_count F tp (ii n) pr (ii ln) (ii rp) 6 st 6 ro 288 tk ah (ii L.length) 24 x ys os pz 96 96 96 24 a sz fo co w ks kt = some (coA (ii n) pr (ii ln) (ii rp) (ii (usd τ 0 L)) (ii L.length) (ii (frm mk rd L).length) ys os ah pz tp a, z, fo', co', w', z2, kt') := by
  unfold fX11_count coA
  by_cases h0 : a = 0
  · rw [if_pos h0, if_pos h0]; exact ⟨_, _, _, _, _, _, rfl⟩
  rw [if_neg h0, if_neg h0]
  by_cases h1 : a = 1
  · rw [if_pos h1, if_pos h1]; exact ⟨_, _, _, _, _, _, rfl⟩
  rw [if_neg h1, if_neg h1]
  by_cases h2 : a = 2
  · rw [if_pos h2, if_pos h2]; exact ⟨_, _, _, _, _, _, rfl⟩
  rw [if_neg h2, if_neg h2]
  by_cases h3 : a = 3
  · rw [if_pos h3, if_pos h3]; exact ⟨_, _, _, _, _, _, rfl⟩
  rw [if_neg h3, if_neg h3]
  by_cases h4 : a = 4
  · rw [if_pos h4, if_pos h4, usedBy_X hF hn.1 hl hτ htk hL ha hln]
    exact ⟨_, _, _, _, _, _, rfl⟩
  rw [if_neg h4, if_neg h4]
  by_cases h5 : a = 5
  · rw [if_pos h5, if_pos h5]; exact ⟨_, _, _, _, _, _, rfl⟩
  rw [if_neg h5, if_neg h5]
  by_cases h6 : a = 6
  · obtain ⟨z, fo', co', w', kt', e1, h3⟩ := layForm_eq (F := F) hn hr hx hF hL ha (by omega) (frm_FM mk rd L) sz fo co w ks kt
    rw [if_pos h6, if_pos h6, e1]
    exact ⟨_, _, _, _, _, _, rfl⟩
  rw [if_neg h6, if_neg h6]
  by_cases h7 : a = 7
  · rw [if_pos h7, if_pos h7]; exact ⟨_, _, _, _, _, _, rfl⟩
  rw [if_neg h7, if_neg h7]
  by_cases h8 : a = 8
  · rw [if_pos h8, if_pos h8]; exact ⟨_, _, _, _, _, _, rfl⟩
  rw [if_neg h8, if_neg h8]
  by_cases h9 : a = 9
  · rw [if_pos h9, if_pos h9]; exact ⟨_, _, _, _, _, _, rfl⟩
  rw [if_neg h9, if_neg h9]
  by_cases h10 : a = 10
  · rw [if_pos h10, if_pos h10]; exact ⟨_, _, _, _, _, _, rfl⟩
  rw [if_neg h10, if_neg h10]
  by_cases h11 : a = 11
  · rw [if_pos h11, if_pos h11]; exact ⟨_, _, _, _, _, _, rfl⟩
  rw [if_neg h11, if_neg h11]
  exact ⟨_, _, _, _, _, _, rfl⟩
theorem count_M {F n ln rp : Nat} {mk rd kd : Nat → Nat} {ki kn nt : Nat → Int32} (hF : 2000 ≤ F) (hn : okN n mk rd) (hr : okR rd) (hm : netM n mk rd ki kn) (hk : kdM n kd ki) (hnt : nt 0 = ii n) (hln : nt 2 = ii ln) (hrp : nt 3 = ii rp) {C : List Nat} {lf lt cs : Nat → Int32} (hl : lwM C lf lt cs) {L : List Nat} {s : Nat → Int32} (hL : okL n L) (hs : rS s L) (h24 : L.length ≤ 24) (tp dn : Int32) (li os ah : Nat → Int32) (a th b tm fmn : Int32) (a1 a2 a3 a4 a5 a6 a7 a8 a9 vo fo co ti fm : Nat → Int32) :
    ∃ b' tm' fmn' r1 r2 r3 r4 r5 r6 r7 r8 r9 r10 fo' co' ti' fm', fX12_count F tp dn 8 nt 12 ki 12 kn 2 lf 2 lt 2000 cs 7 7 7 7 7 7 7 7 7 20 25 s 6 li 6 os 5 ah 96 96 96 96 a th b tm fmn a1 a2 a3 a4 a5 a6 a7 a8 a9 vo fo co ti fm = some (coA (ii n) (nt 1) (ii ln) (ii rp) (ii (usd (tau C kd mk) 0 L)) (ii L.length) (ii (frm mk rd L).length) (li 0) (os 0) (ah 0) dn tp a, 0, b', tm', fmn', r1, r2, r3, r4, r5, r6, r7, r8, r9, r10, fo', co', ti', fm') := by
  by_cases hw : a < 0 ∨ (11 : Int32) < a
  · unfold fX12_count
    rw [within_eq, if_pos hw, Option.bind_some, if_pos rfl]
    have N : ∀ j : Int32, ¬ (j < 0 ∨ (11 : Int32) < j) → ¬ a = j := fun j hj h => hj (h ▸ hw)
    have e : coA (ii n) (nt 1) (ii ln) (ii rp) (ii (usd (tau C kd mk) 0 L)) (ii L.length) (ii (frm mk rd L).length) (li 0) (os 0) (ah 0) dn tp a = -1 := by
      unfold coA
      rw [if_neg (N 0 (by decide)), if_neg (N 1 (by decide)), if_neg (N 2 (by decide)), if_neg (N 3 (by decide)), if_neg (N 4 (by decide)), if_neg (N 5 (by decide)), if_neg (N 6 (by decide)), if_neg (N 7 (by decide)), if_neg (N 8 (by decide)), if_neg (N 9 (by decide)), if_neg (N 10 (by decide)), if_neg (N 11 (by decide))]
    rw [e]
    exact ⟨_, _, _, _, _, _, _, _, _, _, _, _, _, _, _, _, _, rfl⟩
  · have h1 : ¬ a < 0 := fun h => hw (Or.inl h)
    obtain ⟨e6, e7⟩ := i_nat h1
    have h2 : a.toNatClampNeg ≤ 11 := by
      have h3 : ¬ (11 : Int32) < a := fun h => hw (Or.inr h)
      rw [e6, k_11, ii_lt (by omega) (by omega)] at h3
      omega
    generalize a.toNatClampNeg = k at e6 e7 h2
    subst e6
    unfold fX12_count bX12_count_L65 bX12_count_L93 bX12_count_L126
    rw [within_eq, if_neg hw, Option.bind_some, if_neg (by decide)]
    have e0 : s ((0 : Int32).toNatClampNeg) = ii L.length := hs.1
    have hcase : k = 0 ∨ k = 1 ∨ k = 2 ∨ k = 3 ∨ k = 4 ∨ k = 5 ∨ k = 6 ∨ k = 7 ∨ k = 8 ∨ k = 9 ∨ k = 10 ∨ k = 11 := by omega
    rcases hcase with rfl | rfl | rfl | rfl | rfl | rfl | rfl | rfl | rfl | rfl | rfl | rfl
    · rw [if_neg (by decide), if_neg (by decide)]
      have e : nt (ii 0).toNatClampNeg = ii n := hnt
      rw [e]
      exact ⟨_, _, _, _, _, _, _, _, _, _, _, _, _, _, _, _, _, rfl⟩
    · rw [if_neg (by decide), if_neg (by decide)]
      exact ⟨_, _, _, _, _, _, _, _, _, _, _, _, _, _, _, _, _, rfl⟩
    · rw [if_neg (by decide), if_neg (by decide)]
      have e : nt (ii 2).toNatClampNeg = ii ln := hln
      rw [e]
      exact ⟨_, _, _, _, _, _, _, _, _, _, _, _, _, _, _, _, _, rfl⟩
    · rw [if_neg (by decide), if_neg (by decide)]
      have e : nt (ii 3).toNatClampNeg = ii rp := hrp
      rw [e]
      exact ⟨_, _, _, _, _, _, _, _, _, _, _, _, _, _, _, _, _, rfl⟩
    · rw [if_pos (by decide), if_neg (by decide), if_pos (by decide)]
      obtain ⟨r1, r2, r3, r4, r5, r6, r7, r8, r9, r10, e4⟩ := used_M (F := F) hF hn hm hk hl hL hs h24 a1 a2 a3 a4 a5 a6 a7 a8 a9 vo
      rw [e4]
      exact ⟨_, _, _, _, _, _, _, _, _, _, _, _, _, _, _, _, _, rfl⟩
    · rw [if_pos (by decide), if_neg (by decide), if_neg (by decide), if_pos (by decide), if_neg (by decide), e0]
      exact ⟨_, _, _, _, _, _, _, _, _, _, _, _, _, _, _, _, _, rfl⟩
    · rw [if_pos (by decide), if_neg (by decide), if_neg (by decide), if_neg (by decide)]
      obtain ⟨fo', co', ti', fm', e2, h3, -⟩ := form_M (F := F) hn hr hm (by omega) hL hs h24 (frm_FM mk rd L) b tm fmn fo co ti fm
      unfold fX12_formLong
      rw [e2]
      exact ⟨_, _, _, _, _, _, _, _, _, _, _, _, _, _, _, _, _, rfl⟩
    · rw [if_pos (by decide), if_pos (by decide), if_neg (by decide), if_pos (by decide), if_neg (by decide)]
      exact ⟨_, _, _, _, _, _, _, _, _, _, _, _, _, _, _, _, _, rfl⟩
    · rw [if_pos (by decide), if_pos (by decide), if_neg (by decide), if_neg (by decide), if_neg (by decide)]
      exact ⟨_, _, _, _, _, _, _, _, _, _, _, _, _, _, _, _, _, rfl⟩
    · rw [if_pos (by decide), if_pos (by decide), if_pos (by decide), if_pos (by decide), if_neg (by decide)]
      exact ⟨_, _, _, _, _, _, _, _, _, _, _, _, _, _, _, _, _, rfl⟩
    · rw [if_pos (by decide), if_pos (by decide), if_pos (by decide), if_neg (by decide), if_pos (by decide)]
      exact ⟨_, _, _, _, _, _, _, _, _, _, _, _, _, _, _, _, _, rfl⟩
    · rw [if_pos (by decide), if_pos (by decide), if_pos (by decide), if_neg (by decide), if_neg (by decide)]
      exact ⟨_, _, _, _, _, _, _, _, _, _, _, _, _, _, _, _, _, rfl⟩
