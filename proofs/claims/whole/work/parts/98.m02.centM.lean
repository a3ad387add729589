/-! PURE: centuries of the reference -/
theorem centM_in {F n ln rp : Nat} {ν : Nat → Nat} {δ : Nat → Nat → Nat} (hν : ∀ G, ν G < 2147483648) (hδ : ∀ G m, 0 < m → δ G m < m) (hd : ∀ (G m : Nat) (x : Int32), x = ii m → G < 2147483648 → 0 < m → m < 1000 → fX12_draws F x (il G) = some (ii (δ G m), il (ν G))) {mk rd kd : Nat → Nat} {ki kn nt : Nat → Int32} (hF : 2000 ≤ F) (hn : okN n mk rd) (hm : netM n mk rd ki kn) (hk : kdM n kd ki) (hnt : nt 0 = ii n) (hln : nt 2 = ii ln) (hrp : nt 3 = ii rp) (h999 : rp ≤ 999) (hl24 : ln ≤ 24) {C : List Nat} {lf lt cs : Nat → Int32} (hl : lwM C lf lt cs) {k68 : Int32 → Int32 → Int32 → Int32 → Int32 → Int32 → Int32 → Int32 → Int32 → Int32 → Int64 → (Nat → Int32) → (Nat → Int32) → (Nat → Int32) → (Nat → Int32) → (Nat → Int32) → (Nat → Int32) → (Nat → Int32) → (Nat → Int32) → (Nat → Int32) → (Nat → Int32) → (Nat → Int32) → (Nat → Int32) → (Nat → Int32) → (Nat → Int32) → (Nat → Int32) → (Nat → Int32) → Option (Int32 × Int32 × Int32 × Int32 × Int32 × Int64 × (Nat → Int32) × (Nat → Int32) × (Nat → Int32) × (Nat → Int32) × (Nat → Int32) × (Nat → Int32) × (Nat → Int32) × (Nat → Int32) × (Nat → Int32) × (Nat → Int32) × (Nat → Int32) × (Nat → Int32) × (Nat → Int32) × (Nat → Int32) × (Nat → Int32) × (Nat → Int32))} {x2 x3 x4 x5 x6 x7 th b tm fmn : Int32} {asd fo co ti fm : Nat → Int32} :
    ∀ (t k G : Nat) (L : List Nat) (s a1 a2 a3 a4 a5 a6 a7 a8 a9 vo : Nat → Int32), k ≤ 8 → 8 < k + t → G < 2147483648 → okL n L → rS s L → L.length ≤ ln → ∃ s' r1 r2 r3 r4 r5 r6 r7 r8 r9 r10, fX12_centuries_L84 F 8 nt 12 ki 12 kn 2 lf 2 lt 2000 cs 7 7 7 7 7 7 7 7 7 20 25 25 96 96 96 96 k68 t x2 x3 x4 x5 x6 x7 (ii k) th b tm fmn (il G) a1 a2 a3 a4 a5 a6 a7 a8 a9 vo s asd fo co ti fm = bX12_centuries_L145 F 8 nt 12 ki 12 kn 2 lf 2 lt 2000 cs 7 7 7 7 7 7 7 7 7 20 25 25 96 96 96 96 k68 x2 x3 x4 x5 x6 x7 th b tm fmn (il (dyY ν δ (tau C kd mk) ln rp n (8 - k) G L).1) r1 r2 r3 r4 r5 r6 r7 r8 r9 r10 s' asd fo co ti fm ∧ rS s' (dyY ν δ (tau C kd mk) ln rp n (8 - k) G L).2 := by
  intro t
  induction t with
  | zero => intro k G L s a1 a2 a3 a4 a5 a6 a7 a8 a9 vo h1 h2; omega
  | succ t ih =>
    intro k G L s a1 a2 a3 a4 a5 a6 a7 a8 a9 vo h1 h2 hG hL hs hLl
    have h6 := hn.1
    rw [sX12_centuries_L84]
    unfold bX12_centuries_L84 bX12_centuries_L139
    by_cases h8 : k = 8
    · subst h8
      rw [if_pos (by decide), Nat.sub_self, dyY_0]
      exact ⟨_, _, _, _, _, _, _, _, _, _, _, rfl, hs⟩
    · have e0 : nt ((0 : Int32).toNatClampNeg) = ii n := hnt
      rw [if_neg (show ¬ (8 : Int32) ≤ ii k by rw [k_8, ii_le (by omega) (by omega)]; omega), if_neg (by decide), e0, show 8 - k = (8 - (k + 1)) + 1 from by omega, dyY_s]
      by_cases h0 : n = 0
      · rw [if_pos (show ii n ≤ (0 : Int32) by rw [k_0, ii_le (by omega) (by omega)]; omega), if_pos h0]
        exact ⟨_, _, _, _, _, _, _, _, _, _, _, rfl, hs⟩
      · rw [if_neg (show ¬ ii n ≤ (0 : Int32) by rw [k_0, ii_le (by omega) (by omega)]; omega), if_neg h0, if_neg (by decide), hd G n (ii n) rfl hG (by omega) (by omega), Option.bind_some]
        dsimp only
        rw [hd (ν G) 2 2 rfl (hν G) (by omega) (by omega), Option.bind_some]
        dsimp only
        have eT : (2 : Int32) * ii (δ G n) + ii (δ (ν G) 2) = ii (dyT ν δ n G) := by
          rw [k_2, ii_mul, ii_add]
          rfl
        rw [eT]
        have ht := dyT_lt (ν := ν) hδ (G := G) (show 0 < n by omega)
        obtain ⟨g1, g2⟩ := dyL_ok (τ := tau C kd mk) (rp := rp) hL hLl ht
        obtain ⟨r1, r2, r3, r4, r5, r6, r7, r8, r9, r10, e1, e2⟩ := canTie_M (F := F) hF hn hm hk hln hrp h999 hl24 hl hL hs (by omega) ht a1 a2 a3 a4 a5 a6 a7 a8 a9 vo
        have e1k : ii k + (1 : Int32) = ii (k + 1) := by rw [k_1, ii_add]
        by_cases hc : canT (tau C kd mk) ln rp L (dyT ν δ n G)
        · have eL : dyL (tau C kd mk) ln rp L (dyT ν δ n G) = L ++ [dyT ν δ n G] := if_pos hc
          have := hc.1
          obtain ⟨s', e5, h7⟩ := laysTie_M (F := F) (t := dyT ν δ n G) hs (by omega)
          rw [e1 hc, Option.bind_some]
          dsimp only
          rw [if_neg (by decide), e5, Option.bind_some, e1k]
          rw [eL] at g1 g2 ⊢
          exact ih (k + 1) _ _ s' _ _ _ _ _ _ _ _ _ _ (by omega) (by omega) (hν _) g1 h7 g2
        · have eL : dyL (tau C kd mk) ln rp L (dyT ν δ n G) = L := if_neg hc
          rw [e2 hc, Option.bind_some]
          dsimp only
          rw [if_pos rfl, e1k, eL]
          exact ih (k + 1) _ _ s _ _ _ _ _ _ _ _ _ _ (by omega) (by omega) (hν _) hL hs hLl
theorem centM_L {F n ln rp : Nat} {ν : Nat → Nat} {δ : Nat → Nat → Nat} (hν : ∀ G, ν G < 2147483648) (hδ : ∀ G m, 0 < m → δ G m < m) (hd : ∀ (G m : Nat) (x : Int32), x = ii m → G < 2147483648 → 0 < m → m < 1000 → fX12_draws F x (il G) = some (ii (δ G m), il (ν G))) {mk rd kd : Nat → Nat} {ki kn nt : Nat → Int32} (hF : 2000 ≤ F) (hn : okN n mk rd) (hr : okR rd) (hm : netM n mk rd ki kn) (hk : kdM n kd ki) (hnt : nt 0 = ii n) (hln : nt 2 = ii ln) (hrp : nt 3 = ii rp) (h999 : rp ≤ 999) (hl24 : ln ≤ 24) {C : List Nat} {lf lt cs : Nat → Int32} (hl : lwM C lf lt cs) {yr : Nat} (hyr : yr ≤ 40) {x3 th : Int32} {asd : Nat → Int32} {L0 : List Nat} (ha0 : rS asd L0) (h0 : L0.length ≤ 24) :
    ∀ (t k G o l m : Nat) (b tm fmn : Int32) (s a1 a2 a3 a4 a5 a6 a7 a8 a9 vo fo co ti fm : Nat → Int32), k ≤ yr → yr < k + t → G < 2147483648 → o ≤ k → l ≤ 24 * k → m ≤ 24 → ∃ b' tm' fmn' g' r1 r2 r3 r4 r5 r6 r7 r8 r9 r10 s' fo' co' ti' fm', fX12_centuries_L68 F 8 nt 12 ki 12 kn 2 lf 2 lt 2000 cs 7 7 7 7 7 7 7 7 7 20 25 25 96 96 96 96 t (ii yr) x3 (ii o) (ii l) (ii m) (ii k) th b tm fmn (il G) a1 a2 a3 a4 a5 a6 a7 a8 a9 vo s asd fo co ti fm = some ((if x3 = 0 then ii (cyY ν δ mk rd (tau C kd mk) ln rp n (yr - k) G o l m).1 else if x3 = 1 then ii (cyY ν δ mk rd (tau C kd mk) ln rp n (yr - k) G o l m).2.1 else ii (cyY ν δ mk rd (tau C kd mk) ln rp n (yr - k) G o l m).2.2), th, b', tm', fmn', g', r1, r2, r3, r4, r5, r6, r7, r8, r9, r10, s', asd, fo', co', ti', fm') ∧ rS s' L0 := by
  intro t
  induction t with
  | zero => intro k G o l m b tm fmn s a1 a2 a3 a4 a5 a6 a7 a8 a9 vo fo co ti fm h1 h2; omega
  | succ t ih =>
    intro k G o l m b tm fmn s a1 a2 a3 a4 a5 a6 a7 a8 a9 vo fo co ti fm h1 h2 hG ho hl9 hm9
    rw [sX12_centuries_L68]
    unfold bX12_centuries_L68 bX12_centuries_L226
    by_cases h : yr ≤ k
    · rw [if_pos (by rw [ii_le (by omega) (by omega)]; exact h), show yr - k = 0 from by omega, k_0, copies_eq (by omega) (by omega) (by omega) (by omega) (by omega), Option.bind_some]
      have hfin : rS (cpB asd s 0 0 0) L0 := by
        have := rS_cpB (f := asd) (g := s) (p := 0) (q := 0) (L := L0) (by simpa using ha0) h0
        simpa using this
      have ec : cyY ν δ mk rd (tau C kd mk) ln rp n 0 G o l m = (o, l, m) := rfl
      rw [ec]
      by_cases q0 : x3 = ii 0
      · rw [if_pos q0, if_pos q0]
        exact ⟨_, _, _, _, _, _, _, _, _, _, _, _, _, _, _, _, _, _, _, rfl, hfin⟩
      · rw [if_neg q0, if_neg q0]
        by_cases q1 : x3 = 1
        · rw [if_pos q1, if_pos q1]
          exact ⟨_, _, _, _, _, _, _, _, _, _, _, _, _, _, _, _, _, _, _, rfl, hfin⟩
        · rw [if_neg q1, if_neg q1]
          exact ⟨_, _, _, _, _, _, _, _, _, _, _, _, _, _, _, _, _, _, _, rfl, hfin⟩
    · rw [if_neg (by rw [ii_le (by omega) (by omega)]; exact h), if_neg (by decide), show yr - k = (yr - (k + 1)) + 1 from by omega, cyY_s]
      obtain ⟨s1, r1, r2, r3, r4, r5, r6, r7, r8, r9, r10, e1, h3⟩ := centM_in (F := F) hν hδ hd hF hn hm hk hnt hln hrp h999 hl24 hl (k68 := fX12_centuries_L68 F 8 nt 12 ki 12 kn 2 lf 2 lt 2000 cs 7 7 7 7 7 7 7 7 7 20 25 25 96 96 96 96 t) (x2 := ii yr) (x3 := x3) (x4 := ii o) (x5 := ii l) (x6 := ii m) (x7 := ii k) (th := th) (b := b) (tm := tm) (fmn := fmn) (asd := asd) (fo := fo) (co := co) (ti := ti) (fm := fm) F 0 G [] (upd s 0 0) a1 a2 a3 a4 a5 a6 a7 a8 a9 vo (by omega) (by omega) hG (fun t ht => by cases ht) ⟨upd_same _ _ _, fun k hk => absurd hk (by simp)⟩ (by simp)
      obtain ⟨g1, g2, g3⟩ := dyY_ok (ν := ν) hν hδ (τ := tau C kd mk) (ln := ln) (rp := rp) (n := n) 8 G [] (fun t ht => by cases ht) (by simp) hG
      rw [Nat.sub_zero] at e1 h3
      have e1' : fX12_centuries_L84 F 8 nt 12 ki 12 kn 2 lf 2 lt 2000 cs 7 7 7 7 7 7 7 7 7 20 25 25 96 96 96 96 (fX12_centuries_L68 F 8 nt 12 ki 12 kn 2 lf 2 lt 2000 cs 7 7 7 7 7 7 7 7 7 20 25 25 96 96 96 96 t) F (ii yr) x3 (ii o) (ii l) (ii m) (ii k) (0 : Int32) th b tm fmn (il G) a1 a2 a3 a4 a5 a6 a7 a8 a9 vo (upd s (0 : Int32).toNatClampNeg (0 : Int32)) asd fo co ti fm = _ := e1
      rw [e1']
      generalize (dyY ν δ (tau C kd mk) ln rp n 8 G []).2 = L2 at g1 g2 h3
      generalize (dyY ν δ (tau C kd mk) ln rp n 8 G []).1 = G2 at g3
      unfold bX12_centuries_L145 bX12_centuries_L163
      obtain ⟨fo', co', ti', fm', e2, h4, -⟩ := form_M (F := F) hn hr hm (by omega) g1 h3 (by omega) (frm_FM mk rd L2) b tm fmn fo co ti fm
      obtain ⟨q1, q2⟩ := frm_ok (mk := mk) hn hr g1 (by omega)
      rw [e2, Option.bind_some]
      dsimp only
      generalize (frm mk rd L2).length = c at q2
      have e1k : ii k + (1 : Int32) = ii (k + 1) := by rw [k_1, ii_add]
      have emx : (if ii m < ii c then ii c else ii m) = ii (max m c) := by
        by_cases hmc : m < c
        · rw [if_pos (by rw [ii_lt (by omega) (by omega)]; exact hmc), Nat.max_eq_right (by omega)]
        · rw [if_neg (by rw [ii_lt (by omega) (by omega)]; exact hmc), Nat.max_eq_left (by omega)]
      have hmx : max m c ≤ 24 := Nat.max_le.mpr ⟨hm9, by omega⟩
      have o1 : ii o + (1 : Int32) = ii (o + 1) := by rw [k_1, ii_add]
      have o0 : ii o + (0 : Int32) = ii (o + 0) := by rw [k_0, ii_add]
      rw [emx, e1k, ii_add, o1, o0]
      by_cases hc0 : c = 0
      · rw [if_pos (show ii c = 0 by rw [len0 (by omega)]; exact hc0), if_pos hc0]
        exact ih (k + 1) G2 (o + 1) (l + c) (max m c) _ _ _ _ _ _ _ _ _ _ _ _ _ _ _ _ _ _ (by omega) (by omega) g3 (by omega) (by omega) hmx
      · rw [if_neg (show ¬ ii c = 0 by rw [len0 (by omega)]; exact hc0), if_neg hc0]
        exact ih (k + 1) G2 (o + 0) (l + c) (max m c) _ _ _ _ _ _ _ _ _ _ _ _ _ _ _ _ _ _ (by omega) (by omega) g3 (by omega) (by omega) hmx
theorem centuries_M {F n ln rp : Nat} {ν : Nat → Nat} {δ : Nat → Nat → Nat} (hν : ∀ G, ν G < 2147483648) (hδ : ∀ G m, 0 < m → δ G m < m) (hd : ∀ (G m : Nat) (x : Int32), x = ii m → G < 2147483648 → 0 < m → m < 1000 → fX12_draws F x (il G) = some (ii (δ G m), il (ν G))) {mk rd kd : Nat → Nat} {ki kn nt : Nat → Int32} (hF : 2000 ≤ F) (hn : okN n mk rd) (hr : okR rd) (hm : netM n mk rd ki kn) (hk : kdM n kd ki) (hnt : nt 0 = ii n) (hln : nt 2 = ii ln) (hrp : nt 3 = ii rp) (h999 : rp ≤ 999) (hl24 : ln ≤ 24) {C : List Nat} {lf lt cs : Nat → Int32} (hl : lwM C lf lt cs) {L : List Nat} {s : Nat → Int32} (hs : rS s L) (h24 : L.length ≤ 24) (u c d th b tm fmn : Int32) (g : Int64) (a1 a2 a3 a4 a5 a6 a7 a8 a9 vo asd fo co ti fm : Nat → Int32) :
    ∃ b' tm' fmn' g' r1 r2 r3 r4 r5 r6 r7 r8 r9 r10 s' asd' fo' co' ti' fm', fX12_centuries F 8 nt 12 ki 12 kn 2 lf 2 lt 2000 cs 7 7 7 7 7 7 7 7 7 20 25 25 96 96 96 96 u c d th b tm fmn g a1 a2 a3 a4 a5 a6 a7 a8 a9 vo s asd fo co ti fm = some (ceA ν δ mk rd (tau C kd mk) ln rp n u c d, 0, b', tm', fmn', g', r1, r2, r3, r4, r5, r6, r7, r8, r9, r10, s', asd', fo', co', ti', fm') ∧ rS s' L := by
  unfold fX12_centuries bX12_centuries_L35 ceA
  rw [within_eq, within_eq, within_eq, Option.bind_some, Option.bind_some, Option.bind_some]
  by_cases h : ceOk u c d
  · obtain ⟨q1, q2, q3, q4⟩ := ce_nums h
    obtain ⟨h1, h2, h3, h4, h5, h6⟩ := h
    have n1 : ¬ (u < 0 ∨ (9999 : Int32) < u) := fun h => h.elim h1 h2
    have n2 : ¬ (c < (1 : Int32) ∨ (40 : Int32) < c) := fun h => h.elim h3 h4
    have n3 : ¬ (d < 0 ∨ (2 : Int32) < d) := fun h => h.elim h5 h6
    rw [if_neg n1, if_neg n2, if_neg n3, if_neg (by decide), if_neg (by decide), if_neg (by decide), if_pos ⟨h1, h2, h3, h4, h5, h6⟩]
    have ha0 : rS (cpB s asd 0 0 0) L := by
      have := rS_cpB (f := s) (g := asd) (p := 0) (q := 0) (L := L) (by simpa using hs) h24
      simpa using this
    rw [k_0, copies_eq (by omega) (by omega) (by omega) (by omega) (by omega), Option.bind_some]
    obtain ⟨b', tm', fmn', g', r1, r2, r3, r4, r5, r6, r7, r8, r9, r10, s', fo', co', ti', fm', e1, h7⟩ := centM_L (F := F) (x3 := d) (th := ii 0) hν hδ hd hF hn hr hm hk hnt hln hrp h999 hl24 hl q4 ha0 h24 F 0 u.toNatClampNeg 0 0 0 b tm fmn s a1 a2 a3 a4 a5 a6 a7 a8 a9 vo fo co ti fm (by omega) (by omega) (by omega) (by omega) (by omega) (by omega)
    have eb : u.toInt64 = il u.toNatClampNeg := by
      rw [← il_int2 q2, ← q1]
    rw [← q3] at e1
    rw [eb]
    exact ⟨b', tm', fmn', g', r1, r2, r3, r4, r5, r6, r7, r8, r9, r10, s', cpB s asd 0 0 0, fo', co', ti', fm', e1, h7⟩
  · rw [if_neg (show ¬ (¬ u < 0 ∧ ¬ (9999 : Int32) < u ∧ ¬ c < (1 : Int32) ∧ ¬ (40 : Int32) < c ∧ ¬ d < 0 ∧ ¬ (2 : Int32) < d) from h)]
    by_cases n1 : u < 0 ∨ (9999 : Int32) < u
    · rw [if_pos n1, if_pos rfl]
      exact ⟨_, _, _, _, _, _, _, _, _, _, _, _, _, _, _, _, _, _, _, _, rfl, hs⟩
    · rw [if_neg n1, if_neg (by decide)]
      by_cases n2 : c < (1 : Int32) ∨ (40 : Int32) < c
      · rw [if_pos n2, if_pos rfl]
        exact ⟨_, _, _, _, _, _, _, _, _, _, _, _, _, _, _, _, _, _, _, _, rfl, hs⟩
      · rw [if_neg n2, if_neg (by decide)]
        by_cases n3 : d < 0 ∨ (2 : Int32) < d
        · rw [if_pos n3, if_pos rfl]
          exact ⟨_, _, _, _, _, _, _, _, _, _, _, _, _, _, _, _, _, _, _, _, rfl, hs⟩
        · exact absurd ⟨fun h => n1 (Or.inl h), fun h => n1 (Or.inr h), fun h => n2 (Or.inl h), fun h => n2 (Or.inr h), fun h => n3 (Or.inl h), fun h => n3 (Or.inr h)⟩ h
theorem nx_X {F : Nat} : ∀ (G m : Nat) (x : Int32), x = ii m → 0 < m → m < 1000 → fX10_drawBelow F x (il G) = some (ii (nx G / 65536 % m), il (nx G)) := by
  intro G m x hx h1 h2
  rw [hx]
  exact drawBelow_eq h1 h2
theorem nx_M {F : Nat} : ∀ (G m : Nat) (x : Int32), x = ii m → G < 2147483648 → 0 < m → m < 1000 → fX12_draws F x (il G) = some (ii (nx G / 65536 % m), il (nx G)) := by
  intro G m x hx h0 h1 h2
  rw [hx]
  exact draws_eq h0 h1 h2
