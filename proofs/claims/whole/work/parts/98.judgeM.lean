/-! PURE: judged of the reference -/
theorem goes_M {F n ln rp : Nat} {mk rd kd : Nat → Nat} {ki kn nt : Nat → Int32} (hF : 2000 ≤ F) (hn : okN n mk rd) (hr : okR rd) (hm : netM n mk rd ki kn) (hk : kdM n kd ki) (hln : nt 2 = ii ln) (hrp : nt 3 = ii rp) (h999 : rp ≤ 999) (hl24 : ln ≤ 24) {C : List Nat} {lf lt cs : Nat → Int32} (hl : lwM C lf lt cs) {L : List Nat} {s : Nat → Int32} (hL : okL n L) (hs : rS s L) (hLl : L.length ≤ ln) {y k : Nat} (hy : okY n y) (hk9 : k < 240) {lw lN : Nat → Int32} (hw : lw k = ii (yw y)) (hN : lN k = ii (yn y)) (b tm fmn : Int32) (a1 a2 a3 a4 a5 a6 a7 a8 a9 vo fo co ti fm : Nat → Int32) :
    ∃ b' tm' fmn' r1 r2 r3 r4 r5 r6 r7 r8 r9 r10 s' fo' co' ti' fm', fX12_goes F 8 nt 12 ki 12 kn 2 lf 2 lt 2000 cs 7 7 7 7 7 7 7 7 7 20 25 240 lw 240 lN 96 96 96 96 (ii k) b tm fmn a1 a2 a3 a4 a5 a6 a7 a8 a9 vo s fo co ti fm = some (ii (stY mk rd (tau C kd mk) ln rp L y).2, b', tm', fmn', r1, r2, r3, r4, r5, r6, r7, r8, r9, r10, s', fo', co', ti', fm') ∧ rS s' (stY mk rd (tau C kd mk) ln rp L y).1 := by
  have h6 := hn.1
  unfold fX12_goes stY
  have ei : ¬ (ii k < 0 ∨ 240 ≤ (ii k).toNatClampNeg) := nidx (by omega) (by omega)
  simp only [if_neg ei]
  rw [ii_nat (by omega), hw, hN]
  by_cases h1 : y = 200
  · have e1 : yw y = 25 := by
      unfold yw
      rw [if_neg (by omega), if_neg (by omega)]
    rw [e1, if_pos (by decide), if_pos h1]
    obtain ⟨p1, p2, p3, p4⟩ := pile_facts (mk := mk) hn hr hL (by omega)
    obtain ⟨g1, g2⟩ := frm_ok (mk := mk) hn hr hL (by omega)
    obtain ⟨fo', co', ti', fm', e2, h3, -⟩ := form_M (F := F) hn hr hm (by omega) hL hs (by omega) (frm_FM mk rd L) b tm fmn fo co ti fm
    unfold fX12_pulls
    rw [e2]
    simp only [Option.bind_some]
    by_cases h4 : frm mk rd L = L
    · rw [(isForm_eq (F := F) hn.1 (by omega) g1 hL h3 hs (by omega) (by omega)).1 h4, if_pos h4]
      simp only [Option.bind_some]
      rw [if_neg (by decide)]
      simp only [Option.bind_some]
      rw [if_pos (Or.inl trivial), h4]
      exact ⟨_, _, _, _, _, _, _, _, _, _, _, _, _, _, _, _, _, _, rfl, hs⟩
    · rw [(isForm_eq (F := F) hn.1 (by omega) g1 hL h3 hs (by omega) (by omega)).2 h4, if_neg h4]
      simp only [Option.bind_some]
      obtain ⟨s', e4, h7⟩ := pulls_L (F := F) (ki := ki) (kn := kn) (b := ii (psL mk rd [] L).length) (tm := ii 0) (fo := fo') (co := co') (ti := ti') h3 (by omega) F 0 (upd s 0 (ii (frm mk rd L).length)) (by omega) (by omega) (upd_same _ _ _) (fun i hi => absurd hi (by omega))
      have e5 : fX12_pulls_L25 F 12 ki 12 kn 25 96 96 96 96 F (0 : Int32) (ii (psL mk rd [] L).length) (ii 0) (ii (frm mk rd L).length) (upd s (0 : Int32).toNatClampNeg (ii (frm mk rd L).length)) fo' co' ti' fm' = some (1, ii (psL mk rd [] L).length, ii 0, ii (frm mk rd L).length, s', fo', co', ti', fm') := e4
      rw [if_pos trivial, if_neg (by decide), e5]
      simp only [Option.bind_some]
      rw [if_pos (Or.inr trivial)]
      exact ⟨_, _, _, _, _, _, _, _, _, _, _, _, _, _, _, _, _, _, rfl, h7⟩
  · have e0 : s ((0 : Int32).toNatClampNeg) = ii L.length := hs.1
    by_cases h2 : 100 ≤ y
    · have hy2 : y < 124 := by
        rcases hy with hy | hy | hy <;> omega
      have e1 : yw y = 24 := by
        unfold yw
        rw [if_neg (by omega), if_pos (by omega)]
      have e2 : yn y = y - 100 := by
        unfold yn
        rw [if_neg (by omega), if_pos (by omega)]
      rw [e1, e2, if_neg (by decide), if_pos (by decide), if_neg (by decide), e0, if_neg h1, if_pos h2]
      by_cases h3 : y - 100 < L.length
      · rw [if_pos (by rw [ii_lt (by omega) (by omega)]; exact h3), if_pos h3]
        have e9 := take_split h3
        have hA : (L.take (y - 100)).length = y - 100 := by rw [List.length_take]; omega
        have hlen : (L.take (y - 100) ++ L.drop (y - 100 + 1)).length = L.length - 1 := by
          rw [List.length_append, List.length_take, List.length_drop]
          omega
        have e4 : fX12_goesAt F 25 (ii (y - 100)) s = some (upd (shA s (y - 100 + 1) (L.length + 1)) 0 (ii (L.length - 1))) := by
          unfold fX12_goesAt
          rw [k_1, ii_add]
          exact goes_L (by omega) (by omega) F (y - 100 + 1) s (by omega) (by omega) (by omega) hs.1
        rw [e4]
        simp only [Option.bind_some]
        refine ⟨_, _, _, _, _, _, _, _, _, _, _, _, _, _, _, _, _, _, rfl, ?_, fun j hj => ?_⟩
        · rw [upd_same, hlen]
        · rw [hlen] at hj
          rw [upd_ne _ _ (by omega)]
          have h8 := shA_rL (a := fun j => s (j + 1)) (A := L.take (y - 100)) (B := L.drop (y - 100 + 1)) (t := L.getD (y - 100) 0) (by rw [← e9]; exact hs.2) j (by rw [hlen]; exact hj)
          rw [hA, ← e9] at h8
          rw [← h8]
          unfold shA
          by_cases h9 : y - 100 ≤ j ∧ j + 1 < L.length
          · rw [if_pos h9, if_pos (by omega)]
          · rw [if_neg h9, if_neg (by omega)]
      · rw [if_neg (by rw [ii_lt (by omega) (by omega)]; exact h3), if_neg h3]
        exact ⟨_, _, _, _, _, _, _, _, _, _, _, _, _, _, _, _, _, _, rfl, hs⟩
    · have hy3 : y < 2 * n := by
        rcases hy with hy | hy | hy <;> omega
      have e1 : yw y = y := by
        unfold yw
        rw [if_pos (by omega)]
      rw [e1, if_neg (by rw [k_25, ii_inj (by omega) (by omega)]; omega), if_neg (by rw [k_24, ii_inj (by omega) (by omega)]; omega), if_neg h1, if_neg h2]
      obtain ⟨r1, r2, r3, r4, r5, r6, r7, r8, r9, r10, e3, e4⟩ := canTie_M (F := F) hF hn hm hk hln hrp h999 hl24 hl hL hs (by omega) hy3 a1 a2 a3 a4 a5 a6 a7 a8 a9 vo
      by_cases h3 : L.length < ln ∧ usd (tau C kd mk) 0 L + tau C kd mk L.length y ≤ rp
      · obtain ⟨s', e5, h7⟩ := laysTie_M (F := F) (t := y) hs (by omega)
        rw [e3 h3, if_pos h3]
        simp only [Option.bind_some]
        rw [if_neg (by decide), e5]
        exact ⟨_, _, _, _, _, _, _, _, _, _, _, _, _, _, _, _, _, _, rfl, h7⟩
      · rw [e4 h3, if_neg h3]
        exact ⟨_, _, _, _, _, _, _, _, _, _, _, _, _, _, _, _, _, _, rfl, hs⟩
theorem comesOut_M {F n : Nat} {mk rd : Nat → Nat} {ki kn : Nat → Int32} (hn : okN n mk rd) (hm : netM n mk rd ki kn) (hF : 97 ≤ F) {L : List Nat} {s : Nat → Int32} (hL : okL n L) (hs : rS s L) (h24 : L.length ≤ 24) (b : Int32) (fo co : Nat → Int32) :
    ∃ b' fo' co', fX12_comesOut F 12 ki 12 kn 25 s 96 96 b fo co = some (ov (psL mk rd [] L), b', fo', co') := by
  obtain ⟨fo', co', e1, h2⟩ := lineM_eq (F := F) hn hm hF hL hs h24 fo co
  have hl := psL_len (mk := mk) (rd := rd) (L := L) (Q := [])
  simp only [List.length_nil] at hl
  unfold fX12_comesOut bX12_comesOut_L21 ov
  rw [e1]
  simp only [Option.bind_some]
  have e0 := len0 (k := (psL mk rd [] L).length) (by omega)
  by_cases h : (psL mk rd [] L).length = 0
  · rw [if_pos (by rw [e0]; exact h), if_pos h, if_pos (Or.inr trivial)]
    exact ⟨_, _, _, rfl⟩
  · rw [if_neg (by rw [e0]; exact h), if_neg h, if_pos (Or.inl trivial)]
    exact ⟨_, _, _, rfl⟩
theorem judgeM_L {F n ln rp : Nat} {mk rd kd : Nat → Nat} {ki kn nt : Nat → Int32} (hF : 2000 ≤ F) (hn : okN n mk rd) (hr : okR rd) (hm : netM n mk rd ki kn) (hk : kdM n kd ki) (hln : nt 2 = ii ln) (hrp : nt 3 = ii rp) (h999 : rp ≤ 999) (hl24 : ln ≤ 24) {C : List Nat} {lf lt cs : Nat → Int32} (hl : lwM C lf lt cs) {Y : List Nat} {li lw lN : Nat → Int32} (hY : ∀ y ∈ Y, okY n y) (hyr : yrM li lw lN 0 Y) (h40 : Y.length ≤ 40) {wh th : Int32} (h1 : ¬ wh < 0) (h2 : wh ≤ (2 : Int32)) {asd : Nat → Int32} {L0 : List Nat} (ha0 : rS asd L0) (h0 : L0.length ≤ 24) :
    ∀ (t k : Nat) (L : List Nat) (bad fst : Int) (b tm fmn : Int32) (a1 a2 a3 a4 a5 a6 a7 a8 a9 vo s fo co ti fm : Nat → Int32), k ≤ Y.length → Y.length < k + t → okL n L → rS s L → L.length ≤ ln → -1 ≤ bad → bad ≤ 40 → -1 ≤ fst → fst ≤ 40 →
    ∃ b' tm' fmn' r1 r2 r3 r4 r5 r6 r7 r8 r9 r10 s' fo' co' ti' fm', fX12_judged_L44 F 8 nt 12 ki 12 kn 2 lf 2 lt 2000 cs 7 7 7 7 7 7 7 7 7 20 25 25 6 li 240 lw 240 lN 96 96 96 96 t wh (iz bad) (iz fst) (ii k) th b tm fmn a1 a2 a3 a4 a5 a6 a7 a8 a9 vo s asd fo co ti fm = some ((if wh = 0 then iz (jdY mk rd (tau C kd mk) ln rp k (Y.drop k) L bad fst).2.1 else if wh = 1 then iz (jdY mk rd (tau C kd mk) ln rp k (Y.drop k) L bad fst).2.2 else ii (frm mk rd (jdY mk rd (tau C kd mk) ln rp k (Y.drop k) L bad fst).1).length), th, b', tm', fmn', r1, r2, r3, r4, r5, r6, r7, r8, r9, r10, s', asd, fo', co', ti', fm') ∧ rS s' L0 := by
  intro t
  induction t with
  | zero => intro k L bad fst b tm fmn a1 a2 a3 a4 a5 a6 a7 a8 a9 vo s fo co ti fm h1 h2; omega
  | succ t ih =>
    intro k L bad fst b tm fmn a1 a2 a3 a4 a5 a6 a7 a8 a9 vo s fo co ti fm k1 k2 hL hs hLl b1 b2 f1 f2
    rw [sX12_judged_L44]
    unfold bX12_judged_L44 bX12_judged_L71 bX12_judged_L94 bX12_judged_L138
    have e0 : li ((0 : Int32).toNatClampNeg) = ii Y.length := hyr.1
    rw [if_neg (by decide), e0]
    by_cases h : Y.length ≤ k
    · rw [if_pos (by rw [ii_le (by omega) (by omega)]; exact h), List.drop_of_length_le h]
      obtain ⟨fo', co', ti', fm', e2, h3, -⟩ := form_M (F := F) hn hr hm (by omega) hL hs (by omega) (frm_FM mk rd L) b tm fmn fo co ti fm
      rw [e2]
      simp only [Option.bind_some]
      rw [k_0, copies_eq (by omega) (by omega) (by omega) (by omega) (by omega)]
      simp only [Option.bind_some]
      have hfin : rS (cpB asd s 0 0 0) L0 := by
        have := rS_cpB (f := asd) (g := s) (p := 0) (q := 0) (L := L0) (by simpa using ha0) h0
        simpa using this
      show ∃ b' tm' fmn' r1 r2 r3 r4 r5 r6 r7 r8 r9 r10 s' fo' co' ti' fm', _ = some ((if wh = ii 0 then iz bad else if wh = 1 then iz fst else ii (frm mk rd L).length), th, b', tm', fmn', r1, r2, r3, r4, r5, r6, r7, r8, r9, r10, s', asd, fo', co', ti', fm') ∧ rS s' L0
      by_cases q0 : wh = ii 0
      · rw [if_pos q0, if_pos q0]
        exact ⟨_, _, _, _, _, _, _, _, _, _, _, _, _, _, _, _, _, _, rfl, hfin⟩
      · rw [if_neg q0, if_neg q0]
        by_cases q1 : wh = 1
        · rw [if_pos q1, if_pos q1]
          exact ⟨_, _, _, _, _, _, _, _, _, _, _, _, _, _, _, _, _, _, rfl, hfin⟩
        · rw [if_neg q1, if_neg q1]
          exact ⟨_, _, _, _, _, _, _, _, _, _, _, _, _, _, _, _, _, _, rfl, hfin⟩
    · have hkY : k < Y.length := by omega
      have hy := hY _ (rL_mem (a := li) hkY)
      obtain ⟨w1, w2⟩ := hyr.2 k hkY
      rw [Nat.mul_zero, Nat.zero_add] at w1 w2
      rw [if_neg (by rw [ii_le (by omega) (by omega)]; exact h), drop_cons hkY]
      generalize Y.getD k 0 = y at hy w1 w2
      obtain ⟨b', tm', fmn', r1, r2, r3, r4, r5, r6, r7, r8, r9, r10, s', fo', co', ti', fm', e1, h3⟩ := goes_M (F := F) hF hn hr hm hk hln hrp h999 hl24 hl hL hs hLl hy (by omega) w1 w2 b tm fmn a1 a2 a3 a4 a5 a6 a7 a8 a9 vo fo co ti fm
      obtain ⟨g1, g2, g3⟩ := stY_ok (τ := tau C kd mk) (rp := rp) hn hr hl24 hL hLl hy
      rw [e1, jdY_cons]
      simp only [Option.bind_some]
      generalize (stY mk rd (tau C kd mk) ln rp L y).1 = L2 at g1 g2 h3
      generalize (stY mk rd (tau C kd mk) ln rp L y).2 = dn at g3
      have ek : ii k = iz (k : Int) := ii_iz k
      have e1k : ii k + (1 : Int32) = ii (k + 1) := by rw [k_1, ii_add]
      have ed : (ii dn = 0) = (dn = 0) := len0 (by omega)
      have es : s' ((0 : Int32).toNatClampNeg) = ii L2.length := h3.1
      have eL : (ii L2.length ≤ (0 : Int32)) = (L2.length = 0) := by
        rw [k_0, ii_le (by omega) (by omega)]
        apply propext
        omega
      obtain ⟨b9, fo9, co9, e9⟩ := comesOut_M (F := F) hn hm (by omega) g1 h3 (by omega) b' fo' co'
      have efs : ((0 : Int32) ≤ iz fst) = (0 ≤ fst) := by
        rw [k_0, ii_iz, iz_le (by omega) (by omega) (by omega) (by omega)]
        rfl
      have ebd : ((0 : Int32) ≤ iz bad) = (0 ≤ bad) := by
        rw [k_0, ii_iz, iz_le (by omega) (by omega) (by omega) (by omega)]
        rfl
      rw [es, e9, e1k]
      simp only [Option.bind_some]
      have c0 : ¬ ((0 : Int32) < 0 ∨ 25 ≤ (0 : Int32).toNatClampNeg) := by decide
      have A1 : 0 ≤ fst → (0 : Int32) ≤ iz fst := fun h => by rw [efs]; exact h
      have A2 : ¬ 0 ≤ fst → ¬ (0 : Int32) ≤ iz fst := fun h => by rw [efs]; exact h
      have B1 : 0 ≤ bad → (0 : Int32) ≤ iz bad := fun h => by rw [ebd]; exact h
      have B2 : ¬ 0 ≤ bad → ¬ (0 : Int32) ≤ iz bad := fun h => by rw [ebd]; exact h
      have D1 : dn = 0 → ii dn = 0 := fun h => by rw [ed]; exact h
      have D2 : ¬ dn = 0 → ¬ ii dn = 0 := fun h => by rw [ed]; exact h
      have L1 : L2.length = 0 → ii L2.length ≤ (0 : Int32) := fun h => by rw [eL]; exact h
      have L2n : ¬ L2.length = 0 → ¬ ii L2.length ≤ (0 : Int32) := fun h => by rw [eL]; exact h
      by_cases q1 : 0 ≤ fst
      · simp only [if_pos (A1 q1)]
        rw [if_neg (show ¬ (fst < 0 ∧ 0 < L2.length ∧ (psL mk rd [] L2).length = 0) by omega)]
        by_cases d1 : dn = 0
        · rw [if_pos (D1 d1)]
          by_cases d2 : 0 ≤ bad
          · rw [if_pos (B1 d2), if_neg (show ¬ (dn = 0 ∧ bad < 0) by omega)]
            exact ih (k + 1) L2 bad fst _ _ _ _ _ _ _ _ _ _ _ _ _ _ _ _ _ _ (by omega) (by omega) g1 h3 g2 b1 b2 f1 f2
          · rw [if_neg (B2 d2), if_pos (show dn = 0 ∧ bad < 0 by omega), ek]
            exact ih (k + 1) L2 k fst _ _ _ _ _ _ _ _ _ _ _ _ _ _ _ _ _ _ (by omega) (by omega) g1 h3 g2 (by omega) (by omega) f1 f2
        · rw [if_neg (D2 d1), if_neg (show ¬ (dn = 0 ∧ bad < 0) by omega)]
          exact ih (k + 1) L2 bad fst _ _ _ _ _ _ _ _ _ _ _ _ _ _ _ _ _ _ (by omega) (by omega) g1 h3 g2 b1 b2 f1 f2
      · simp only [if_neg (A2 q1), if_neg c0]
        by_cases q2 : L2.length = 0
        · simp only [if_pos (L1 q2)]
          rw [if_neg (show ¬ (fst < 0 ∧ 0 < L2.length ∧ (psL mk rd [] L2).length = 0) by omega)]
          by_cases d1 : dn = 0
          · rw [if_pos (D1 d1)]
            by_cases d2 : 0 ≤ bad
            · rw [if_pos (B1 d2), if_neg (show ¬ (dn = 0 ∧ bad < 0) by omega)]
              exact ih (k + 1) L2 bad fst _ _ _ _ _ _ _ _ _ _ _ _ _ _ _ _ _ _ (by omega) (by omega) g1 h3 g2 b1 b2 f1 f2
            · rw [if_neg (B2 d2), if_pos (show dn = 0 ∧ bad < 0 by omega), ek]
              exact ih (k + 1) L2 k fst _ _ _ _ _ _ _ _ _ _ _ _ _ _ _ _ _ _ (by omega) (by omega) g1 h3 g2 (by omega) (by omega) f1 f2
          · rw [if_neg (D2 d1), if_neg (show ¬ (dn = 0 ∧ bad < 0) by omega)]
            exact ih (k + 1) L2 bad fst _ _ _ _ _ _ _ _ _ _ _ _ _ _ _ _ _ _ (by omega) (by omega) g1 h3 g2 b1 b2 f1 f2
        · simp only [if_neg (L2n q2)]
          by_cases q3 : (psL mk rd [] L2).length = 0
          · have o1 : ¬ ov (psL mk rd [] L2) = 0 := by
              unfold ov
              rw [if_pos q3]
              decide
            simp only [if_neg o1]
            rw [if_pos (show fst < 0 ∧ 0 < L2.length ∧ (psL mk rd [] L2).length = 0 by omega)]
            by_cases d1 : dn = 0
            · rw [if_pos (D1 d1)]
              by_cases d2 : 0 ≤ bad
              · rw [if_pos (B1 d2), if_neg (show ¬ (dn = 0 ∧ bad < 0) by omega), ek]
                exact ih (k + 1) L2 bad k _ _ _ _ _ _ _ _ _ _ _ _ _ _ _ _ _ _ (by omega) (by omega) g1 h3 g2 b1 b2 (by omega) (by omega)
              · rw [if_neg (B2 d2), if_pos (show dn = 0 ∧ bad < 0 by omega), ek]
                exact ih (k + 1) L2 k k _ _ _ _ _ _ _ _ _ _ _ _ _ _ _ _ _ _ (by omega) (by omega) g1 h3 g2 (by omega) (by omega) (by omega) (by omega)
            · rw [if_neg (D2 d1), if_neg (show ¬ (dn = 0 ∧ bad < 0) by omega), ek]
              exact ih (k + 1) L2 bad k _ _ _ _ _ _ _ _ _ _ _ _ _ _ _ _ _ _ (by omega) (by omega) g1 h3 g2 b1 b2 (by omega) (by omega)
          · have o1 : ov (psL mk rd [] L2) = 0 := by
              unfold ov
              rw [if_neg q3]
            simp only [if_pos o1]
            rw [if_neg (show ¬ (fst < 0 ∧ 0 < L2.length ∧ (psL mk rd [] L2).length = 0) by omega)]
            by_cases d1 : dn = 0
            · rw [if_pos (D1 d1)]
              by_cases d2 : 0 ≤ bad
              · rw [if_pos (B1 d2), if_neg (show ¬ (dn = 0 ∧ bad < 0) by omega)]
                exact ih (k + 1) L2 bad fst _ _ _ _ _ _ _ _ _ _ _ _ _ _ _ _ _ _ (by omega) (by omega) g1 h3 g2 b1 b2 f1 f2
              · rw [if_neg (B2 d2), if_pos (show dn = 0 ∧ bad < 0 by omega), ek]
                exact ih (k + 1) L2 k fst _ _ _ _ _ _ _ _ _ _ _ _ _ _ _ _ _ _ (by omega) (by omega) g1 h3 g2 (by omega) (by omega) f1 f2
            · rw [if_neg (D2 d1), if_neg (show ¬ (dn = 0 ∧ bad < 0) by omega)]
              exact ih (k + 1) L2 bad fst _ _ _ _ _ _ _ _ _ _ _ _ _ _ _ _ _ _ (by omega) (by omega) g1 h3 g2 b1 b2 f1 f2
theorem judged_M {F n ln rp : Nat} {mk rd kd : Nat → Nat} {ki kn nt : Nat → Int32} (hF : 2000 ≤ F) (hn : okN n mk rd) (hr : okR rd) (hm : netM n mk rd ki kn) (hk : kdM n kd ki) (hln : nt 2 = ii ln) (hrp : nt 3 = ii rp) (h999 : rp ≤ 999) (hl24 : ln ≤ 24) {C : List Nat} {lf lt cs : Nat → Int32} (hl : lwM C lf lt cs) {Y : List Nat} {li lw lN : Nat → Int32} (hY : ∀ y ∈ Y, okY n y) (hyr : yrM li lw lN 0 Y) (h40 : Y.length ≤ 40) {L : List Nat} {s : Nat → Int32} (hs : rS s L) (h24 : L.length ≤ 24) (wh th b tm fmn : Int32) (a1 a2 a3 a4 a5 a6 a7 a8 a9 vo asd fo co ti fm : Nat → Int32) :
    ∃ b' tm' fmn' r1 r2 r3 r4 r5 r6 r7 r8 r9 r10 s' asd' fo' co' ti' fm', fX12_judged F 8 nt 12 ki 12 kn 2 lf 2 lt 2000 cs 7 7 7 7 7 7 7 7 7 20 25 25 6 li 240 lw 240 lN 96 96 96 96 wh th b tm fmn a1 a2 a3 a4 a5 a6 a7 a8 a9 vo s asd fo co ti fm = some (jdA mk rd (tau C kd mk) ln rp Y wh, 0, b', tm', fmn', r1, r2, r3, r4, r5, r6, r7, r8, r9, r10, s', asd', fo', co', ti', fm') ∧ rS s' L := by
  unfold fX12_judged jdA
  rw [within_eq]
  simp only [Option.bind_some]
  by_cases h1 : wh < 0
  · rw [if_pos (Or.inl h1), if_pos rfl, if_pos h1]
    exact ⟨_, _, _, _, _, _, _, _, _, _, _, _, _, _, _, _, _, _, _, rfl, hs⟩
  · by_cases h2 : (2 : Int32) < wh
    · rw [if_pos (Or.inr h2), if_pos rfl, if_neg h1, if_pos h2]
      exact ⟨_, _, _, _, _, _, _, _, _, _, _, _, _, _, _, _, _, _, _, rfl, hs⟩
    · have hno : ¬ (wh < 0 ∨ (2 : Int32) < wh) := fun h => h.elim h1 h2
      rw [if_neg hno, if_neg (by decide), if_neg h1, if_neg h2, k_0, copies_eq (by omega) (by omega) (by omega) (by omega) (by omega)]
      simp only [Option.bind_some]
      rw [if_neg (by decide)]
      have ha0 : rS (cpB s asd 0 0 0) L := by
        have := rS_cpB (f := s) (g := asd) (p := 0) (q := 0) (L := L) (by simpa using hs) h24
        simpa using this
      obtain ⟨b', tm', fmn', r1, r2, r3, r4, r5, r6, r7, r8, r9, r10, s', fo', co', ti', fm', e1, h3⟩ := judgeM_L (F := F) (th := 0) hF hn hr hm hk hln hrp h999 hl24 hl hY hyr h40 h1 (Int32.not_lt.mp h2) ha0 h24 F 0 [] (-1) (-1) b tm fmn a1 a2 a3 a4 a5 a6 a7 a8 a9 vo (upd s 0 0) fo co ti fm (by omega) (by omega) (fun t ht => by cases ht) ⟨upd_same _ _ _, fun k hk => absurd hk (by simp)⟩ (by simp) (by omega) (by omega) (by omega) (by omega)
      refine ⟨b', tm', fmn', r1, r2, r3, r4, r5, r6, r7, r8, r9, r10, s', cpB s asd 0 0 0, fo', co', ti', fm', ?_, h3⟩
      exact e1
