/-! PURE: a year followed, on both sides -/
noncomputable def frm (mk rd : Nat → Nat) (L : List Nat) : List Nat := Classical.choose (FM_ex (mk := mk) (psL mk rd [] L).length (bu rd (psL mk rd [] L)) (bu_len _ _))
theorem frm_FM (mk rd : Nat → Nat) (L : List Nat) : FM mk (psL mk rd [] L).length (bu rd (psL mk rd [] L)) (frm mk rd L) := Classical.choose_spec (FM_ex (mk := mk) (psL mk rd [] L).length (bu rd (psL mk rd [] L)) (bu_len _ _))
theorem frm_ok {n : Nat} {mk rd : Nat → Nat} (hn : okN n mk rd) (hr : okR rd) {L : List Nat} (hL : okL n L) (h : L.length ≤ 90) : okL n (frm mk rd L) ∧ (frm mk rd L).length ≤ L.length := by
  obtain ⟨p1, p2, p3, p4⟩ := pile_facts (mk := mk) hn hr hL h
  exact ⟨FM_ok (frm_FM mk rd L) (fun x hx => (bu_ok hn p1 p2 x hx).2), by rw [FM_len (frm_FM mk rd L)]; exact p4⟩
noncomputable def stY (mk rd : Nat → Nat) (τ : Nat → Nat → Nat) (ln rp : Nat) (L : List Nat) (y : Nat) : List Nat × Nat := if y = 200 then (frm mk rd L, if frm mk rd L = L then 0 else 1) else if 100 ≤ y then (if y - 100 < L.length then (L.take (y - 100) ++ L.drop (y - 100 + 1), 1) else (L, 0)) else if L.length < ln ∧ usd τ 0 L + τ L.length y ≤ rp then (L ++ [y], 1) else (L, 0)
theorem take_split {L : List Nat} {p : Nat} (h : p < L.length) : L = L.take p ++ L.getD p 0 :: L.drop (p + 1) := by
  rw [← drop_cons h, List.take_append_drop]
theorem stY_ok {n ln rp : Nat} {mk rd : Nat → Nat} {τ : Nat → Nat → Nat} (hn : okN n mk rd) (hr : okR rd) (hl : ln ≤ 24) {L : List Nat} {y : Nat} (hL : okL n L) (h : L.length ≤ ln) (hy : okY n y) : okL n (stY mk rd τ ln rp L y).1 ∧ (stY mk rd τ ln rp L y).1.length ≤ ln ∧ (stY mk rd τ ln rp L y).2 ≤ 1 := by
  have h6 := hn.1
  unfold stY
  by_cases h1 : y = 200
  · rw [if_pos h1]
    obtain ⟨g1, g2⟩ := frm_ok (mk := mk) hn hr hL (by omega)
    refine ⟨g1, Nat.le_trans g2 h, ?_⟩
    show (if frm mk rd L = L then 0 else 1) ≤ 1
    split <;> omega
  · rw [if_neg h1]
    by_cases h2 : 100 ≤ y
    · rw [if_pos h2]
      by_cases h3 : y - 100 < L.length
      · rw [if_pos h3]
        refine ⟨fun t ht => ?_, ?_, Nat.le_refl _⟩
        · rcases List.mem_append.mp ht with ht | ht
          · exact hL t (List.mem_of_mem_take ht)
          · exact hL t (List.mem_of_mem_drop ht)
        · show (L.take (y - 100) ++ L.drop (y - 100 + 1)).length ≤ ln
          rw [List.length_append, List.length_take, List.length_drop]
          omega
      · rw [if_neg h3]
        exact ⟨hL, h, Nat.zero_le _⟩
    · rw [if_neg h2]
      by_cases h3 : L.length < ln ∧ usd τ 0 L + τ L.length y ≤ rp
      · rw [if_pos h3]
        refine ⟨fun t ht => ?_, ?_, Nat.le_refl _⟩
        · rcases List.mem_append.mp ht with ht | ht
          · exact hL t ht
          · have : t = y := List.mem_singleton.mp ht
            rw [this]
            rcases hy with hy | hy | hy
            · exact hy
            · omega
            · omega
        · show (L ++ [y]).length ≤ ln
          rw [List.length_append, List.length_singleton]
          omega
      · rw [if_neg h3]
        exact ⟨hL, h, Nat.zero_le _⟩
theorem layForm24 {F n : Nat} {mk rd : Nat → Nat} {st ro : Nat → Int32} (hn : okN n mk rd) (hr : okR rd) (hx : netX n mk rd st ro) (hF : 1000 ≤ F) {L : List Nat} {a : Nat → Int32} (hL : okL n L) (ha : rL a L) (h24 : L.length ≤ 24) {O : List Nat} (hO : FM mk (psL mk rd [] L).length (bu rd (psL mk rd [] L)) O) (sz : Int32) (fo co w : Nat → Int32) (ks : Int32) (kt : Nat → Int32) :
    ∃ z fo' co' w' kt', fX5_layForm F 24 24 24 (ii n) 6 st 6 ro (ii L.length) 24 a 24 sz fo co w ks kt = some (z, fo', co', w', ii O.length, kt') ∧ rL kt' O := by
  obtain ⟨fo', co', e1, h2⟩ := push0_eq (F := F) (N := 24) hn hx (by omega) (by omega) hL ha h24 (by omega) (by omega) (by omega) (by omega) fo co
  obtain ⟨p1, p2, p3, p4⟩ := pile_facts hn hr hL (by omega)
  have hOl : O.length ≤ 24 := by rw [FM_len hO]; omega
  obtain ⟨w', kt', e2, h3⟩ := writeForm_eq (F := F) (S := 6) (R := 6) (N := 24) (N2 := 24) (W := 24) (M := 24) hn hx (by have := hn.1; omega) (by have := hn.1; omega) p1 p2 h2 (by omega) (by omega) (by omega) (by omega) (by omega) (by omega) (by omega) hO hOl w kt ks
  unfold fX5_layForm fX5_clear
  simp only [Option.bind_some]
  rw [e1]
  simp only [Option.bind_some]
  rw [e2]
  exact ⟨_, _, _, _, _, rfl, h3⟩
theorem followTie_X {F n ln rp : Nat} (hF : 1000 ≤ F) (hn : n ≤ 6) (hl : ln ≤ 24) (hrp : rp ≤ 999) {τ : Nat → Nat → Nat} (hτ : ∀ p t, τ p t ≤ 99) {tk : Nat → Int32} (h : tkX n ln τ tk) {L : List Nat} {a : Nat → Int32} (hL : okL n L) (ha : rL a L) (hln : L.length ≤ ln) {t : Nat} (ht : t < 2 * n) : (canT τ ln rp L t → ∃ a', fX10_followTie F 24 (ii ln) (ii rp) 288 tk (ii t) (ii L.length) a = some (1, ii (L ++ [t]).length, a') ∧ rL a' (L ++ [t])) ∧ (¬ canT τ ln rp L t → fX10_followTie F 24 (ii ln) (ii rp) 288 tk (ii t) (ii L.length) a = some (0, ii L.length, a)) := by
  obtain ⟨e1, e2⟩ := canTie_X (F := F) (rp := rp) hF hn hl hrp hτ h hL ha hln ht
  unfold fX10_followTie bX10_followTie_L22
  refine ⟨fun hc => ?_, fun hc => ?_⟩
  · have := hc.1
    rw [e1 hc]
    simp only [Option.bind_some]
    rw [if_neg (by decide), row_add (by omega) (by omega)]
    simp only [Option.bind_some]
    rw [if_pos (Or.inr trivial), List.length_append, List.length_singleton]
    exact ⟨_, rfl, rL_snoc ha⟩
  · rw [e2 hc]
    rfl
theorem follow_X {F n ln rp : Nat} {mk rd : Nat → Nat} {st ro : Nat → Int32} (hn : okN n mk rd) (hr : okR rd) (hx : netX n mk rd st ro) (hF : 1000 ≤ F) (hl : ln ≤ 24) (hrp : rp ≤ 999) {τ : Nat → Nat → Nat} (hτ : ∀ p t, τ p t ≤ 99) {tk : Nat → Int32} (htk : tkX n ln τ tk) {L : List Nat} {a : Nat → Int32} (hL : okL n L) (ha : rL a L) (hln : L.length ≤ ln) {y : Nat} (hy : okY n y) (ps : Int32) (pt : Nat → Int32) (z : Int32) (fo co w : Nat → Int32) :
    ∃ a' ps' pt' z' fo' co' w', fX10_follow F 24 24 24 24 24 (ii n) (ii ln) (ii rp) 6 st 6 ro 288 tk (ii y) (ii L.length) a ps pt z fo co w = some (ii (stY mk rd τ ln rp L y).2, ii (stY mk rd τ ln rp L y).1.length, a', ps', pt', z', fo', co', w') ∧ rL a' (stY mk rd τ ln rp L y).1 := by
  have h6 := hn.1
  have hy2 : y ≤ 200 := by
    rcases hy with hy | hy | hy <;> omega
  unfold fX10_follow bX10_follow_L42 bX10_follow_L97 stY
  have e200 : (ii y = (200 : Int32)) = (y = 200) := ii_inj (b := 200) (by omega) (by omega)
  by_cases h1 : y = 200
  · rw [if_pos (by rw [e200]; exact h1), if_pos h1]
    obtain ⟨p1, p2, p3, p4⟩ := pile_facts (mk := mk) hn hr hL (by omega)
    obtain ⟨g1, g2⟩ := frm_ok (mk := mk) hn hr hL (by omega)
    obtain ⟨z', fo', co', w', pt', e1, h3⟩ := layForm24 (F := F) hn hr hx hF hL ha (by omega) (frm_FM mk rd L) z fo co w ps pt
    rw [e1]
    simp only [Option.bind_some]
    by_cases h4 : frm mk rd L = L
    · rw [(isLike_eq (F := F) hn.1 hF g1 hL h3 ha (by omega) (by omega)).1 h4, if_pos h4]
      simp only [Option.bind_some]
      rw [if_neg (by decide), row_copy2 (by omega) (by omega) (by omega) (by omega)]
      simp only [Option.bind_some]
      rw [if_pos (Or.inl trivial)]
      exact ⟨_, _, _, _, _, _, _, rfl, cpA_rL h3⟩
    · rw [(isLike_eq (F := F) hn.1 hF g1 hL h3 ha (by omega) (by omega)).2 h4, if_neg h4]
      simp only [Option.bind_some]
      rw [if_pos trivial, row_copy2 (by omega) (by omega) (by omega) (by omega)]
      simp only [Option.bind_some]
      rw [if_pos (Or.inr trivial)]
      exact ⟨_, _, _, _, _, _, _, rfl, cpA_rL h3⟩
  · rw [if_neg (by rw [e200]; exact h1), if_neg h1]
    have e100 : (ii y < (100 : Int32)) = (y < 100) := by rw [k_100, ii_lt (by omega) (by omega)]
    by_cases h2 : 100 ≤ y
    · rw [if_neg (by rw [e100]; omega), if_pos h2, k_100, ii_sub h2]
      by_cases h3 : y - 100 < L.length
      · rw [if_pos h3, row_out (by omega) (by omega) (by omega) h3]
        simp only [Option.bind_some]
        rw [if_neg (by rw [ii_le (by omega) (by omega)]; omega), if_pos (Or.inr trivial)]
        have hlen : (L.take (y - 100) ++ L.drop (y - 100 + 1)).length = L.length - 1 := by
          rw [List.length_append, List.length_take, List.length_drop]
          omega
        refine ⟨shA a (y - 100) L.length, ps, pt, z, fo, co, w, ?_, ?_⟩
        · simp only [hlen]
          rfl
        · have e9 := take_split h3
          have hA : (L.take (y - 100)).length = y - 100 := by rw [List.length_take]; omega
          have := shA_rL (a := a) (A := L.take (y - 100)) (B := L.drop (y - 100 + 1)) (t := L.getD (y - 100) 0) (by rw [← e9]; exact ha)
          rw [hA, ← e9] at this
          exact this
      · rw [if_neg h3]
        unfold fX7_takeOut bX7_takeOut_L12
        rw [if_neg (by rw [ii_nneg (by omega)]; exact id), if_neg (by rw [ii_lt (by omega) (by omega)]; exact h3)]
        simp only [Option.bind_some]
        rw [if_pos (Int32.le_refl _), if_pos (Or.inl trivial)]
        exact ⟨_, _, _, _, _, _, _, rfl, ha⟩
    · have hy3 : y < 2 * n := by
        rcases hy with hy | hy | hy <;> omega
      rw [if_pos (by rw [e100]; omega), if_neg h2]
      obtain ⟨e1, e2⟩ := followTie_X (F := F) (rp := rp) hF hn.1 hl hrp hτ htk hL ha hln hy3
      by_cases h3 : L.length < ln ∧ usd τ 0 L + τ L.length y ≤ rp
      · obtain ⟨a', e3, h4⟩ := e1 h3
        rw [if_pos h3, e3]
        simp only [Option.bind_some]
        rw [if_pos (Or.inr trivial)]
        exact ⟨_, _, _, _, _, _, _, rfl, h4⟩
      · rw [if_neg h3, e2 h3]
        simp only [Option.bind_some]
        rw [if_pos (Or.inl trivial)]
        exact ⟨_, _, _, _, _, _, _, rfl, ha⟩
noncomputable def jdY (mk rd : Nat → Nat) (τ : Nat → Nat → Nat) (ln rp : Nat) : Nat → List Nat → List Nat → Int → Int → List Nat × Int × Int
  | _, [], L, bad, fst => (L, bad, fst)
  | k, y :: ys, L, bad, fst => jdY mk rd τ ln rp (k + 1) ys (stY mk rd τ ln rp L y).1 (if (stY mk rd τ ln rp L y).2 = 0 ∧ bad < 0 then (k : Int) else bad) (if fst < 0 ∧ 0 < (stY mk rd τ ln rp L y).1.length ∧ (psL mk rd [] (stY mk rd τ ln rp L y).1).length = 0 then (k : Int) else fst)
theorem jdY_cons (mk rd : Nat → Nat) (τ : Nat → Nat → Nat) (ln rp k y : Nat) (ys L : List Nat) (bad fst : Int) : jdY mk rd τ ln rp k (y :: ys) L bad fst = jdY mk rd τ ln rp (k + 1) ys (stY mk rd τ ln rp L y).1 (if (stY mk rd τ ln rp L y).2 = 0 ∧ bad < 0 then (k : Int) else bad) (if fst < 0 ∧ 0 < (stY mk rd τ ln rp L y).1.length ∧ (psL mk rd [] (stY mk rd τ ln rp L y).1).length = 0 then (k : Int) else fst) := rfl
theorem judge_L {F n ln rp : Nat} {mk rd : Nat → Nat} {st ro : Nat → Int32} (hn : okN n mk rd) (hr : okR rd) (hx : netX n mk rd st ro) (hF : 1000 ≤ F) (hl : ln ≤ 24) (hrp : rp ≤ 999) {τ : Nat → Nat → Nat} (hτ : ∀ p t, τ p t ≤ 99) {tk : Nat → Int32} (htk : tkX n ln τ tk) {Y : List Nat} {yt : Nat → Int32} (hY : ∀ y ∈ Y, okY n y) (hyt : rL yt Y) (h40 : Y.length ≤ 40) :
    ∀ (t k : Nat) (L : List Nat) (bad fst : Int) (a : Nat → Int32) (ps : Int32) (pt : Nat → Int32) (z : Int32) (fo co w an : Nat → Int32), k ≤ Y.length → Y.length < k + t → okL n L → rL a L → L.length ≤ ln → -1 ≤ bad → bad ≤ 40 → -1 ≤ fst → fst ≤ 40 → an 0 = iz bad → an 1 = iz fst → ∃ a0 a' ps' pt' z' fo' co' w' an', fX10_judge_L23 F 24 24 24 24 24 3 (ii n) (ii ln) (ii rp) 6 st 6 ro 288 tk (ii Y.length) 40 yt t (ii k) (ii L.length) a ps pt z fo co w an = some (a0, a', ps', pt', z', fo', co', w', an') ∧ an' 0 = iz (jdY mk rd τ ln rp k (Y.drop k) L bad fst).2.1 ∧ an' 1 = iz (jdY mk rd τ ln rp k (Y.drop k) L bad fst).2.2 ∧ an' 2 = ii (frm mk rd (jdY mk rd τ ln rp k (Y.drop k) L bad fst).1).length := by
  intro t
  induction t with
  | zero => intro k L bad fst a ps pt z fo co w an h1 h2; omega
  | succ t ih =>
    intro k L bad fst a ps pt z fo co w an h1 h2 hL ha hln b1 b2 f1 f2 n0 n1
    rw [sX10_judge_L23]
    unfold bX10_judge_L23 bX10_judge_L66 bX10_judge_L115
    by_cases h : Y.length ≤ k
    · rw [if_pos (by rw [ii_le (by omega) (by omega)]; exact h), List.drop_of_length_le h]
      obtain ⟨z', fo', co', w', pt', e1, h3⟩ := layForm24 (F := F) hn hr hx hF hL ha (by omega) (frm_FM mk rd L) z fo co w ps pt
      rw [e1]
      simp only [Option.bind_some]
      rw [if_neg (by decide)]
      refine ⟨_, _, _, _, _, _, _, _, _, rfl, ?_, ?_, ?_⟩
      · rw [upd_ne _ _ (by decide)]
        exact n0
      · rw [upd_ne _ _ (by decide)]
        exact n1
      · exact upd_same _ _ _
    · have hk : k < Y.length := by omega
      have hy := hY _ (rL_mem (a := yt) hk)
      rw [if_neg (by rw [ii_le (by omega) (by omega)]; exact h), if_neg (nidx (by omega) (by omega)), ii_nat (show k < 2147483648 by omega), hyt k hk, drop_cons hk]
      generalize Y.getD k 0 = y at hy
      obtain ⟨a', ps', pt', z', fo', co', w', e1, h3⟩ := follow_X (F := F) hn hr hx hF hl hrp hτ htk hL ha hln hy ps pt z fo co w
      obtain ⟨g1, g2, g3⟩ := stY_ok (τ := τ) (rp := rp) hn hr hl hL hln hy
      rw [e1]
      simp only [Option.bind_some]
      have e0 : (0 : Int32).toNatClampNeg = 0 := by decide
      have e0' : (1 : Int32).toNatClampNeg = 1 := by decide
      rw [jdY_cons]
      generalize (stY mk rd τ ln rp L y).1 = L2 at g1 g2 h3
      generalize (stY mk rd τ ln rp L y).2 = dn at g3
      obtain ⟨fo2, co2, e2, h4⟩ := lay_eq (F := F) (N := 24) hn hx (by omega) (by omega) g1 h3 (show L2.length ≤ 24 by omega) (by omega) (by omega) (by omega) (by omega) z' fo' co'
      have hpl := psL_len (mk := mk) (rd := rd) (L := L2) (Q := [])
      simp only [List.length_nil] at hpl
      rw [e2]
      simp only [Option.bind_some]
      have ek : ii k = iz (k : Int) := ii_iz k
      have eL : (ii L2.length ≤ (0 : Int32)) = (L2.length = 0) := by
        rw [k_0, ii_le (by omega) (by omega)]
        apply propext
        omega
      have eQ := len0 (k := (psL mk rd [] L2).length) (by omega)
      have ed : (ii dn = 0) = (dn = 0) := len0 (by omega)
      have second : ∀ (bad2 : Int) (an2 : Nat → Int32), -1 ≤ bad2 → bad2 ≤ 40 → an2 0 = iz bad2 → an2 1 = iz fst → ∃ a0 a9 ps9 pt9 z9 fo9 co9 w9 an9, (if ii L2.length ≤ (0 : Int32) then fX10_judge_L23 F 24 24 24 24 24 3 (ii n) (ii ln) (ii rp) 6 st 6 ro 288 tk (ii Y.length) 40 yt t (ii k + 1) (ii L2.length) a' ps' pt' (ii (psL mk rd [] L2).length) fo2 co2 w' an2 else (if ii (psL mk rd [] L2).length = 0 then (if (1 : Int32) < 0 ∨ 3 ≤ (1 : Int32).toNatClampNeg then none else (if an2 ((1 : Int32)).toNatClampNeg = (-1 : Int32) then (if (1 : Int32) < 0 ∨ 3 ≤ (1 : Int32).toNatClampNeg then none else fX10_judge_L23 F 24 24 24 24 24 3 (ii n) (ii ln) (ii rp) 6 st 6 ro 288 tk (ii Y.length) 40 yt t (ii k + 1) (ii L2.length) a' ps' pt' (ii (psL mk rd [] L2).length) fo2 co2 w' (upd an2 (1 : Int32).toNatClampNeg (ii k))) else fX10_judge_L23 F 24 24 24 24 24 3 (ii n) (ii ln) (ii rp) 6 st 6 ro 288 tk (ii Y.length) 40 yt t (ii k + 1) (ii L2.length) a' ps' pt' (ii (psL mk rd [] L2).length) fo2 co2 w' an2)) else fX10_judge_L23 F 24 24 24 24 24 3 (ii n) (ii ln) (ii rp) 6 st 6 ro 288 tk (ii Y.length) 40 yt t (ii k + 1) (ii L2.length) a' ps' pt' (ii (psL mk rd [] L2).length) fo2 co2 w' an2)) = some (a0, a9, ps9, pt9, z9, fo9, co9, w9, an9) ∧ an9 0 = iz (jdY mk rd τ ln rp (k + 1) (Y.drop (k + 1)) L2 bad2 (if fst < 0 ∧ 0 < L2.length ∧ (psL mk rd [] L2).length = 0 then (k : Int) else fst)).2.1 ∧ an9 1 = iz (jdY mk rd τ ln rp (k + 1) (Y.drop (k + 1)) L2 bad2 (if fst < 0 ∧ 0 < L2.length ∧ (psL mk rd [] L2).length = 0 then (k : Int) else fst)).2.2 ∧ an9 2 = ii (frm mk rd (jdY mk rd τ ln rp (k + 1) (Y.drop (k + 1)) L2 bad2 (if fst < 0 ∧ 0 < L2.length ∧ (psL mk rd [] L2).length = 0 then (k : Int) else fst)).1).length := by
        intro bad2 an2 c1 c2 m0 m1
        have e1k : ii k + (1 : Int32) = ii (k + 1) := by rw [k_1, ii_add]
        rw [e1k, e0', m1]
        have efs : (iz fst = (-1 : Int32)) = (fst = -1) := by rw [kz_m1, iz_inj (by omega) (by omega) (by omega) (by omega)]
        by_cases q1 : L2.length = 0
        · rw [if_pos (by rw [eL]; exact q1), if_neg (by omega)]
          exact ih (k + 1) L2 bad2 fst a' ps' pt' _ fo2 co2 w' an2 (by omega) (by omega) g1 h3 g2 c1 c2 f1 f2 m0 m1
        · rw [if_neg (by rw [eL]; exact q1)]
          by_cases q2 : (psL mk rd [] L2).length = 0
          · rw [if_pos (by rw [eQ]; exact q2), if_neg (by decide)]
            by_cases q3 : fst = -1
            · rw [if_pos (by rw [efs]; exact q3), if_neg (by decide), if_pos (by omega)]
              exact ih (k + 1) L2 bad2 k a' ps' pt' _ fo2 co2 w' _ (by omega) (by omega) g1 h3 g2 c1 c2 (by omega) (by omega) (by rw [upd_ne _ _ (by decide)]; exact m0) (by rw [upd_same]; exact ek)
            · rw [if_neg (by rw [efs]; exact q3), if_neg (by omega)]
              exact ih (k + 1) L2 bad2 fst a' ps' pt' _ fo2 co2 w' an2 (by omega) (by omega) g1 h3 g2 c1 c2 f1 f2 m0 m1
          · rw [if_neg (by rw [eQ]; exact q2), if_neg (by omega)]
            exact ih (k + 1) L2 bad2 fst a' ps' pt' _ fo2 co2 w' an2 (by omega) (by omega) g1 h3 g2 c1 c2 f1 f2 m0 m1
      rw [e0, n0]
      have ebd : (iz bad = (-1 : Int32)) = (bad = -1) := by rw [kz_m1, iz_inj (by omega) (by omega) (by omega) (by omega)]
      by_cases q1 : dn = 0
      · rw [if_pos (by rw [ed]; exact q1), if_neg (by decide)]
        by_cases q2 : bad = -1
        · rw [if_pos (by rw [ebd]; exact q2), if_neg (by decide), if_pos (show dn = 0 ∧ bad < 0 by omega)]
          exact second k _ (by omega) (by omega) (by rw [upd_same]; exact ek) (by rw [upd_ne _ _ (by decide)]; exact n1)
        · rw [if_neg (by rw [ebd]; exact q2), if_neg (show ¬ (dn = 0 ∧ bad < 0) by omega)]
          exact second bad an b1 b2 n0 n1
      · rw [if_neg (by rw [ed]; exact q1), if_neg (show ¬ (dn = 0 ∧ bad < 0) by omega)]
        exact second bad an b1 b2 n0 n1
noncomputable def jdA (mk rd : Nat → Nat) (τ : Nat → Nat → Nat) (ln rp : Nat) (Y : List Nat) (w : Int32) : Int32 := if w < 0 then -2 else if (2 : Int32) < w then -2 else if w = 0 then iz (jdY mk rd τ ln rp 0 Y [] (-1) (-1)).2.1 else if w = 1 then iz (jdY mk rd τ ln rp 0 Y [] (-1) (-1)).2.2 else ii (frm mk rd (jdY mk rd τ ln rp 0 Y [] (-1) (-1)).1).length
theorem w012 {w : Int32} (h1 : ¬ w < 0) (h2 : w ≤ (2 : Int32)) : w = 0 ∨ w = 1 ∨ w = 2 := by
  obtain ⟨e6, e7⟩ := i_nat h1
  rw [e6, k_2, ii_le (by omega) (by omega)] at h2
  have : w.toNatClampNeg = 0 ∨ w.toNatClampNeg = 1 ∨ w.toNatClampNeg = 2 := by omega
  rcases this with h | h | h
  · left; rw [e6, h]; rfl
  · right; left; rw [e6, h]; rfl
  · right; right; rw [e6, h]; rfl
theorem answer_eq {F : Nat} {w : Int32} (h1 : ¬ w < 0) (h2 : w ≤ (2 : Int32)) (an : Nat → Int32) : fX10_answer F 3 an w = some (if w = 0 then an 0 else if w = 1 then an 1 else an 2) := by
  unfold fX10_answer bX10_answer_L23
  rcases w012 h1 h2 with rfl | rfl | rfl
  · rfl
  · rfl
  · rfl
theorem judged_X {F n ln rp : Nat} {mk rd : Nat → Nat} {st ro : Nat → Int32} (hn : okN n mk rd) (hr : okR rd) (hx : netX n mk rd st ro) (hF : 1000 ≤ F) (hl : ln ≤ 24) (hrp : rp ≤ 999) {τ : Nat → Nat → Nat} (hτ : ∀ p t, τ p t ≤ 99) {tk : Nat → Int32} (htk : tkX n ln τ tk) {Y : List Nat} {yt : Nat → Int32} (hY : ∀ y ∈ Y, okY n y) (hyt : rL yt Y) (h40 : Y.length ≤ 40) (wh : Int32) (rz : Int32) (a : Nat → Int32) (ps : Int32) (pt : Nat → Int32) (z : Int32) (fo co w an : Nat → Int32) :
    ∃ a0 a' ps' pt' z' fo' co' w' an', fX11_judged F (ii n) (ii ln) (ii rp) 6 st 6 ro 288 tk (ii Y.length) 40 yt 24 24 24 24 24 3 wh rz a ps pt z fo co w an = some (jdA mk rd τ ln rp Y wh, a0, a', ps', pt', z', fo', co', w', an') := by
  unfold fX11_judged bX11_judged_L9 jdA
  by_cases h1 : wh < 0
  · rw [if_pos h1, if_pos h1]
    exact ⟨_, _, _, _, _, _, _, _, _, rfl⟩
  · rw [if_neg h1, if_neg h1]
    by_cases h2 : wh ≤ (2 : Int32)
    · rw [if_pos h2, if_neg (Int32.not_lt.mpr h2)]
      unfold fX10_judge fX7_clear
      simp only [Option.bind_some]
      rw [if_neg (by decide), if_neg (by decide)]
      obtain ⟨a0, a', ps', pt', z', fo', co', w', an', e1, m0, m1, m2⟩ := judge_L (F := F) hn hr hx hF hl hrp hτ htk hY hyt h40 F 0 [] (-1) (-1) a ps pt z fo co w (upd (upd an 0 (-1)) 1 (-1)) (by omega) (by omega) (fun t ht => by cases ht) (fun k hk => absurd hk (by simp)) (by simp) (by omega) (by omega) (by omega) (by omega) (by rw [upd_ne _ _ (by decide), upd_same]; rfl) (by rw [upd_same]; rfl)
      have e2 : fX10_judge_L23 F 24 24 24 24 24 3 (ii n) (ii ln) (ii rp) 6 st 6 ro 288 tk (ii Y.length) 40 yt F (0 : Int32) (0 : Int32) a ps pt z fo co w (upd (upd an (0 : Int32).toNatClampNeg (-1)) (1 : Int32).toNatClampNeg (-1)) = some (a0, a', ps', pt', z', fo', co', w', an') := e1
      rw [e2]
      simp only [Option.bind_some]
      rw [answer_eq h1 h2, m0, m1, m2]
      exact ⟨_, _, _, _, _, _, _, _, _, rfl⟩
    · rw [if_neg h2, if_pos (Int32.not_le.mp h2)]
      exact ⟨_, _, _, _, _, _, _, _, _, rfl⟩
