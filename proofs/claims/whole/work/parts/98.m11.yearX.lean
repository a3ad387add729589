/-! PURE: year and other of the class; the reference's pieces -/
theorem tpX_0 {T : List Nat} (hT : okT T) {tk sta : Nat → Int32} {vl : Nat → Int64} (h : rTk tk sta vl (tlT T 0)) : tpX T (tlT T 0) (tlT T 0) (ii T.length) (ii (tlT T 0).length) 0 tk sta vl := by
  have hT1 := hT.1
  have hl : (tlT T 0).length ≤ 1001 := by
    rcases tl_len (T := T) (T.length + 1) 0 (by omega) with h | h <;> omega
  exact ⟨rfl, rfl, h, ⟨[], rfl, rfl⟩, tlT_ne T (T.length + 1) 0 (by omega), hl, hT1, tl_ok (T.length + 1) 0 (by omega)⟩
theorem year_X {F : Nat} (hF : 2000 ≤ F) {NM : List (List Nat)} (h6 : NM.length ≤ 6) (hok : okNM NM) {nm : Nat → Int64} (hnm : nmX NM nm) {T : List Nat} (hT : okT T) {sg9 : Nat → Int32} (hsg : rL sg9 T) (cn he fa : Int32) (tk sta : Nat → Int32) (vl : Nat → Int64) (hs : Int32) (ht : Nat → Int32) (ys : Int32) (yt : Nat → Int32) :
    (∀ e, ysS NM 40 1 41 [] (tlT T 0) = .inl e → ∃ cn' he' fa' tk' sta' vl' hs' ht', fX11_year F 1000 sg9 1001 1001 1001 (ii NM.length) 6 nm 40 40 (ii T.length) cn he fa tk sta vl hs ht ys yt = some (ii e, 0, cn', he', fa', tk', sta', vl', hs', ht', ys, yt)) ∧ (∀ Y, ysS NM 40 1 41 [] (tlT T 0) = .inr Y → ∃ cn' he' fa' tk' sta' vl' hs' ht' yt', fX11_year F 1000 sg9 1001 1001 1001 (ii NM.length) 6 nm 40 40 (ii T.length) cn he fa tk sta vl hs ht ys yt = some (0, 0, cn', he', fa', tk', sta', vl', hs', ht', ii Y.length, yt') ∧ rL yt' Y ∧ Y.length ≤ 40) := by
  obtain ⟨tk', sta', vl', e1, h1⟩ := begin_X hF hT hsg cn he fa tk sta vl
  have htp := tpX_0 hT h1
  obtain ⟨r1, r2⟩ := readLines_L (F := F) (most := 40) (bh := 1) (fa := 0) (by omega) (by omega) (by omega) h6 hok hnm 40 F [] (tlT T 0) 0 ht (by simp) (by omega) htp (fun k hk => absurd hk (by simp))
  unfold fX11_year fX2_readLines fX7_clear bX11_year_L44 fX9_finish bX9_finish_L17
  rw [e1, Option.bind_some]
  dsimp only
  rw [Option.bind_some]
  refine ⟨fun e he9 => ?_, fun Y hY => ?_⟩
  · obtain ⟨he', z, ht', e2⟩ := r1 e he9
    have e2' : fX2_readLines_L7 F (ii NM.length) 6 nm (ii T.length) (ii (tlT T 0).length) 1001 tk' 1001 sta' 1001 vl' 40 F (40 : Int32) (1 : Int32) (0 : Int32) (0 : Int32) (0 : Int32) (0 : Int32) ht = some (0, he', ii e, z, ht') := e2
    rw [e2', Option.bind_some]
    dsimp only
    rw [if_pos rfl, if_pos rfl]
    exact ⟨_, _, _, _, _, _, _, _, rfl⟩
  · obtain ⟨he', ht', e2, h2, h3⟩ := r2 Y hY
    have e2' : fX2_readLines_L7 F (ii NM.length) 6 nm (ii T.length) (ii (tlT T 0).length) 1001 tk' 1001 sta' 1001 vl' 40 F (40 : Int32) (1 : Int32) (0 : Int32) (0 : Int32) (0 : Int32) (0 : Int32) ht = some (1, he', 0, ii Y.length, ht') := e2
    rw [e2', Option.bind_some]
    dsimp only
    rw [if_neg (by decide), row_copy2 h3 h3 (by omega) (by omega), Option.bind_some, if_neg (by decide)]
    exact ⟨_, _, _, _, _, _, _, _, _, rfl, cpA_rL h2, h3⟩
theorem other_X {F : Nat} (hF : 2000 ≤ F) {NM : List (List Nat)} (h6 : NM.length ≤ 6) (hok : okNM NM) {nm : Nat → Int64} (hnm : nmX NM nm) {T : List Nat} (hT : okT T) {sg9 : Nat → Int32} (hsg : rL sg9 T) (cn he fa : Int32) (tk sta : Nat → Int32) (vl : Nat → Int64) (hs : Int32) (ht : Nat → Int32) (ys : Int32) (yt : Nat → Int32) :
    (∀ e, ysS NM 24 0 25 [] (tlT T 0) = .inl e → ∃ cn' he' fa' tk' sta' vl' hs' ht', fX11_other F 1000 sg9 1001 1001 1001 (ii NM.length) 6 nm 40 24 (ii T.length) cn he fa tk sta vl hs ht ys yt = some (ii e, 0, cn', he', fa', tk', sta', vl', hs', ht', ys, yt)) ∧ (∀ Y, ysS NM 24 0 25 [] (tlT T 0) = .inr Y → ∃ cn' he' fa' tk' sta' vl' hs' ht' yt', fX11_other F 1000 sg9 1001 1001 1001 (ii NM.length) 6 nm 40 24 (ii T.length) cn he fa tk sta vl hs ht ys yt = some (0, 0, cn', he', fa', tk', sta', vl', hs', ht', ii Y.length, yt') ∧ rL yt' Y ∧ Y.length ≤ 24) := by
  obtain ⟨tk', sta', vl', e1, h1⟩ := begin_X hF hT hsg cn he fa tk sta vl
  have htp := tpX_0 hT h1
  obtain ⟨r1, r2⟩ := readLines_L (F := F) (most := 24) (bh := 0) (fa := 0) (by omega) (by omega) (by omega) h6 hok hnm 24 F [] (tlT T 0) 0 ht (by simp) (by omega) htp (fun k hk => absurd hk (by simp))
  unfold fX11_other fX2_readLines fX7_clear bX11_other_L44 fX9_finish bX9_finish_L17
  rw [e1, Option.bind_some]
  dsimp only
  rw [Option.bind_some]
  refine ⟨fun e he9 => ?_, fun Y hY => ?_⟩
  · obtain ⟨he', z, ht', e2⟩ := r1 e he9
    have e2' : fX2_readLines_L7 F (ii NM.length) 6 nm (ii T.length) (ii (tlT T 0).length) 1001 tk' 1001 sta' 1001 vl' 40 F (24 : Int32) (0 : Int32) (0 : Int32) (0 : Int32) (0 : Int32) (0 : Int32) ht = some (0, he', ii e, z, ht') := e2
    rw [e2', Option.bind_some]
    dsimp only
    rw [if_pos rfl, if_pos rfl]
    exact ⟨_, _, _, _, _, _, _, _, rfl⟩
  · obtain ⟨he', ht', e2, h2, h3⟩ := r2 Y hY
    have e2' : fX2_readLines_L7 F (ii NM.length) 6 nm (ii T.length) (ii (tlT T 0).length) 1001 tk' 1001 sta' 1001 vl' 40 F (24 : Int32) (0 : Int32) (0 : Int32) (0 : Int32) (0 : Int32) (0 : Int32) ht = some (1, he', 0, ii Y.length, ht') := e2
    rw [e2', Option.bind_some]
    dsimp only
    rw [if_neg (by decide), row_copy2 h3 (by omega) (by omega) (by omega), Option.bind_some, if_neg (by decide)]
    exact ⟨_, _, _, _, _, _, _, _, _, rfl, cpA_rL h2, h3⟩
theorem closes_M1 {F : Nat} (hF : 2000 ≤ F) {T : List Nat} (hT : okT T) {tp : Nat → Int32} (ht : rL tp T) {R : List Tk} {pl bg tkn : Int32} {wd : Int64} {td : Int32} (h : nsM T R pl bg tkn wd td) (wr : Int32) (hk : kR R = 59) : ∃ pl' bg' tkn' wd' td', fX12_closes F (ii T.length) 1000 tp pl bg tkn wd td wr = some (1, pl', bg', tkn', wd', td', wr) ∧ nsM T (stp R) pl' bg' tkn' wd' td' := by
  obtain ⟨pl', bg', tkn', wd', td', e1, h1⟩ := nextToken_M hF hT ht h
  unfold fX12_closes
  rw [k_59, isSignM (by omega) (by omega) hT ht h, Option.bind_some, if_pos hk, if_neg (by decide), e1, Option.bind_some]
  exact ⟨_, _, _, _, _, rfl, h1⟩
theorem closes_M0 {F : Nat} {T : List Nat} (hT : okT T) {tp : Nat → Int32} (ht : rL tp T) {R : List Tk} {pl bg tkn : Int32} {wd : Int64} {td : Int32} (h : nsM T R pl bg tkn wd td) (wr : Int32) (hk : kR R ≠ 59) : fX12_closes F (ii T.length) 1000 tp pl bg tkn wd td wr = some (0, pl, bg, tkn, wd, td, ii (1 + 16 * sR R)) := by
  unfold fX12_closes
  rw [k_59, isSignM (by omega) (by omega) hT ht h, Option.bind_some, if_neg hk, if_pos rfl, k_1, failsM h, Option.bind_some, if_pos (Or.inl rfl)]
theorem readsTie_M {F f : Nat} (hF : 2000 ≤ F) {T : List Nat} (hT : okT T) {tp : Nat → Int32} (ht : rL tp T) {R : List Tk} {pl bg tkn : Int32} {wd : Int64} {td : Int32} (h : nsM T R pl bg tkn wd td) (wr : Int32) : (kR (stp R) = 5 → ∃ pl' bg' tkn' wd' td', fX12_readsTie F (ii T.length) 1000 tp pl bg tkn wd td wr (ii f) = some (1, pl', bg', tkn', wd', td', wr, ii (2 * f)) ∧ nsM T (stp (stp R)) pl' bg' tkn' wd' td') ∧ (kR (stp R) = 6 → ∃ pl' bg' tkn' wd' td', fX12_readsTie F (ii T.length) 1000 tp pl bg tkn wd td wr (ii f) = some (1, pl', bg', tkn', wd', td', wr, ii (2 * f + 1)) ∧ nsM T (stp (stp R)) pl' bg' tkn' wd' td') ∧ (kR (stp R) ≠ 5 → kR (stp R) ≠ 6 → ∃ pl' bg' tkn' wd' td', fX12_readsTie F (ii T.length) 1000 tp pl bg tkn wd td wr (ii f) = some (0, pl', bg', tkn', wd', td', ii (1 + 16 * sR (stp R)), ii f)) := by
  obtain ⟨p1, b1, t1, w1, d1, e1, h1⟩ := nextToken_M hF hT ht h
  obtain ⟨p2, b2, t2, w2, d2, e2, h2⟩ := nextToken_M hF hT ht h1
  unfold fX12_readsTie bX12_readsTie_L37 bX12_readsTie_L54
  rw [e1, Option.bind_some]
  dsimp only
  rw [isWordM (k := 5) (c := (311436 : Int64)) (by omega) rfl h1, Option.bind_some, isWordM (k := 6) (c := (11438892 : Int64)) (by omega) rfl h1, Option.bind_some, e2, Option.bind_some]
  refine ⟨fun hk => ?_, fun hk => ?_, fun hk hk2 => ?_⟩
  · have ey : (2 : Int32) * ii f + (0 : Int32) = ii (2 * f) := by rw [k_2, ii_mul, k_0, ii_add]; rfl
    rw [if_pos hk, if_neg (by decide), if_neg (by decide), ey]
    exact ⟨_, _, _, _, _, rfl, h2⟩
  · have ey : (2 : Int32) * ii f + (1 : Int32) = ii (2 * f + 1) := by rw [k_2, ii_mul, k_1, ii_add]
    rw [if_neg (show ¬ kR (stp R) = 5 by omega), if_pos rfl, if_pos hk, if_neg (by decide), if_pos rfl, ey]
    exact ⟨_, _, _, _, _, rfl, h2⟩
  · rw [if_neg hk, if_pos rfl, if_neg hk2, if_pos rfl, k_1, failsM h1, Option.bind_some, if_pos (Or.inl rfl)]
    exact ⟨_, _, _, _, _, rfl⟩
theorem needsNumber_M {F lo hi : Nat} (hF : 2000 ≤ F) (hlo : lo < 2000) (hhi : hi < 2000) {T : List Nat} (hT : okT T) {tp : Nat → Int32} (ht : rL tp T) {R : List Tk} {pl bg tkn : Int32} {wd : Int64} {td : Int32} (h : nsM T R pl bg tkn wd td) (wr gv : Int32) : (kR R = 21 → lo ≤ dv (wR R) ∧ dv (wR R) ≤ hi → ∃ pl' bg' tkn' wd' td', fX12_needsNumber F (ii T.length) 1000 tp (ii lo) (ii hi) pl bg tkn wd td wr gv = some (1, pl', bg', tkn', wd', td', wr, ii (dv (wR R))) ∧ nsM T (stp R) pl' bg' tkn' wd' td') ∧ (kR R = 21 → ¬ (lo ≤ dv (wR R) ∧ dv (wR R) ≤ hi) → fX12_needsNumber F (ii T.length) 1000 tp (ii lo) (ii hi) pl bg tkn wd td wr gv = some (0, pl, bg, tkn, wd, td, ii (4 + 16 * sR R), gv)) ∧ (kR R ≠ 21 → fX12_needsNumber F (ii T.length) 1000 tp (ii lo) (ii hi) pl bg tkn wd td wr gv = some (0, pl, bg, tkn, wd, td, ii (1 + 16 * sR R), gv)) := by
  obtain ⟨p1, b1, t1, w1, d1, e1, h1⟩ := nextToken_M hF hT ht h
  obtain ⟨g1, g2, g3, g4, g5, g6⟩ := nsM_ne h
  obtain ⟨k1, k2, k3, k4⟩ := tMk_eq g6
  unfold fX12_needsNumber
  rw [within_eq, Option.bind_some, e1, Option.bind_some]
  refine ⟨fun hk hd => ?_, fun hk hd => ?_, fun hk => ?_⟩
  · have hsm : dv (wR R) < 10000 := by
      obtain ⟨q1, q2⟩ := g1.2.2.1 hk
      exact dv_small q1 q2
    rw [if_pos (show tkn = (2 : Int32) by rw [g3, k2]; exact hk), g5 hk]
    have hno : ¬ (ii (dv (wR R)) < ii lo ∨ ii hi < ii (dv (wR R))) := by
      rw [ii_lt (by omega) (by omega), ii_lt (by omega) (by omega)]
      omega
    rw [if_neg hno, if_neg (by decide)]
    exact ⟨_, _, _, _, _, rfl, h1⟩
  · have hsm : dv (wR R) < 10000 := by
      obtain ⟨q1, q2⟩ := g1.2.2.1 hk
      exact dv_small q1 q2
    rw [if_pos (show tkn = (2 : Int32) by rw [g3, k2]; exact hk), g5 hk]
    have hno : ii (dv (wR R)) < ii lo ∨ ii hi < ii (dv (wR R)) := by
      rw [ii_lt (by omega) (by omega), ii_lt (by omega) (by omega)]
      omega
    rw [if_pos hno, if_pos rfl, k_4, failsM h, Option.bind_some, if_pos (Or.inl rfl)]
  · rw [if_neg (show ¬ tkn = (2 : Int32) by rw [g3, k2]; exact hk), k_1, failsM h, Option.bind_some, if_pos (Or.inl rfl)]
