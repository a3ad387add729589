/-! PURE: the clauses line and rope, on both sides -/
def nmS (lo hi : Nat) (R : List Tk) : Nat ⊕ (Nat × List Tk) := if kR R = 21 then (if lo ≤ dv (wR R) ∧ dv (wR R) ≤ hi then clS (dv (wR R)) (stp R) else .inl (4 + 16 * sR R)) else .inl (1 + 16 * sR R)
def onS (told : Bool) (lo hi : Nat) (R : List Tk) : Nat ⊕ (Nat × List Tk) := if told = true then .inl (3 + 16 * sR R) else nmS lo hi (stp R)
theorem readNumber_X {F lo hi : Nat} (hlo : lo < 2000) (hhi : hi < 2000) {T : List Nat} {TK R : List Tk} {psz cn he : Int32} {tk sta : Nat → Int32} {vl : Nat → Int64} (h : tpX T TK R psz cn he tk sta vl) (fa : Int32) : (kR R = 21 → lo ≤ dv (wR R) ∧ dv (wR R) ≤ hi → ∃ he', fX2_readNumber F psz cn 1001 tk 1001 sta 1001 vl (ii lo) (ii hi) he fa = some (ii (dv (wR R)), he', fa) ∧ tpX T TK (stp R) psz cn he' tk sta vl) ∧ (kR R = 21 → ¬ (lo ≤ dv (wR R) ∧ dv (wR R) ≤ hi) → fX2_readNumber F psz cn 1001 tk 1001 sta 1001 vl (ii lo) (ii hi) he fa = some (-1, he, ii (4 + 16 * sR R))) ∧ (kR R ≠ 21 → fX2_readNumber F psz cn 1001 tk 1001 sta 1001 vl (ii lo) (ii hi) he fa = some (-1, he, ii (1 + 16 * sR R))) := by
  obtain ⟨t1, t2, t3⟩ := tpX_k h
  obtain ⟨he1, es, hs1⟩ := step_X (F := F) h
  have e21 : (ii (kR R) = (21 : Int32)) = (kR R = 21) := ii_inj (b := 21) (by omega) (by omega)
  unfold fX2_readNumber bX2_readNumber_L33
  rw [tokX h, Option.bind_some]
  refine ⟨fun hk hd => ?_, fun hk hd => ?_, fun hk => ?_⟩
  · have hc := tpX_c h
    rw [hk] at hc
    obtain ⟨n1, n2⟩ := number_X (F := F) hc
    rw [if_pos (show ii (kR R) = (21 : Int32) by rw [e21]; exact hk), n1, Option.bind_some, if_neg (show ¬ ii (dv (wR R)) < ii lo by rw [ii_lt (by omega) (by omega)]; omega), Option.bind_some, if_pos (show ii (dv (wR R)) ≤ ii hi by rw [ii_le (by omega) (by omega)]; omega), Option.bind_some, es, Option.bind_some]
    exact ⟨_, rfl, hs1⟩
  · have hc := tpX_c h
    rw [hk] at hc
    obtain ⟨n1, n2⟩ := number_X (F := F) hc
    rw [if_pos (show ii (kR R) = (21 : Int32) by rw [e21]; exact hk), n1, Option.bind_some, show fX9_wrong F psz cn he 1001 sta (4 : Int32) fa = _ from wrongX (k := 4) h fa, Option.bind_some, Option.bind_some]
    by_cases hl : dv (wR R) < lo
    · rw [if_pos (show ii (dv (wR R)) < ii lo by rw [ii_lt (by omega) (by omega)]; exact hl)]
    · rw [if_neg (show ¬ ii (dv (wR R)) < ii lo by rw [ii_lt (by omega) (by omega)]; exact hl), if_neg (show ¬ ii (dv (wR R)) ≤ ii hi by rw [ii_le (by omega) (by omega)]; omega)]
  · rw [if_neg (show ¬ ii (kR R) = (21 : Int32) by rw [e21]; exact hk), show fX9_wrong F psz cn he 1001 sta (1 : Int32) fa = _ from wrongX (k := 1) h fa, Option.bind_some]
def bI2 (b : Bool) : Int32 := if b = true then 1 else 0
theorem ii_ne_m1 {a : Nat} (h : a < 1000000) : ¬ ii a = (-1 : Int32) := by
  rw [kz_m1, ii_iz, iz_inj (by omega) (by omega) (by omega) (by omega)]
  omega
theorem readLine_X {F : Nat} {T : List Nat} {TK R : List Tk} {psz cn he : Int32} {tk sta : Nat → Int32} {vl : Nat → Int64} (h : tpX T TK R psz cn he tk sta vl) (told : Bool) (lz fa : Int32) :
    (∀ e, onS told 1 24 R = .inl e → ∃ l' t' he', fX2_readLine F psz cn 1001 tk 1001 sta 1001 vl lz (bI2 told) he fa = some (0, l', t', he', ii e)) ∧ (∀ p, onS told 1 24 R = .inr p → ∃ he', fX2_readLine F psz cn 1001 tk 1001 sta 1001 vl lz (bI2 told) he fa = some (1, ii p.1, 1, he', fa) ∧ tpX T TK p.2 psz cn he' tk sta vl ∧ 1 ≤ p.1 ∧ p.1 ≤ 24 ∧ p.2 = stp (stp (stp R)) ∧ told = false) := by
  unfold fX2_readLine bX2_readLine_L53 bX2_readLine_L54 onS
  cases told with
  | true =>
    rw [if_pos rfl, if_neg (show ¬ bI2 true = 0 by decide), show fX9_wrong F psz cn he 1001 sta (3 : Int32) fa = _ from wrongX (k := 3) h fa, Option.bind_some]
    refine ⟨fun e he9 => ?_, fun p hp => (by cases hp)⟩
    cases he9
    exact ⟨_, _, _, if_pos (Or.inl rfl)⟩
  | false =>
    obtain ⟨he1, es, hs1⟩ := step_X (F := F) h
    obtain ⟨q1, q2, q3⟩ := readNumber_X (F := F) (lo := 1) (hi := 24) (by omega) (by omega) hs1 fa
    rw [if_neg (show ¬ false = true by decide), if_pos (show bI2 false = 0 from rfl), es, Option.bind_some]
    unfold nmS clS
    by_cases d1 : kR (stp R) = 21
    · rw [if_pos d1]
      by_cases d2 : 1 ≤ dv (wR (stp R)) ∧ dv (wR (stp R)) ≤ 24
      · obtain ⟨he2, e2, hs2⟩ := q1 d1 d2
        rw [if_pos d2, show fX2_readNumber F psz cn 1001 tk 1001 sta 1001 vl (1 : Int32) (24 : Int32) he1 fa = _ from e2, Option.bind_some]
        dsimp only
        rw [if_neg (ii_ne_m1 (by omega))]
        by_cases d3 : kR (stp (stp R)) = 59
        · obtain ⟨he3, e3, hs3⟩ := expectX1 (F := F) hs2 d3 fa
          rw [if_pos d3, show fX9_expect F psz cn 1001 tk 1001 sta (59 : Int32) he2 fa = _ from e3, Option.bind_some]
          refine ⟨fun e he9 => (by cases he9), fun p hp => ?_⟩
          cases hp
          dsimp only
          rw [if_neg (by decide), if_pos (Or.inr rfl)]
          exact ⟨_, rfl, hs3, d2.1, d2.2, rfl, rfl⟩
        · rw [if_neg d3, show fX9_expect F psz cn 1001 tk 1001 sta (59 : Int32) he2 fa = _ from expectX0 (by omega) hs2 d3 fa, Option.bind_some]
          refine ⟨fun e he9 => ?_, fun p hp => (by cases hp)⟩
          cases he9
          dsimp only
          rw [if_pos rfl, if_pos (Or.inl rfl)]
          exact ⟨_, _, _, rfl⟩
      · rw [if_neg d2, show fX2_readNumber F psz cn 1001 tk 1001 sta 1001 vl (1 : Int32) (24 : Int32) he1 fa = _ from q2 d1 d2, Option.bind_some]
        refine ⟨fun e he9 => ?_, fun p hp => (by cases hp)⟩
        cases he9
        dsimp only
        rw [if_pos rfl, if_pos (Or.inl rfl)]
        exact ⟨_, _, _, rfl⟩
    · rw [if_neg d1, show fX2_readNumber F psz cn 1001 tk 1001 sta 1001 vl (1 : Int32) (24 : Int32) he1 fa = _ from q3 d1, Option.bind_some]
      refine ⟨fun e he9 => ?_, fun p hp => (by cases hp)⟩
      cases he9
      dsimp only
      rw [if_pos rfl, if_pos (Or.inl rfl)]
      exact ⟨_, _, _, rfl⟩
theorem readRope_X {F : Nat} {T : List Nat} {TK R : List Tk} {psz cn he : Int32} {tk sta : Nat → Int32} {vl : Nat → Int64} (h : tpX T TK R psz cn he tk sta vl) (told : Bool) (lz fa : Int32) :
    (∀ e, onS told 0 999 R = .inl e → ∃ l' t' he', fX2_readRope F psz cn 1001 tk 1001 sta 1001 vl lz (bI2 told) he fa = some (0, l', t', he', ii e)) ∧ (∀ p, onS told 0 999 R = .inr p → ∃ he', fX2_readRope F psz cn 1001 tk 1001 sta 1001 vl lz (bI2 told) he fa = some (1, ii p.1, 1, he', fa) ∧ tpX T TK p.2 psz cn he' tk sta vl ∧ p.1 ≤ 999 ∧ p.2 = stp (stp (stp R)) ∧ told = false) := by
  unfold fX2_readRope bX2_readRope_L54 bX2_readRope_L55 onS
  cases told with
  | true =>
    rw [if_pos rfl, if_neg (show ¬ bI2 true = 0 by decide), show fX9_wrong F psz cn he 1001 sta (3 : Int32) fa = _ from wrongX (k := 3) h fa, Option.bind_some]
    refine ⟨fun e he9 => ?_, fun p hp => (by cases hp)⟩
    cases he9
    exact ⟨_, _, _, if_pos (Or.inl rfl)⟩
  | false =>
    obtain ⟨he1, es, hs1⟩ := step_X (F := F) h
    obtain ⟨q1, q2, q3⟩ := readNumber_X (F := F) (lo := 0) (hi := 999) (by omega) (by omega) hs1 fa
    rw [if_neg (show ¬ false = true by decide), if_pos (show bI2 false = 0 from rfl), es, Option.bind_some]
    unfold nmS clS
    by_cases d1 : kR (stp R) = 21
    · rw [if_pos d1]
      by_cases d2 : 0 ≤ dv (wR (stp R)) ∧ dv (wR (stp R)) ≤ 999
      · obtain ⟨he2, e2, hs2⟩ := q1 d1 d2
        rw [if_pos d2, show fX2_readNumber F psz cn 1001 tk 1001 sta 1001 vl (0 : Int32) (999 : Int32) he1 fa = _ from e2, Option.bind_some]
        dsimp only
        rw [if_neg (ii_ne_m1 (by omega))]
        by_cases d3 : kR (stp (stp R)) = 59
        · obtain ⟨he3, e3, hs3⟩ := expectX1 (F := F) hs2 d3 fa
          rw [if_pos d3, show fX9_expect F psz cn 1001 tk 1001 sta (59 : Int32) he2 fa = _ from e3, Option.bind_some]
          refine ⟨fun e he9 => (by cases he9), fun p hp => ?_⟩
          cases hp
          dsimp only
          rw [if_neg (by decide), if_pos (Or.inr rfl)]
          exact ⟨_, rfl, hs3, d2.2, rfl, rfl⟩
        · rw [if_neg d3, show fX9_expect F psz cn 1001 tk 1001 sta (59 : Int32) he2 fa = _ from expectX0 (by omega) hs2 d3 fa, Option.bind_some]
          refine ⟨fun e he9 => ?_, fun p hp => (by cases hp)⟩
          cases he9
          dsimp only
          rw [if_pos rfl, if_pos (Or.inl rfl)]
          exact ⟨_, _, _, rfl⟩
      · rw [if_neg d2, show fX2_readNumber F psz cn 1001 tk 1001 sta 1001 vl (0 : Int32) (999 : Int32) he1 fa = _ from q2 d1 d2, Option.bind_some]
        refine ⟨fun e he9 => ?_, fun p hp => (by cases hp)⟩
        cases he9
        dsimp only
        rw [if_pos rfl, if_pos (Or.inl rfl)]
        exact ⟨_, _, _, rfl⟩
    · rw [if_neg d1, show fX2_readNumber F psz cn 1001 tk 1001 sta 1001 vl (0 : Int32) (999 : Int32) he1 fa = _ from q3 d1, Option.bind_some]
      refine ⟨fun e he9 => ?_, fun p hp => (by cases hp)⟩
      cases he9
      dsimp only
      rw [if_pos rfl, if_pos (Or.inl rfl)]
      exact ⟨_, _, _, rfl⟩
/-- which lines the reference has been told -/
def tlZ (a b : Bool) : Int32 := (if a = true then 4 else 0) + (if b = true then 8 else 0)
theorem isTwice_M {F : Nat} : ∀ (a b : Bool), fX12_isTwice F (2 : Int32) (tlZ a b) = some (bI2 a, tlZ true b) ∧ fX12_isTwice F (3 : Int32) (tlZ a b) = some (bI2 b, tlZ a true) := by
  unfold fX12_isTwice
  decide +kernel
theorem readsOne_M {F w lo hi : Nat} (hF : 2000 ≤ F) (hw : w = 2 ∨ w = 3) (hlo : lo < 2000) (hhi : hi < 2000) {T : List Nat} (hT : okT T) {tp : Nat → Int32} (ht : rL tp T) {R : List Tk} {pl bg tkn : Int32} {wd : Int64} {td : Int32} (h : nsM T R pl bg tkn wd td) (told : Bool) {tz tz' : Int32} (htw : fX12_isTwice F (ii w) tz = some (bI2 told, tz')) (wr gv : Int32) (nt : Nat → Int32) :
    (∀ e, onS told lo hi R = .inl e → ∃ pl' bg' tkn' wd' td' tz9 gv' nt', fX12_readsOne F (ii T.length) 1000 tp 8 (ii w) (ii lo) (ii hi) pl bg tkn wd td wr tz gv nt = some (0, pl', bg', tkn', wd', td', ii e, tz9, gv', nt') ∧ ∀ j, j < 4 → nt' j = nt j) ∧ (∀ p, onS told lo hi R = .inr p → ∃ pl' bg' tkn' wd' td' gv', fX12_readsOne F (ii T.length) 1000 tp 8 (ii w) (ii lo) (ii hi) pl bg tkn wd td wr tz gv nt = some (1, pl', bg', tkn', wd', td', wr, tz', gv', upd nt (4 + w) (ii p.1)) ∧ nsM T p.2 pl' bg' tkn' wd' td') := by
  unfold fX12_readsOne onS
  rw [htw, Option.bind_some]
  dsimp only
  have e4 : (4 : Int32) + ii w = ii (4 + w) := by rw [k_4, ii_add]
  have hidx : ¬ ((4 : Int32) + ii w < 0 ∨ 8 ≤ ((4 : Int32) + ii w).toNatClampNeg) := by
    rw [e4]
    exact nidx (by omega) (by omega)
  cases told with
  | true =>
    rw [if_pos rfl, if_neg (show ¬ bI2 true = 0 by decide), show fX12_fails F bg (3 : Int32) wr = _ from failsM (k := 3) h wr, Option.bind_some]
    refine ⟨fun e he9 => ?_, fun p hp => (by cases hp)⟩
    cases he9
    exact ⟨_, _, _, _, _, _, _, _, if_pos (Or.inl rfl), fun j hj => rfl⟩
  | false =>
    obtain ⟨p1, b1, t1, w1, d1, e1, h1⟩ := nextToken_M hF hT ht h
    obtain ⟨q1, q2, q3⟩ := needsNumber_M hF hlo hhi hT ht h1 wr gv
    rw [if_neg (show ¬ false = true by decide), if_pos (show bI2 false = 0 from rfl), e1, Option.bind_some]
    dsimp only
    unfold nmS clS
    by_cases c1 : kR (stp R) = 21
    · rw [if_pos c1]
      by_cases c2 : lo ≤ dv (wR (stp R)) ∧ dv (wR (stp R)) ≤ hi
      · obtain ⟨p2, b2, t2, w2, d2, e2, h2⟩ := q1 c1 c2
        rw [if_pos c2, e2, Option.bind_some]
        dsimp only
        rw [if_neg (show ¬ (1 : Int32) = 0 by decide), if_neg hidx, e4, ii_nat (by omega)]
        by_cases c3 : kR (stp (stp R)) = 59
        · obtain ⟨p3, b3, t3, w3, d3, e3, h3⟩ := closes_M1 hF hT ht h2 wr c3
          rw [if_pos c3, e3, Option.bind_some]
          refine ⟨fun e he9 => (by cases he9), fun p hp => ?_⟩
          cases hp
          dsimp only
          rw [if_pos (Or.inr rfl)]
          exact ⟨_, _, _, _, _, _, rfl, h3⟩
        · rw [if_neg c3, closes_M0 hT ht h2 wr c3, Option.bind_some]
          refine ⟨fun e he9 => ?_, fun p hp => (by cases hp)⟩
          cases he9
          dsimp only
          rw [if_pos (Or.inl rfl)]
          exact ⟨_, _, _, _, _, _, _, _, rfl, fun j hj => upd_ne _ _ (by omega)⟩
      · rw [if_neg c2, q2 c1 c2, Option.bind_some]
        refine ⟨fun e he9 => ?_, fun p hp => (by cases hp)⟩
        cases he9
        dsimp only
        rw [if_pos rfl]
        exact ⟨_, _, _, _, _, _, _, _, rfl, fun j hj => rfl⟩
    · rw [if_neg c1, q3 c1, Option.bind_some]
      refine ⟨fun e he9 => ?_, fun p hp => (by cases hp)⟩
      cases he9
      dsimp only
      rw [if_pos rfl]
      exact ⟨_, _, _, _, _, _, _, _, rfl, fun j hj => rfl⟩
