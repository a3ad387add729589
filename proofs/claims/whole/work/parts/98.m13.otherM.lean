/-! PURE: year and other of the reference, whole -/
def fr14 (a b : Nat) (li lw li' lw' : Nat → Int32) : Prop := (∀ j, a ≤ j → j < b → lw' j = lw j) ∧ ∀ c, 1 ≤ c → c < 5 → li' c = li c
theorem year_M {F : Nat} (hF : 2000 ≤ F) {NM : List (List Nat)} (h6 : NM.length ≤ 6) (hok : okNM NM) {nt : Nat → Int32} (hnt : nt 0 = ii NM.length) {fn : Nat → Int64} (hnm : nmM 0 NM fn) {T : List Nat} (hT : okT T) {tp : Nat → Int32} (ht : rL tp T) (th sz pl bg tkn : Int32) (wd : Int64) (td wr gv : Int32) (li lw lN : Nat → Int32) :
    (∀ e, ysS NM 40 1 41 [] (tlT T 0) = .inl e → ∃ sz' pl' bg' tkn' wd' td' wr' gv' li' lw' lN', fX12_year F 1000 tp 8 nt 12 fn 6 240 240 th (ii T.length) sz pl bg tkn wd td wr gv li lw lN = some (ii e, 0, 0, sz', pl', bg', tkn', wd', td', wr', gv', li', lw', lN') ∧ frM 200 li lw lN li' lw' lN') ∧ (∀ Y, ysS NM 40 1 41 [] (tlT T 0) = .inr Y → ∃ sz' pl' bg' tkn' wd' td' wr' gv' li' lw' lN', fX12_year F 1000 tp 8 nt 12 fn 6 240 240 th (ii T.length) sz pl bg tkn wd td wr gv li lw lN = some (0, 0, 0, sz', pl', bg', tkn', wd', td', wr', gv', li', lw', lN') ∧ yrM li' lw' lN' 0 Y ∧ Y.length ≤ 40 ∧ fr14 40 200 li lw li' lw' ∧ fr14 40 200 li lN li' lN') := by
  have hT1 := hT.1
  obtain ⟨p1, b1, t1, w1, d1, e1, h1⟩ := next_M hF hT ht F 0 bg tkn wd td (by omega) (by omega)
  have e1' : fX12_nextToken F (ii T.length) 1000 tp (0 : Int32) bg tkn wd td = some (p1, b1, t1, w1, d1) := e1
  have e5 : (5 : Int32).toNatClampNeg = 5 := by decide
  obtain ⟨r1, r2⟩ := yearM_L (F := F) (th := 0) (tpd := 0) (li0 := li) (lw0 := lw) (lN0 := lN) hF h6 hok hnt hnm hT ht 40 F [] (tlT T 0) p1 b1 t1 w1 d1 wr gv (upd li 5 0) lw lN (by simp) (by omega) h1 ⟨upd_same _ _ _, fun k hk => absurd hk (by simp)⟩ ⟨fun j hj => ⟨rfl, rfl⟩, fun c hc => upd_ne _ _ (by omega)⟩
  unfold fX12_year fX12_begins
  rw [if_neg (by decide), e1', Option.bind_some, Option.bind_some]
  dsimp only
  rw [e5]
  refine ⟨fun e he => ?_, fun Y hY => ?_⟩
  · obtain ⟨pl', bg', tkn', wd', td', wr', gv', li', lw', lN', e2, hf⟩ := r1 e he
    exact ⟨_, pl', bg', tkn', wd', td', wr', gv', li', lw', lN', e2, hf⟩
  · obtain ⟨pl', bg', tkn', wd', td', wr', gv', li', lw', lN', e2, hf, hy, h40⟩ := r2 Y hY
    refine ⟨_, pl', bg', tkn', wd', td', wr', gv', _, _, _, e2, ?_, h40, ?_, ?_⟩
    · exact yrM_cp hy h40
    · refine ⟨fun j hj1 hj2 => ?_, fun c hc1 hc2 => ?_⟩
      · unfold cpQ
        rw [if_neg (by omega)]
        exact (hf.1 j hj2).1
      · rw [upd_ne _ _ (by omega)]
        exact hf.2 c hc2
    · refine ⟨fun j hj1 hj2 => ?_, fun c hc1 hc2 => ?_⟩
      · unfold cpQ
        rw [if_neg (by omega)]
        exact (hf.1 j hj2).2
      · rw [upd_ne _ _ (by omega)]
        exact hf.2 c hc2
def frO5 (n : Nat) (os ot os' ot' : Nat → Int32) : Prop := (∀ j, j < n → ot' j = ot j) ∧ ∀ c, c < 5 → os' c = os c
def anO (T : List Nat) (wr : Int32) (len : Nat) (os ot : Nat → Int32) (r : Nat ⊕ (Nat × List Tk)) (o : Option (Int32 × Int32 × Int32 × Int32 × Int64 × Int32 × Int32 × Int32 × (Nat → Int32) × (Nat → Int32))) : Prop := match r with
  | .inl e => ∃ pl bg tkn wd td gv os' ot', o = some (0, pl, bg, tkn, wd, td, ii e, gv, os', ot') ∧ frO5 120 os ot os' ot'
  | .inr p => ∃ pl bg tkn wd td gv os' ot', o = some (1, pl, bg, tkn, wd, td, wr, gv, os', ot') ∧ nsM T p.2 pl bg tkn wd td ∧ os' 5 = ii (len + 1) ∧ ot' (120 + len) = ii p.1 ∧ frO5 (120 + len) os ot os' ot'
theorem readsOther_M {F len : Nat} (hF : 2000 ≤ F) (hlen : len ≤ 24) {NM : List (List Nat)} (h6 : NM.length ≤ 6) (hok : okNM NM) {nt : Nat → Int32} (hnt : nt 0 = ii NM.length) {fn : Nat → Int64} (hnm : nmM 0 NM fn) {T : List Nat} (hT : okT T) {tp : Nat → Int32} (ht : rL tp T) {R : List Tk} {pl bg tkn : Int32} {wd : Int64} {td : Int32} (h : nsM T R pl bg tkn wd td) (wr gv : Int32) {os ot : Nat → Int32} (hli : os 5 = ii len) : anO T wr len os ot (ylS NM 24 0 len R) (fX12_readsOther F (ii T.length) 1000 tp 8 nt 12 fn 6 144 pl bg tkn wd td wr gv os ot) := by
  have hb := ixN_b NM (wR R)
  have e5 : (5 : Int32).toNatClampNeg = 5 := by decide
  have e24 : (ii len = (24 : Int32)) = (len = 24) := ii_inj (b := 24) (by omega) (by omega)
  have e120 : (120 : Int32) + ii len = ii (120 + len) := by rw [show (120 : Int32) = ii 120 from rfl, ii_add]
  have e1k : ii len + (1 : Int32) = ii (len + 1) := by rw [k_1, ii_add]
  have c5 : ¬ ((5 : Int32) < 0 ∨ 6 ≤ (5 : Int32).toNatClampNeg) := by decide
  unfold fX12_readsOther ylS
  simp only [if_neg c5]
  rw [e5, hli, e120, if_neg (show ¬ (0 = 1 ∧ (kR R = 7 ∨ kR R = 8)) from fun hh => absurd hh.1 (by decide)), e1k]
  obtain ⟨f1, f2, f3⟩ := needsFolk_M (F := F) (r := 0) (by omega) (by omega) h6 hok hnt hnm h wr gv
  by_cases c2 : 16 ≤ kR R ∧ kR R ≤ 20
  · rw [if_pos c2]
    by_cases c3 : ixN NM (wR R) = -1
    · rw [if_pos c3, show fX12_needsFolk F bg tkn wd 8 nt 12 fn (0 : Int32) wr gv = _ from f2 c2 c3, Option.bind_some]
      dsimp only
      rw [if_pos rfl]
      exact ⟨_, _, _, _, _, _, _, _, rfl, fun j hj => rfl, fun c hc => rfl⟩
    · rw [if_neg c3, show fX12_needsFolk F bg tkn wd 8 nt 12 fn (0 : Int32) wr gv = _ from f3 c2 c3, Option.bind_some]
      dsimp only
      rw [if_neg (show ¬ (1 : Int32) = 0 by decide)]
      by_cases c4 : 24 ≤ len
      · rw [if_pos c4, if_pos (show ii len = (24 : Int32) by rw [e24]; omega), k_5, failsM h, Option.bind_some, if_pos (Or.inl rfl)]
        exact ⟨_, _, _, _, _, _, _, _, rfl, fun j hj => rfl, fun c hc => rfl⟩
      · rw [if_neg c4, if_neg (show ¬ ii len = (24 : Int32) by rw [e24]; omega)]
        have eix : iz (ixN NM (wR R)) = ii (ixN NM (wR R)).toNat := by
          rw [ii_iz]
          congr 1
          omega
        rw [eix]
        generalize hf : (ixN NM (wR R)).toNat = f
        have hf6 : f < 6 := by omega
        obtain ⟨q1, q2, q3⟩ := readsTie_M (f := f) hF hT ht h wr
        have key : ∀ (y : Nat) (p2 b2 t2 : Int32) (w2 : Int64) (u2 : Int32), nsM T (stp (stp R)) p2 b2 t2 w2 u2 → anO T wr len os ot (clS y (stp (stp R))) (if ii (120 + len) < 0 ∨ 144 ≤ (ii (120 + len)).toNatClampNeg then none else (fX12_closes F (ii T.length) 1000 tp p2 b2 t2 w2 u2 wr).bind fun R65 => if R65.1 = 0 ∨ R65.1 = 1 then some (R65.1, R65.2.1, R65.2.2.1, R65.2.2.2.1, R65.2.2.2.2.1, R65.2.2.2.2.2.1, R65.2.2.2.2.2.2, ii y, upd os 5 (ii (len + 1)), upd ot (ii (120 + len)).toNatClampNeg (ii y)) else none) := by
          intro y p2 b2 t2 w2 u2 g2
          rw [if_neg (nidx (by omega) (by omega)), ii_nat (by omega)]
          unfold clS
          by_cases hk : kR (stp (stp R)) = 59
          · obtain ⟨p3, b3, t3, w3, d3, e3, g3⟩ := closes_M1 hF hT ht g2 wr hk
            rw [if_pos hk, e3, Option.bind_some]
            dsimp only
            rw [if_pos (Or.inr rfl)]
            exact ⟨_, _, _, _, _, _, _, _, rfl, g3, upd_same _ _ _, upd_same _ _ _, fun j hj => upd_ne _ _ (by omega), fun c hc => upd_ne _ _ (by omega)⟩
          · rw [if_neg hk, closes_M0 hT ht g2 wr hk, Option.bind_some]
            dsimp only
            rw [if_pos (Or.inl rfl)]
            exact ⟨_, _, _, _, _, _, _, _, rfl, fun j hj => upd_ne _ _ (by omega), fun c hc => upd_ne _ _ (by omega)⟩
        unfold sdS
        by_cases d5 : kR (stp R) = 5
        · obtain ⟨p2, b2, t2, w2, u2, n2, g2⟩ := q1 d5
          rw [if_pos d5, n2, Option.bind_some]
          dsimp only
          rw [if_neg (show ¬ (1 : Int32) = 0 by decide)]
          exact key _ _ _ _ _ _ g2
        · rw [if_neg d5]
          by_cases d6 : kR (stp R) = 6
          · obtain ⟨p2, b2, t2, w2, u2, n2, g2⟩ := q2 d6
            rw [if_pos d6, n2, Option.bind_some]
            dsimp only
            rw [if_neg (show ¬ (1 : Int32) = 0 by decide)]
            exact key _ _ _ _ _ _ g2
          · obtain ⟨p2, b2, t2, w2, u2, n2⟩ := q3 d5 d6
            rw [if_neg d6, n2, Option.bind_some]
            dsimp only
            rw [if_pos rfl]
            exact ⟨_, _, _, _, _, _, _, _, rfl, fun j hj => rfl, fun c hc => rfl⟩
  · rw [if_neg c2, show fX12_needsFolk F bg tkn wd 8 nt 12 fn (0 : Int32) wr gv = _ from f1 c2, Option.bind_some]
    dsimp only
    rw [if_pos rfl]
    exact ⟨_, _, _, _, _, _, _, _, rfl, fun j hj => rfl, fun c hc => rfl⟩
theorem otherM_L {F : Nat} (hF : 2000 ≤ F) {NM : List (List Nat)} (h6 : NM.length ≤ 6) (hok : okNM NM) {nt : Nat → Int32} (hnt : nt 0 = ii NM.length) {fn : Nat → Int64} (hnm : nmM 0 NM fn) {T : List Nat} (hT : okT T) {tp : Nat → Int32} (ht : rL tp T) {th tpd : Int32} {os0 ot0 : Nat → Int32} :
    ∀ (f t : Nat) (Y : List Nat) (R : List Tk) (pl bg tkn : Int32) (wd : Int64) (td wr gv : Int32) (os ot : Nat → Int32), Y.length + f = 24 → f + 1 < t → nsM T R pl bg tkn wd td → otM os ot 5 Y → frO5 120 os0 ot0 os ot → (∀ e, ysS NM 24 0 (f + 1) Y R = .inl e → ∃ pl' bg' tkn' wd' td' wr' gv' os' ot', fX12_other_L16 F 1000 tp 8 nt 12 fn 6 144 t th tpd (ii T.length) pl bg tkn wd td wr gv os ot = some (ii e, th, tpd, ii T.length, pl', bg', tkn', wd', td', wr', gv', os', ot') ∧ frO5 120 os0 ot0 os' ot') ∧ (∀ Y', ysS NM 24 0 (f + 1) Y R = .inr Y' → ∃ pl' bg' tkn' wd' td' wr' gv' os' ot', fX12_other_L16 F 1000 tp 8 nt 12 fn 6 144 t th tpd (ii T.length) pl bg tkn wd td wr gv os ot = some (0, th, tpd, ii T.length, pl', bg', tkn', wd', td', wr', gv', upd os' 0 (os' 5), cpQ (24 * 5) (24 * 0) 24 ot') ∧ frO5 120 os0 ot0 os' ot' ∧ otM os' ot' 5 Y' ∧ Y'.length ≤ 24) := by
  intro f
  induction f with
  | zero =>
    intro t Y R pl bg tkn wd td wr gv os ot hY ht9 h hyr hfr
    obtain ⟨t, rfl⟩ : ∃ t', t = t' + 1 := ⟨t - 1, by omega⟩
    rw [sX12_other_L16]
    unfold bX12_other_L16
    obtain ⟨g1, g2, g3, g4, g5, g6⟩ := nsM_ne h
    obtain ⟨k1, k2, k3, k4⟩ := tMk_eq g6
    rw [ysS_s]
    by_cases c1 : kR R = 22
    · rw [if_pos (show tkn = 0 by rw [g3, k3]; exact c1), if_pos c1, show fX12_laysOther F 6 144 (5 : Int32) (0 : Int32) os ot = _ from laysOther_eq (a := 5) (b := 0) (by omega) (by omega) (by omega) (by omega) os ot, Option.bind_some]
      refine ⟨fun e h => (by cases h), fun Y' hY' => ?_⟩
      cases hY'
      exact ⟨_, _, _, _, _, _, _, _, _, rfl, hfr, hyr, by omega⟩
    · rw [if_neg (show ¬ tkn = 0 by rw [g3, k3]; exact c1), if_neg c1]
      have hl := readsOther_M (F := F) (len := Y.length) hF (by omega) h6 hok hnt hnm hT ht h wr gv (os := os) (ot := ot) hyr.1
      cases hy : ylS NM 24 0 Y.length R with
      | inl e =>
        rw [hy] at hl
        obtain ⟨p1, b1, t1, w1, d1, v1, os', ot', e1, hf⟩ := hl
        rw [e1, Option.bind_some]
        refine ⟨fun e' he => ?_, fun Y' h => (by cases h)⟩
        cases he
        dsimp only
        rw [if_pos rfl]
        exact ⟨_, _, _, _, _, _, _, _, _, rfl, fun j hj => (hf.1 j hj).trans (hfr.1 j hj), fun c hc => (hf.2 c hc).trans (hfr.2 c hc)⟩
      | inr p =>
        have := (ylS_ok hy).1
        omega
  | succ f ih =>
    intro t Y R pl bg tkn wd td wr gv os ot hY ht9 h hyr hfr
    obtain ⟨t, rfl⟩ : ∃ t', t = t' + 1 := ⟨t - 1, by omega⟩
    rw [sX12_other_L16]
    unfold bX12_other_L16
    obtain ⟨g1, g2, g3, g4, g5, g6⟩ := nsM_ne h
    obtain ⟨k1, k2, k3, k4⟩ := tMk_eq g6
    rw [ysS_s]
    by_cases c1 : kR R = 22
    · rw [if_pos (show tkn = 0 by rw [g3, k3]; exact c1), if_pos c1, show fX12_laysOther F 6 144 (5 : Int32) (0 : Int32) os ot = _ from laysOther_eq (a := 5) (b := 0) (by omega) (by omega) (by omega) (by omega) os ot, Option.bind_some]
      refine ⟨fun e h => (by cases h), fun Y' hY' => ?_⟩
      cases hY'
      exact ⟨_, _, _, _, _, _, _, _, _, rfl, hfr, hyr, by omega⟩
    · rw [if_neg (show ¬ tkn = 0 by rw [g3, k3]; exact c1), if_neg c1]
      have hl := readsOther_M (F := F) (len := Y.length) hF (by omega) h6 hok hnt hnm hT ht h wr gv (os := os) (ot := ot) hyr.1
      cases hy : ylS NM 24 0 Y.length R with
      | inl e =>
        rw [hy] at hl
        obtain ⟨p1, b1, t1, w1, d1, v1, os', ot', e1, hf⟩ := hl
        rw [e1, Option.bind_some]
        refine ⟨fun e' he => ?_, fun Y' h => (by cases h)⟩
        cases he
        dsimp only
        rw [if_pos rfl]
        exact ⟨_, _, _, _, _, _, _, _, _, rfl, fun j hj => (hf.1 j hj).trans (hfr.1 j hj), fun c hc => (hf.2 c hc).trans (hfr.2 c hc)⟩
      | inr p =>
        rw [hy] at hl
        obtain ⟨p1, b1, t1, w1, d1, v1, os', ot', e1, hns, m1, m2, hf⟩ := hl
        have hk := ylS_ok hy
        rw [e1, Option.bind_some]
        dsimp only
        rw [if_neg (show ¬ (1 : Int32) = 0 by decide)]
        refine ih t (Y ++ [p.1]) p.2 p1 b1 t1 w1 d1 wr v1 os' ot' (by rw [List.length_append, List.length_singleton]; omega) (by omega) hns ⟨?_, ?_⟩ ⟨fun j hj => (hf.1 j (by omega)).trans (hfr.1 j hj), fun c hc => (hf.2 c hc).trans (hfr.2 c hc)⟩
        · rw [m1, List.length_append, List.length_singleton]
        · intro j hj
          rw [List.length_append, List.length_singleton] at hj
          by_cases hj2 : j < Y.length
          · rw [getD_app1 hj2, hf.1 (24 * 5 + j) (by omega)]
            exact hyr.2 j hj2
          · have : j = Y.length := by omega
            subst this
            rw [getD_app2 (Nat.le_refl _), Nat.sub_self]
            exact m2
theorem other_M {F : Nat} (hF : 2000 ≤ F) {NM : List (List Nat)} (h6 : NM.length ≤ 6) (hok : okNM NM) {nt : Nat → Int32} (hnt : nt 0 = ii NM.length) {fn : Nat → Int64} (hnm : nmM 0 NM fn) {T : List Nat} (hT : okT T) {tp : Nat → Int32} (ht : rL tp T) (th sz pl bg tkn : Int32) (wd : Int64) (td wr gv : Int32) (os ot : Nat → Int32) :
    (∀ e, ysS NM 24 0 25 [] (tlT T 0) = .inl e → ∃ sz' pl' bg' tkn' wd' td' wr' gv' os' ot', fX12_other F 1000 tp 8 nt 12 fn 6 144 th (ii T.length) sz pl bg tkn wd td wr gv os ot = some (ii e, 0, 0, sz', pl', bg', tkn', wd', td', wr', gv', os', ot') ∧ frO5 120 os ot os' ot') ∧ (∀ Y, ysS NM 24 0 25 [] (tlT T 0) = .inr Y → ∃ sz' pl' bg' tkn' wd' td' wr' gv' os' ot', fX12_other F 1000 tp 8 nt 12 fn 6 144 th (ii T.length) sz pl bg tkn wd td wr gv os ot = some (0, 0, 0, sz', pl', bg', tkn', wd', td', wr', gv', os', ot') ∧ otM os' ot' 0 Y ∧ Y.length ≤ 24 ∧ fr14 24 120 os ot os' ot') := by
  have hT1 := hT.1
  obtain ⟨p1, b1, t1, w1, d1, e1, h1⟩ := next_M hF hT ht F 0 bg tkn wd td (by omega) (by omega)
  have e1' : fX12_nextToken F (ii T.length) 1000 tp (0 : Int32) bg tkn wd td = some (p1, b1, t1, w1, d1) := e1
  have e5 : (5 : Int32).toNatClampNeg = 5 := by decide
  obtain ⟨r1, r2⟩ := otherM_L (F := F) (th := 0) (tpd := 0) (os0 := os) (ot0 := ot) hF h6 hok hnt hnm hT ht 24 F [] (tlT T 0) p1 b1 t1 w1 d1 wr gv (upd os 5 0) ot (by simp) (by omega) h1 ⟨upd_same _ _ _, fun k hk => absurd hk (by simp)⟩ ⟨fun j hj => rfl, fun c hc => upd_ne _ _ (by omega)⟩
  unfold fX12_other fX12_begins
  rw [if_neg (by decide), e1', Option.bind_some, Option.bind_some]
  dsimp only
  rw [e5]
  refine ⟨fun e he => ?_, fun Y hY => ?_⟩
  · obtain ⟨pl', bg', tkn', wd', td', wr', gv', os', ot', e2, hf⟩ := r1 e he
    exact ⟨_, pl', bg', tkn', wd', td', wr', gv', os', ot', e2, hf⟩
  · obtain ⟨pl', bg', tkn', wd', td', wr', gv', os', ot', e2, hf, hy, h24⟩ := r2 Y hY
    refine ⟨_, pl', bg', tkn', wd', td', wr', gv', _, _, e2, otM_cp hy h24, h24, fun j hj1 hj2 => ?_, fun c hc1 hc2 => ?_⟩
    · unfold cpQ
      rw [if_neg (by omega)]
      exact hf.1 j hj2
    · rw [upd_ne _ _ (by omega)]
      exact hf.2 c hc2
theorem ysS_ok {NM : List (List Nat)} {most bh : Nat} : ∀ (f : Nat) (Y : List Nat) (R : List Tk) (Y' : List Nat), (∀ y ∈ Y, okY NM.length y ∧ (bh = 0 → y < 2 * NM.length)) → ysS NM most bh f Y R = .inr Y' → ∀ y ∈ Y', okY NM.length y ∧ (bh = 0 → y < 2 * NM.length) := by
  intro f
  induction f with
  | zero =>
    intro Y R Y' h1 h2
    cases h2
    exact h1
  | succ f ih =>
    intro Y R Y' h1 h2
    rw [ysS_s] at h2
    by_cases c1 : kR R = 22
    · rw [if_pos c1] at h2
      cases h2
      exact h1
    · rw [if_neg c1] at h2
      cases hy : ylS NM most bh Y.length R with
      | inl e =>
        rw [hy] at h2
        cases h2
      | inr p =>
        rw [hy] at h2
        refine ih (Y ++ [p.1]) p.2 Y' ?_ h2
        intro y hy2
        rcases List.mem_append.mp hy2 with hy2 | hy2
        · exact h1 y hy2
        · rw [List.mem_singleton.mp hy2]
          exact (ylS_ok hy).2
