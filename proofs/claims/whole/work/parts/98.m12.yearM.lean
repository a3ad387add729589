/-! PURE: year and other of the reference -/
def frM (n : Nat) (li lw lN li' lw' lN' : Nat → Int32) : Prop := (∀ j, j < n → lw' j = lw j ∧ lN' j = lN j) ∧ ∀ c, c < 5 → li' c = li c
def anM (T : List Nat) (wr : Int32) (len : Nat) (li lw lN : Nat → Int32) (r : Nat ⊕ (Nat × List Tk)) (o : Option (Int32 × Int32 × Int32 × Int32 × Int64 × Int32 × Int32 × Int32 × (Nat → Int32) × (Nat → Int32) × (Nat → Int32))) : Prop := match r with
  | .inl e => ∃ pl bg tkn wd td gv li' lw' lN', o = some (0, pl, bg, tkn, wd, td, ii e, gv, li', lw', lN') ∧ frM 200 li lw lN li' lw' lN'
  | .inr p => ∃ pl bg tkn wd td gv li' lw' lN', o = some (1, pl, bg, tkn, wd, td, wr, gv, li', lw', lN') ∧ nsM T p.2 pl bg tkn wd td ∧ li' 5 = ii (len + 1) ∧ lw' (200 + len) = ii (yw p.1) ∧ lN' (200 + len) = ii (yn p.1) ∧ frM (200 + len) li lw lN li' lw' lN'
theorem L134_M {F len y : Nat} (hF : 2000 ≤ F) (hlen : len < 40) {nt : Nat → Int32} {fn : Nat → Int64} {T : List Nat} (hT : okT T) {tp : Nat → Int32} (ht : rL tp T) {R : List Tk} {pl bg tkn : Int32} {wd : Int64} {td : Int32} (h : nsM T R pl bg tkn wd td) (wr gv : Int32) {li lw lN lN0 : Nat → Int32} (hli : li 5 = ii len) (h0 : lN0 (200 + len) = ii (yn y)) (h1 : ∀ j, j < 200 + len → lN0 j = lN j) : anM T wr len li lw lN (clS y R) (bX12_readsLine_L134 F (ii T.length) 1000 tp 8 nt 12 fn 6 240 240 (ii (yw y)) (ii (200 + len)) pl bg tkn wd td wr gv li lw lN0) := by
  unfold bX12_readsLine_L134 clS
  have e5 : (5 : Int32).toNatClampNeg = 5 := by decide
  have c5 : ¬ ((5 : Int32) < 0 ∨ 6 ≤ (5 : Int32).toNatClampNeg) := by decide
  have e1k : ii len + (1 : Int32) = ii (len + 1) := by rw [k_1, ii_add]
  simp only [if_neg c5]
  rw [if_neg (nidx (by omega) (by omega)), e5, hli, ii_nat (by omega), e1k]
  by_cases hk : kR R = 59
  · obtain ⟨p1, b1, t1, w1, d1, e1, g1⟩ := closes_M1 hF hT ht h wr hk
    rw [if_pos hk, e1, Option.bind_some]
    dsimp only
    rw [if_pos (Or.inr rfl)]
    refine ⟨_, _, _, _, _, _, _, _, _, rfl, g1, upd_same _ _ _, upd_same _ _ _, h0, fun j hj => ⟨upd_ne _ _ (by omega), h1 j hj⟩, fun c hc => upd_ne _ _ (by omega)⟩
  · rw [if_neg hk, closes_M0 hT ht h wr hk, Option.bind_some]
    dsimp only
    rw [if_pos (Or.inl rfl)]
    exact ⟨_, _, _, _, _, _, _, _, _, rfl, fun j hj => ⟨upd_ne _ _ (by omega), h1 j (by omega)⟩, fun c hc => upd_ne _ _ (by omega)⟩
theorem readsLine_M {F len : Nat} (hF : 2000 ≤ F) (hlen : len ≤ 40) {NM : List (List Nat)} (h6 : NM.length ≤ 6) (hok : okNM NM) {nt : Nat → Int32} (hnt : nt 0 = ii NM.length) {fn : Nat → Int64} (hnm : nmM 0 NM fn) {T : List Nat} (hT : okT T) {tp : Nat → Int32} (ht : rL tp T) {R : List Tk} {pl bg tkn : Int32} {wd : Int64} {td : Int32} (h : nsM T R pl bg tkn wd td) (wr gv : Int32) {li lw lN : Nat → Int32} (hli : li 5 = ii len) : anM T wr len li lw lN (ylS NM 40 1 len R) (fX12_readsLine F (ii T.length) 1000 tp 8 nt 12 fn 6 240 240 pl bg tkn wd td wr gv li lw lN) := by
  have hb := ixN_b NM (wR R)
  have e5 : (5 : Int32).toNatClampNeg = 5 := by decide
  have e40 : (ii len = (40 : Int32)) = (len = 40) := ii_inj (b := 40) (by omega) (by omega)
  have e200 : (200 : Int32) + ii len = ii (200 + len) := by rw [show (200 : Int32) = ii 200 from rfl, ii_add]
  have c5 : ¬ ((5 : Int32) < 0 ∨ 6 ≤ (5 : Int32).toNatClampNeg) := by decide
  obtain ⟨p1, b1, t1, w1, d1, n1, g1⟩ := nextToken_M hF hT ht h
  unfold fX12_readsLine bX12_readsLine_L31 bX12_readsLine_L46 ylS
  rw [isWordM (k := 7) (c := (2774 : Int64)) (by omega) rfl h, Option.bind_some, isWordM (k := 8) (c := (330573 : Int64)) (by omega) rfl h, Option.bind_some]
  simp only [if_neg c5]
  rw [e5, hli, e200]
  by_cases c1 : kR R = 7 ∨ kR R = 8
  · rw [if_pos (show True ∧ (kR R = 7 ∨ kR R = 8) from ⟨trivial, c1⟩)]
    rcases c1 with c1 | c1
    · rw [if_pos c1, if_pos c1, if_neg (show ¬ (1 : Int32) = 0 by decide), if_pos (show (0 : Int32) ≤ 24 by decide)]
      by_cases c3 : 40 ≤ len
      · rw [if_pos c3, if_pos (show ii len = (40 : Int32) by rw [e40]; omega), k_5, failsM h, Option.bind_some, if_pos (Or.inl rfl)]
        exact ⟨_, _, _, _, _, _, _, _, _, rfl, fun j hj => ⟨rfl, rfl⟩, fun c hc => rfl⟩
      · rw [if_neg c3, if_neg (show ¬ ii len = (40 : Int32) by rw [e40]; omega), if_neg (nidx (by omega) (by omega)), if_pos (show (0 : Int32) ≤ 24 by decide), n1, Option.bind_some, if_pos trivial]
        dsimp only
        obtain ⟨q1, q2, q3⟩ := needsNumber_M (lo := 0) (hi := 23) hF (by omega) (by omega) hT ht g1 wr gv
        unfold ctS
        rw [ii_nat (by omega)]
        by_cases d1 : kR (stp R) = 21
        · rw [if_pos d1]
          by_cases d2 : dv (wR (stp R)) ≤ 23
          · obtain ⟨p2, b2, t2, w2, u2, n2, g2⟩ := q1 d1 ⟨by omega, d2⟩
            rw [if_pos d2, show fX12_needsNumber F (ii T.length) 1000 tp (0 : Int32) (23 : Int32) p1 b1 t1 w1 _ wr gv = some (1, p2, b2, t2, w2, u2, wr, ii (dv (wR (stp R)))) from n2, Option.bind_some]
            dsimp only
            rw [if_neg (by decide), if_neg (by
              intro hh
              rcases hh with hh | hh
              · rw [ii_nneg (by omega)] at hh
                exact hh
              · omega), upd_upd]
            have := L134_M (F := F) (len := len) (y := 100 + dv (wR (stp R))) (nt := nt) (fn := fn) (lw := lw) (lN := lN) (lN0 := upd lN (200 + len) (ii (dv (wR (stp R))))) hF (by omega) hT ht g2 wr (ii (dv (wR (stp R)))) hli (by
              rw [upd_same]
              unfold yn
              rw [if_neg (by omega), if_pos (by omega)]
              congr 1
              omega) (fun j hj => upd_ne _ _ (by omega))
            rw [show yw (100 + dv (wR (stp R))) = 24 from by unfold yw; rw [if_neg (by omega), if_pos (by omega)]] at this
            exact this
          · rw [if_neg d2, show fX12_needsNumber F (ii T.length) 1000 tp (0 : Int32) (23 : Int32) p1 b1 t1 w1 _ wr gv = some (0, p1, b1, t1, w1, _, ii (4 + 16 * sR (stp R)), gv) from q2 d1 (by omega), Option.bind_some]
            dsimp only
            rw [if_pos rfl]
            exact ⟨_, _, _, _, _, _, _, _, _, rfl, fun j hj => ⟨rfl, upd_ne _ _ (by omega)⟩, fun c hc => rfl⟩
        · rw [if_neg d1, show fX12_needsNumber F (ii T.length) 1000 tp (0 : Int32) (23 : Int32) p1 b1 t1 w1 _ wr gv = some (0, p1, b1, t1, w1, _, ii (1 + 16 * sR (stp R)), gv) from q3 d1, Option.bind_some]
          dsimp only
          rw [if_pos rfl]
          exact ⟨_, _, _, _, _, _, _, _, _, rfl, fun j hj => ⟨rfl, upd_ne _ _ (by omega)⟩, fun c hc => rfl⟩
    · rw [if_neg (show ¬ kR R = 7 by omega), if_neg (show ¬ kR R = 7 by omega), if_pos (show (0 : Int32) = 0 from rfl), if_pos c1, if_neg (show ¬ (1 : Int32) = 0 by decide), if_pos (show (0 : Int32) ≤ 25 by decide)]
      by_cases c3 : 40 ≤ len
      · rw [if_pos c3, if_pos (show ii len = (40 : Int32) by rw [e40]; omega), k_5, failsM h, Option.bind_some, if_pos (Or.inl rfl)]
        exact ⟨_, _, _, _, _, _, _, _, _, rfl, fun j hj => ⟨rfl, rfl⟩, fun c hc => rfl⟩
      · rw [if_neg c3, if_neg (show ¬ ii len = (40 : Int32) by rw [e40]; omega), if_neg (nidx (by omega) (by omega)), if_pos (show (0 : Int32) ≤ 25 by decide), n1, Option.bind_some, if_neg (show ¬ (25 : Int32) = 24 by decide)]
        dsimp only
        rw [ii_nat (by omega)]
        refine L134_M (y := 200) hF (by omega) hT ht g1 wr _ hli ?_ ?_
        · rw [upd_same]
          rfl
        · intro j hj
          exact upd_ne _ _ (by omega)
  · rw [if_neg (show ¬ (True ∧ (kR R = 7 ∨ kR R = 8)) from fun hh => c1 hh.2), if_neg (show ¬ kR R = 7 by omega), if_pos (show (0 : Int32) = 0 from rfl), if_neg (show ¬ kR R = 8 by omega), if_pos (show (0 : Int32) = 0 from rfl), if_neg (show ¬ (0 : Int32) ≤ -1 by decide)]
    obtain ⟨f1, f2, f3⟩ := needsFolk_M (F := F) (r := 0) (by omega) (by omega) h6 hok hnt hnm h wr gv
    by_cases c2 : 16 ≤ kR R ∧ kR R ≤ 20
    · rw [if_pos c2]
      by_cases c3 : ixN NM (wR R) = -1
      · rw [if_pos c3, show fX12_needsFolk F bg tkn wd 8 nt 12 fn (0 : Int32) wr gv = _ from f2 c2 c3, Option.bind_some]
        dsimp only
        rw [if_pos rfl]
        exact ⟨_, _, _, _, _, _, _, _, _, rfl, fun j hj => ⟨rfl, rfl⟩, fun c hc => rfl⟩
      · rw [if_neg c3, show fX12_needsFolk F bg tkn wd 8 nt 12 fn (0 : Int32) wr gv = _ from f3 c2 c3, Option.bind_some]
        dsimp only
        rw [if_neg (show ¬ (1 : Int32) = 0 by decide)]
        by_cases c4 : 40 ≤ len
        · rw [if_pos c4, if_pos (show ii len = (40 : Int32) by rw [e40]; omega), k_5, failsM h, Option.bind_some, if_pos (Or.inl rfl)]
          exact ⟨_, _, _, _, _, _, _, _, _, rfl, fun j hj => ⟨rfl, rfl⟩, fun c hc => rfl⟩
        · rw [if_neg c4, if_neg (show ¬ ii len = (40 : Int32) by rw [e40]; omega), if_neg (nidx (by omega) (by omega)), if_neg (show ¬ (0 : Int32) ≤ -1 by decide), ii_nat (by omega)]
          have eix : iz (ixN NM (wR R)) = ii (ixN NM (wR R)).toNat := by
            rw [ii_iz]
            congr 1
            omega
          rw [eix]
          generalize hf : (ixN NM (wR R)).toNat = f
          have hf6 : f < 6 := by omega
          obtain ⟨q1, q2, q3⟩ := readsTie_M (f := f) hF hT ht h wr
          unfold sdS
          by_cases d5 : kR (stp R) = 5
          · obtain ⟨p2, b2, t2, w2, u2, n2, g2⟩ := q1 d5
            rw [if_pos d5, n2, Option.bind_some]
            dsimp only
            rw [if_neg (show ¬ (1 : Int32) = 0 by decide)]
            have := L134_M (F := F) (len := len) (y := 2 * f) (nt := nt) (fn := fn) (lw := lw) (lN := lN) (lN0 := upd lN (200 + len) 0) hF (by omega) hT ht g2 wr (ii (2 * f)) hli (by
              rw [upd_same]
              unfold yn
              rw [if_pos (by omega)]
              rfl) (fun j hj => upd_ne _ _ (by omega))
            rw [show yw (2 * f) = 2 * f from by unfold yw; rw [if_pos (by omega)]] at this
            exact this
          · rw [if_neg d5]
            by_cases d6 : kR (stp R) = 6
            · obtain ⟨p2, b2, t2, w2, u2, n2, g2⟩ := q2 d6
              rw [if_pos d6, n2, Option.bind_some]
              dsimp only
              rw [if_neg (show ¬ (1 : Int32) = 0 by decide)]
              have := L134_M (F := F) (len := len) (y := 2 * f + 1) (nt := nt) (fn := fn) (lw := lw) (lN := lN) (lN0 := upd lN (200 + len) 0) hF (by omega) hT ht g2 wr (ii (2 * f + 1)) hli (by
                rw [upd_same]
                unfold yn
                rw [if_pos (by omega)]
                rfl) (fun j hj => upd_ne _ _ (by omega))
              rw [show yw (2 * f + 1) = 2 * f + 1 from by unfold yw; rw [if_pos (by omega)]] at this
              exact this
            · obtain ⟨p2, b2, t2, w2, u2, n2⟩ := q3 d5 d6
              rw [if_neg d6, n2, Option.bind_some]
              dsimp only
              rw [if_pos rfl]
              exact ⟨_, _, _, _, _, _, _, _, _, rfl, fun j hj => ⟨rfl, upd_ne _ _ (by omega)⟩, fun c hc => rfl⟩
    · rw [if_neg c2, show fX12_needsFolk F bg tkn wd 8 nt 12 fn (0 : Int32) wr gv = _ from f1 c2, Option.bind_some]
      dsimp only
      rw [if_pos rfl]
      exact ⟨_, _, _, _, _, _, _, _, _, rfl, fun j hj => ⟨rfl, rfl⟩, fun c hc => rfl⟩
theorem yearM_L {F : Nat} (hF : 2000 ≤ F) {NM : List (List Nat)} (h6 : NM.length ≤ 6) (hok : okNM NM) {nt : Nat → Int32} (hnt : nt 0 = ii NM.length) {fn : Nat → Int64} (hnm : nmM 0 NM fn) {T : List Nat} (hT : okT T) {tp : Nat → Int32} (ht : rL tp T) {th tpd : Int32} {li0 lw0 lN0 : Nat → Int32} :
    ∀ (f t : Nat) (Y : List Nat) (R : List Tk) (pl bg tkn : Int32) (wd : Int64) (td wr gv : Int32) (li lw lN : Nat → Int32), Y.length + f = 40 → f + 1 < t → nsM T R pl bg tkn wd td → yrM li lw lN 5 Y → frM 200 li0 lw0 lN0 li lw lN → (∀ e, ysS NM 40 1 (f + 1) Y R = .inl e → ∃ pl' bg' tkn' wd' td' wr' gv' li' lw' lN', fX12_year_L16 F 1000 tp 8 nt 12 fn 6 240 240 t th tpd (ii T.length) pl bg tkn wd td wr gv li lw lN = some (ii e, th, tpd, ii T.length, pl', bg', tkn', wd', td', wr', gv', li', lw', lN') ∧ frM 200 li0 lw0 lN0 li' lw' lN') ∧ (∀ Y', ysS NM 40 1 (f + 1) Y R = .inr Y' → ∃ pl' bg' tkn' wd' td' wr' gv' li' lw' lN', fX12_year_L16 F 1000 tp 8 nt 12 fn 6 240 240 t th tpd (ii T.length) pl bg tkn wd td wr gv li lw lN = some (0, th, tpd, ii T.length, pl', bg', tkn', wd', td', wr', gv', upd li' 0 (li' 5), cpQ (40 * 5) (40 * 0) 40 lw', cpQ (40 * 5) (40 * 0) 40 lN') ∧ frM 200 li0 lw0 lN0 li' lw' lN' ∧ yrM li' lw' lN' 5 Y' ∧ Y'.length ≤ 40) := by
  intro f
  induction f with
  | zero =>
    intro t Y R pl bg tkn wd td wr gv li lw lN hY ht9 h hyr hfr
    obtain ⟨t, rfl⟩ : ∃ t', t = t' + 1 := ⟨t - 1, by omega⟩
    rw [sX12_year_L16]
    unfold bX12_year_L16
    obtain ⟨g1, g2, g3, g4, g5, g6⟩ := nsM_ne h
    obtain ⟨k1, k2, k3, k4⟩ := tMk_eq g6
    rw [ysS_s]
    by_cases c1 : kR R = 22
    · rw [if_pos (show tkn = 0 by rw [g3, k3]; exact c1), if_pos c1, show fX12_laysLines F 6 240 240 (5 : Int32) (0 : Int32) li lw lN = _ from laysLines_eq (a := 5) (b := 0) (by omega) (by omega) (by omega) (by omega) li lw lN, Option.bind_some]
      refine ⟨fun e h => (by cases h), fun Y' hY' => ?_⟩
      cases hY'
      exact ⟨_, _, _, _, _, _, _, _, _, _, rfl, hfr, hyr, by omega⟩
    · rw [if_neg (show ¬ tkn = 0 by rw [g3, k3]; exact c1), if_neg c1]
      have hl := readsLine_M (F := F) (len := Y.length) hF (by omega) h6 hok hnt hnm hT ht h wr gv (li := li) (lw := lw) (lN := lN) hyr.1
      cases hy : ylS NM 40 1 Y.length R with
      | inl e =>
        rw [hy] at hl
        obtain ⟨p1, b1, t1, w1, d1, v1, li', lw', lN', e1, hf⟩ := hl
        rw [e1, Option.bind_some]
        refine ⟨fun e' he => ?_, fun Y' h => (by cases h)⟩
        cases he
        dsimp only
        rw [if_pos rfl]
        exact ⟨_, _, _, _, _, _, _, _, _, _, rfl, fun j hj => ⟨(hf.1 j hj).1.trans (hfr.1 j hj).1, (hf.1 j hj).2.trans (hfr.1 j hj).2⟩, fun c hc => (hf.2 c hc).trans (hfr.2 c hc)⟩
      | inr p =>
        have := (ylS_ok hy).1
        omega
  | succ f ih =>
    intro t Y R pl bg tkn wd td wr gv li lw lN hY ht9 h hyr hfr
    obtain ⟨t, rfl⟩ : ∃ t', t = t' + 1 := ⟨t - 1, by omega⟩
    rw [sX12_year_L16]
    unfold bX12_year_L16
    obtain ⟨g1, g2, g3, g4, g5, g6⟩ := nsM_ne h
    obtain ⟨k1, k2, k3, k4⟩ := tMk_eq g6
    rw [ysS_s]
    by_cases c1 : kR R = 22
    · rw [if_pos (show tkn = 0 by rw [g3, k3]; exact c1), if_pos c1, show fX12_laysLines F 6 240 240 (5 : Int32) (0 : Int32) li lw lN = _ from laysLines_eq (a := 5) (b := 0) (by omega) (by omega) (by omega) (by omega) li lw lN, Option.bind_some]
      refine ⟨fun e h => (by cases h), fun Y' hY' => ?_⟩
      cases hY'
      exact ⟨_, _, _, _, _, _, _, _, _, _, rfl, hfr, hyr, by omega⟩
    · rw [if_neg (show ¬ tkn = 0 by rw [g3, k3]; exact c1), if_neg c1]
      have hl := readsLine_M (F := F) (len := Y.length) hF (by omega) h6 hok hnt hnm hT ht h wr gv (li := li) (lw := lw) (lN := lN) hyr.1
      cases hy : ylS NM 40 1 Y.length R with
      | inl e =>
        rw [hy] at hl
        obtain ⟨p1, b1, t1, w1, d1, v1, li', lw', lN', e1, hf⟩ := hl
        rw [e1, Option.bind_some]
        refine ⟨fun e' he => ?_, fun Y' h => (by cases h)⟩
        cases he
        dsimp only
        rw [if_pos rfl]
        exact ⟨_, _, _, _, _, _, _, _, _, _, rfl, fun j hj => ⟨(hf.1 j hj).1.trans (hfr.1 j hj).1, (hf.1 j hj).2.trans (hfr.1 j hj).2⟩, fun c hc => (hf.2 c hc).trans (hfr.2 c hc)⟩
      | inr p =>
        rw [hy] at hl
        obtain ⟨p1, b1, t1, w1, d1, v1, li', lw', lN', e1, hns, m1, m2, m3, hf⟩ := hl
        have hk := ylS_ok hy
        rw [e1, Option.bind_some]
        dsimp only
        rw [if_neg (show ¬ (1 : Int32) = 0 by decide)]
        refine ih t (Y ++ [p.1]) p.2 p1 b1 t1 w1 d1 wr v1 li' lw' lN' (by rw [List.length_append, List.length_singleton]; omega) (by omega) hns ⟨?_, ?_⟩ ⟨fun j hj => ⟨(hf.1 j (by omega)).1.trans (hfr.1 j hj).1, (hf.1 j (by omega)).2.trans (hfr.1 j hj).2⟩, fun c hc => (hf.2 c hc).trans (hfr.2 c hc)⟩
        · rw [m1, List.length_append, List.length_singleton]
        · intro j hj
          rw [List.length_append, List.length_singleton] at hj
          by_cases hj2 : j < Y.length
          · rw [getD_app1 hj2, (hf.1 (40 * 5 + j) (by omega)).1, (hf.1 (40 * 5 + j) (by omega)).2]
            exact hyr.2 j hj2
          · have : j = Y.length := by omega
            subst this
            rw [getD_app2 (Nat.le_refl _), Nat.sub_self]
            exact ⟨m2, m3⟩
