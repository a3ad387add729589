/-! PURE: the clause folk, on both sides -/
def foS (NM : List (List Nat)) (R : List Tk) : Nat ⊕ (List Nat × Nat × List Tk) := if 6 ≤ NM.length then .inl (5 + 16 * sR R) else if 16 ≤ kR (stp R) ∧ kR (stp R) ≤ 20 then (if ixN NM (wR (stp R)) = -1 then (if 9 ≤ kR (stp (stp R)) ∧ kR (stp (stp R)) ≤ 12 then (if kR (stp (stp (stp R))) = 59 then .inr (wR (stp R), kR (stp (stp R)) - 9, stp (stp (stp (stp R)))) else .inl (1 + 16 * sR (stp (stp (stp R))))) else .inl (1 + 16 * sR (stp (stp R)))) else .inl (3 + 16 * sR (stp R))) else .inl (1 + 16 * sR (stp R))
theorem pw_sh : ∀ n, n < 6 → (1 : Int32) <<< (ii n &&& 31) = ii (2 ^ n) := by decide +kernel
theorem rnd_ok : ∀ k, k < 4 → vRnd k = ii (rdk k) := by decide +kernel
theorem readFolk_X {F : Nat} (hF : 1000 ≤ F) {NM : List (List Nat)} (h6 : NM.length ≤ 6) (hok : okNM NM) {nm : Nat → Int64} (hnm : nmX NM nm) {T : List Nat} {TK R : List Tk} {psz cn he : Int32} {tk sta : Nat → Int32} {vl : Nat → Int64} (h : tpX T TK R psz cn he tk sta vl) (fa : Int32) (kx sx rx : Nat → Int32) :
    (∀ e, foS NM R = .inl e → ∃ n' nm' kx' sx' rx' he', fX2_readFolk F 6 6 6 6 psz cn 1001 tk 1001 sta 1001 vl (ii NM.length) nm kx sx rx he fa = some (0, n', nm', kx', sx', rx', he', ii e)) ∧ (∀ w k R', foS NM R = .inr (w, k, R') → ∃ he', fX2_readFolk F 6 6 6 6 psz cn 1001 tk 1001 sta 1001 vl (ii NM.length) nm kx sx rx he fa = some (1, ii (NM.length + 1), vp_updL nm NM.length (il (bv 32 w)), upd kx NM.length (ii k), upd sx NM.length (ii (2 ^ NM.length)), upd rx NM.length (ii (rdk k)), he', fa) ∧ tpX T TK R' psz cn he' tk sta vl ∧ NM.length < 6 ∧ k < 4 ∧ okW w ∧ w.length ≤ 8 ∧ ixN NM w = -1) := by
  obtain ⟨he1, es1, hs1⟩ := step_X (F := F) h
  obtain ⟨he2, es2, hs2⟩ := step_X (F := F) hs1
  obtain ⟨he3, es3, hs3⟩ := step_X (F := F) hs2
  obtain ⟨a1, a2, a3⟩ := tpX_k hs1
  obtain ⟨b1, b2, b3⟩ := tpX_k hs2
  unfold fX2_readFolk bX2_readFolk_L87 foS
  by_cases c1 : 6 ≤ NM.length
  · rw [if_pos c1, if_neg (show ¬ ii NM.length < (6 : Int32) by rw [k_6, ii_lt (by omega) (by omega)]; omega), show fX9_wrong F psz cn he 1001 sta (5 : Int32) fa = _ from wrongX (k := 5) h fa, Option.bind_some]
    refine ⟨fun e he9 => ?_, fun w k R' hp => (by cases hp)⟩
    cases he9
    exact ⟨_, _, _, _, _, _, if_pos (Or.inl rfl)⟩
  · rw [if_neg c1, if_pos (show ii NM.length < (6 : Int32) by rw [k_6, ii_lt (by omega) (by omega)]; omega), es1, Option.bind_some, isName_X (tpX_c hs1), Option.bind_some]
    by_cases c2 : 16 ≤ kR (stp R) ∧ kR (stp R) ≤ 20
    · obtain ⟨w1, w2, w3⟩ := a3.2.1 c2.2
      simp only at w1 w2 w3
      have hb := ixN_b NM (wR (stp R))
      have em := iz_m1 hb.1 (show ixN NM (wR (stp R)) < 1000 by omega)
      rw [if_pos c2, if_pos c2, if_neg (show ¬ (1 : Int32) = 0 by decide), name_X (tpX_c hs1) c2.2, Option.bind_some, folkNamed_X hF h6 hok hnm w1 w2, Option.bind_some]
      by_cases c3 : ixN NM (wR (stp R)) = -1
      · have hidx : ¬ (ii NM.length < 0 ∨ 6 ≤ (ii NM.length).toNatClampNeg) := nidx (by omega) (by omega)
        rw [if_pos (show iz (ixN NM (wR (stp R))) = (-1 : Int32) by rw [em]; exact c3), if_pos c3, Option.bind_some]
        simp only [if_neg hidx]
        rw [es2, Option.bind_some, tokX hs2, Option.bind_some, show fX9_wrong F psz cn he2 1001 sta (1 : Int32) fa = _ from wrongX (k := 1) hs2 fa, Option.bind_some]
        by_cases c4 : 9 ≤ kR (stp (stp R)) ∧ kR (stp (stp R)) ≤ 12
        · have e9 : ii (kR (stp (stp R))) - (9 : Int32) = ii (kR (stp (stp R)) - 9) := by rw [k_9, ii_sub c4.1]
          rw [if_pos c4, e9, if_neg (show ¬ ii (kR (stp (stp R)) - 9) < (0 : Int32) by rw [ii_nneg (by omega)]; exact id), if_pos (show ii (kR (stp (stp R)) - 9) < (4 : Int32) by rw [k_4, ii_lt (by omega) (by omega)]; omega), if_neg (nidx (by omega) (by omega)), es3, Option.bind_some, ii_nat (show NM.length < 2147483648 by omega), pw_sh _ (by omega), ii_nat (show kR (stp (stp R)) - 9 < 2147483648 by omega), rnd_ok _ (by omega), show ii NM.length + (1 : Int32) = ii (NM.length + 1) from by rw [k_1, ii_add]]
          by_cases c5 : kR (stp (stp (stp R))) = 59
          · obtain ⟨he4, e4, hs4⟩ := expectX1 (F := F) hs3 c5 fa
            rw [if_pos c5, show fX9_expect F psz cn 1001 tk 1001 sta (59 : Int32) he3 fa = _ from e4, Option.bind_some]
            refine ⟨fun e he9 => (by cases he9), fun w k R' hp => ?_⟩
            cases hp
            dsimp only
            rw [if_pos (Or.inr rfl)]
            exact ⟨_, rfl, hs4, by omega, by omega, w1, w2, c3⟩
          · rw [if_neg c5, show fX9_expect F psz cn 1001 tk 1001 sta (59 : Int32) he3 fa = _ from expectX0 (by omega) hs3 c5 fa, Option.bind_some]
            refine ⟨fun e he9 => ?_, fun w k R' hp => (by cases hp)⟩
            cases he9
            dsimp only
            rw [if_pos (Or.inl rfl)]
            exact ⟨_, _, _, _, _, _, rfl⟩
        · rw [if_neg c4]
          refine ⟨fun e he9 => ?_, fun w k R' hp => (by cases hp)⟩
          cases he9
          by_cases c5 : kR (stp (stp R)) < 9
          · have e9 : ii (kR (stp (stp R))) - (9 : Int32) < (0 : Int32) := by
              rw [k_9, ii_iz, ii_iz, iz_sub, k_0, ii_iz, iz_lt (by omega) (by omega) (by omega) (by omega)]
              omega
            rw [if_pos e9, if_pos (Or.inl rfl)]
            exact ⟨_, _, _, _, _, _, rfl⟩
          · have e9 : ii (kR (stp (stp R))) - (9 : Int32) = ii (kR (stp (stp R)) - 9) := by rw [k_9, ii_sub (by omega)]
            rw [e9, if_neg (show ¬ ii (kR (stp (stp R)) - 9) < (0 : Int32) by rw [ii_nneg (by omega)]; exact id), if_neg (show ¬ ii (kR (stp (stp R)) - 9) < (4 : Int32) by rw [k_4, ii_lt (by omega) (by omega)]; omega), if_pos (Or.inl rfl)]
            exact ⟨_, _, _, _, _, _, rfl⟩
      · rw [if_neg (show ¬ iz (ixN NM (wR (stp R))) = (-1 : Int32) by rw [em]; exact c3), if_neg c3, show fX9_wrong F psz cn he1 1001 sta (3 : Int32) fa = _ from wrongX (k := 3) hs1 fa, Option.bind_some]
        refine ⟨fun e he9 => ?_, fun w k R' hp => (by cases hp)⟩
        cases he9
        exact ⟨_, _, _, _, _, _, if_pos (Or.inl rfl)⟩
    · rw [if_neg c2, if_neg c2, if_pos rfl, show fX9_wrong F psz cn he1 1001 sta (1 : Int32) fa = _ from wrongX (k := 1) hs1 fa, Option.bind_some]
      refine ⟨fun e he9 => ?_, fun w k R' hp => (by cases hp)⟩
      cases he9
      exact ⟨_, _, _, _, _, _, if_pos (Or.inl rfl)⟩
/-- the first halves of the reference's net stand -/
def frN (nt ki kn : Nat → Int32) (fn : Nat → Int64) (nt' ki' kn' : Nat → Int32) (fn' : Nat → Int64) : Prop := (∀ j, j < 4 → nt' j = nt j) ∧ (∀ j, j < 6 → ki' j = ki j) ∧ (∀ j, j < 6 → kn' j = kn j) ∧ ∀ j, j < 6 → fn' j = fn j
theorem frN_r (nt ki kn : Nat → Int32) (fn : Nat → Int64) : frN nt ki kn fn nt ki kn fn := ⟨fun _ _ => rfl, fun _ _ => rfl, fun _ _ => rfl, fun _ _ => rfl⟩
theorem readsFolk_M {F : Nat} (hF : 2000 ≤ F) {NM : List (List Nat)} (h6 : NM.length ≤ 6) (hok : okNM NM) {nt : Nat → Int32} (hnt : nt 4 = ii NM.length) {fn : Nat → Int64} (hnm : nmM 1 NM fn) {T : List Nat} (hT : okT T) {tp : Nat → Int32} (ht : rL tp T) {R : List Tk} {pl bg tkn : Int32} {wd : Int64} {td : Int32} (h : nsM T R pl bg tkn wd td) (wr : Int32) (ki kn : Nat → Int32) :
    (∀ e, foS NM R = .inl e → ∃ pl' bg' tkn' wd' td' nt' fn' ki' kn', fX12_readsFolk F (ii T.length) 1000 tp 8 12 12 12 pl bg tkn wd td wr nt fn ki kn = some (0, pl', bg', tkn', wd', td', ii e, nt', fn', ki', kn') ∧ frN nt ki kn fn nt' ki' kn' fn') ∧ (∀ w k R', foS NM R = .inr (w, k, R') → ∃ pl' bg' tkn' wd' td', fX12_readsFolk F (ii T.length) 1000 tp 8 12 12 12 pl bg tkn wd td wr nt fn ki kn = some (1, pl', bg', tkn', wd', td', wr, upd nt 4 (ii (NM.length + 1)), vp_updL fn (6 + NM.length) (il (bv 27 w)), upd ki (6 + NM.length) (ii k), upd kn (6 + NM.length) 0) ∧ nsM T R' pl' bg' tkn' wd' td') := by
  obtain ⟨p1, b1, t1, w1, d1, e1, h1⟩ := nextToken_M hF hT ht h
  obtain ⟨p2, b2, t2, w2, d2, e2, h2⟩ := nextToken_M hF hT ht h1
  obtain ⟨p3, b3, t3, w3, d3, e3, h3⟩ := nextToken_M hF hT ht h2
  obtain ⟨a1, a2, a3, a4, a5, a6⟩ := nsM_ne h1
  have i4 : (4 : Int32).toNatClampNeg = 4 := by decide
  have c4 : ¬ ((4 : Int32) < 0 ∨ 8 ≤ (4 : Int32).toNatClampNeg) := by decide
  unfold fX12_readsFolk foS
  have e6 : (6 : Int32) + ii NM.length = ii (6 + NM.length) := by rw [k_6, ii_add]
  rw [if_neg c4, i4, hnt, e6]
  have e12 : (ii (6 + NM.length) = (12 : Int32)) = (NM.length = 6) := by
    rw [k_12, ii_inj (by omega) (by omega)]
    apply propext
    omega
  by_cases c1 : 6 ≤ NM.length
  · rw [if_pos c1, if_pos (show ii (6 + NM.length) = (12 : Int32) by rw [e12]; omega), show fX12_fails F bg (5 : Int32) wr = _ from failsM (k := 5) h wr, Option.bind_some]
    refine ⟨fun e he9 => ?_, fun w k R' hp => (by cases hp)⟩
    cases he9
    exact ⟨_, _, _, _, _, _, _, _, _, if_pos (Or.inl rfl), frN_r _ _ _ _⟩
  · rw [if_neg c1, if_neg (show ¬ ii (6 + NM.length) = (12 : Int32) by rw [e12]; omega), e1, Option.bind_some]
    dsimp only
    rw [isKeptM h1, Option.bind_some]
    by_cases c2 : 16 ≤ kR (stp R) ∧ kR (stp R) ≤ 20
    · obtain ⟨v1, v2, v3⟩ := a1.2.1 c2.2
      simp only at v1 v2 v3
      have hb := ixN_b NM (wR (stp R))
      have em : (iz (ixN NM (wR (stp R))) < (0 : Int32)) = (ixN NM (wR (stp R)) = -1) := by
        rw [k_0, ii_iz, iz_lt (by omega) (by omega) (by omega) (by omega)]
        apply propext
        omega
      have hw := a4 c2.2
      rw [if_pos c2, if_pos c2, if_pos rfl, hw, show fX12_folkNamed F (il (bv 27 (wR (stp R)))) 8 nt 12 fn (1 : Int32) = _ from folkNamed_M (r := 1) (by omega) (by omega) h6 hok hnt hnm v1 v2, Option.bind_some]
      rw [hw] at e2
      by_cases c3 : ixN NM (wR (stp R)) = -1
      · rw [if_pos (show iz (ixN NM (wR (stp R))) < (0 : Int32) by rw [em]; exact c3), if_pos c3, e2, Option.bind_some]
        dsimp only
        rw [isWordM (k := 9) (c := (43393 : Int64)) (by omega) rfl h2, isWordM (k := 10) (c := (382984 : Int64)) (by omega) rfl h2, isWordM (k := 11) (c := (4443344 : Int64)) (by omega) rfl h2, isWordM (k := 12) (c := (16812 : Int64)) (by omega) rfl h2]
        simp only [Option.bind_some, ite01]
        have hidx : ¬ (ii (6 + NM.length) < 0 ∨ 12 ≤ (ii (6 + NM.length)).toNatClampNeg) := nidx (by omega) (by omega)
        have good : ∀ (z : Nat), z < 4 → bX12_readsFolk_L124 F (ii T.length) 1000 tp 8 12 12 12 (ii (6 + NM.length)) (il (bv 27 (wR (stp R)))) (ii (6 + NM.length)) (ii z) p2 b2 t2 w2 d2 wr nt fn ki kn = ((fX12_closes F (ii T.length) 1000 tp p3 b3 t3 w3 d3 wr).bind fun R169 => if R169.1 = 0 ∨ R169.1 = 1 then some (R169.1, R169.2.1, R169.2.2.1, R169.2.2.2.1, R169.2.2.2.2.1, R169.2.2.2.2.2.1, R169.2.2.2.2.2.2, upd nt 4 (ii (NM.length + 1)), vp_updL fn (6 + NM.length) (il (bv 27 (wR (stp R)))), upd ki (6 + NM.length) (ii z), upd kn (6 + NM.length) 0) else none) := by
          intro z hz
          unfold bX12_readsFolk_L124
          simp only [if_neg hidx, if_neg c4]
          rw [ii_nat (show 6 + NM.length < 2147483648 by omega), upd_same, if_pos (show (0 : Int32) ≤ ii z by rw [k_0, ii_le (by omega) (by omega)]; omega), e3, Option.bind_some]
          dsimp only
          rw [i4, hnt, show ii NM.length + (1 : Int32) = ii (NM.length + 1) from by rw [k_1, ii_add]]
        have fin : ∀ (z : Nat), z < 4 → kR (stp (stp R)) = 9 + z → (∀ e, (if kR (stp (stp (stp R))) = 59 then (.inr (wR (stp R), kR (stp (stp R)) - 9, stp (stp (stp (stp R)))) : Nat ⊕ (List Nat × Nat × List Tk)) else .inl (1 + 16 * sR (stp (stp (stp R))))) = .inl e → ∃ pl' bg' tkn' wd' td' nt' fn' ki' kn', bX12_readsFolk_L124 F (ii T.length) 1000 tp 8 12 12 12 (ii (6 + NM.length)) (il (bv 27 (wR (stp R)))) (ii (6 + NM.length)) (ii z) p2 b2 t2 w2 d2 wr nt fn ki kn = some (0, pl', bg', tkn', wd', td', ii e, nt', fn', ki', kn') ∧ frN nt ki kn fn nt' ki' kn' fn') ∧ (∀ w k R', (if kR (stp (stp (stp R))) = 59 then (.inr (wR (stp R), kR (stp (stp R)) - 9, stp (stp (stp (stp R)))) : Nat ⊕ (List Nat × Nat × List Tk)) else .inl (1 + 16 * sR (stp (stp (stp R))))) = .inr (w, k, R') → ∃ pl' bg' tkn' wd' td', bX12_readsFolk_L124 F (ii T.length) 1000 tp 8 12 12 12 (ii (6 + NM.length)) (il (bv 27 (wR (stp R)))) (ii (6 + NM.length)) (ii z) p2 b2 t2 w2 d2 wr nt fn ki kn = some (1, pl', bg', tkn', wd', td', wr, upd nt 4 (ii (NM.length + 1)), vp_updL fn (6 + NM.length) (il (bv 27 w)), upd ki (6 + NM.length) (ii k), upd kn (6 + NM.length) 0) ∧ nsM T R' pl' bg' tkn' wd' td') := by
          intro z hz hk
          rw [good z hz]
          by_cases c5 : kR (stp (stp (stp R))) = 59
          · obtain ⟨p4, b4, t4, w4, d4, e4, h4⟩ := closes_M1 hF hT ht h3 wr c5
            rw [if_pos c5, e4, Option.bind_some]
            refine ⟨fun e he9 => (by cases he9), fun w k R' hp => ?_⟩
            cases hp
            dsimp only
            rw [if_pos (Or.inr rfl), show kR (stp (stp R)) - 9 = z from by omega]
            exact ⟨_, _, _, _, _, rfl, h4⟩
          · rw [if_neg c5, closes_M0 hT ht h3 wr c5, Option.bind_some]
            refine ⟨fun e he9 => ?_, fun w k R' hp => (by cases hp)⟩
            cases he9
            dsimp only
            rw [if_pos (Or.inl rfl)]
            exact ⟨_, _, _, _, _, _, _, _, _, rfl, fun j hj => upd_ne _ _ (by omega), fun j hj => upd_ne _ _ (by omega), fun j hj => upd_ne _ _ (by omega), fun j hj => updL_ne _ _ (by omega)⟩
        by_cases k9 : kR (stp (stp R)) = 9
        · rw [if_pos k9, if_pos (by omega)]
          exact fin 0 (by omega) k9
        · rw [if_neg k9]
          by_cases k10 : kR (stp (stp R)) = 10
          · rw [if_pos k10, if_pos (by omega)]
            exact fin 1 (by omega) k10
          · rw [if_neg k10]
            by_cases k11 : kR (stp (stp R)) = 11
            · rw [if_pos k11, if_pos (by omega)]
              exact fin 2 (by omega) k11
            · rw [if_neg k11]
              by_cases k12 : kR (stp (stp R)) = 12
              · rw [if_pos k12, if_pos (by omega)]
                exact fin 3 (by omega) k12
              · rw [if_neg k12, if_neg (by omega)]
                refine ⟨fun e he9 => ?_, fun w k R' hp => (by cases hp)⟩
                cases he9
                unfold bX12_readsFolk_L124
                simp only [if_neg hidx, if_neg c4]
                rw [ii_nat (show 6 + NM.length < 2147483648 by omega), upd_same, if_neg (show ¬ (0 : Int32) ≤ -1 by decide), show fX12_fails F b2 (1 : Int32) wr = _ from failsM (k := 1) h2 wr, Option.bind_some]
                exact ⟨_, _, _, _, _, _, _, _, _, if_pos (Or.inl rfl), fun j hj => rfl, fun j hj => upd_ne _ _ (by omega), fun j hj => rfl, fun j hj => rfl⟩
      · rw [if_neg (show ¬ iz (ixN NM (wR (stp R))) < (0 : Int32) by rw [em]; exact c3), if_neg c3, show fX12_fails F b1 (3 : Int32) wr = _ from failsM (k := 3) h1 wr, Option.bind_some]
        refine ⟨fun e he9 => ?_, fun w k R' hp => (by cases hp)⟩
        cases he9
        exact ⟨_, _, _, _, _, _, _, _, _, if_pos (Or.inl rfl), frN_r _ _ _ _⟩
    · rw [if_neg c2, if_neg c2, if_neg (show ¬ (1 : Int32) = 0 by decide), show fX12_fails F b1 (1 : Int32) wr = _ from failsM (k := 1) h1 wr, Option.bind_some]
      refine ⟨fun e he9 => ?_, fun w k R' hp => (by cases hp)⟩
      cases he9
      exact ⟨_, _, _, _, _, _, _, _, _, if_pos (Or.inl rfl), frN_r _ _ _ _⟩
