/-! PURE: the clause kin, on both sides -/
def kiS (NM : List (List Nat)) (mk : Nat → Nat) (R : List Tk) : Nat ⊕ (Nat × Nat × List Tk) := if 16 ≤ kR (stp R) ∧ kR (stp R) ≤ 20 then (if ixN NM (wR (stp R)) = -1 then .inl (2 + 16 * sR (stp R)) else if 16 ≤ kR (stp (stp R)) ∧ kR (stp (stp R)) ≤ 20 then (if ixN NM (wR (stp (stp R))) = -1 then .inl (2 + 16 * sR (stp (stp R))) else if (ixN NM (wR (stp R))).toNat = (ixN NM (wR (stp (stp R)))).toNat ∨ (mk (ixN NM (wR (stp R))).toNat).testBit (ixN NM (wR (stp (stp R)))).toNat = true then .inl (3 + 16 * sR (stp (stp R))) else if kR (stp (stp (stp R))) = 59 then .inr ((ixN NM (wR (stp R))).toNat, (ixN NM (wR (stp (stp R)))).toNat, stp (stp (stp (stp R)))) else .inl (1 + 16 * sR (stp (stp (stp R))))) else .inl (1 + 16 * sR (stp (stp R)))) else .inl (1 + 16 * sR (stp R))
theorem bit_one : ∀ m, m < 64 → ∀ g, g < 6 → ((ii m >>> (ii g &&& 31)) &&& (1 : Int32) = 1) = (m.testBit g = true) := by
  intro m hm g hg
  have h : ∀ m, m < 64 → ∀ g, g < 6 → decide ((ii m >>> (ii g &&& 31)) &&& (1 : Int32) = 1) = m.testBit g := by decide +kernel
  have := h m hm g hg
  apply propext
  constructor
  · intro h1
    rw [← this]
    exact decide_eq_true h1
  · intro h1
    rw [h1] at this
    exact of_decide_eq_true this
theorem pw_lt : ∀ n, n < 6 → 2 ^ n < 64 := by decide +kernel
theorem readKin_X {F : Nat} (hF : 1000 ≤ F) {NM : List (List Nat)} (h6 : NM.length ≤ 6) (hok : okNM NM) {nm : Nat → Int64} (hnm : nmX NM nm) {mk : Nat → Nat} {kx sx : Nat → Int32} (hkx : ∀ f, f < NM.length → mk f < 64 ∧ kx f = ii (mk f) ∧ sx f = ii (mk f ||| 2 ^ f)) {T : List Nat} {TK R : List Tk} {psz cn he : Int32} {tk sta : Nat → Int32} {vl : Nat → Int64} (h : tpX T TK R psz cn he tk sta vl) (pr : Nat) (fa : Int32) :
    (∀ e, kiS NM mk R = .inl e → ∃ pr' kx' sx' he', fX2_readKin F (ii NM.length) 6 nm 6 6 psz cn 1001 tk 1001 sta 1001 vl (ii pr) kx sx he fa = some (0, pr', kx', sx', he', ii e)) ∧ (∀ a b R', kiS NM mk R = .inr (a, b, R') → ∃ he', fX2_readKin F (ii NM.length) 6 nm 6 6 psz cn 1001 tk 1001 sta 1001 vl (ii pr) kx sx he fa = some (1, ii (pr + 1), upd (upd kx a (ii (mk a ||| 2 ^ b))) b (ii (mk b ||| 2 ^ a)), upd (upd sx a (ii (mk a ||| 2 ^ a ||| 2 ^ b))) b (ii (mk b ||| 2 ^ b ||| 2 ^ a)), he', fa) ∧ tpX T TK R' psz cn he' tk sta vl ∧ a < NM.length ∧ b < NM.length ∧ a ≠ b ∧ (mk a).testBit b = false) := by
  obtain ⟨he1, es1, hs1⟩ := step_X (F := F) h
  obtain ⟨he2, es2, hs2⟩ := step_X (F := F) hs1
  obtain ⟨he3, es3, hs3⟩ := step_X (F := F) hs2
  unfold fX2_readKin kiS
  rw [es1, Option.bind_some]
  by_cases c1 : 16 ≤ kR (stp R) ∧ kR (stp R) ≤ 20
  · obtain ⟨n1, n2⟩ := nameHere_X1 (F := F) hF h6 hok hnm hs1 c1 fa
    have hb1 := ixN_b NM (wR (stp R))
    rw [if_pos c1]
    by_cases c2 : ixN NM (wR (stp R)) = -1
    · rw [if_pos c2, n1 c2, Option.bind_some]
      refine ⟨fun e he9 => ?_, fun a b R' hp => (by cases hp)⟩
      cases he9
      dsimp only
      rw [if_pos rfl]
      exact ⟨_, _, _, _, rfl⟩
    · rw [if_neg c2, n2 c2, Option.bind_some]
      dsimp only
      rw [if_neg (show ¬ iz (ixN NM (wR (stp R))) = (-1 : Int32) by rw [iz_m1 hb1.1 (by omega)]; exact c2), es2, Option.bind_some]
      by_cases c3 : 16 ≤ kR (stp (stp R)) ∧ kR (stp (stp R)) ≤ 20
      · obtain ⟨m1, m2⟩ := nameHere_X1 (F := F) hF h6 hok hnm hs2 c3 fa
        have hb2 := ixN_b NM (wR (stp (stp R)))
        rw [if_pos c3]
        by_cases c4 : ixN NM (wR (stp (stp R))) = -1
        · rw [if_pos c4, m1 c4, Option.bind_some]
          refine ⟨fun e he9 => ?_, fun a b R' hp => (by cases hp)⟩
          cases he9
          dsimp only
          rw [if_pos rfl]
          exact ⟨_, _, _, _, rfl⟩
        · rw [if_neg c4, m2 c4, Option.bind_some]
          dsimp only
          rw [if_neg (show ¬ iz (ixN NM (wR (stp (stp R)))) = (-1 : Int32) by rw [iz_m1 hb2.1 (by omega)]; exact c4)]
          have ea : iz (ixN NM (wR (stp R))) = ii (ixN NM (wR (stp R))).toNat := by
            rw [ii_iz]
            congr 1
            omega
          have eb : iz (ixN NM (wR (stp (stp R)))) = ii (ixN NM (wR (stp (stp R)))).toNat := by
            rw [ii_iz]
            congr 1
            omega
          rw [ea, eb]
          have ha6 : (ixN NM (wR (stp R))).toNat < NM.length := by omega
          have hb6 : (ixN NM (wR (stp (stp R)))).toNat < NM.length := by omega
          generalize (ixN NM (wR (stp R))).toNat = a at ha6
          generalize (ixN NM (wR (stp (stp R)))).toNat = b at hb6
          obtain ⟨x1, x2, x3⟩ := hkx a ha6
          obtain ⟨y1, y2, y3⟩ := hkx b hb6
          have hia : ¬ (ii a < 0 ∨ 6 ≤ (ii a).toNatClampNeg) := nidx (by omega) (by omega)
          have hib : ¬ (ii b < 0 ∨ 6 ≤ (ii b).toNatClampNeg) := nidx (by omega) (by omega)
          have hso := or_lt64 (mk a) x1 a (by omega)
          have hbit : ((ii (mk a ||| 2 ^ a) >>> (ii b &&& 31)) &&& (1 : Int32) = 0) = ¬ (a = b ∨ (mk a).testBit b = true) := by
            rw [bit_kin _ hso b (by omega), bit_stop (mk a) x1 a (by omega) b (by omega)]
            apply propext
            cases hq : (mk a).testBit b
            · simp
              exact ⟨fun h1 h2 => h1 h2.symm, fun h1 h2 => h1 h2.symm⟩
            · simp
          simp only [if_neg hia, if_neg hib]
          simp only [ii_nat (show a < 2147483648 by omega), ii_nat (show b < 2147483648 by omega)]
          rw [x3]
          by_cases c5 : a = b ∨ (mk a).testBit b = true
          · rw [if_neg (show ¬ (ii (mk a ||| 2 ^ a) >>> (ii b &&& 31)) &&& (1 : Int32) = 0 by rw [hbit]; exact fun hh => hh c5), if_pos c5, show fX9_wrong F psz cn he2 1001 sta (3 : Int32) fa = _ from wrongX (k := 3) hs2 fa, Option.bind_some]
            refine ⟨fun e he9 => ?_, fun a b R' hp => (by cases hp)⟩
            cases he9
            exact ⟨_, _, _, _, if_pos (Or.inl rfl)⟩
          · have hab : b ≠ a := fun hh => c5 (Or.inl hh.symm)
            have htb : (mk a).testBit b = false := by
              cases hq : (mk a).testBit b
              · rfl
              · exact absurd (Or.inr hq) c5
            have o1 := ii_or (mk a) x1 (2 ^ b) (pw_lt b (by omega))
            have o2 := ii_or (mk b) y1 (2 ^ a) (pw_lt a (by omega))
            have o3 := ii_or (mk a ||| 2 ^ a) hso (2 ^ b) (pw_lt b (by omega))
            have o4 := ii_or (mk b ||| 2 ^ b) (or_lt64 (mk b) y1 b (by omega)) (2 ^ a) (pw_lt a (by omega))
            have hpr : ii pr + (1 : Int32) = ii (pr + 1) := by rw [k_1, ii_add]
            rw [if_pos (show (ii (mk a ||| 2 ^ a) >>> (ii b &&& 31)) &&& (1 : Int32) = 0 by rw [hbit]; exact c5), if_neg c5, es3, Option.bind_some, pw_sh b (by omega), pw_sh a (by omega), upd_ne _ _ hab, upd_ne _ _ hab, x2, y2, y3, o1.1, o2.1, o3.1, o4.1, hpr]
            by_cases c6 : kR (stp (stp (stp R))) = 59
            · obtain ⟨he4, e4, hs4⟩ := expectX1 (F := F) hs3 c6 fa
              rw [if_pos c6, show fX9_expect F psz cn 1001 tk 1001 sta (59 : Int32) he3 fa = _ from e4, Option.bind_some]
              refine ⟨fun e he9 => (by cases he9), fun a9 b9 R' hp => ?_⟩
              cases hp
              dsimp only
              rw [if_pos (Or.inr rfl)]
              exact ⟨_, rfl, hs4, ha6, hb6, fun hh => hab hh.symm, htb⟩
            · rw [if_neg c6, show fX9_expect F psz cn 1001 tk 1001 sta (59 : Int32) he3 fa = _ from expectX0 (by omega) hs3 c6 fa, Option.bind_some]
              refine ⟨fun e he9 => ?_, fun a9 b9 R' hp => (by cases hp)⟩
              cases he9
              dsimp only
              rw [if_pos (Or.inl rfl)]
              exact ⟨_, _, _, _, rfl⟩
      · rw [if_neg c3, nameHere_X0 hs2 c3, Option.bind_some]
        refine ⟨fun e he9 => ?_, fun a b R' hp => (by cases hp)⟩
        cases he9
        dsimp only
        rw [if_pos rfl]
        exact ⟨_, _, _, _, rfl⟩
  · rw [if_neg c1, nameHere_X0 hs1 c1, Option.bind_some]
    refine ⟨fun e he9 => ?_, fun a b R' hp => (by cases hp)⟩
    cases he9
    dsimp only
    rw [if_pos rfl]
    exact ⟨_, _, _, _, rfl⟩
theorem readsKin_M {F : Nat} (hF : 2000 ≤ F) {NM : List (List Nat)} (h6 : NM.length ≤ 6) (hok : okNM NM) {nt : Nat → Int32} (hnt : nt 4 = ii NM.length) {fn : Nat → Int64} (hnm : nmM 1 NM fn) {mk : Nat → Nat} {kn : Nat → Int32} (hkn : ∀ f, f < NM.length → mk f < 64 ∧ kn (6 + f) = ii (mk f)) {pr : Nat} (hpr : nt 5 = ii pr) {T : List Nat} (hT : okT T) {tp : Nat → Int32} (ht : rL tp T) {R : List Tk} {pl bg tkn : Int32} {wd : Int64} {td : Int32} (h : nsM T R pl bg tkn wd td) (wr gv : Int32) :
    (∀ e, kiS NM mk R = .inl e → ∃ pl' bg' tkn' wd' td' gv' nt' kn', fX12_readsKin F (ii T.length) 1000 tp 8 12 fn 12 pl bg tkn wd td wr gv nt kn = some (0, pl', bg', tkn', wd', td', ii e, gv', nt', kn') ∧ (∀ j, j < 4 → nt' j = nt j) ∧ ∀ j, j < 6 → kn' j = kn j) ∧ (∀ a b R', kiS NM mk R = .inr (a, b, R') → ∃ pl' bg' tkn' wd' td' gv', fX12_readsKin F (ii T.length) 1000 tp 8 12 fn 12 pl bg tkn wd td wr gv nt kn = some (1, pl', bg', tkn', wd', td', wr, gv', upd nt 5 (ii (pr + 1)), upd (upd kn (6 + a) (ii (mk a ||| 2 ^ b))) (6 + b) (ii (mk b ||| 2 ^ a))) ∧ nsM T R' pl' bg' tkn' wd' td') := by
  obtain ⟨p1, b1, t1, w1, d1, e1, h1⟩ := nextToken_M hF hT ht h
  obtain ⟨p2, b2, t2, w2, d2, e2, h2⟩ := nextToken_M hF hT ht h1
  obtain ⟨p3, b3, t3, w3, d3, e3, h3⟩ := nextToken_M hF hT ht h2
  unfold fX12_readsKin bX12_readsKin_L60 kiS
  rw [e1, Option.bind_some]
  dsimp only
  obtain ⟨f1, f2, f3⟩ := needsFolk_M (F := F) (r := 1) (by omega) (by omega) h6 hok hnt hnm h1 wr gv
  by_cases c1 : 16 ≤ kR (stp R) ∧ kR (stp R) ≤ 20
  · have hb1 := ixN_b NM (wR (stp R))
    rw [if_pos c1]
    by_cases c2 : ixN NM (wR (stp R)) = -1
    · rw [if_pos c2, show fX12_needsFolk F b1 t1 w1 8 nt 12 fn (1 : Int32) wr gv = _ from f2 c1 c2, Option.bind_some]
      refine ⟨fun e he9 => ?_, fun a b R' hp => (by cases hp)⟩
      cases he9
      dsimp only
      rw [if_pos rfl]
      exact ⟨_, _, _, _, _, _, _, _, rfl, fun j hj => rfl, fun j hj => rfl⟩
    · rw [if_neg c2, show fX12_needsFolk F b1 t1 w1 8 nt 12 fn (1 : Int32) wr gv = _ from f3 c1 c2, Option.bind_some]
      dsimp only
      rw [if_neg (show ¬ (1 : Int32) = 0 by decide), e2, Option.bind_some]
      dsimp only
      obtain ⟨g1, g2, g3⟩ := needsFolk_M (F := F) (r := 1) (by omega) (by omega) h6 hok hnt hnm h2 wr (iz (ixN NM (wR (stp R))))
      by_cases c3 : 16 ≤ kR (stp (stp R)) ∧ kR (stp (stp R)) ≤ 20
      · have hb2 := ixN_b NM (wR (stp (stp R)))
        rw [if_pos c3]
        by_cases c4 : ixN NM (wR (stp (stp R))) = -1
        · rw [if_pos c4, show fX12_needsFolk F b2 t2 w2 8 nt 12 fn (1 : Int32) wr (iz (ixN NM (wR (stp R)))) = _ from g2 c3 c4, Option.bind_some]
          refine ⟨fun e he9 => ?_, fun a b R' hp => (by cases hp)⟩
          cases he9
          dsimp only
          rw [if_pos rfl]
          exact ⟨_, _, _, _, _, _, _, _, rfl, fun j hj => rfl, fun j hj => rfl⟩
        · rw [if_neg c4, show fX12_needsFolk F b2 t2 w2 8 nt 12 fn (1 : Int32) wr (iz (ixN NM (wR (stp R)))) = _ from g3 c3 c4, Option.bind_some]
          dsimp only
          rw [if_neg (show ¬ (1 : Int32) = 0 by decide)]
          have ea : iz (ixN NM (wR (stp R))) = ii (ixN NM (wR (stp R))).toNat := by
            rw [ii_iz]
            congr 1
            omega
          have eb : iz (ixN NM (wR (stp (stp R)))) = ii (ixN NM (wR (stp (stp R)))).toNat := by
            rw [ii_iz]
            congr 1
            omega
          rw [ea, eb]
          have ha6 : (ixN NM (wR (stp R))).toNat < NM.length := by omega
          have hb6 : (ixN NM (wR (stp (stp R)))).toNat < NM.length := by omega
          generalize (ixN NM (wR (stp R))).toNat = a at ha6
          generalize (ixN NM (wR (stp (stp R)))).toNat = b at hb6
          obtain ⟨x1, x2⟩ := hkn a ha6
          obtain ⟨y1, y2⟩ := hkn b hb6
          have e6a : (6 : Int32) + ii a = ii (6 + a) := by rw [k_6, ii_add]
          have e6b : (6 : Int32) + ii b = ii (6 + b) := by rw [k_6, ii_add]
          have hia : ¬ (ii (6 + a) < 0 ∨ 12 ≤ (ii (6 + a)).toNatClampNeg) := nidx (by omega) (by omega)
          have hib : ¬ (ii (6 + b) < 0 ∨ 12 ≤ (ii (6 + b)).toNatClampNeg) := nidx (by omega) (by omega)
          have i5 : ¬ ((5 : Int32) < 0 ∨ 8 ≤ (5 : Int32).toNatClampNeg) := by decide
          have n5 : (5 : Int32).toNatClampNeg = 5 := by decide
          rw [e6a, e6b]
          simp only [if_neg hia, if_neg hib, if_neg i5]
          simp only [ii_nat (show 6 + a < 2147483648 by omega), ii_nat (show 6 + b < 2147483648 by omega), n5]
          rw [x2, hpr]
          have hbit := bit_one (mk a) x1 b (by omega)
          have hfail : fX12_fails F b2 (3 : Int32) wr = some (0, ii (3 + 16 * sR (stp (stp R)))) := failsM (k := 3) h2 wr
          by_cases c5 : a = b ∨ (mk a).testBit b = true
          · rw [if_pos c5, hfail, Option.bind_some]
            refine ⟨fun e he9 => ?_, fun a9 b9 R' hp => (by cases hp)⟩
            cases he9
            by_cases c7 : a = b
            · rw [if_pos (show ii a = ii b by rw [c7]), if_pos (Or.inl rfl)]
              exact ⟨_, _, _, _, _, _, _, _, rfl, fun j hj => rfl, fun j hj => rfl⟩
            · rw [if_neg (show ¬ ii a = ii b by rw [ii_inj (by omega) (by omega)]; exact c7), if_pos (show (ii (mk a) >>> (ii b &&& 31)) &&& (1 : Int32) = 1 by rw [hbit]; exact c5.resolve_left c7), if_pos (Or.inl rfl)]
              exact ⟨_, _, _, _, _, _, _, _, rfl, fun j hj => rfl, fun j hj => rfl⟩
          · have hab : ¬ a = b := fun hh => c5 (Or.inl hh)
            have o1 := ii_or (mk a) x1 (2 ^ b) (pw_lt b (by omega))
            have o2 := ii_or (mk b) y1 (2 ^ a) (pw_lt a (by omega))
            have hpr1 : ii pr + (1 : Int32) = ii (pr + 1) := by rw [k_1, ii_add]
            rw [if_neg c5, if_neg (show ¬ ii a = ii b by rw [ii_inj (by omega) (by omega)]; exact hab), if_neg (show ¬ (ii (mk a) >>> (ii b &&& 31)) &&& (1 : Int32) = 1 by rw [hbit]; exact fun hh => c5 (Or.inr hh)), e3, Option.bind_some]
            dsimp only
            rw [pw_sh b (by omega), pw_sh a (by omega), upd_ne _ _ (show 6 + b ≠ 6 + a by omega), y2, o1.1, o2.1, hpr1]
            by_cases c6 : kR (stp (stp (stp R))) = 59
            · obtain ⟨p4, b4, t4, w4, d4, e4, h4⟩ := closes_M1 hF hT ht h3 wr c6
              rw [if_pos c6, e4, Option.bind_some]
              refine ⟨fun e he9 => (by cases he9), fun a9 b9 R' hp => ?_⟩
              cases hp
              dsimp only
              rw [if_pos (Or.inr rfl)]
              exact ⟨_, _, _, _, _, _, rfl, h4⟩
            · rw [if_neg c6, closes_M0 hT ht h3 wr c6, Option.bind_some]
              refine ⟨fun e he9 => ?_, fun a9 b9 R' hp => (by cases hp)⟩
              cases he9
              dsimp only
              rw [if_pos (Or.inl rfl)]
              exact ⟨_, _, _, _, _, _, _, _, rfl, fun j hj => upd_ne _ _ (by omega), fun j hj => by rw [upd_ne _ _ (by omega), upd_ne _ _ (by omega)]⟩
      · rw [if_neg c3, show fX12_needsFolk F b2 t2 w2 8 nt 12 fn (1 : Int32) wr (iz (ixN NM (wR (stp R)))) = _ from g1 c3, Option.bind_some]
        refine ⟨fun e he9 => ?_, fun a b R' hp => (by cases hp)⟩
        cases he9
        dsimp only
        rw [if_pos rfl]
        exact ⟨_, _, _, _, _, _, _, _, rfl, fun j hj => rfl, fun j hj => rfl⟩
  · rw [if_neg c1, show fX12_needsFolk F b1 t1 w1 8 nt 12 fn (1 : Int32) wr gv = _ from f1 c1, Option.bind_some]
    refine ⟨fun e he9 => ?_, fun a b R' hp => (by cases hp)⟩
    cases he9
    dsimp only
    rw [if_pos rfl]
    exact ⟨_, _, _, _, _, _, _, _, rfl, fun j hj => rfl, fun j hj => rfl⟩
