/-! PURE: a year and the other line read by the class -/
def clS (y : Nat) (R : List Tk) : Nat ⊕ (Nat × List Tk) := if kR R = 59 then .inr (y, stp R) else .inl (1 + 16 * sR R)
def sdS (f : Nat) (R : List Tk) : Nat ⊕ (Nat × List Tk) := if kR R = 5 then clS (2 * f) (stp R) else if kR R = 6 then clS (2 * f + 1) (stp R) else .inl (1 + 16 * sR R)
def ctS (R : List Tk) : Nat ⊕ (Nat × List Tk) := if kR R = 21 then (if dv (wR R) ≤ 23 then clS (100 + dv (wR R)) (stp R) else .inl (4 + 16 * sR R)) else .inl (1 + 16 * sR R)
def ylS (NM : List (List Nat)) (most bh len : Nat) (R : List Tk) : Nat ⊕ (Nat × List Tk) := if bh = 1 ∧ (kR R = 7 ∨ kR R = 8) then (if most ≤ len then .inl (5 + 16 * sR R) else if kR R = 7 then ctS (stp R) else clS 200 (stp R)) else if 16 ≤ kR R ∧ kR R ≤ 20 then (if ixN NM (wR R) = -1 then .inl (2 + 16 * sR R) else if most ≤ len then .inl (5 + 16 * sR R) else sdS (ixN NM (wR R)).toNat (stp R)) else .inl (1 + 16 * sR R)
def ysS (NM : List (List Nat)) (most bh : Nat) : Nat → List Nat → List Tk → Nat ⊕ List Nat
  | 0, Y, _ => .inr Y
  | f + 1, Y, R => if kR R = 22 then .inr Y else match ylS NM most bh Y.length R with
    | .inl e => .inl e
    | .inr p => ysS NM most bh f (Y ++ [p.1]) p.2
theorem clS_y {y : Nat} {R : List Tk} {p : Nat × List Tk} (h : clS y R = .inr p) : p.1 = y := by
  unfold clS at h
  by_cases h1 : kR R = 59
  · rw [if_pos h1] at h
    cases h
    rfl
  · rw [if_neg h1] at h
    cases h
theorem ylS_ok {NM : List (List Nat)} {most bh len : Nat} {R : List Tk} {p : Nat × List Tk} (h : ylS NM most bh len R = .inr p) : len < most ∧ okY NM.length p.1 ∧ (bh = 0 → p.1 < 2 * NM.length) := by
  unfold ylS at h
  have hb := ixN_b NM (wR R)
  by_cases h1 : bh = 1 ∧ (kR R = 7 ∨ kR R = 8)
  · rw [if_pos h1] at h
    by_cases h2 : most ≤ len
    · rw [if_pos h2] at h
      cases h
    · rw [if_neg h2] at h
      by_cases h3 : kR R = 7
      · rw [if_pos h3] at h
        unfold ctS at h
        by_cases h4 : kR (stp R) = 21
        · rw [if_pos h4] at h
          by_cases h5 : dv (wR (stp R)) ≤ 23
          · rw [if_pos h5] at h
            have := clS_y h
            exact ⟨by omega, Or.inr (Or.inl (by omega)), fun h => by omega⟩
          · rw [if_neg h5] at h
            cases h
        · rw [if_neg h4] at h
          cases h
      · rw [if_neg h3] at h
        have := clS_y h
        exact ⟨by omega, Or.inr (Or.inr this), fun h => by omega⟩
  · rw [if_neg h1] at h
    by_cases h2 : 16 ≤ kR R ∧ kR R ≤ 20
    · rw [if_pos h2] at h
      by_cases h3 : ixN NM (wR R) = -1
      · rw [if_pos h3] at h
        cases h
      · rw [if_neg h3] at h
        by_cases h4 : most ≤ len
        · rw [if_pos h4] at h
          cases h
        · rw [if_neg h4] at h
          unfold sdS at h
          by_cases h5 : kR (stp R) = 5
          · rw [if_pos h5] at h
            have := clS_y h
            exact ⟨by omega, Or.inl (by omega), fun _ => by omega⟩
          · rw [if_neg h5] at h
            by_cases h6 : kR (stp R) = 6
            · rw [if_pos h6] at h
              have := clS_y h
              exact ⟨by omega, Or.inl (by omega), fun _ => by omega⟩
            · rw [if_neg h6] at h
              cases h
    · rw [if_neg h2] at h
      cases h
/-- how the class answers a line -/
def anX (T : List Nat) (TK : List Tk) (sz cn fa : Int32) (tk sta : Nat → Int32) (vl : Nat → Int64) (len : Nat) (ht : Nat → Int32) (r : Nat ⊕ (Nat × List Tk)) (o : Option (Int32 × Int32 × Int32 × Int32 × (Nat → Int32))) : Prop := match r with
  | .inl e => ∃ he', o = some (0, he', ii e, ii len, ht)
  | .inr p => ∃ he', o = some (1, he', fa, ii (len + 1), upd ht len (ii p.1)) ∧ tpX T TK p.2 sz cn he' tk sta vl
theorem L133_X {F len most y : Nat} (hlen : len < most) (hm : most ≤ 40) (hy : y < 1000) {NM : List (List Nat)} {nm : Nat → Int64} {T : List Nat} {TK R : List Tk} {sz cn he : Int32} {tk sta : Nat → Int32} {vl : Nat → Int64} (h : tpX T TK R sz cn he tk sta vl) (fa : Int32) (ht : Nat → Int32) : anX T TK sz cn fa tk sta vl len ht (clS y R) (bX2_readYearLine_L133 F (ii NM.length) 6 nm sz cn 1001 tk 1001 sta 1001 vl 40 (ii y) he fa (ii len) ht) := by
  unfold bX2_readYearLine_L133 bX2_readYearLine_L148 clS
  rw [if_neg (show ¬ ii y = (-1 : Int32) by
    rw [kz_m1, ii_iz, iz_inj (by omega) (by omega) (by omega) (by omega)]
    omega), k_59]
  by_cases h1 : kR R = 59
  · obtain ⟨he', e1, h2⟩ := expectX1 (F := F) h h1 fa
    rw [if_pos h1, e1, Option.bind_some]
    dsimp only
    rw [if_neg (by decide), row_add (by omega) (by omega), Option.bind_some]
    exact ⟨he', rfl, h2⟩
  · rw [if_neg h1, expectX0 (by omega) h h1, Option.bind_some]
    exact ⟨_, rfl⟩
theorem readYearLine_X {F len most bh : Nat} (hF : 1000 ≤ F) (hm : most ≤ 40) (hlen : len ≤ most) (hbh : bh ≤ 1) {NM : List (List Nat)} (h6 : NM.length ≤ 6) (hok : okNM NM) {nm : Nat → Int64} (hnm : nmX NM nm) {T : List Nat} {TK R : List Tk} {sz cn he : Int32} {tk sta : Nat → Int32} {vl : Nat → Int64} (h : tpX T TK R sz cn he tk sta vl) (fa : Int32) (ht : Nat → Int32) : anX T TK sz cn fa tk sta vl len ht (ylS NM most bh len R) (fX2_readYearLine F (ii NM.length) 6 nm sz cn 1001 tk 1001 sta 1001 vl 40 (ii most) (ii bh) he fa (ii len) ht) := by
  obtain ⟨t1, t2, t3⟩ := tpX_k h
  have hb := ixN_b NM (wR R)
  have em := iz_m1 hb.1 (show ixN NM (wR R) < 1000 by omega)
  obtain ⟨he1, e1, h1⟩ := step_X (F := F) h
  obtain ⟨s1, s2, s3⟩ := tpX_k h1
  unfold fX2_readYearLine bX2_readYearLine_L25 bX2_readYearLine_L29 bX2_readYearLine_L30 bX2_readYearLine_L46 bX2_readYearLine_L61 bX2_readYearLine_L131 ylS
  rw [tokX h, Option.bind_some]
  have e7 : (ii (kR R) = (7 : Int32)) = (kR R = 7) := ii_inj (b := 7) (by omega) (by omega)
  have e8 : (ii (kR R) = (8 : Int32)) = (kR R = 8) := ii_inj (b := 8) (by omega) (by omega)
  have eb : (ii bh = 0) = (bh = 0) := len0 (by omega)
  have elm : (ii len < ii most) = (len < most) := ii_lt (by omega) (by omega)
  have n01 : ¬ (1 : Int32) = 0 := by decide
  by_cases c1 : bh = 1 ∧ (kR R = 7 ∨ kR R = 8)
  · have pick : ∀ {α : Type} (x y : α), (if ii bh = 0 then x else if ii (kR R) = (7 : Int32) then y else if ii (kR R) = (8 : Int32) then y else x) = y := by
      intro α x y
      rw [if_neg (by rw [eb]; omega)]
      rcases c1.2 with c2 | c2
      · rw [if_pos (by rw [e7]; exact c2)]
      · rw [if_neg (by rw [e7]; omega), if_pos (by rw [e8]; exact c2)]
    rw [pick, if_pos c1, if_neg n01, if_neg n01]
    by_cases c3 : most ≤ len
    · rw [if_neg (show ¬ ii len < ii most by rw [elm]; omega), if_pos c3, k_5, wrongX h, Option.bind_some, if_pos (Or.inl rfl)]
      exact ⟨_, rfl⟩
    · rw [if_pos (show ii len < ii most by rw [elm]; omega), if_neg c3, e1, Option.bind_some, if_neg n01]
      by_cases c4 : kR R = 7
      · rw [if_pos (show ii (kR R) = (7 : Int32) by rw [e7]; exact c4), if_pos c4]
        unfold fX2_readNumber bX2_readNumber_L33 ctS
        rw [tokX h1, Option.bind_some]
        have e21 : (ii (kR (stp R)) = (21 : Int32)) = (kR (stp R) = 21) := ii_inj (b := 21) (by omega) (by omega)
        by_cases c5 : kR (stp R) = 21
        · have hc := tpX_c h1
          rw [c5] at hc
          obtain ⟨n1, n2⟩ := number_X (F := F) hc
          obtain ⟨he2, e2, h2⟩ := step_X (F := F) h1
          rw [if_pos (show ii (kR (stp R)) = (21 : Int32) by rw [e21]; exact c5), if_pos c5, n1, Option.bind_some, Option.bind_some, Option.bind_some, if_neg (show ¬ ii (dv (wR (stp R))) < (0 : Int32) by rw [ii_nneg (by omega)]; exact id)]
          have e23 : (ii (dv (wR (stp R))) ≤ (23 : Int32)) = (dv (wR (stp R)) ≤ 23) := by rw [k_23, ii_le (by omega) (by omega)]
          by_cases c6 : dv (wR (stp R)) ≤ 23
          · rw [if_pos (show ii (dv (wR (stp R))) ≤ (23 : Int32) by rw [e23]; exact c6), if_pos c6, e2, Option.bind_some, Option.bind_some]
            dsimp only
            rw [if_neg (show ¬ ii (dv (wR (stp R))) = (-1 : Int32) by
              rw [kz_m1, ii_iz, iz_inj (by omega) (by omega) (by omega) (by omega)]
              omega), k_100, ii_add]
            exact L133_X (by omega) hm (by omega) h2 fa ht
          · rw [if_neg (show ¬ ii (dv (wR (stp R))) ≤ (23 : Int32) by rw [e23]; exact c6), if_neg c6, k_4, wrongX h1, Option.bind_some, Option.bind_some]
            dsimp only
            rw [if_pos rfl]
            unfold bX2_readYearLine_L133 bX2_readYearLine_L148
            rw [if_pos rfl]
            exact ⟨_, rfl⟩
        · rw [if_neg (show ¬ ii (kR (stp R)) = (21 : Int32) by rw [e21]; exact c5), if_neg c5, show fX9_wrong F sz cn he1 1001 sta (1 : Int32) fa = some (0, ii (1 + 16 * sR (stp R))) from wrongX h1 fa, Option.bind_some, Option.bind_some]
          dsimp only
          rw [if_pos rfl]
          unfold bX2_readYearLine_L133 bX2_readYearLine_L148
          rw [if_pos rfl]
          exact ⟨_, rfl⟩
      · rw [if_neg (show ¬ ii (kR R) = (7 : Int32) by rw [e7]; exact c4), if_neg c4]
        exact L133_X (y := 200) (by omega) hm (by omega) h1 fa ht
  · have pick : ∀ {α : Type} (x y : α), (if ii bh = 0 then x else if ii (kR R) = (7 : Int32) then y else if ii (kR R) = (8 : Int32) then y else x) = x := by
      intro α x y
      by_cases d1 : bh = 0
      · rw [if_pos (by rw [eb]; exact d1)]
      · rw [if_neg (by rw [eb]; exact d1), if_neg (by rw [e7]; omega), if_neg (by rw [e8]; omega)]
    rw [pick, if_neg c1, if_pos rfl]
    by_cases c2 : 16 ≤ kR R ∧ kR R ≤ 20
    · obtain ⟨n1, n2⟩ := nameHere_X1 (F := F) hF h6 hok hnm h c2 fa
      rw [if_pos c2]
      by_cases c3 : ixN NM (wR R) = -1
      · rw [n1 c3, Option.bind_some, if_pos c3]
        dsimp only
        rw [if_pos rfl, if_pos rfl]
        exact ⟨_, rfl⟩
      · rw [n2 c3, Option.bind_some, if_neg c3]
        dsimp only
        rw [if_pos rfl, if_neg (show ¬ iz (ixN NM (wR R)) = (-1 : Int32) by rw [em]; exact c3)]
        by_cases c4 : most ≤ len
        · rw [if_neg (show ¬ ii len < ii most by rw [elm]; omega), if_pos c4, k_5, wrongX h, Option.bind_some, if_pos (Or.inl rfl)]
          exact ⟨_, rfl⟩
        · rw [if_pos (show ii len < ii most by rw [elm]; omega), if_neg c4, e1, Option.bind_some, if_pos rfl]
          unfold fX2_readSide bX2_readSide_L13 bX2_readSide_L35 bX2_readSide_L51 sdS
          have e5 : (ii (kR (stp R)) = (5 : Int32)) = (kR (stp R) = 5) := ii_inj (b := 5) (by omega) (by omega)
          have e6 : (ii (kR (stp R)) = (6 : Int32)) = (kR (stp R) = 6) := ii_inj (b := 6) (by omega) (by omega)
          obtain ⟨he2, e2, h2⟩ := step_X (F := F) h1
          have eix : iz (ixN NM (wR R)) = ii (ixN NM (wR R)).toNat := by
            rw [ii_iz]
            congr 1
            omega
          rw [tokX h1, Option.bind_some, e2, eix]
          generalize hf : (ixN NM (wR R)).toNat = f
          have hf6 : f < 6 := by omega
          by_cases c5 : kR (stp R) = 5
          · have ey : (2 : Int32) * ii f + (0 : Int32) = ii (2 * f) := by rw [k_2, ii_mul, k_0, ii_add]; rfl
            rw [if_pos (show ii (kR (stp R)) = (5 : Int32) by rw [e5]; exact c5), if_pos c5, if_neg (by decide), Option.bind_some, if_neg (by decide), Option.bind_some]
            dsimp only
            rw [ey]
            exact L133_X (by omega) hm (by omega) h2 fa ht
          · rw [if_neg (show ¬ ii (kR (stp R)) = (5 : Int32) by rw [e5]; exact c5), if_neg c5, if_pos rfl, Option.bind_some]
            by_cases c6 : kR (stp R) = 6
            · have ey : (2 : Int32) * ii f + (1 : Int32) = ii (2 * f + 1) := by rw [k_2, ii_mul, k_1, ii_add]
              rw [if_pos (show ii (kR (stp R)) = (6 : Int32) by rw [e6]; exact c6), if_pos c6, Option.bind_some, if_pos rfl, Option.bind_some]
              dsimp only
              rw [ey]
              exact L133_X (by omega) hm (by omega) h2 fa ht
            · rw [if_neg (show ¬ ii (kR (stp R)) = (6 : Int32) by rw [e6]; exact c6), if_neg c6, show fX9_wrong F sz cn he1 1001 sta (1 : Int32) fa = some (0, ii (1 + 16 * sR (stp R))) from wrongX h1 fa, Option.bind_some, Option.bind_some]
              dsimp only
              unfold bX2_readYearLine_L133 bX2_readYearLine_L148
              rw [if_pos rfl]
              exact ⟨_, rfl⟩
    · rw [if_neg c2, nameHere_X0 h c2, Option.bind_some]
      dsimp only
      rw [if_pos rfl, if_pos rfl]
      exact ⟨_, rfl⟩
theorem ysS_s (NM : List (List Nat)) (most bh f : Nat) (Y : List Nat) (R : List Tk) : ysS NM most bh (f + 1) Y R = if kR R = 22 then .inr Y else match ylS NM most bh Y.length R with
    | .inl e => .inl e
    | .inr p => ysS NM most bh f (Y ++ [p.1]) p.2 := rfl
theorem readLines_L {F most bh : Nat} (hF : 1000 ≤ F) (hm : most ≤ 40) (hbh : bh ≤ 1) {NM : List (List Nat)} (h6 : NM.length ≤ 6) (hok : okNM NM) {nm : Nat → Int64} (hnm : nmX NM nm) {T : List Nat} {TK : List Tk} {sz cn fa : Int32} {tk sta : Nat → Int32} {vl : Nat → Int64} :
    ∀ (f t : Nat) (Y : List Nat) (R : List Tk) (he : Int32) (ht : Nat → Int32), Y.length + f = most → f + 1 < t → tpX T TK R sz cn he tk sta vl → rL ht Y → (∀ e, ysS NM most bh (f + 1) Y R = .inl e → ∃ he' z ht', fX2_readLines_L7 F (ii NM.length) 6 nm sz cn 1001 tk 1001 sta 1001 vl 40 t (ii most) (ii bh) (ii Y.length) he fa (ii Y.length) ht = some (0, he', ii e, z, ht')) ∧ (∀ Y', ysS NM most bh (f + 1) Y R = .inr Y' → ∃ he' ht', fX2_readLines_L7 F (ii NM.length) 6 nm sz cn 1001 tk 1001 sta 1001 vl 40 t (ii most) (ii bh) (ii Y.length) he fa (ii Y.length) ht = some (1, he', fa, ii Y'.length, ht') ∧ rL ht' Y' ∧ Y'.length ≤ most) := by
  intro f
  induction f with
  | zero =>
    intro t Y R he ht hY ht9 htp hrl
    obtain ⟨t, rfl⟩ : ∃ t', t = t' + 1 := ⟨t - 1, by omega⟩
    rw [sX2_readLines_L7]
    unfold bX2_readLines_L7 bX2_readLines_L42
    obtain ⟨t1, t2, t3⟩ := tpX_k htp
    have e22 : (ii (kR R) = (22 : Int32)) = (kR R = 22) := ii_inj (b := 22) (by omega) (by omega)
    rw [if_neg (by rw [ii_lt (by omega) (by omega)]; omega), tokX htp, Option.bind_some, ysS_s]
    by_cases c1 : kR R = 22
    · rw [if_pos (show ii (kR R) = (22 : Int32) by rw [e22]; exact c1), if_pos c1]
      refine ⟨fun e h => (by cases h), fun Y' h => ?_⟩
      cases h
      exact ⟨he, ht, rfl, hrl, by omega⟩
    · rw [if_neg (show ¬ ii (kR R) = (22 : Int32) by rw [e22]; exact c1), if_neg c1]
      have hl := readYearLine_X (F := F) (len := Y.length) hF hm (by omega) hbh h6 hok hnm htp fa ht
      cases hy : ylS NM most bh Y.length R with
      | inl e =>
        rw [hy] at hl
        obtain ⟨he', e1⟩ := hl
        rw [e1, Option.bind_some]
        refine ⟨fun e' h => ?_, fun Y' h => by cases h⟩
        cases h
        dsimp only
        rw [if_pos rfl]
        exact ⟨_, _, _, rfl⟩
      | inr p =>
        have := (ylS_ok hy).1
        omega
  | succ f ih =>
    intro t Y R he ht hY ht9 htp hrl
    obtain ⟨t, rfl⟩ : ∃ t', t = t' + 1 := ⟨t - 1, by omega⟩
    rw [sX2_readLines_L7]
    unfold bX2_readLines_L7 bX2_readLines_L42
    obtain ⟨t1, t2, t3⟩ := tpX_k htp
    have e22 : (ii (kR R) = (22 : Int32)) = (kR R = 22) := ii_inj (b := 22) (by omega) (by omega)
    rw [if_neg (by rw [ii_lt (by omega) (by omega)]; omega), tokX htp, Option.bind_some, ysS_s]
    by_cases c1 : kR R = 22
    · rw [if_pos (show ii (kR R) = (22 : Int32) by rw [e22]; exact c1), if_pos c1]
      refine ⟨fun e h => (by cases h), fun Y' h => ?_⟩
      cases h
      exact ⟨he, ht, rfl, hrl, by omega⟩
    · rw [if_neg (show ¬ ii (kR R) = (22 : Int32) by rw [e22]; exact c1), if_neg c1]
      have hl := readYearLine_X (F := F) (len := Y.length) hF hm (by omega) hbh h6 hok hnm htp fa ht
      cases hy : ylS NM most bh Y.length R with
      | inl e =>
        rw [hy] at hl
        obtain ⟨he', e1⟩ := hl
        rw [e1, Option.bind_some]
        refine ⟨fun e' h => ?_, fun Y' h => by cases h⟩
        cases h
        dsimp only
        rw [if_pos rfl]
        exact ⟨_, _, _, rfl⟩
      | inr p =>
        rw [hy] at hl
        obtain ⟨he', e1, h2⟩ := hl
        have hk := ylS_ok hy
        rw [e1, Option.bind_some]
        dsimp only
        rw [if_neg (by decide), k_1, ii_add]
        have := ih t (Y ++ [p.1]) p.2 he' (upd ht Y.length (ii p.1)) (by rw [List.length_append, List.length_singleton]; omega) (by omega) h2 (rL_snoc hrl)
        rw [List.length_append, List.length_singleton] at this
        exact this
