/-! PURE: the class finds a party, and holds two of them side by side -/
theorem ii_and6 : ∀ a, a < 64 → ∀ b, b < 64 → ii a &&& ii b = ii (a &&& b) ∧ a &&& b < 64 := by decide +kernel
theorem ii_wo6 : ∀ a, a < 64 → ∀ b, b < 64 → ii a &&& (ii b ^^^ (-1 : Int32)) = ii (a &&& (63 ^^^ b)) ∧ a &&& (63 ^^^ b) < 64 := by decide +kernel
theorem wo_bit : ∀ g, g < 6 → (63 : Nat).testBit g = true := by decide
theorem bit6 {S g : Nat} (h : S < 64) (hb : S.testBit g = true) : g < 6 := by
  refine Classical.byContradiction (fun h9 => ?_)
  have : S < 2 ^ g := Nat.lt_of_lt_of_le h (by
    have := Nat.pow_le_pow_right (n := 2) (by decide) (show 6 ≤ g by omega)
    exact this)
  rw [Nat.testBit_lt_two_pow this] at hb
  cases hb
/-- what a round of kin makes of S, from place i on -/
def pR (mk : Nat → Nat) (A i S S' : Nat) : Prop := S' < 64 ∧ (∀ j, S.testBit j = true → S'.testBit j = true) ∧ (∀ j, i ≤ j → S.testBit j = true → ∀ g, (mk j).testBit g = true → A.testBit g = true → S'.testBit g = true) ∧ ∀ P : Nat → Prop, (∀ j, S.testBit j = true → P j) → (∀ j g, P j → (mk j).testBit g = true → A.testBit g = true → P g) → ∀ j, S'.testBit j = true → P j
theorem party_17 {F n : Nat} {mk rd : Nat → Nat} {kx : Nat → Int32} (hn : okN n mk rd) (hkx : ∀ f, f < n → kx f = ii (mk f)) {A : Nat} (hA : A < 64) (hAn : ∀ g, A.testBit g = true → g < n) {r : Nat} (k7 : Int32 → Int32 → Int32 → Option Int32) :
    ∀ (t i S : Nat), i ≤ 6 → 6 < i + t → S < 64 → (∀ j, S.testBit j = true → A.testBit j = true) → ∃ S', fX2_partyOf_L17 F 6 kx k7 t (ii A) (ii S) (ii r) (ii i) = k7 (ii A) (ii S') (ii (r + 1)) ∧ pR mk A i S S' := by
  have h6 := hn.1
  intro t
  induction t with
  | zero => intro i S h1 h2; omega
  | succ t ih =>
    intro i S h1 h2 hS hSA
    rw [sX2_partyOf_L17]
    unfold bX2_partyOf_L17
    by_cases hi : 6 ≤ i
    · rw [if_pos (by rw [k_6, ii_le (by omega) (by omega)]; exact hi), e1k]
      refine ⟨S, rfl, hS, fun j h => h, fun j hj hb => ?_, fun P h3 _ => h3⟩
      have := bit6 hS hb
      omega
    · rw [if_neg (by rw [k_6, ii_le (by omega) (by omega)]; exact hi)]
      unfold bX2_partyOf_L45
      rw [e1k]
      cases hb : S.testBit i
      · rw [if_pos (by rw [iBit0 (by omega) (by omega)]; exact hb)]
        obtain ⟨S', e, p1, p2, p3, p4⟩ := ih (i + 1) S (by omega) (by omega) hS hSA
        refine ⟨S', e, p1, p2, fun j hj hbj => ?_, p4⟩
        by_cases hji : j = i
        · rw [hji, hb] at hbj; cases hbj
        · exact p3 j (by omega) hbj
      · have hin := hAn i (hSA i hb)
        have hmk := (hn.2.1 i hin).1
        rw [if_neg (by rw [iBit0 (by omega) (by omega), hb]; decide), if_neg (nidx (by omega) (by omega)), ii_nat (by omega), hkx i hin, (ii_and6 _ hmk _ hA).1, (ii_or S hS _ (ii_and6 _ hmk _ hA).2).1]
        obtain ⟨S', e, p1, p2, p3, p4⟩ := ih (i + 1) (S ||| (mk i &&& A)) (by omega) (by omega) (ii_or S hS _ (ii_and6 _ hmk _ hA).2).2 (by
          intro j hj
          rw [Nat.testBit_or, Bool.or_eq_true, Nat.testBit_and, Bool.and_eq_true] at hj
          rcases hj with hj | hj
          · exact hSA j hj
          · exact hj.2)
        have up : ∀ j, S.testBit j = true → (S ||| (mk i &&& A)).testBit j = true := fun j hj => by rw [Nat.testBit_or, hj, Bool.true_or]
        refine ⟨S', e, p1, fun j hj => p2 j (up j hj), fun j hj hbj g hg hAg => ?_, fun P q1 q2 => p4 P (fun j hj => ?_) q2⟩
        · by_cases hji : j = i
          · rw [hji] at hg
            apply p2
            rw [Nat.testBit_or, Nat.testBit_and, hg, hAg, Bool.and_true, Bool.or_true]
          · exact p3 j (by omega) (up j hbj) g hg hAg
        · rw [Nat.testBit_or, Bool.or_eq_true, Nat.testBit_and, Bool.and_eq_true] at hj
          rcases hj with hj | hj
          · exact q1 j hj
          · exact q2 i j (q1 i hb) hj.1 hj.2
def bc (S : Nat) : Nat := (S.testBit 0).toNat + (S.testBit 1).toNat + (S.testBit 2).toNat + (S.testBit 3).toNat + (S.testBit 4).toNat + (S.testBit 5).toNat
theorem bc_6 (S : Nat) : bc S ≤ 6 := by
  have h : ∀ b : Bool, b.toNat ≤ 1 := by decide
  unfold bc
  have := h (S.testBit 0)
  have := h (S.testBit 1)
  have := h (S.testBit 2)
  have := h (S.testBit 3)
  have := h (S.testBit 4)
  have := h (S.testBit 5)
  omega
theorem bc_lt {S T : Nat} (h : ∀ j, S.testBit j = true → T.testBit j = true) {g : Nat} (hg : g < 6) (h1 : S.testBit g = false) (h2 : T.testBit g = true) : bc S < bc T := by
  have key : ∀ j, (S.testBit j).toNat ≤ (T.testBit j).toNat := by
    intro j
    cases hb : S.testBit j
    · exact Nat.zero_le _
    · rw [h j hb]; exact Nat.le_refl _
  have k0 := key 0
  have k1 := key 1
  have k2 := key 2
  have k3 := key 3
  have k4 := key 4
  have k5 := key 5
  have kg : (S.testBit g).toNat < (T.testBit g).toNat := by rw [h1, h2]; decide
  unfold bc
  have : g = 0 ∨ g = 1 ∨ g = 2 ∨ g = 3 ∨ g = 4 ∨ g = 5 := by omega
  rcases this with rfl | rfl | rfl | rfl | rfl | rfl <;> omega
/-- a party: f0 and all bound to it by kin among A -/
def pty (mk : Nat → Nat) (A f0 M : Nat) : Prop := M < 64 ∧ M.testBit f0 = true ∧ (∀ g, M.testBit g = true → A.testBit g = true) ∧ (∀ j, M.testBit j = true → ∀ g, (mk j).testBit g = true → A.testBit g = true → M.testBit g = true) ∧ ∀ P : Nat → Prop, P f0 → (∀ j g, P j → (mk j).testBit g = true → A.testBit g = true → P g) → ∀ j, M.testBit j = true → P j
theorem party_7 {F n : Nat} {mk rd : Nat → Nat} {kx : Nat → Int32} (hn : okN n mk rd) (hF : 1000 ≤ F) (hkx : ∀ f, f < n → kx f = ii (mk f)) {A f0 : Nat} (hA : A < 64) (hAn : ∀ g, A.testBit g = true → g < n) (hf0 : A.testBit f0 = true) :
    ∀ (t r S : Nat), r ≤ 6 → 6 < r + t → S < 64 → S.testBit f0 = true → (∀ P : Nat → Prop, P f0 → (∀ j g, P j → (mk j).testBit g = true → A.testBit g = true → P g) → ∀ j, S.testBit j = true → P j) → ((∀ j, S.testBit j = true → ∀ g, (mk j).testBit g = true → A.testBit g = true → S.testBit g = true) ∨ r + 1 ≤ bc S) → ∃ M, fX2_partyOf_L7 F 6 kx t (ii A) (ii S) (ii r) = some (ii M) ∧ pty mk A f0 M := by
  intro t
  induction t with
  | zero => intro r S h1 h2; omega
  | succ t ih =>
    intro r S h1 h2 hS hS0 hmin hcl
    have hSA : ∀ j, S.testBit j = true → A.testBit j = true := hmin (fun j => A.testBit j = true) hf0 (fun j g _ _ h => h)
    rw [sX2_partyOf_L7]
    unfold bX2_partyOf_L7
    by_cases hr : 6 ≤ r
    · rw [if_pos (by rw [k_6, ii_le (by omega) (by omega)]; exact hr)]
      refine ⟨S, rfl, hS, hS0, hSA, ?_, hmin⟩
      rcases hcl with h | h
      · exact h
      · have := bc_6 S
        omega
    · rw [if_neg (by rw [k_6, ii_le (by omega) (by omega)]; exact hr)]
      obtain ⟨S', e, p1, p2, p3, p4⟩ := party_17 (F := F) (r := r) hn hkx hA hAn (fX2_partyOf_L7 F 6 kx t) F 0 S (by omega) (by omega) hS hSA
      have e' : fX2_partyOf_L17 F 6 kx (fX2_partyOf_L7 F 6 kx t) F (ii A) (ii S) (ii r) (0 : Int32) = fX2_partyOf_L7 F 6 kx t (ii A) (ii S') (ii (r + 1)) := e
      rw [e']
      have p4' : ∀ P : Nat → Prop, P f0 → (∀ j g, P j → (mk j).testBit g = true → A.testBit g = true → P g) → ∀ j, S'.testBit j = true → P j := fun P q1 q2 => p4 P (hmin P q1 q2) q2
      refine ih (r + 1) S' (by omega) (by omega) p1 (p2 _ hS0) p4' ?_
      by_cases hc : ∀ j, S.testBit j = true → ∀ g, (mk j).testBit g = true → A.testBit g = true → S.testBit g = true
      · left
        have hsub : ∀ j, S'.testBit j = true → S.testBit j = true := p4 (fun j => S.testBit j = true) (fun j h => h) (fun j g hj hg hAg => hc j hj g hg hAg)
        intro j hj g hg hAg
        exact p2 g (hc j (hsub j hj) g hg hAg)
      · right
        have h9 : ∃ j g, S.testBit j = true ∧ (mk j).testBit g = true ∧ A.testBit g = true ∧ S.testBit g = false := by
          refine Classical.byContradiction (fun h9 => hc (fun j hj g hg hAg => ?_))
          cases hb : S.testBit g
          · exact absurd ⟨j, g, hj, hg, hAg, hb⟩ h9
          · rfl
        obtain ⟨j, g, q1, q2, q3, q4⟩ := h9
        have hlt := bc_lt p2 (bit6 hA q3) q4 (p3 j (Nat.zero_le _) q1 g q2 q3)
        rcases hcl with h | h
        · exact absurd h hc
        · omega
theorem party_X {F n : Nat} {mk rd : Nat → Nat} {kx : Nat → Int32} (hn : okN n mk rd) (hF : 1000 ≤ F) (hkx : ∀ f, f < n → kx f = ii (mk f)) {A f0 : Nat} (hA : A < 64) (hAn : ∀ g, A.testBit g = true → g < n) (hf0 : A.testBit f0 = true) : ∃ M, fX2_partyOf F 6 kx (ii f0) (ii A) = some (ii M) ∧ pty mk A f0 M := by
  unfold fX2_partyOf
  have h6 := bit6 hA hf0
  have hb : (2 ^ f0).testBit f0 = true := by rw [Nat.testBit_two_pow]; exact decide_eq_true rfl
  have hu : ∀ j, (2 ^ f0).testBit j = true → j = f0 := by
    intro j hj
    rw [Nat.testBit_two_pow] at hj
    exact (of_decide_eq_true hj).symm
  rw [iSh _ (by omega)]
  refine party_7 hn hF hkx hA hAn hf0 F 0 (2 ^ f0) (by omega) (by omega) ?_ hb (fun P q1 _ j hj => by rw [hu j hj]; exact q1) (Or.inr ?_)
  · have := Nat.pow_lt_pow_right (a := 2) (by decide) h6
    exact this
  · have := bc_lt (S := 0) (T := 2 ^ f0) (fun j hj => by rw [Nat.zero_testBit] at hj; cases hj) h6 (Nat.zero_testBit _) hb
    omega
/-- the forms of two piles -/
theorem FM_iff {mk rd : Nat → Nat} (hs : symK mk) (hr : okR rd) {k l : Nat} {Q P : List (Nat × Int)} {O O' : List Nat} (hQ : Red mk Q ∧ okC rd Q) (hP : Red mk P ∧ okC rd P) (h1 : FM mk k (bu rd Q) O) (h2 : FM mk l (bu rd P) O') : O = O' ↔ EQ mk Q P := by
  constructor
  · intro e
    have a := FM_back hs hr k hQ.1 hQ.2 h1
    have b := FM_back hs hr l hP.1 hP.2 h2
    rw [e] at a
    exact a.symm9.trans9 b
  · intro e
    exact FM_EQ hs k l e h1 h2
theorem PK_facts {n : Nat} {mk rd : Nat → Nat} (hn : okN n mk rd) (hr : okR rd) {Q : List (Nat × Int)} (h : PK n rd Q) : ∃ O, FM mk Q.length (bu rd Q) O ∧ okL n O ∧ O.length ≤ 24 := by
  obtain ⟨O, hO⟩ := FM_ex (mk := mk) Q.length (bu rd Q) (bu_len _ _)
  refine ⟨O, hO, FM_ok hO (fun x hx => (bu_ok hn (PK_okP hr h) h.2.1 x hx).2), ?_⟩
  rw [FM_len hO, flat_len]
  exact h.2.2
theorem propext_ite {P Q : Prop} {a b : Int32} (h : P ↔ Q) : @ite Int32 P (Classical.propDecidable _) a b = @ite Int32 Q (Classical.propDecidable _) a b := by
  rw [propext h]
/-- opened before the least of a party, all well -/
def opw (n : Nat) (mk rd : Nat → Nat) (f0 : Nat) (w : List (Nat × Int)) : Prop := GR mk rd w.reverse ∧ PK n rd w.reverse ∧ CN mk f0 w ∧ (bnF mk f0 0 w).1 = []
theorem opw_len {n : Nat} {mk rd : Nat → Nat} (hr : okR rd) {f0 : Nat} {w : List (Nat × Int)} (h : opw n mk rd f0 w) : w.length ≤ 24 := by
  have h1 := len_tt hr h.2.1.2.1
  have h2 := h.2.1.2.2
  rw [List.length_reverse] at h1
  omega
theorem opn_w {n : Nat} {mk rd : Nat → Nat} (hs : symK mk) (hr : okR rd) {f0 : Nat} {w : List (Nat × Int)} (hG : GR mk rd w.reverse) (hP : PK n rd w.reverse) (hC : CN mk f0 w) : opw n mk rd f0 (opn mk f0 24 w) ∧ (opn mk f0 24 w).length = w.length := by
  have h1 := len_tt hr hP.2.1
  have h2 := hP.2.2
  rw [List.length_reverse] at h1
  have hlb := bn_len (mk := mk) (f0 := f0) (w := w) (M := 0)
  obtain ⟨a, k, b⟩ := opn_ok hs 24 hC (by omega)
  have hRT := RC_RT b
  refine ⟨⟨RT_GR hs _ hG hRT, PK_RT hs hP hRT, CN_mem (fun x => ?_) hC, a⟩, ?_⟩
  · have := RT_mem hRT x
    rw [List.mem_reverse, List.mem_reverse] at this
    exact this
  · have := RT_len hs hRT
    rw [List.length_reverse, List.length_reverse] at this
    exact this.symm
theorem one_L {F n : Nat} {mk rd : Nat → Nat} {st ro : Nat → Int32} (hn : okN n mk rd) (hr : okR rd) (hx : netX n mk rd st ro) (hF : 1000 ≤ F) {f0 : Nat} (hf0 : f0 < 6) {w2 : List (Nat × Int)} (hw2 : Red mk w2.reverse ∧ okC rd w2.reverse) {O2 : List Nat} (hO2 : FM mk w2.reverse.length (bu rd w2.reverse) O2) (hO2n : okL n O2) (hO2l : O2.length ≤ 24) {z1 z2 z3 z4 : Int32} {y1 y2 y3 y4 : Nat → Int32} {x1 : Int32} {x2 x3 x4 : Nat → Int32} {x6 : Nat → Int32} (hx6 : rL x6 O2) {ways : Nat} (hwa : ways ≤ 24) :
    ∀ (t j : Nat) (w : List (Nat × Int)) (fo co wr tf tc : Nat → Int32) (tz oz : Int32) (oa : Nat → Int32), j ≤ ways → ways < j + t → opw n mk rd f0 w → rP fo co w.reverse →
      ∃ b1 b2 b3 b4 b5 b6 b7 b8 b9 b10 b11 b12 b13 b14 b15, fX6_isPartyOne_L71 F z1 24 y1 24 y2 z2 24 y3 24 y4 24 24 24 24 24 24 24 24 24 24 (ii n) 6 st 6 ro t (ii f0) (ii ways) (ii j) (ii w.length) fo co wr x1 x2 x3 x4 tz tf tc oz oa (ii O2.length) x6 = some (@ite Int32 (∃ m, m < ways - j ∧ EQ mk (rtN mk f0 24 m w).reverse w2.reverse) (Classical.propDecidable _) 1 0, b1, b2, b3, b4, b5, b6, b7, b8, b9, b10, b11, b12, b13, b14, b15) := by
  intro t
  induction t with
  | zero => intro j w fo co wr tf tc tz oz oa h1 h2; omega
  | succ t ih =>
    intro j w fo co wr tf tc tz oz oa h1 h2 hw hp
    have hwl := opw_len hr hw
    rw [sX6_isPartyOne_L71]
    unfold bX6_isPartyOne_L71
    by_cases hj : ways ≤ j
    · rw [if_pos (by rw [ii_le (by omega) (by omega)]; exact hj), if_neg (by rintro ⟨m, hm, _⟩; omega)]
      exact ⟨_, _, _, _, _, _, _, _, _, _, _, _, _, _, _, rfl⟩
    · rw [if_neg (by rw [ii_le (by omega) (by omega)]; exact hj)]
      obtain ⟨O, hO1, hO3, hO4⟩ := PK_facts (mk := mk) hn hr hw.2.1
      have hrl : w.reverse.length = w.length := List.length_reverse
      obtain ⟨wr', a', e1, e2⟩ := writeForm_eq (F := F) (N := 24) (N2 := 24) (W := 24) (S := 6) (R := 6) (M := 24) hn hx hn.1 hn.1 (PK_okP hr hw.2.1) hw.2.1.2.1 hp (by omega) (by omega) (by omega) (by omega) (by omega) (by omega) (by omega) hO1 hO4 wr oa oz
      rw [hrl] at e1
      rw [e1, Option.bind_some]
      have hlk := isLike_eq (F := F) hn.1 hF hO3 hO2n e2 hx6 hO4 hO2l
      have hiff := FM_iff hn.2.2 hr ⟨hw.1.1, hw.1.2.1⟩ hw2 hO1 hO2
      by_cases he : O = O2
      · have l1 : fX7_isLike F (wr', ii O.length, a').2.1 24 (wr', ii O.length, a').2.2 (ii O2.length) 24 x6 = some 1 := hlk.1 he
        rw [l1, Option.bind_some, if_neg (by decide), if_pos ⟨0, by omega, hiff.mp he⟩]
        exact ⟨_, _, _, _, _, _, _, _, _, _, _, _, _, _, _, rfl⟩
      · have l1 : fX7_isLike F (wr', ii O.length, a').2.1 24 (wr', ii O.length, a').2.2 (ii O2.length) 24 x6 = some 0 := hlk.2 he
        rw [l1, Option.bind_some, if_pos rfl]
        rcases opn_head hw.2.2.2 with e | ⟨c, w', e⟩
        · have := hw.2.2.1.1
          rw [e] at this
          obtain ⟨x, hxx, _⟩ := this
          cases hxx
        · have htk := tk_one (A := []) (B := w') (x := (f0, c))
          have hl2 : (w' ++ [(f0, c)]).length = w.length := by rw [e]; simp
          have hRS : RS mk f0 w.reverse (w' ++ [(f0, c)]).reverse := by
            refine ⟨c, w'.reverse, ?_, ?_⟩
            · rw [e, List.reverse_cons]; exact EQ.rfl9
            · rw [List.reverse_append]; exact EQ.rfl9
          have hRT : RT mk 1 w.reverse (w' ++ [(f0, c)]).reverse := ⟨f0, _, hRS, EQ.rfl9⟩
          have hG2 := RT_GR hn.2.2 1 hw.1 hRT
          have hP2 := PK_RT hn.2.2 hw.2.1 hRT
          have hC2 : CN mk f0 (w' ++ [(f0, c)]) := CN_mem (fun a => by rw [e]; simp [or_comm]) hw.2.2.1
          have hself := pW_self hG2.1 hG2.2.1
          rw [List.reverse_reverse] at hself
          obtain ⟨f3, c3, t1, t2⟩ := turn_X (T := 1) hn hr hx hF hw.2.1 hp (by decide) tz tf tc
          have htk1 : tkI 1 true 0 w = [(f0, c)] := by rw [e]; exact htk.1
          have htk2 : tkI 1 false 0 w = w' := by rw [e]; exact htk.2
          rw [htk1, htk2, hself, List.length_reverse, hl2] at t1
          rw [htk1, htk2, hself] at t2
          have t1' : fX6_turn F 24 24 (ii n) 6 st 6 ro (ii w.length) 24 fo 24 co (1 : Int32) tz tf tc = some (ii w.length, f3, c3) := t1
          rw [t1', Option.bind_some, pile_copy (by omega) (by omega), Option.bind_some]
          have hcp := rP_copy (f2 := fo) (c2 := co) t2
          rw [List.length_reverse, hl2] at hcp
          obtain ⟨z', tf', tc', fo', co', o1, o2⟩ := openAt_X hn hr hx hF hf0 hG2 hP2 hC2.1 hcp (ii w.length) f3 c3
          rw [hl2] at o1
          rw [o1, Option.bind_some, e1k]
          obtain ⟨hw3, hl3⟩ := opn_w hn.2.2 hr hG2 hP2 hC2
          have er : rtn mk f0 24 w = opn mk f0 24 (w' ++ [(f0, c)]) := by unfold rtn; rw [e]; rfl
          rw [← er] at hw3 hl3 o2
          obtain ⟨b1, b2, b3, b4, b5, b6, b7, b8, b9, b10, b11, b12, b13, b14, b15, g⟩ := ih (j + 1) (rtn mk f0 24 w) fo' co' wr' tf' tc' z' (ii O.length) a' (by omega) (by omega) hw3 o2
          rw [hl3, hl2] at g
          refine ⟨b1, b2, b3, b4, b5, b6, b7, b8, b9, b10, b11, b12, b13, b14, b15, ?_⟩
          refine Eq.trans g ?_
          congr 2
          apply propext_ite
          constructor
          · rintro ⟨m, hm, h⟩
            exact ⟨m + 1, by omega, h⟩
          · rintro ⟨m, hm, h⟩
            cases m with
            | zero => exact absurd (hiff.mpr h) he
            | succ m => exact ⟨m, by omega, h⟩
