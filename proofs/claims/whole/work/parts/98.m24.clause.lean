/-! PURE: a clause of the net, read by the class -/
abbrev NSt := List (List Nat) × List Nat × (Nat → Nat) × Nat × Option Nat × Option Nat × List Nat
def mkK (mk : Nat → Nat) (a b : Nat) : Nat → Nat := fun f => if f = a then mk a ||| 2 ^ b else if f = b then mk b ||| 2 ^ a else mk f
def ncS (S : NSt) (R : List Tk) : Nat ⊕ (NSt × List Tk) := if kR R = 0 then (match foS S.1 R with
    | .inl e => .inl e
    | .inr p => .inr ((S.1 ++ [p.1], S.2.1 ++ [p.2.1], S.2.2.1, S.2.2.2.1, S.2.2.2.2.1, S.2.2.2.2.2.1, S.2.2.2.2.2.2), p.2.2))
  else if kR R = 1 then (match kiS S.1 S.2.2.1 R with
    | .inl e => .inl e
    | .inr p => .inr ((S.1, S.2.1, mkK S.2.2.1 p.1 p.2.1, S.2.2.2.1 + 1, S.2.2.2.2.1, S.2.2.2.2.2.1, S.2.2.2.2.2.2), p.2.2))
  else if kR R = 2 then (match onS S.2.2.2.2.1.isSome 1 24 R with
    | .inl e => .inl e
    | .inr p => .inr ((S.1, S.2.1, S.2.2.1, S.2.2.2.1, some p.1, S.2.2.2.2.2.1, S.2.2.2.2.2.2), p.2))
  else if kR R = 3 then (match onS S.2.2.2.2.2.1.isSome 0 999 R with
    | .inl e => .inl e
    | .inr p => .inr ((S.1, S.2.1, S.2.2.1, S.2.2.2.1, S.2.2.2.2.1, some p.1, S.2.2.2.2.2.2), p.2))
  else if kR R = 4 then (match tkC (!S.2.2.2.2.2.2.isEmpty) R with
    | .inl e => .inl e
    | .inr p => .inr ((S.1, S.2.1, S.2.2.1, S.2.2.2.1, S.2.2.2.2.1, S.2.2.2.2.2.1, p.1), p.2))
  else .inl (1 + 16 * sR R)
def okNS (S : NSt) : Prop := S.1.length ≤ 6 ∧ okNM S.1 ∧ S.2.1.length = S.1.length ∧ (∀ k ∈ S.2.1, k < 4) ∧ (∀ f, S.2.2.1 f < 64 ∧ (S.2.2.1 f).testBit f = false ∧ (S.1.length ≤ f → S.2.2.1 f = 0) ∧ ∀ g, (S.2.2.1 f).testBit g = (S.2.2.1 g).testBit f) ∧ (∀ l, S.2.2.2.2.1 = some l → 1 ≤ l ∧ l ≤ 24) ∧ (∀ r, S.2.2.2.2.2.1 = some r → r ≤ 999) ∧ (S.2.2.2.2.2.2 = [] ∨ fullC S.2.2.2.2.2.2)
/-- the class's net (while it is read) holds S -/
def nsX (S : NSt) (fo pr ln rp lt rt : Int32) (nm : Nat → Int64) (kx kn sx rx : Nat → Int32) (lz : Int32) (lc : Nat → Int32) : Prop := fo = ii S.1.length ∧ pr = ii S.2.2.2.1 ∧ ln = ii (S.2.2.2.2.1.getD 24) ∧ rp = ii (S.2.2.2.2.2.1.getD 200) ∧ lt = bI2 S.2.2.2.2.1.isSome ∧ rt = bI2 S.2.2.2.2.2.1.isSome ∧ nmX S.1 nm ∧ (∀ f, f < S.1.length → kx f = ii (S.2.1.getD f 0) ∧ kn f = ii (S.2.2.1 f) ∧ sx f = ii (S.2.2.1 f ||| 2 ^ f) ∧ rx f = ii (rdk (S.2.1.getD f 0))) ∧ (∀ f, S.1.length ≤ f → f < 6 → kn f = ii 0) ∧ (S.2.2.2.2.2.2 = [] → lz = 0) ∧ (S.2.2.2.2.2.2 ≠ [] → lawX S.2.2.2.2.2.2 lz lc)
theorem nmX_snoc {NM : List (List Nat)} {nm : Nat → Int64} {w : List Nat} (h : nmX NM nm) : nmX (NM ++ [w]) (vp_updL nm NM.length (il (bv 32 w))) := by
  intro k hk
  rw [List.length_append, List.length_singleton] at hk
  by_cases h1 : k < NM.length
  · rw [updL_ne _ _ (by omega), getDL1 h1]
    exact h k h1
  · have : k = NM.length := by omega
    subst this
    rw [updL_same, getDL2 (Nat.le_refl _), Nat.sub_self]
    rfl
theorem mkK_bit {mk : Nat → Nat} {a b : Nat} (hab : a ≠ b) (f g : Nat) : (mkK mk a b f).testBit g = ((mk f).testBit g || decide ((f = a ∧ g = b) ∨ (f = b ∧ g = a))) := by
  unfold mkK
  by_cases h1 : f = a
  · subst h1
    rw [if_pos rfl, Nat.testBit_or, Nat.testBit_two_pow]
    congr 1
    apply decide_eq_decide.mpr
    constructor
    · intro h
      exact Or.inl ⟨rfl, h.symm⟩
    · intro h
      rcases h with h | h
      · exact h.2.symm
      · exact absurd h.1 hab
  · rw [if_neg h1]
    by_cases h2 : f = b
    · subst h2
      rw [if_pos rfl, Nat.testBit_or, Nat.testBit_two_pow]
      congr 1
      apply decide_eq_decide.mpr
      constructor
      · intro h
        exact Or.inr ⟨rfl, h.symm⟩
      · intro h
        rcases h with h | h
        · exact absurd h.1 h1
        · exact h.2.symm
    · rw [if_neg h2, decide_eq_false (by
        intro h
        rcases h with h | h
        · exact h1 h.1
        · exact h2 h.1), Bool.or_false]
theorem or_sw (x y z : Nat) : x ||| y ||| z = x ||| z ||| y := by
  apply Nat.eq_of_testBit_eq
  intro i
  rw [Nat.testBit_or, Nat.testBit_or, Nat.testBit_or, Nat.testBit_or]
  cases x.testBit i <;> cases y.testBit i <;> cases z.testBit i <;> rfl
theorem readClause_X {F : Nat} (hF : 2000 ≤ F) {S : NSt} (hS : okNS S) {T : List Nat} {TK R : List Tk} {psz cn he : Int32} {tk sta : Nat → Int32} {vl : Nat → Int64} (h : tpX T TK R psz cn he tk sta vl) (hend : endsE R) (hk22 : kR R ≠ 22) (hR : R.length ≤ 1001) {fo pr ln rp lt rt : Int32} {nm : Nat → Int64} {kx kn sx rx : Nat → Int32} {lz : Int32} {lc : Nat → Int32} (hx : nsX S fo pr ln rp lt rt nm kx kn sx rx lz lc) (wa wi br pd : Int32) (wt : Nat → Int32) (fa : Int32) :
    (∀ e, ncS S R = .inl e → ∃ fo' pr' ln' rp' lt' rt' nm' kx' kn' sx' rx' lz' wa' wi' br' pd' lc' wt' he', fX2_readClause F 6 6 6 6 6 1000 64 psz cn 1001 tk 1001 sta 1001 vl fo pr ln rp lt rt nm kx kn sx rx lz wa wi br pd lc wt he fa = some (0, fo', pr', ln', rp', lt', rt', nm', kx', kn', sx', rx', lz', wa', wi', br', pd', lc', wt', he', ii e)) ∧ (∀ S' R', ncS S R = .inr (S', R') → ∃ fo' pr' ln' rp' lt' rt' nm' kx' kn' sx' rx' lz' wa' wi' br' pd' lc' wt' he', fX2_readClause F 6 6 6 6 6 1000 64 psz cn 1001 tk 1001 sta 1001 vl fo pr ln rp lt rt nm kx kn sx rx lz wa wi br pd lc wt he fa = some (1, fo', pr', ln', rp', lt', rt', nm', kx', kn', sx', rx', lz', wa', wi', br', pd', lc', wt', he', fa) ∧ nsX S' fo' pr' ln' rp' lt' rt' nm' kx' kn' sx' rx' lz' lc' ∧ okNS S' ∧ tpX T TK R' psz cn he' tk sta vl ∧ endsE R' ∧ R'.length < R.length) := by
  obtain ⟨NM, KD, mk, pr0, ol, orp, C⟩ := S
  obtain ⟨s1, s2, s3, s4, s5, s6, s7, s8⟩ := hS
  obtain ⟨rfl, rfl, rfl, rfl, rfl, rfl, x7, x8, x9, x10, x11⟩ := hx
  simp only at s1 s2 s3 s4 s5 s6 s7 s8 x7 x8 x9 x10 x11 ⊢
  obtain ⟨t1, t2, t3⟩ := tpX_k h
  have h2R := endsE_2 hend hk22
  have sl := (stp_len h2R).1
  have E : ∀ j : Nat, j < 100 → (ii (kR R) = ii j) = (kR R = j) := fun j hj => ii_inj (by omega) (by omega)
  have e0 : (ii (kR R) = (0 : Int32)) = (kR R = 0) := E 0 (by omega)
  have e1 : (ii (kR R) = (1 : Int32)) = (kR R = 1) := E 1 (by omega)
  have e2 : (ii (kR R) = (2 : Int32)) = (kR R = 2) := E 2 (by omega)
  have e3 : (ii (kR R) = (3 : Int32)) = (kR R = 3) := E 3 (by omega)
  have e4 : (ii (kR R) = (4 : Int32)) = (kR R = 4) := E 4 (by omega)
  unfold fX2_readClause ncS
  rw [tokX h, Option.bind_some]
  dsimp only
  by_cases c0 : kR R = 0
  · rw [if_pos c0, if_pos (show ii (kR R) = (0 : Int32) by rw [e0]; exact c0)]
    obtain ⟨q1, q2⟩ := readFolk_X (F := F) (by omega) s1 s2 x7 h fa kx sx rx
    cases hf : foS NM R with
    | inl e9 =>
      obtain ⟨n', nm', kx', sx', rx', he', e5⟩ := q1 e9 hf
      rw [e5, Option.bind_some]
      refine ⟨fun e he9 => ?_, fun S' R' hp => (by cases hp)⟩
      cases he9
      dsimp only
      rw [if_pos (Or.inl rfl)]
      exact ⟨_, _, _, _, _, _, _, _, _, _, _, _, _, _, _, _, _, _, _, rfl⟩
    | inr p =>
      obtain ⟨w, k, R9⟩ := p
      obtain ⟨he', e5, g1, g2, g3, g4, g5, g6⟩ := q2 w k R9 hf
      rw [e5, Option.bind_some]
      refine ⟨fun e he9 => (by cases he9), fun S' R' hp => ?_⟩
      cases hp
      dsimp only
      rw [if_pos (Or.inr rfl)]
      have hR9 : R9 = stp (stp (stp (stp R))) := by
        unfold foS at hf
        repeat' split at hf
        all_goals first | cases hf; rfl | cases hf
      refine ⟨_, _, _, _, _, _, _, _, _, _, _, _, _, _, _, _, _, _, _, rfl, ?_, ?_, g1, ?_, ?_⟩
      · refine ⟨?_, rfl, rfl, rfl, rfl, rfl, nmX_snoc x7, ?_, ?_, x10, x11⟩
        · rw [List.length_append, List.length_singleton]
        · intro f hf9
          rw [List.length_append, List.length_singleton] at hf9
          by_cases hf2 : f < NM.length
          · obtain ⟨y1, y2, y3, y4⟩ := x8 f hf2
            rw [upd_ne _ _ (by omega), upd_ne _ _ (by omega), upd_ne _ _ (by omega), getD_app1 (by omega)]
            exact ⟨y1, y2, y3, y4⟩
          · have hfe : f = NM.length := by omega
            subst hfe
            have hm0 := (s5 NM.length).2.2.1 (Nat.le_refl _)
            rw [upd_same, upd_same, upd_same, getD_app2 (by omega), s3, Nat.sub_self]
            dsimp only
            rw [hm0]
            refine ⟨rfl, x9 _ (Nat.le_refl _) g2, ?_, rfl⟩
            rw [Nat.zero_or]
        · intro f hf1 hf2
          rw [List.length_append, List.length_singleton] at hf1
          exact x9 f (by omega) hf2
      · refine ⟨?_, ?_, ?_, ?_, ?_, s6, s7, s8⟩
        · show (NM ++ [w]).length ≤ 6
          rw [List.length_append, List.length_singleton]
          omega
        · intro u hu
          rcases List.mem_append.mp hu with hu | hu
          · exact s2 u hu
          · rw [List.mem_singleton.mp hu]
            exact ⟨g4, g5⟩
        · show (KD ++ [k]).length = (NM ++ [w]).length
          rw [List.length_append, List.length_append, s3]
          rfl
        · intro u hu
          rcases List.mem_append.mp hu with hu | hu
          · exact s4 u hu
          · rw [List.mem_singleton.mp hu]
            exact g3
        · intro f
          obtain ⟨z1, z2, z3, z4⟩ := s5 f
          refine ⟨z1, z2, fun hh => z3 ?_, z4⟩
          have hh2 : (NM ++ [w]).length ≤ f := hh
          rw [List.length_append, List.length_singleton] at hh2
          omega
      · rw [hR9]
        exact endsE_stp (endsE_stp (endsE_stp (endsE_stp hend)))
      · rw [hR9]
        have a1 := stp_le (stp (stp (stp R)))
        have a2 := stp_le (stp (stp R))
        have a3 := stp_le (stp R)
        omega
  rw [if_neg c0, if_neg (show ¬ ii (kR R) = (0 : Int32) by rw [e0]; exact c0)]
  by_cases c1 : kR R = 1
  · rw [if_pos c1, if_pos (show ii (kR R) = (1 : Int32) by rw [e1]; exact c1)]
    obtain ⟨q1, q2⟩ := readKin_X (F := F) (mk := mk) (kx := kn) (sx := sx) (by omega) s1 s2 x7 (fun f hf => ⟨(s5 f).1, (x8 f hf).2.1, (x8 f hf).2.2.1⟩) h pr0 fa
    cases hf : kiS NM mk R with
    | inl e9 =>
      obtain ⟨n', kx', sx', he', e5⟩ := q1 e9 hf
      rw [e5, Option.bind_some]
      refine ⟨fun e he9 => ?_, fun S' R' hp => (by cases hp)⟩
      cases he9
      dsimp only
      rw [if_pos (Or.inl rfl)]
      exact ⟨_, _, _, _, _, _, _, _, _, _, _, _, _, _, _, _, _, _, _, rfl⟩
    | inr p =>
      obtain ⟨a, b, R9⟩ := p
      obtain ⟨he', e5, g1, g2, g3, g4, g5⟩ := q2 a b R9 hf
      rw [e5, Option.bind_some]
      refine ⟨fun e he9 => (by cases he9), fun S' R' hp => ?_⟩
      cases hp
      dsimp only
      rw [if_pos (Or.inr rfl)]
      have hR9 : R9 = stp (stp (stp (stp R))) := by
        unfold kiS at hf
        repeat' split at hf
        all_goals first | cases hf; rfl | cases hf
      refine ⟨_, _, _, _, _, _, _, _, _, _, _, _, _, _, _, _, _, _, _, rfl, ?_, ?_, g1, ?_, ?_⟩
      · refine ⟨rfl, rfl, rfl, rfl, rfl, rfl, x7, ?_, ?_, x10, x11⟩
        · intro f hf9
          obtain ⟨y1, y2, y3, y4⟩ := x8 f hf9
          refine ⟨y1, ?_, ?_, y4⟩
          · show upd (upd kn a _) b _ f = ii (mkK mk a b f)
            unfold mkK
            by_cases hfb : f = b
            · rw [hfb, upd_same, if_neg (fun hh => g4 hh.symm), if_pos rfl]
            · rw [upd_ne _ _ hfb]
              by_cases hfa : f = a
              · rw [hfa, upd_same, if_pos rfl]
              · rw [upd_ne _ _ hfa, if_neg hfa, if_neg hfb]
                exact y2
          · show upd (upd sx a _) b _ f = ii (mkK mk a b f ||| 2 ^ f)
            unfold mkK
            by_cases hfb : f = b
            · rw [hfb, upd_same, if_neg (fun hh => g4 hh.symm), if_pos rfl, or_sw]
            · rw [upd_ne _ _ hfb]
              by_cases hfa : f = a
              · rw [hfa, upd_same, if_pos rfl, or_sw]
              · rw [upd_ne _ _ hfa, if_neg hfa, if_neg hfb]
                exact y3
        · intro f hf1 hf2
          have hf1' : NM.length ≤ f := hf1
          show upd (upd kn a _) b _ f = ii 0
          rw [upd_ne _ _ (by omega), upd_ne _ _ (by omega)]
          exact x9 f hf1' hf2
      · refine ⟨s1, s2, s3, s4, ?_, s6, s7, s8⟩
        intro f
        obtain ⟨z1, z2, z3, z4⟩ := s5 f
        refine ⟨?_, ?_, ?_, ?_⟩
        · show mkK mk a b f < 64
          unfold mkK
          split
          · exact or_lt64 (mk a) (s5 a).1 b (by omega)
          · split
            · exact or_lt64 (mk b) (s5 b).1 a (by omega)
            · exact z1
        · show (mkK mk a b f).testBit f = false
          rw [mkK_bit g4, z2, Bool.false_or]
          apply decide_eq_false
          intro hh
          rcases hh with hh | hh
          · exact g4 (hh.1.symm.trans hh.2)
          · exact g4 (hh.2.symm.trans hh.1)
        · intro hh
          have hh2 : NM.length ≤ f := hh
          show mkK mk a b f = 0
          unfold mkK
          rw [if_neg (by omega), if_neg (by omega)]
          exact z3 hh2
        · intro g
          show (mkK mk a b f).testBit g = (mkK mk a b g).testBit f
          rw [mkK_bit g4, mkK_bit g4, z4 g]
          congr 1
          apply decide_eq_decide.mpr
          constructor
          · intro hh
            rcases hh with hh | hh
            · exact Or.inr ⟨hh.2, hh.1⟩
            · exact Or.inl ⟨hh.2, hh.1⟩
          · intro hh
            rcases hh with hh | hh
            · exact Or.inr ⟨hh.2, hh.1⟩
            · exact Or.inl ⟨hh.2, hh.1⟩
      · rw [hR9]
        exact endsE_stp (endsE_stp (endsE_stp (endsE_stp hend)))
      · rw [hR9]
        have a1 := stp_le (stp (stp (stp R)))
        have a2 := stp_le (stp (stp R))
        have a3 := stp_le (stp R)
        omega
  rw [if_neg c1, if_neg (show ¬ ii (kR R) = (1 : Int32) by rw [e1]; exact c1)]
  by_cases c2 : kR R = 2
  · rw [if_pos c2, if_pos (show ii (kR R) = (2 : Int32) by rw [e2]; exact c2)]
    obtain ⟨q1, q2⟩ := readLine_X (F := F) h ol.isSome (ii (ol.getD 24)) fa
    cases hf : onS ol.isSome 1 24 R with
    | inl e9 =>
      obtain ⟨l', t', he', e5⟩ := q1 e9 hf
      rw [e5, Option.bind_some]
      refine ⟨fun e he9 => ?_, fun S' R' hp => (by cases hp)⟩
      cases he9
      dsimp only
      rw [if_pos (Or.inl rfl)]
      exact ⟨_, _, _, _, _, _, _, _, _, _, _, _, _, _, _, _, _, _, _, rfl⟩
    | inr p =>
      obtain ⟨he', e5, g1, g2, g3, g4, g5⟩ := q2 p hf
      rw [e5, Option.bind_some]
      refine ⟨fun e he9 => (by cases he9), fun S' R' hp => ?_⟩
      cases hp
      dsimp only
      rw [if_pos (Or.inr rfl)]
      refine ⟨_, _, _, _, _, _, _, _, _, _, _, _, _, _, _, _, _, _, _, rfl, ⟨rfl, rfl, rfl, rfl, rfl, rfl, x7, x8, x9, x10, x11⟩, ⟨s1, s2, s3, s4, s5, ?_, s7, s8⟩, g1, ?_, ?_⟩
      · intro l hl
        cases hl
        exact ⟨g2, g3⟩
      · rw [g4]
        exact endsE_stp (endsE_stp (endsE_stp hend))
      · rw [g4]
        have a2 := stp_le (stp (stp R))
        have a3 := stp_le (stp R)
        omega
  rw [if_neg c2, if_neg (show ¬ ii (kR R) = (2 : Int32) by rw [e2]; exact c2)]
  by_cases c3 : kR R = 3
  · rw [if_pos c3, if_pos (show ii (kR R) = (3 : Int32) by rw [e3]; exact c3)]
    obtain ⟨q1, q2⟩ := readRope_X (F := F) h orp.isSome (ii (orp.getD 200)) fa
    cases hf : onS orp.isSome 0 999 R with
    | inl e9 =>
      obtain ⟨l', t', he', e5⟩ := q1 e9 hf
      rw [e5, Option.bind_some]
      refine ⟨fun e he9 => ?_, fun S' R' hp => (by cases hp)⟩
      cases he9
      dsimp only
      rw [if_pos (Or.inl rfl)]
      exact ⟨_, _, _, _, _, _, _, _, _, _, _, _, _, _, _, _, _, _, _, rfl⟩
    | inr p =>
      obtain ⟨he', e5, g1, g2, g4, g5⟩ := q2 p hf
      rw [e5, Option.bind_some]
      refine ⟨fun e he9 => (by cases he9), fun S' R' hp => ?_⟩
      cases hp
      dsimp only
      rw [if_pos (Or.inr rfl)]
      refine ⟨_, _, _, _, _, _, _, _, _, _, _, _, _, _, _, _, _, _, _, rfl, ⟨rfl, rfl, rfl, rfl, rfl, rfl, x7, x8, x9, x10, x11⟩, ⟨s1, s2, s3, s4, s5, s6, ?_, s8⟩, g1, ?_, ?_⟩
      · intro l hl
        cases hl
        exact g2
      · rw [g4]
        exact endsE_stp (endsE_stp (endsE_stp hend))
      · rw [g4]
        have a2 := stp_le (stp (stp R))
        have a3 := stp_le (stp R)
        omega
  rw [if_neg c3, if_neg (show ¬ ii (kR R) = (3 : Int32) by rw [e3]; exact c3)]
  by_cases c4 : kR R = 4
  · rw [if_pos c4, if_pos (show ii (kR R) = (4 : Int32) by rw [e4]; exact c4)]
    obtain ⟨q1, q2⟩ := readTakes_X (F := F) hF h hend hk22 hR (told := !C.isEmpty) (sz := lz) (co := lc) (by
      intro ht
      have hne : C ≠ [] := by
        intro hh
        rw [hh] at ht
        cases ht
      obtain ⟨P, y1, y2, y3, -⟩ := x11 hne
      exact ⟨P.length - 1, by rw [y1]; congr 1; omega, by omega⟩) (by
      intro ht
      have hne : C = [] := by
        cases C with
        | nil => rfl
        | cons a C => cases ht
      exact x10 hne) wa wi br pd wt fa
    cases hf : tkC (!C.isEmpty) R with
    | inl e9 =>
      obtain ⟨sz', wa', wi', br', pd', co', wt', he', e5⟩ := q1 e9 hf
      rw [e5, Option.bind_some]
      refine ⟨fun e he9 => ?_, fun S' R' hp => (by cases hp)⟩
      cases he9
      dsimp only
      rw [if_pos (Or.inl rfl)]
      exact ⟨_, _, _, _, _, _, _, _, _, _, _, _, _, _, _, _, _, _, _, rfl⟩
    | inr p =>
      obtain ⟨sz', wa', wi', br', pd', co', wt', he', e5, g1, g2, g3, g4, g5⟩ := q2 p hf
      rw [e5, Option.bind_some]
      refine ⟨fun e he9 => (by cases he9), fun S' R' hp => ?_⟩
      cases hp
      dsimp only
      rw [if_pos (Or.inr rfl)]
      have hp1 := full_ne g3
      refine ⟨_, _, _, _, _, _, _, _, _, _, _, _, _, _, _, _, _, _, _, rfl, ⟨rfl, rfl, rfl, rfl, rfl, rfl, x7, x8, x9, ?_, fun _ => g4⟩, ⟨s1, s2, s3, s4, s5, s6, s7, Or.inr g3⟩, g1, g2, g5⟩
      intro hh
      have hh2 : p.1 = [] := hh
      rw [hh2] at hp1
      exact absurd hp1 (by decide)
  · rw [if_neg c4, if_neg (show ¬ ii (kR R) = (4 : Int32) by rw [e4]; exact c4), show fX9_wrong F psz cn he 1001 sta (1 : Int32) fa = _ from wrongX (k := 1) h fa, Option.bind_some]
    refine ⟨fun e he9 => ?_, fun S' R' hp => (by cases hp)⟩
    cases he9
    dsimp only
    rw [if_pos (Or.inl rfl)]
    exact ⟨_, _, _, _, _, _, _, _, _, _, _, _, _, _, _, _, _, _, _, rfl⟩
