/-! PURE: all clauses of the net, read by the reference -/
def naS : Nat → NSt → List Tk → Nat ⊕ NSt
  | 0, _, _ => .inl 0
  | f + 1, S, R => if kR R = 22 then .inr S else match ncS S R with
    | .inl e => .inl e
    | .inr p => naS f p.1 p.2
theorem naS_s (f : Nat) (S : NSt) (R : List Tk) : naS (f + 1) S R = if kR R = 22 then .inr S else match ncS S R with
    | .inl e => .inl e
    | .inr p => naS f p.1 p.2 := rfl
/-- the reference's net (while it is read) holds S -/
def nsR (S : NSt) (cd tz : Int32) (nt : Nat → Int32) (fn : Nat → Int64) (ki kn lf lt cs : Nat → Int32) : Prop := nt 4 = ii S.1.length ∧ nt 5 = ii S.2.2.2.1 ∧ nt 6 = ii (S.2.2.2.2.1.getD 24) ∧ nt 7 = ii (S.2.2.2.2.2.1.getD 200) ∧ nmM 1 S.1 fn ∧ (∀ f, f < S.1.length → ki (6 + f) = ii (S.2.1.getD f 0) ∧ kn (6 + f) = ii (S.2.2.1 f)) ∧ tz = tlZ S.2.2.2.2.1.isSome S.2.2.2.2.2.1.isSome ∧ lf 1 = ii 1000 ∧ lt 1 = ii (1000 + S.2.2.2.2.2.2.length) ∧ (S.2.2.2.2.2.2 = [] → cd = ii 1000) ∧ (∀ j, j < S.2.2.2.2.2.2.length → cs (1000 + j) = ii (S.2.2.2.2.2.2.getD j 0)) ∧ S.2.2.2.2.2.2.length ≤ 1000
def frA (nt0 : Nat → Int32) (fn0 : Nat → Int64) (ki0 kn0 lf0 lt0 cs0 nt : Nat → Int32) (fn : Nat → Int64) (ki kn lf lt cs : Nat → Int32) : Prop := frN nt0 ki0 kn0 fn0 nt ki kn fn ∧ lf 0 = lf0 0 ∧ lt 0 = lt0 0 ∧ ∀ j, j < 1000 → cs j = cs0 j
theorem nmM_snoc {NM : List (List Nat)} {fn : Nat → Int64} {w : List Nat} (h : nmM 1 NM fn) : nmM 1 (NM ++ [w]) (vp_updL fn (6 + NM.length) (il (bv 27 w))) := by
  intro k hk
  rw [List.length_append, List.length_singleton] at hk
  by_cases h1 : k < NM.length
  · rw [updL_ne _ _ (by omega), getDL1 h1]
    exact h k h1
  · have : k = NM.length := by omega
    subst this
    rw [getDL2 (Nat.le_refl _), Nat.sub_self]
    exact updL_same _ _ _
theorem lwS_C : ∀ (f : Nat) (C : List Nat) (R : List Tk) (p : List Nat × List Tk), lwS f C R = .inr p → p.1.length + p.2.length ≤ C.length + R.length ∨ ¬ endsE R := by
  intro f
  induction f with
  | zero => intro C R p h; cases h
  | succ f ih =>
    intro C R p h
    by_cases hend : endsE R
    · left
      rw [lwS_s] at h
      cases hT : tkS (stC C) R with
      | inl e =>
        rw [hT] at h
        cases h
      | inr o =>
        cases o with
        | none =>
          rw [hT] at h
          cases h
          exact Nat.le_refl _
        | some c =>
          rw [hT] at h
          have h2 := (stp_len (endsE_2 hend (tkS_22 hT))).1
          rcases ih (C ++ [c]) (stp R) p h with h3 | h3
          · rw [List.length_append, List.length_singleton] at h3
            omega
          · exact absurd (endsE_stp hend) h3
    · exact Or.inr hend
theorem readsAll_L {F : Nat} (hF : 2000 ≤ F) {T : List Nat} (hT : okT T) {tp : Nat → Int32} (ht : rL tp T) {nt0 : Nat → Int32} {fn0 : Nat → Int64} {ki0 kn0 lf0 lt0 cs0 : Nat → Int32} {tpd : Int32} :
    ∀ (f t : Nat) (S : NSt) (R : List Tk) (pl bg tkn : Int32) (wd : Int64) (td wr cd tz gv : Int32) (nt : Nat → Int32) (fn : Nat → Int64) (ki kn lf lt cs op cm : Nat → Int32), R.length ≤ f → f < t → R.length ≤ 1001 → okNS S → endsE R → nsM T R pl bg tkn wd td → nsR S cd tz nt fn ki kn lf lt cs → frA nt0 fn0 ki0 kn0 lf0 lt0 cs0 nt fn ki kn lf lt cs →
    (∀ e, naS f S R = .inl e → ∃ pl' bg' tkn' wd' td' cd' tz' gv' nt' fn' ki' kn' lf' lt' cs' op' cm', fX12_readsAll_L67 F 1000 tp 8 12 12 12 2 2 2000 7 7 t tpd (ii T.length) pl bg tkn wd td wr cd tz gv nt fn ki kn lf lt cs op cm = some (0, tpd, ii T.length, pl', bg', tkn', wd', td', ii e, cd', tz', gv', nt', fn', ki', kn', lf', lt', cs', op', cm') ∧ frA nt0 fn0 ki0 kn0 lf0 lt0 cs0 nt' fn' ki' kn' lf' lt' cs') ∧ (∀ S', naS f S R = .inr S' → ∃ pl' bg' tkn' wd' td' wr' cd' tz' gv' nt' fn' ki' kn' lf' lt' cs' op' cm', fX12_readsAll_L67 F 1000 tp 8 12 12 12 2 2 2000 7 7 t tpd (ii T.length) pl bg tkn wd td wr cd tz gv nt fn ki kn lf lt cs op cm = some (1, tpd, ii T.length, pl', bg', tkn', wd', td', wr', cd', tz', gv', nt', fn', ki', kn', lf', lt', cs', op', cm') ∧ nsR S' cd' tz' nt' fn' ki' kn' lf' lt' cs' ∧ frA nt0 fn0 ki0 kn0 lf0 lt0 cs0 nt' fn' ki' kn' lf' lt' cs') := by
  intro f
  induction f with
  | zero =>
    intro t S R pl bg tkn wd td wr cd tz gv nt fn ki kn lf lt cs op cm h1 h2 h3 hS hend h hr hfr
    exfalso
    obtain ⟨A, z, rfl⟩ := hend
    simp at h1
  | succ f ih =>
    intro t S R pl bg tkn wd td wr cd tz gv nt fn ki kn lf lt cs op cm h1 h2 h3 hS hend h hr hfr
    obtain ⟨t, rfl⟩ : ∃ t', t = t' + 1 := ⟨t - 1, by omega⟩
    obtain ⟨g1, g2, g3, g4, g5, g6⟩ := nsM_ne h
    obtain ⟨k1, k2, k3, k4⟩ := tMk_eq g6
    rw [sX12_readsAll_L67, naS_s]
    unfold bX12_readsAll_L67 bX12_readsAll_L173
    by_cases c22 : kR R = 22
    · rw [if_pos (show tkn = 0 by rw [g3, k3]; exact c22), if_pos c22]
      refine ⟨fun e he => (by cases he), fun S' hp => ?_⟩
      cases hp
      exact ⟨_, _, _, _, _, _, _, _, _, _, _, _, _, _, _, _, _, _, rfl, hr, hfr⟩
    rw [if_neg (show ¬ tkn = 0 by rw [g3, k3]; exact c22), if_neg c22, isWordM (k := 0) (c := (129368 : Int64)) (by omega) rfl h, isWordM (k := 1) (c := (8276 : Int64)) (by omega) rfl h, isWordM (k := 2) (c := (243140 : Int64)) (by omega) rfl h, isWordM (k := 3) (c := (365666 : Int64)) (by omega) rfl h, isWordM (k := 4) (c := (10656676 : Int64)) (by omega) rfl h]
    simp only [Option.bind_some, ite01]
    have h2R := endsE_2 hend c22
    have sl := (stp_len h2R).1
    have a1 := stp_le (stp (stp (stp R)))
    have a2 := stp_le (stp (stp R))
    have a3 := stp_le (stp R)
    obtain ⟨NM, KD, mk, pr0, ol, orp, C⟩ := S
    have hSk := hS
    obtain ⟨s1, s2, s3, s4, s5, s6, s7, s8⟩ := hS
    obtain ⟨r1, r2, r3, r4, r5, r6, r7, r8, r9, r10, r11, r12⟩ := hr
    obtain ⟨f1, f2, f3, f4⟩ := hfr
    simp only at s1 s2 s3 s4 s5 s6 s7 s8 r1 r2 r3 r4 r5 r6 r7 r8 r9 r10 r11 r12
    unfold ncS
    dsimp only
    by_cases c0 : kR R = 0
    · rw [if_pos c0, if_pos c0]
      obtain ⟨q1, q2⟩ := readsFolk_M (F := F) hF s1 s2 r1 r5 hT ht h wr ki kn
      cases hf : foS NM R with
      | inl e9 =>
        obtain ⟨pl', bg', tkn', wd', td', nt', fn', ki', kn', e5, hfn⟩ := q1 e9 hf
        rw [e5, Option.bind_some]
        refine ⟨fun e he9 => ?_, fun S' hp => (by cases hp)⟩
        cases he9
        dsimp only
        rw [if_pos rfl]
        exact ⟨_, _, _, _, _, _, _, _, _, _, _, _, _, _, _, _, _, rfl, ⟨fun j hj => (hfn.1 j hj).trans (f1.1 j hj), fun j hj => (hfn.2.1 j hj).trans (f1.2.1 j hj), fun j hj => (hfn.2.2.1 j hj).trans (f1.2.2.1 j hj), fun j hj => (hfn.2.2.2 j hj).trans (f1.2.2.2 j hj)⟩, f2, f3, f4⟩
      | inr p =>
        obtain ⟨w, k, R9⟩ := p
        obtain ⟨pl', bg', tkn', wd', td', e5, hns⟩ := q2 w k R9 hf
        rw [e5, Option.bind_some]
        dsimp only
        rw [if_neg (show ¬ (1 : Int32) = 0 by decide)]
        sorry
    rw [if_neg c0, if_neg c0]
    sorry
