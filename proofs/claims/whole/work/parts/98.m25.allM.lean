/-! PURE: all clauses of the net, read by the reference -/
def naS : Nat → NSt → List Tk → Nat ⊕ NSt
  | 0, _, _ => .inl 0
  | f + 1, S, R => if kR R = 22 then .inr S else match ncS S R with
    | .inl e => .inl e
    | .inr p => naS f p.1 p.2
theorem naS_s (f : Nat) (S : NSt) (R : List Tk) : naS (f + 1) S R = if kR R = 22 then .inr S else match ncS S R with
    | .inl e => .inl e
    | .inr p => naS f p.1 p.2 := rfl
/-- the reference's net (while it is read) holds S -/
def nsR (S : NSt) (cd tz : Int32) (nt : Nat → Int32) (fn : Nat → Int64) (ki kn lf lt cs : Nat → Int32) : Prop := nt 4 = ii S.1.length ∧ nt 5 = ii S.2.2.2.1 ∧ nt 6 = ii (S.2.2.2.2.1.getD 24) ∧ nt 7 = ii (S.2.2.2.2.2.1.getD 200) ∧ nmM 1 S.1 fn ∧ (∀ f, f < S.1.length → ki (6 + f) = ii (S.2.1.getD f 0) ∧ kn (6 + f) = ii (S.2.2.1 f)) ∧ tz = tlZ S.2.2.2.2.1.isSome S.2.2.2.2.2.1.isSome ∧ lf 1 = ii 1000 ∧ lt 1 = ii (1000 + S.2.2.2.2.2.2.length) ∧ (S.2.2.2.2.2.2 = [] → cd = ii 1000) ∧ (∀ j, j < S.2.2.2.2.2.2.length → cs (1000 + j) = ii (S.2.2.2.2.2.2.getD j 0)) ∧ S.2.2.2.2.2.2.length ≤ 1000
def frA (nt0 : Nat → Int32) (fn0 : Nat → Int64) (ki0 kn0 lf0 lt0 cs0 nt : Nat → Int32) (fn : Nat → Int64) (ki kn lf lt cs : Nat → Int32) : Prop := frN nt0 ki0 kn0 fn0 nt ki kn fn ∧ lf 0 = lf0 0 ∧ lt 0 = lt0 0 ∧ ∀ j, j < 1000 → cs j = cs0 j
theorem nmM_snoc {NM : List (List Nat)} {fn : Nat → Int64} {w : List Nat} (h : nmM 1 NM fn) : nmM 1 (NM ++ [w]) (vp_updL fn (6 + NM.length) (il (bv 27 w))) := by
  intro k hk
  rw [List.length_append, List.length_singleton] at hk
  by_cases h1 : k < NM.length
  · rw [updL_ne _ _ (by omega), getDL1 h1]
    exact h k h1
  · have : k = NM.length := by omega
    subst this
    rw [getDL2 (Nat.le_refl _), Nat.sub_self]
    exact updL_same _ _ _
theorem lwS_C : ∀ (f : Nat) (C : List Nat) (R : List Tk) (p : List Nat × List Tk), lwS f C R = .inr p → p.1.length + p.2.length ≤ C.length + R.length ∨ ¬ endsE R := by
  intro f
  induction f with
  | zero => intro C R p h; cases h
  | succ f ih =>
    intro C R p h
    by_cases hend : endsE R
    · left
      rw [lwS_s] at h
      cases hT : tkS (stC C) R with
      | inl e =>
        rw [hT] at h
        cases h
      | inr o =>
        cases o with
        | none =>
          rw [hT] at h
          cases h
          exact Nat.le_refl _
        | some c =>
          rw [hT] at h
          have h2 := (stp_len (endsE_2 hend (tkS_22 hT))).1
          rcases ih (C ++ [c]) (stp R) p h with h3 | h3
          · rw [List.length_append, List.length_singleton] at h3
            omega
          · exact absurd (endsE_stp hend) h3
    · exact Or.inr hend
theorem kiS_ne {NM : List (List Nat)} {mk : Nat → Nat} {R R' : List Tk} {a b : Nat} (h : kiS NM mk R = .inr (a, b, R')) : a ≠ b := by
  unfold kiS at h
  repeat' split at h
  all_goals first | (cases h; rename_i h9 _; exact fun hh => h9 (Or.inl hh)) | cases h
theorem lwS_ne : ∀ (f : Nat) (C : List Nat) (R : List Tk) (p : List Nat × List Tk), lwS f C R = .inr p → p.1 ≠ [] := by
  intro f
  induction f with
  | zero => intro C R p h; cases h
  | succ f ih =>
    intro C R p h
    rw [lwS_s] at h
    cases hT : tkS (stC C) R with
    | inl e =>
      rw [hT] at h
      cases h
    | inr o =>
      cases o with
      | none =>
        rw [hT] at h
        cases h
        intro hC
        have hC2 : C = [] := hC
        subst hC2
        have hT2 : (if (16 ≤ kR R ∧ kR R ≤ 19) ∨ kR R = 13 ∨ kR R = 40 ∨ kR R = 21 then (if 5 ≤ ([] : List Fm).length then (.inl (5 + 16 * sR R) : Nat ⊕ Option Nat) else .inr (some (if kR R = 13 then 30 else if kR R = 40 then 28 else if kR R = 21 then 100 + dv (wR R) else kR R - 15))) else .inl (1 + 16 * sR R)) = .inr none := hT
        split at hT2
        · split at hT2
          · cases hT2
          · cases hT2
        · cases hT2
      | some c =>
        rw [hT] at h
        exact ih _ _ _ h
/-- a state that the class can be in -/
def okA (T : List Nat) (S : NSt) (R : List Tk) : Prop := okNS S ∧ endsE R ∧ R.length ≤ 1001 ∧ ∃ TK psz cn he tk sta vl fo pr ln rp lt rt nm kx kn sx rx lz lc, tpX T TK R psz cn he tk sta vl ∧ nsX S fo pr ln rp lt rt nm kx kn sx rx lz lc
theorem okA_s {T : List Nat} {S S' : NSt} {R R' : List Tk} (h : okA T S R) (hk : kR R ≠ 22) (hn : ncS S R = .inr (S', R')) : okA T S' R' ∧ R'.length < R.length := by
  obtain ⟨h1, h2, h3, TK, psz, cn, he, tk, sta, vl, fo, pr, ln, rp, lt, rt, nm, kx, kn, sx, rx, lz, lc, h4, h5⟩ := h
  obtain ⟨-, q2⟩ := readClause_X (F := 2000) (Nat.le_refl _) h1 h4 h2 hk h3 h5 0 0 0 0 (fun _ => 0) 0
  obtain ⟨fo', pr', ln', rp', lt', rt', nm', kx', kn', sx', rx', lz', wa', wi', br', pd', lc', wt', he', -, g1, g2, g3, g4, g5⟩ := q2 S' R' hn
  exact ⟨⟨g2, g4, by omega, TK, psz, cn, he', tk, sta, vl, fo', pr', ln', rp', lt', rt', nm', kx', kn', sx', rx', lz', lc', g3, g1⟩, g5⟩
theorem frN_t {nt ki kn : Nat → Int32} {fn : Nat → Int64} {nt' ki' kn' : Nat → Int32} {fn' : Nat → Int64} {nt2 ki2 kn2 : Nat → Int32} {fn2 : Nat → Int64} (h : frN nt ki kn fn nt' ki' kn' fn') (g : frN nt' ki' kn' fn' nt2 ki2 kn2 fn2) : frN nt ki kn fn nt2 ki2 kn2 fn2 := ⟨fun j hj => (g.1 j hj).trans (h.1 j hj), fun j hj => (g.2.1 j hj).trans (h.2.1 j hj), fun j hj => (g.2.2.1 j hj).trans (h.2.2.1 j hj), fun j hj => (g.2.2.2 j hj).trans (h.2.2.2 j hj)⟩
theorem readsAll_L {F : Nat} (hF : 2000 ≤ F) {T : List Nat} (hT : okT T) {tp : Nat → Int32} (ht : rL tp T) {nt0 : Nat → Int32} {fn0 : Nat → Int64} {ki0 kn0 lf0 lt0 cs0 : Nat → Int32} {tpd : Int32} :
    ∀ (f t : Nat) (S : NSt) (R : List Tk) (pl bg tkn : Int32) (wd : Int64) (td wr cd tz gv : Int32) (nt : Nat → Int32) (fn : Nat → Int64) (ki kn lf lt cs op cm : Nat → Int32), R.length ≤ f → f < t → okA T S R → nsM T R pl bg tkn wd td → nsR S cd tz nt fn ki kn lf lt cs → frA nt0 fn0 ki0 kn0 lf0 lt0 cs0 nt fn ki kn lf lt cs →
    (∀ e, naS f S R = .inl e → ∃ pl' bg' tkn' wd' td' cd' tz' gv' nt' fn' ki' kn' lf' lt' cs' op' cm', fX12_readsAll_L67 F 1000 tp 8 12 12 12 2 2 2000 7 7 t tpd (ii T.length) pl bg tkn wd td wr cd tz gv nt fn ki kn lf lt cs op cm = some (0, tpd, ii T.length, pl', bg', tkn', wd', td', ii e, cd', tz', gv', nt', fn', ki', kn', lf', lt', cs', op', cm') ∧ frA nt0 fn0 ki0 kn0 lf0 lt0 cs0 nt' fn' ki' kn' lf' lt' cs') ∧ (∀ S', naS f S R = .inr S' → ∃ pl' bg' tkn' wd' td' wr' cd' tz' gv' nt' fn' ki' kn' lf' lt' cs' op' cm', fX12_readsAll_L67 F 1000 tp 8 12 12 12 2 2 2000 7 7 t tpd (ii T.length) pl bg tkn wd td wr cd tz gv nt fn ki kn lf lt cs op cm = some (1, tpd, ii T.length, pl', bg', tkn', wd', td', wr', cd', tz', gv', nt', fn', ki', kn', lf', lt', cs', op', cm') ∧ nsR S' cd' tz' nt' fn' ki' kn' lf' lt' cs' ∧ frA nt0 fn0 ki0 kn0 lf0 lt0 cs0 nt' fn' ki' kn' lf' lt' cs') := by
  intro f
  induction f with
  | zero =>
    intro t S R pl bg tkn wd td wr cd tz gv nt fn ki kn lf lt cs op cm h1 h2 hA h hr hfr
    exfalso
    obtain ⟨A, z, rfl⟩ := hA.2.1
    simp at h1
  | succ f ih =>
    intro t S R pl bg tkn wd td wr cd tz gv nt fn ki kn lf lt cs op cm h1 h2 hA h hr hfr
    obtain ⟨t, rfl⟩ : ∃ t', t = t' + 1 := ⟨t - 1, by omega⟩
    obtain ⟨g1, g2, g3, g4, g5, g6⟩ := nsM_ne h
    obtain ⟨k1, k2, k3, k4⟩ := tMk_eq g6
    rw [sX12_readsAll_L67, naS_s]
    unfold bX12_readsAll_L67 bX12_readsAll_L173
    by_cases c22 : kR R = 22
    · rw [if_pos (show tkn = 0 by rw [g3, k3]; exact c22), if_pos c22]
      refine ⟨fun e he => (by cases he), fun S' hp => ?_⟩
      cases hp
      exact ⟨_, _, _, _, _, _, _, _, _, _, _, _, _, _, _, _, _, _, rfl, hr, hfr⟩
    rw [if_neg (show ¬ tkn = 0 by rw [g3, k3]; exact c22), if_neg c22, isWordM (k := 0) (c := (129368 : Int64)) (by omega) rfl h, isWordM (k := 1) (c := (8276 : Int64)) (by omega) rfl h, isWordM (k := 2) (c := (243140 : Int64)) (by omega) rfl h, isWordM (k := 3) (c := (365666 : Int64)) (by omega) rfl h, isWordM (k := 4) (c := (10656676 : Int64)) (by omega) rfl h]
    simp only [Option.bind_some, ite01]
    have h2R := endsE_2 hA.2.1 c22
    have sl := (stp_len h2R).1
    have hst := fun S' R' => okA_s (S' := S') (R' := R') hA c22
    have hR := hA.2.2.1
    have hend := hA.2.1
    have hS := hA.1
    obtain ⟨NM, KD, mk, pr0, ol, orp, C⟩ := S
    obtain ⟨s1, s2, s3, s4, s5, s6, s7, s8⟩ := hS
    obtain ⟨r1, r2, r3, r4, r5, r6, r7, r8, r9, r10, r11, r12⟩ := hr
    obtain ⟨f1, f2, f3, f4⟩ := hfr
    simp only at s1 s2 s3 s4 s5 s6 s7 s8 r1 r2 r3 r4 r5 r6 r7 r8 r9 r10 r11 r12
    unfold ncS at hst ⊢
    dsimp only at hst ⊢
    by_cases c0 : kR R = 0
    · rw [if_pos c0] at hst
      rw [if_pos c0, if_pos c0]
      obtain ⟨q1, q2⟩ := readsFolk_M (F := F) hF s1 s2 r1 r5 hT ht h wr ki kn
      cases hf : foS NM R with
      | inl e9 =>
        obtain ⟨pl', bg', tkn', wd', td', nt', fn', ki', kn', e5, hfn⟩ := q1 e9 hf
        rw [e5, Option.bind_some]
        refine ⟨fun e he9 => ?_, fun S' hp => (by cases hp)⟩
        cases he9
        dsimp only
        rw [if_pos rfl]
        exact ⟨_, _, _, _, _, _, _, _, _, _, _, _, _, _, _, _, _, rfl, frN_t f1 hfn, f2, f3, f4⟩
      | inr p =>
        obtain ⟨w, k, R9⟩ := p
        obtain ⟨pl', bg', tkn', wd', td', e5, hns⟩ := q2 w k R9 hf
        rw [hf] at hst
        obtain ⟨hA', hl⟩ := hst _ _ rfl
        try dsimp only at hl
        rw [e5, Option.bind_some]
        dsimp only
        rw [if_neg (show ¬ (1 : Int32) = 0 by decide)]
        refine ih t _ R9 _ _ _ _ _ _ _ _ _ _ _ _ _ _ _ _ _ _ (by omega) (by omega) hA' hns ?_ ?_
        · refine ⟨?_, ?_, ?_, ?_, nmM_snoc r5, ?_, r7, r8, r9, r10, r11, r12⟩
          · show upd nt 4 _ 4 = ii (NM ++ [w]).length
            rw [upd_same, List.length_append, List.length_singleton]
          · show upd nt 4 _ 5 = _
            rw [upd_ne _ _ (by decide)]
            exact r2
          · show upd nt 4 _ 6 = _
            rw [upd_ne _ _ (by decide)]
            exact r3
          · show upd nt 4 _ 7 = _
            rw [upd_ne _ _ (by decide)]
            exact r4
          · intro f hf9
            have hf9' : f < (NM ++ [w]).length := hf9
            rw [List.length_append, List.length_singleton] at hf9'
            show upd ki (6 + NM.length) (ii k) (6 + f) = ii ((KD ++ [k]).getD f 0) ∧ upd kn (6 + NM.length) 0 (6 + f) = ii (mk f)
            by_cases hf2 : f < NM.length
            · obtain ⟨y1, y2⟩ := r6 f hf2
              rw [upd_ne _ _ (by omega), upd_ne _ _ (by omega), getD_app1 (by omega)]
              exact ⟨y1, y2⟩
            · have hfe : f = NM.length := by omega
              subst hfe
              rw [upd_same, upd_same, getD_app2 (by omega), s3, Nat.sub_self, (s5 NM.length).2.2.1 (Nat.le_refl _)]
              exact ⟨rfl, rfl⟩
        · refine ⟨frN_t f1 ⟨fun j hj => upd_ne _ _ (by omega), fun j hj => upd_ne _ _ (by omega), fun j hj => upd_ne _ _ (by omega), fun j hj => updL_ne _ _ (by omega)⟩, f2, f3, f4⟩
    rw [if_neg c0] at hst
    rw [if_neg c0, if_neg c0]
    by_cases c1 : kR R = 1
    · rw [if_pos c1] at hst
      rw [if_pos c1, if_pos c1]
      obtain ⟨q1, q2⟩ := readsKin_M (F := F) (mk := mk) (kn := kn) hF s1 s2 r1 r5 (fun f hf => ⟨(s5 f).1, (r6 f hf).2⟩) r2 hT ht h wr gv
      cases hf : kiS NM mk R with
      | inl e9 =>
        obtain ⟨pl', bg', tkn', wd', td', gv', nt', kn', e5, hfn1, hfn2⟩ := q1 e9 hf
        rw [e5, Option.bind_some]
        refine ⟨fun e he9 => ?_, fun S' hp => (by cases hp)⟩
        cases he9
        dsimp only
        rw [if_pos rfl]
        exact ⟨_, _, _, _, _, _, _, _, _, _, _, _, _, _, _, _, _, rfl, frN_t f1 ⟨hfn1, fun _ _ => rfl, hfn2, fun _ _ => rfl⟩, f2, f3, f4⟩
      | inr p =>
        obtain ⟨a, b, R9⟩ := p
        obtain ⟨pl', bg', tkn', wd', td', gv', e5, hns⟩ := q2 a b R9 hf
        rw [hf] at hst
        obtain ⟨hA', hl⟩ := hst _ _ rfl
        try dsimp only at hl
        rw [e5, Option.bind_some]
        dsimp only
        rw [if_neg (show ¬ (1 : Int32) = 0 by decide)]
        refine ih t _ R9 _ _ _ _ _ _ _ _ _ _ _ _ _ _ _ _ _ _ (by omega) (by omega) hA' hns ?_ ?_
        · refine ⟨?_, ?_, ?_, ?_, r5, ?_, r7, r8, r9, r10, r11, r12⟩
          · show upd nt 5 _ 4 = _
            rw [upd_ne _ _ (by decide)]
            exact r1
          · show upd nt 5 _ 5 = _
            rw [upd_same]
          · show upd nt 5 _ 6 = _
            rw [upd_ne _ _ (by decide)]
            exact r3
          · show upd nt 5 _ 7 = _
            rw [upd_ne _ _ (by decide)]
            exact r4
          · intro f hf9
            obtain ⟨y1, y2⟩ := r6 f hf9
            refine ⟨y1, ?_⟩
            have hab := kiS_ne hf
            show upd (upd kn (6 + a) _) (6 + b) _ (6 + f) = ii (mkK mk a b f)
            unfold mkK
            by_cases hfb : f = b
            · rw [hfb, upd_same, if_neg (fun hh => hab hh.symm), if_pos rfl]
            · rw [upd_ne _ _ (by omega)]
              by_cases hfa : f = a
              · rw [hfa, upd_same, if_pos rfl]
              · rw [upd_ne _ _ (by omega), if_neg hfa, if_neg hfb]
                exact y2
        · refine ⟨frN_t f1 ⟨fun j hj => upd_ne _ _ (by omega), fun _ _ => rfl, fun j hj => ?_, fun _ _ => rfl⟩, f2, f3, f4⟩
          rw [upd_ne _ _ (by omega), upd_ne _ _ (by omega)]
    rw [if_neg c1] at hst
    rw [if_neg c1, if_neg c1]
    by_cases c2 : kR R = 2
    · rw [if_pos c2] at hst
      rw [if_pos c2, if_pos c2]
      obtain ⟨q1, q2⟩ := readsOne_M (F := F) (w := 2) (lo := 1) (hi := 24) hF (Or.inl rfl) (by omega) (by omega) hT ht h ol.isSome (tz := tz) (tz' := tlZ true orp.isSome) (by rw [r7]; exact (isTwice_M _ _).1) wr gv nt
      cases hf : onS ol.isSome 1 24 R with
      | inl e9 =>
        obtain ⟨pl', bg', tkn', wd', td', tz9, gv', nt', e5, hfn⟩ := q1 e9 hf
        rw [show fX12_readsOne F (ii T.length) 1000 tp 8 (2 : Int32) (1 : Int32) (24 : Int32) pl bg tkn wd td wr tz gv nt = _ from e5, Option.bind_some]
        refine ⟨fun e he9 => ?_, fun S' hp => (by cases hp)⟩
        cases he9
        dsimp only
        rw [if_pos rfl]
        exact ⟨_, _, _, _, _, _, _, _, _, _, _, _, _, _, _, _, _, rfl, frN_t f1 ⟨hfn, fun _ _ => rfl, fun _ _ => rfl, fun _ _ => rfl⟩, f2, f3, f4⟩
      | inr p =>
        obtain ⟨pl', bg', tkn', wd', td', gv', e5, hns⟩ := q2 p hf
        rw [hf] at hst
        obtain ⟨hA', hl⟩ := hst _ _ rfl
        try dsimp only at hl
        rw [show fX12_readsOne F (ii T.length) 1000 tp 8 (2 : Int32) (1 : Int32) (24 : Int32) pl bg tkn wd td wr tz gv nt = _ from e5, Option.bind_some]
        dsimp only
        rw [if_neg (show ¬ (1 : Int32) = 0 by decide)]
        refine ih t _ p.2 _ _ _ _ _ _ _ _ _ _ _ _ _ _ _ _ _ _ (by omega) (by omega) hA' hns ?_ ?_
        · refine ⟨?_, ?_, ?_, ?_, r5, r6, rfl, r8, r9, r10, r11, r12⟩
          · show upd nt 6 _ 4 = _
            rw [upd_ne _ _ (by decide)]
            exact r1
          · show upd nt 6 _ 5 = _
            rw [upd_ne _ _ (by decide)]
            exact r2
          · show upd nt 6 _ 6 = _
            rw [upd_same]
            rfl
          · show upd nt 6 _ 7 = _
            rw [upd_ne _ _ (by decide)]
            exact r4
        · exact ⟨frN_t f1 ⟨fun j hj => upd_ne _ _ (by omega), fun _ _ => rfl, fun j hj => rfl, fun _ _ => rfl⟩, f2, f3, f4⟩
    rw [if_neg c2] at hst
    rw [if_neg c2, if_neg c2]
    by_cases c3 : kR R = 3
    · rw [if_pos c3] at hst
      rw [if_pos c3, if_pos c3]
      obtain ⟨q1, q2⟩ := readsOne_M (F := F) (w := 3) (lo := 0) (hi := 999) hF (Or.inr rfl) (by omega) (by omega) hT ht h orp.isSome (tz := tz) (tz' := tlZ ol.isSome true) (by rw [r7]; exact (isTwice_M _ _).2) wr gv nt
      cases hf : onS orp.isSome 0 999 R with
      | inl e9 =>
        obtain ⟨pl', bg', tkn', wd', td', tz9, gv', nt', e5, hfn⟩ := q1 e9 hf
        rw [show fX12_readsOne F (ii T.length) 1000 tp 8 (3 : Int32) (0 : Int32) (999 : Int32) pl bg tkn wd td wr tz gv nt = _ from e5, Option.bind_some]
        refine ⟨fun e he9 => ?_, fun S' hp => (by cases hp)⟩
        cases he9
        dsimp only
        rw [if_pos rfl]
        exact ⟨_, _, _, _, _, _, _, _, _, _, _, _, _, _, _, _, _, rfl, frN_t f1 ⟨hfn, fun _ _ => rfl, fun _ _ => rfl, fun _ _ => rfl⟩, f2, f3, f4⟩
      | inr p =>
        obtain ⟨pl', bg', tkn', wd', td', gv', e5, hns⟩ := q2 p hf
        rw [hf] at hst
        obtain ⟨hA', hl⟩ := hst _ _ rfl
        try dsimp only at hl
        rw [show fX12_readsOne F (ii T.length) 1000 tp 8 (3 : Int32) (0 : Int32) (999 : Int32) pl bg tkn wd td wr tz gv nt = _ from e5, Option.bind_some]
        dsimp only
        rw [if_neg (show ¬ (1 : Int32) = 0 by decide)]
        refine ih t _ p.2 _ _ _ _ _ _ _ _ _ _ _ _ _ _ _ _ _ _ (by omega) (by omega) hA' hns ?_ ?_
        · refine ⟨?_, ?_, ?_, ?_, r5, r6, rfl, r8, r9, r10, r11, r12⟩
          · show upd nt 7 _ 4 = _
            rw [upd_ne _ _ (by decide)]
            exact r1
          · show upd nt 7 _ 5 = _
            rw [upd_ne _ _ (by decide)]
            exact r2
          · show upd nt 7 _ 6 = _
            rw [upd_ne _ _ (by decide)]
            exact r3
          · show upd nt 7 _ 7 = _
            rw [upd_same]
            rfl
        · exact ⟨frN_t f1 ⟨fun j hj => upd_ne _ _ (by omega), fun _ _ => rfl, fun j hj => rfl, fun _ _ => rfl⟩, f2, f3, f4⟩
    rw [if_neg c3] at hst
    rw [if_neg c3, if_neg c3]
    by_cases c4 : kR R = 4
    · rw [if_pos c4] at hst
      rw [if_pos c4, if_pos c4]
      obtain ⟨q1, q2⟩ := readsTakes_M (F := F) hF hT ht h hend c22 hR (told := !C.isEmpty) (lf := lf) (lt := lt) (cd := cd) (by
        intro ht9
        have hne : C ≠ [] := by
          intro hh
          rw [hh] at ht9
          cases ht9
        have hl := List.length_pos_iff.mpr hne
        rw [r8, r9, ii_le (by omega) (by omega)]
        omega) (by
        intro ht9
        have hne : C = [] := by
          cases C with
          | nil => rfl
          | cons a C => cases ht9
        subst hne
        refine ⟨?_, r10 rfl⟩
        rw [r8, r9, ii_le (by simp) (by omega)]
        simp) wr cs op cm
      cases hf : tkC (!C.isEmpty) R with
      | inl e9 =>
        obtain ⟨pl', bg', tkn', wd', td', cd', lf', lt', cs', op', cm', e5, w1, w2, w3⟩ := q1 e9 hf
        rw [e5, Option.bind_some]
        refine ⟨fun e he9 => ?_, fun S' hp => (by cases hp)⟩
        cases he9
        dsimp only
        rw [if_pos rfl]
        exact ⟨_, _, _, _, _, _, _, _, _, _, _, _, _, _, _, _, _, rfl, f1, w2.trans f2, w3.trans f3, fun j hj => (w1 j hj).trans (f4 j hj)⟩
      | inr p =>
        obtain ⟨pl', bg', tkn', wd', td', cd', lf', lt', cs', op', cm', e5, hns, w1, w2, w3, w4, w5, w6⟩ := q2 p hf
        rw [hf] at hst
        obtain ⟨hA', hl⟩ := hst _ _ rfl
        try dsimp only at hl
        rw [e5, Option.bind_some]
        dsimp only
        rw [if_neg (show ¬ (1 : Int32) = 0 by decide)]
        have hpp : p.1 ≠ [] ∧ p.1.length ≤ 1000 := by
          unfold tkC at hf
          split at hf
          · cases hf
          · cases hl9 : lwS (stp R).length [] (stp R) with
            | inl e =>
              rw [hl9] at hf
              cases hf
            | inr p9 =>
              rw [hl9] at hf
              cases hf
              refine ⟨lwS_ne _ _ _ p9 hl9, ?_⟩
              rcases lwS_C _ _ _ _ hl9 with hh | hh
              · show p9.1.length ≤ 1000
                rw [List.length_nil] at hh
                omega
              · exact absurd (endsE_stp hend) hh
        refine ih t _ p.2 _ _ _ _ _ _ _ _ _ _ _ _ _ _ _ _ _ _ (by omega) (by omega) hA' hns ?_ ?_
        · exact ⟨r1, r2, r3, r4, r5, r6, r7, w1, w2, fun hh => absurd hh hpp.1, w3, hpp.2⟩
        · exact ⟨f1, w5.trans f2, w6.trans f3, fun j hj => (w4 j hj).trans (f4 j hj)⟩
    · rw [if_neg c4, if_neg c4, show fX12_fails F bg (1 : Int32) wr = _ from failsM (k := 1) h wr, Option.bind_some]
      refine ⟨fun e he9 => ?_, fun S' hp => (by cases hp)⟩
      cases he9
      dsimp only
      rw [if_pos rfl]
      exact ⟨_, _, _, _, _, _, _, _, _, _, _, _, _, _, _, _, _, rfl, f1, f2, f3, f4⟩
