/-! PURE: the clause takes, on both sides -/
theorem readsM_L {F : Nat} (hF : 2000 ≤ F) {T : List Nat} (hT : okT T) {tp : Nat → Int32} (ht : rL tp T) {wr : Int32} {cs0 : Nat → Int32} :
    ∀ (f t : Nat) (C : List Nat) (R : List Tk) (pl bg tkn : Int32) (wd : Int64) (td cd : Int32) (cs op cm : Nat → Int32), R.length ≤ f → f < t → C.length + R.length ≤ 1000 → lgC C → endsE R → nsM T R pl bg tkn wd td → rdM C cd cs op cm → (∀ j, j < 1000 → cs j = cs0 j) →
    (∀ e, lwS f C R = .inl e → ∃ pl' bg' tkn' wd' td' cd' cs' op' cm', fX12_reads_L11 F (ii T.length) 1000 tp 2000 7 7 t (ii ((stC C).1.length - 1)) (if (stC C).2.isNone = true then 1 else 0) pl bg tkn wd td wr cd cs op cm = some (0, pl', bg', tkn', wd', td', ii e, cd', cs', op', cm') ∧ ∀ j, j < 1000 → cs' j = cs0 j) ∧ (∀ p, lwS f C R = .inr p → ∃ pl' bg' tkn' wd' td' cs' op' cm', fX12_reads_L11 F (ii T.length) 1000 tp 2000 7 7 t (ii ((stC C).1.length - 1)) (if (stC C).2.isNone = true then 1 else 0) pl bg tkn wd td wr cd cs op cm = some (1, pl', bg', tkn', wd', td', wr, ii (1000 + p.1.length), cs', op', cm') ∧ nsM T (stp p.2) pl' bg' tkn' wd' td' ∧ (∀ j, j < p.1.length → cs' (1000 + j) = ii (p.1.getD j 0)) ∧ ∀ j, j < 1000 → cs' j = cs0 j) := by
  intro f
  induction f with
  | zero =>
    intro t C R pl bg tkn wd td cd cs op cm h1 h2 h3 hlg hend h hr hfr
    exfalso
    obtain ⟨A, z, rfl⟩ := hend
    simp at h1
  | succ f ih =>
    intro t C R pl bg tkn wd td cd cs op cm h1 h2 h3 hlg hend h hr hfr
    obtain ⟨t, rfl⟩ : ∃ t', t = t' + 1 := ⟨t - 1, by omega⟩
    have hR1 : 1 ≤ R.length := by
      obtain ⟨A, z, rfl⟩ := hend
      simp
    have hok := stC_ok hlg
    obtain ⟨g1, g2, g3, g4, g5, g6⟩ := nsM_ne h
    have hdv : kR R = 21 → dv (wR R) < 10000 := fun hk => by
      obtain ⟨q1, q2⟩ := g1.2.2.1 hk
      exact dv_small q1 q2
    rw [sX12_reads_L11, lwS_s]
    have hput : ∀ (c : Nat) (j : Nat), j < 1000 → upd cs (1000 + C.length) (ii c) j = cs0 j := fun c j hj => by
      rw [upd_ne _ _ (by omega)]
      exact hfr j hj
    have nextC : ∀ (c : Nat), tkS (stC C) R = .inr (some c) → ∀ (pl' bg' tkn' : Int32) (wd' : Int64) (td' cd' : Int32) (op' cm' : Nat → Int32), nsM T (stp R) pl' bg' tkn' wd' td' → rdM (C ++ [c]) cd' (upd cs (1000 + C.length) (ii c)) op' cm' → _ := fun c hT9 pl' bg' tkn' wd' td' cd' op' cm' hn hrd =>
      ih t (C ++ [c]) (stp R) pl' bg' tkn' wd' td' cd' (upd cs (1000 + C.length) (ii c)) op' cm' (by
        have := (stp_len (endsE_2 hend (tkS_22 hT9))).1
        omega) (by omega) (by
        have := (stp_len (endsE_2 hend (tkS_22 hT9))).1
        rw [List.length_append, List.length_singleton]
        omega) (lgC_snoc hlg (tkS_wf hok hdv hT9)) (endsE_stp hend) hn hrd (hput c)
    cases hcur : (stC C).2 with
    | none =>
      obtain ⟨r1, r2⟩ := readsW_M (F := F) hF (show C.length < 1000 by omega) hok hcur hT ht h wr hr (k11 := fX12_reads_L11 F (ii T.length) 1000 tp 2000 7 7 t)
      have hw : (if (none : Option VV).isNone = true then (1 : Int32) else 0) = 1 := rfl
      rw [hw]
      cases hT9 : tkS (stC C) R with
      | inl e0 =>
        refine ⟨fun e he => ?_, fun p hp => (by cases hp)⟩
        cases he
        exact ⟨_, _, _, _, _, _, _, _, _, r1 e0 hT9, hfr⟩
      | inr o =>
        cases o with
        | none =>
          exfalso
          obtain ⟨-, f0, v0, hst⟩ := tkS_none hT9
          rw [hst] at hcur
          cases hcur
        | some c =>
          obtain ⟨pl', bg', tkn', wd', td', cd', op', cm', e1, hn, hrd⟩ := r2 c hT9
          rw [e1]
          exact nextC c hT9 pl' bg' tkn' wd' td' cd' op' cm' hn hrd
    | some v0 =>
      obtain ⟨r1, r3, r2⟩ := readsJ_M (F := F) hF (show C.length < 1000 by omega) hok hcur hT ht h wr hr (k11 := fX12_reads_L11 F (ii T.length) 1000 tp 2000 7 7 t)
      have hw : (if (some v0 : Option VV).isNone = true then (1 : Int32) else 0) = 0 := rfl
      rw [hw]
      cases hT9 : tkS (stC C) R with
      | inl e0 =>
        refine ⟨fun e he => ?_, fun p hp => (by cases hp)⟩
        cases he
        exact ⟨_, _, _, _, _, _, _, _, _, r1 e0 hT9, hfr⟩
      | inr o =>
        cases o with
        | none =>
          refine ⟨fun e he => (by cases he), fun p hp => ?_⟩
          cases hp
          obtain ⟨pl', bg', tkn', wd', td', e1, hn⟩ := r3 hT9
          obtain ⟨q1, q2, q3⟩ := hr
          rw [e1, q1]
          exact ⟨_, _, _, _, _, _, _, _, rfl, hn, q2, hfr⟩
        | some c =>
          obtain ⟨pl', bg', tkn', wd', td', cd', op', cm', e1, hn, hrd⟩ := r2 c hT9
          rw [e1]
          exact nextC c hT9 pl' bg' tkn' wd' td' cd' op' cm' hn hrd
theorem stp_le (R : List Tk) : (stp R).length ≤ R.length := by
  cases R with
  | nil => exact Nat.le_refl _
  | cons a R =>
    cases R with
    | nil => exact Nat.le_refl _
    | cons b R => exact Nat.le_succ _
theorem lwS_len : ∀ (f : Nat) (C : List Nat) (R : List Tk) (p : List Nat × List Tk), lwS f C R = .inr p → p.2.length ≤ R.length := by
  intro f
  induction f with
  | zero => intro C R p h; cases h
  | succ f ih =>
    intro C R p h
    rw [lwS_s] at h
    cases hT : tkS (stC C) R with
    | inl e =>
      rw [hT] at h
      cases h
    | inr o =>
      cases o with
      | none =>
        rw [hT] at h
        cases h
        exact Nat.le_refl _
      | some c =>
        rw [hT] at h
        exact Nat.le_trans (ih (C ++ [c]) (stp R) p h) (stp_le R)
/-- takes: at R stands the word; C: none yet, or the law -/
def tkC (told : Bool) (R : List Tk) : Nat ⊕ (List Nat × List Tk) := if told = true then .inl (3 + 16 * sR R) else match lwS (stp R).length [] (stp R) with
  | .inl e => .inl e
  | .inr p => .inr (p.1, stp p.2)
theorem readTakes_X {F : Nat} (hF : 2000 ≤ F) {T : List Nat} {TK R : List Tk} {psz cn he : Int32} {tk sta : Nat → Int32} {vl : Nat → Int64} (h : tpX T TK R psz cn he tk sta vl) (hend : endsE R) (hk : kR R ≠ 22) (hR : R.length ≤ 1001) {told : Bool} {sz : Int32} {co : Nat → Int32} (htold : told = true → ∃ a, sz = ii (a + 1) ∧ a < 1000) (hnot : told = false → sz = 0) (wa wi br pd : Int32) (wt : Nat → Int32) (fa : Int32) :
    (∀ e, tkC told R = .inl e → ∃ sz' wa' wi' br' pd' co' wt' he', fX2_readTakes F 1000 64 psz cn 1001 tk 1001 sta 1001 vl sz wa wi br pd co wt he fa = some (0, sz', wa', wi', br', pd', co', wt', he', ii e)) ∧ (∀ p, tkC told R = .inr p → ∃ sz' wa' wi' br' pd' co' wt' he', fX2_readTakes F 1000 64 psz cn 1001 tk 1001 sta 1001 vl sz wa wi br pd co wt he fa = some (1, sz', wa', wi', br', pd', co', wt', he', fa) ∧ tpX T TK p.2 psz cn he' tk sta vl ∧ endsE p.2 ∧ fullC p.1 ∧ lawX p.1 sz' co' ∧ p.2.length < R.length) := by
  unfold fX2_readTakes bX2_readTakes_L44 bX2_readTakes_L45 fX1_isTold bX1_isTold_L12 tkC
  cases told with
  | true =>
    obtain ⟨a, rfl, ha⟩ := htold rfl
    rw [if_pos rfl, if_neg (show ¬ ii (a + 1) ≤ (0 : Int32) by rw [k_0, ii_le (by omega) (by omega)]; omega), if_pos (Or.inr rfl), Option.bind_some, if_neg (by decide), show fX9_wrong F psz cn he 1001 sta (3 : Int32) fa = some (0, ii (3 + 16 * sR R)) from wrongX (k := 3) h fa, Option.bind_some]
    refine ⟨fun e he9 => ?_, fun p hp => (by cases hp)⟩
    cases he9
    exact ⟨_, _, _, _, _, _, _, _, if_pos (Or.inl rfl)⟩
  | false =>
    have hsz := hnot rfl
    subst hsz
    obtain ⟨he1, es, hs1⟩ := step_X (F := F) h
    have h2R := endsE_2 hend hk
    obtain ⟨sl, -⟩ := stp_len h2R
    rw [if_neg (show ¬ false = true by decide), if_pos (show (0 : Int32) ≤ 0 by decide), if_pos (Or.inl rfl), Option.bind_some, if_pos rfl, es, Option.bind_some]
    have hlw0 : lwX [] 0 0 0 0 1 co wt := ⟨[], [], rfl, ⟨fun x => rfl, fun x => trivial⟩, fun j hj => absurd hj (by simp), trivial, rfl, rfl, rfl, rfl, rfl, Nat.le_refl _⟩
    obtain ⟨r1, r2⟩ := readLaw_L (F := F) (fa := fa) hF (stp R).length F [] (stp R) he1 0 0 0 0 1 co wt (Nat.le_refl _) (by omega) (by simp; omega) trivial (endsE_stp hend) hs1 hlw0
    unfold fX1_readLaw fX1_clear
    rw [Option.bind_some]
    dsimp only
    cases hl : lwS (stp R).length [] (stp R) with
    | inl e0 =>
      refine ⟨fun e he9 => ?_, fun p hp => (by cases hp)⟩
      cases he9
      obtain ⟨sz', wa', wi', br', pd', co', wt', he', e1⟩ := r1 e0 hl
      rw [show fX1_readLaw_L6 F 1000 64 psz cn 1001 tk 1001 sta 1001 vl F (0 : Int32) 0 0 0 0 1 co wt he1 fa = _ from e1, Option.bind_some]
      dsimp only
      rw [if_pos rfl, if_pos (Or.inl rfl)]
      exact ⟨_, _, _, _, _, _, _, _, rfl⟩
    | inr p0 =>
      refine ⟨fun e he9 => (by cases he9), fun p hp => ?_⟩
      cases hp
      obtain ⟨sz', wa', wi', br', pd', co', wt', he', e1, g1, g2, g3, g4, g5, g6⟩ := r2 p0 hl
      obtain ⟨he2, e2, g7⟩ := expectX1 (F := F) g1 g2 fa
      rw [show fX1_readLaw_L6 F 1000 64 psz cn 1001 tk 1001 sta 1001 vl F (0 : Int32) 0 0 0 0 1 co wt he1 fa = _ from e1, Option.bind_some]
      dsimp only
      rw [if_neg (by decide), show fX9_expect F psz cn 1001 tk 1001 sta (59 : Int32) he' fa = _ from e2, Option.bind_some]
      dsimp only
      rw [if_neg (by decide), if_pos (Or.inr rfl)]
      have hl1 := lwS_len _ _ _ _ hl
      have hl2 := stp_le p0.2
      exact ⟨_, _, _, _, _, _, _, _, rfl, g7, endsE_stp g3, g4, g5, by
        show (stp p0.2).length < R.length
        omega⟩
/-- the reference's clause takes -/
theorem readsTakes_M {F : Nat} (hF : 2000 ≤ F) {T : List Nat} (hT : okT T) {tp : Nat → Int32} (ht : rL tp T) {R : List Tk} {pl bg tkn : Int32} {wd : Int64} {td : Int32} (h : nsM T R pl bg tkn wd td) (hend : endsE R) (hk : kR R ≠ 22) (hR : R.length ≤ 1001) {told : Bool} {lf lt : Nat → Int32} {cd : Int32} (htold : told = true → ¬ lt 1 ≤ lf 1) (hnot : told = false → lt 1 ≤ lf 1 ∧ cd = ii 1000) (wr : Int32) (cs op cm : Nat → Int32) :
    (∀ e, tkC told R = .inl e → ∃ pl' bg' tkn' wd' td' cd' lf' lt' cs' op' cm', fX12_readsTakes F (ii T.length) 1000 tp 2 2 2000 7 7 pl bg tkn wd td wr cd lf lt cs op cm = some (0, pl', bg', tkn', wd', td', ii e, cd', lf', lt', cs', op', cm') ∧ (∀ j, j < 1000 → cs' j = cs j) ∧ lf' 0 = lf 0 ∧ lt' 0 = lt 0) ∧ (∀ p, tkC told R = .inr p → ∃ pl' bg' tkn' wd' td' cd' lf' lt' cs' op' cm', fX12_readsTakes F (ii T.length) 1000 tp 2 2 2000 7 7 pl bg tkn wd td wr cd lf lt cs op cm = some (1, pl', bg', tkn', wd', td', wr, cd', lf', lt', cs', op', cm') ∧ nsM T p.2 pl' bg' tkn' wd' td' ∧ lf' 1 = ii 1000 ∧ lt' 1 = ii (1000 + p.1.length) ∧ (∀ j, j < p.1.length → cs' (1000 + j) = ii (p.1.getD j 0)) ∧ (∀ j, j < 1000 → cs' j = cs j) ∧ lf' 0 = lf 0 ∧ lt' 0 = lt 0) := by
  unfold fX12_readsTakes tkC
  have i1 : (1 : Int32).toNatClampNeg = 1 := by decide
  have c1 : ¬ ((1 : Int32) < 0 ∨ 2 ≤ (1 : Int32).toNatClampNeg) := by decide
  simp only [if_neg c1]
  simp only [i1]
  cases told with
  | true =>
    rw [if_pos rfl, if_neg (htold rfl), show fX12_fails F bg (3 : Int32) wr = _ from failsM (k := 3) h wr, Option.bind_some]
    refine ⟨fun e he9 => ?_, fun p hp => (by cases hp)⟩
    cases he9
    exact ⟨_, _, _, _, _, _, _, _, _, _, _, if_pos (Or.inl rfl), fun j hj => rfl, rfl, rfl⟩
  | false =>
    obtain ⟨hlt, rfl⟩ := hnot rfl
    obtain ⟨p1, b1, t1, w1, d1, e1, h1⟩ := nextToken_M hF hT ht h
    have h2R := endsE_2 hend hk
    obtain ⟨sl, -⟩ := stp_len h2R
    rw [if_neg (show ¬ false = true by decide), if_pos hlt, e1, Option.bind_some]
    dsimp only
    unfold fX12_reads
    rw [if_neg (by decide), show (0 : Int32).toNatClampNeg = 0 from by decide, show vp_nar .boolean (0 : Int32) = 0 from by decide]
    obtain ⟨r1, r2⟩ := readsM_L (F := F) (wr := wr) (cs0 := cs) hF hT ht (stp R).length F [] (stp R) p1 b1 t1 w1 d1 (ii 1000) cs op (upd cm 0 0) (Nat.le_refl _) (by omega) (by simp; omega) trivial (endsE_stp hend) h1 ⟨rfl, fun j hj => absurd hj (by simp), ⟨fun hne => absurd rfl hne, upd_same _ _ _, trivial⟩⟩ (fun j hj => rfl)
    cases hl : lwS (stp R).length [] (stp R) with
    | inl e0 =>
      refine ⟨fun e he9 => ?_, fun p hp => (by cases hp)⟩
      cases he9
      obtain ⟨pl', bg', tkn', wd', td', cd', cs', op', cm', e2, hf⟩ := r1 e0 hl
      rw [show fX12_reads_L11 F (ii T.length) 1000 tp 2000 7 7 F (0 : Int32) (1 : Int32) p1 b1 t1 w1 d1 wr (ii 1000) cs op (upd cm 0 0) = _ from e2, Option.bind_some]
      dsimp only
      rw [if_pos rfl]
      exact ⟨_, _, _, _, _, _, _, _, _, _, _, rfl, hf, upd_ne _ _ (by decide), rfl⟩
    | inr p0 =>
      refine ⟨fun e he9 => (by cases he9), fun p hp => ?_⟩
      cases hp
      obtain ⟨pl', bg', tkn', wd', td', cs', op', cm', e2, hn, hc, hf⟩ := r2 p0 hl
      rw [show fX12_reads_L11 F (ii T.length) 1000 tp 2000 7 7 F (0 : Int32) (1 : Int32) p1 b1 t1 w1 d1 wr (ii 1000) cs op (upd cm 0 0) = _ from e2, Option.bind_some]
      dsimp only
      rw [if_neg (by decide)]
      exact ⟨_, _, _, _, _, _, _, _, _, _, _, rfl, hn, upd_same _ _ _, upd_same _ _ _, hc, hf, upd_ne _ _ (by decide), upd_ne _ _ (by decide)⟩
