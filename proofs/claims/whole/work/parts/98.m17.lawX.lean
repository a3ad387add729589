/-! PURE: the class reads the law -/
def endsE (R : List Tk) : Prop := ∃ A z, R = A ++ [(22, [], z)]
theorem endsE_2 {R : List Tk} (h : endsE R) (hk : kR R ≠ 22) : 2 ≤ R.length := by
  obtain ⟨A, z, rfl⟩ := h
  cases A with
  | nil => exact absurd rfl hk
  | cons a A => simp
theorem stp_len {R : List Tk} (h : 2 ≤ R.length) : (stp R).length + 1 = R.length ∧ stp R = R.tail := by
  cases R with
  | nil => exact absurd h (by decide)
  | cons a R =>
    cases R with
    | nil => exact absurd h (by simp)
    | cons b R => exact ⟨rfl, rfl⟩
theorem endsE_stp {R : List Tk} (h : endsE R) : endsE (stp R) := by
  obtain ⟨A, z, rfl⟩ := h
  cases A with
  | nil => exact ⟨[], z, rfl⟩
  | cons a A =>
    cases A with
    | nil => exact ⟨[], z, rfl⟩
    | cons b A => exact ⟨b :: A, z, rfl⟩
theorem tlT_ends (T : List Nat) : ∀ (r p : Nat), p + r = T.length + 1 → endsE (tlT T p) := by
  intro r
  induction r using Nat.strongRecOn with
  | ind r ih =>
    intro p hp
    have hcons : ∀ (x : Tk) (R : List Tk), endsE R → endsE (x :: R) := fun x R hR => by
      obtain ⟨A, z, rfl⟩ := hR
      exact ⟨x :: A, z, rfl⟩
    by_cases h : T.length ≤ p
    · rw [tlT_end h]
      exact ⟨[], _, rfl⟩
    · have hp2 : p < T.length := by omega
      by_cases hw : 97 ≤ T.getD p 0 ∧ T.getD p 0 ≤ 122
      · have e := twL_s hp2 hw
        have hl : 1 ≤ (twL T p).length := by rw [e]; simp
        have hl2 := twL_len T p (by omega)
        rw [tlT_w hp2 hw]
        exact hcons _ _ (ih (T.length + 1 - (p + (twL T p).length)) (by omega) _ (by omega))
      · by_cases hd : 48 ≤ T.getD p 0 ∧ T.getD p 0 ≤ 57
        · have e := twD_s hp2 hd
          have hl : 1 ≤ (twD T p).length := by rw [e]; simp
          have hl2 := twD_len T p (by omega)
          rw [tlT_d hp2 hd]
          exact hcons _ _ (ih (T.length + 1 - (p + (twD T p).length)) (by omega) _ (by omega))
        · by_cases hb : T.getD p 0 = 10 ∨ T.getD p 0 = 32
          · rw [tlT_b hp2 hb]
            exact ih (r - 1) (by omega) (p + 1) (by omega)
          · rw [tlT_s hp2 hw hd hb]
            exact hcons _ _ (ih (r - 1) (by omega) (p + 1) (by omega))
theorem tkS_22 {st : List Fm × Option VV} {R : List Tk} {c : Nat} (h : tkS st R = .inr (some c)) : kR R ≠ 22 := by
  intro h22
  obtain ⟨fs, cur⟩ := st
  cases fs with
  | nil => cases h
  | cons f fs =>
    cases cur with
    | none =>
      unfold tkS at h
      simp [h22] at h
    | some v =>
      unfold tkS at h
      simp [h22] at h
/-- a law that the class keeps -/
def lawX (C : List Nat) (sz : Int32) (co : Nat → Int32) : Prop := ∃ P, sz = ii P.length ∧ 1 ≤ P.length ∧ P.length ≤ 1000 ∧ rcO co P ∧ (∀ x, P.foldl (mc x) [] = [wC C x]) ∧ ∀ x, mlg x [] P
theorem lwS_s (f : Nat) (C : List Nat) (R : List Tk) : lwS (f + 1) C R = match tkS (stC C) R with
    | .inl e => .inl e
    | .inr none => .inr (C, R)
    | .inr (some c) => lwS f (C ++ [c]) (stp R) := rfl
theorem tkS_none {st : List Fm × Option VV} {R : List Tk} (h : tkS st R = .inr none) : kR R = 59 ∧ ∃ f v, st = ([f], some v) := by
  obtain ⟨fs, cur⟩ := st
  cases fs with
  | nil => cases h
  | cons f fs =>
    cases cur with
    | none =>
      exfalso
      have h' : (if (16 ≤ kR R ∧ kR R ≤ 19) ∨ kR R = 13 ∨ kR R = 40 ∨ kR R = 21 then (if 5 ≤ fs.length then (.inl (5 + 16 * sR R) : Nat ⊕ Option Nat) else .inr (some (if kR R = 13 then 30 else if kR R = 40 then 28 else if kR R = 21 then 100 + dv (wR R) else kR R - 15))) else .inl (1 + 16 * sR R)) = .inr none := h
      by_cases c1 : (16 ≤ kR R ∧ kR R ≤ 19) ∨ kR R = 13 ∨ kR R = 40 ∨ kR R = 21
      · rw [if_pos c1] at h'
        by_cases c2 : 5 ≤ fs.length
        · rw [if_pos c2] at h'; cases h'
        · rw [if_neg c2] at h'; cases h'
      · rw [if_neg c1] at h'; cases h'
    | some v =>
      have h' : (if kR R = 43 then (.inr (some 20) : Nat ⊕ Option Nat) else if kR R = 45 then .inr (some 21) else if kR R = 42 then .inr (some 22) else if (kR R = 60 ∨ kR R = 61) ∧ f.2.2.1.isNone = true then .inr (some (if kR R = 60 then 24 else 25)) else if kR R = 14 then .inr (some 26) else if kR R = 15 then .inr (some 27) else if kR R = 41 ∧ 1 ≤ fs.length then .inr (some 29) else if kR R = 59 ∧ fs.length = 0 then .inr none else .inl (1 + 16 * sR R)) = .inr none := h
      by_cases d1 : kR R = 43
      · rw [if_pos d1] at h'; cases h'
      rw [if_neg d1] at h'
      by_cases d2 : kR R = 45
      · rw [if_pos d2] at h'; cases h'
      rw [if_neg d2] at h'
      by_cases d3 : kR R = 42
      · rw [if_pos d3] at h'; cases h'
      rw [if_neg d3] at h'
      by_cases d4 : (kR R = 60 ∨ kR R = 61) ∧ f.2.2.1.isNone = true
      · rw [if_pos d4] at h'; cases h'
      rw [if_neg d4] at h'
      by_cases d5 : kR R = 14
      · rw [if_pos d5] at h'; cases h'
      rw [if_neg d5] at h'
      by_cases d6 : kR R = 15
      · rw [if_pos d6] at h'; cases h'
      rw [if_neg d6] at h'
      by_cases d7 : kR R = 41 ∧ 1 ≤ fs.length
      · rw [if_pos d7] at h'; cases h'
      rw [if_neg d7] at h'
      by_cases d8 : kR R = 59 ∧ fs.length = 0
      · exact ⟨d8.1, f, v, by rw [List.eq_nil_of_length_eq_zero d8.2]⟩
      · rw [if_neg d8] at h'; cases h'
theorem nbF_len : ∀ (l : List Fm), nbF l ≤ l.length
  | [] => Nat.le_refl _
  | [_] => Nat.zero_le _
  | a :: a2 :: l => by
    have := nbF_len (a2 :: l)
    show (if a.1 = true then 0 else 1) + nbF (a2 :: l) ≤ (a2 :: l).length + 1
    split <;> omega
theorem br0_one {C : List Nat} {v0 : VV} {br : Int32} (hok : okSt (stC C)) (hcur : (stC C).2 = some v0) (hbr : br = ii (nbF (stC C).1)) (hb0 : br = 0) : ∃ f0, stC C = ([f0], some v0) := by
  cases hfs : (stC C).1 with
  | nil =>
    have := hok.1
    rw [hfs] at this
    exact absurd this id
  | cons f0 fs0 =>
    have hst0 : stC C = (f0 :: fs0, some v0) := by rw [← hfs, ← hcur]
    cases fs0 with
    | nil => exact ⟨f0, hst0⟩
    | cons g gs =>
      exfalso
      have hf0 : f0.1 = false := hok.2.2 _ _ _ hst0
      have hl6 := hok.2.1
      rw [hfs] at hbr hl6
      rw [hb0] at hbr
      have hnb : nbF (f0 :: g :: gs) = 1 + nbF (g :: gs) := by
        show (if f0.1 = true then 0 else 1) + _ = _
        rw [hf0]
        rfl
      have hq := nbF_len (g :: gs)
      simp only [List.length_cons] at hq hl6
      have hbr2 : ii 0 = ii (nbF (f0 :: g :: gs)) := hbr
      rw [ii_inj (by omega) (by omega), hnb] at hbr2
      omega
theorem readLaw_L {F : Nat} (hF : 2000 ≤ F) {T : List Nat} {TK : List Tk} {psz cn fa : Int32} {tk sta : Nat → Int32} {vl : Nat → Int64} :
    ∀ (f t : Nat) (C : List Nat) (R : List Tk) (he sz wa wi br pd : Int32) (co wt : Nat → Int32), R.length ≤ f → f < t → C.length + R.length ≤ 1000 → lgC C → endsE R → tpX T TK R psz cn he tk sta vl → lwX C sz wa wi br pd co wt →
    (∀ e, lwS f C R = .inl e → ∃ sz' wa' wi' br' pd' co' wt' he', fX1_readLaw_L6 F 1000 64 psz cn 1001 tk 1001 sta 1001 vl t (ii C.length) sz wa wi br pd co wt he fa = some (0, sz', wa', wi', br', pd', co', wt', he', ii e)) ∧ (∀ p, lwS f C R = .inr p → ∃ sz' wa' wi' br' pd' co' wt' he', fX1_readLaw_L6 F 1000 64 psz cn 1001 tk 1001 sta 1001 vl t (ii C.length) sz wa wi br pd co wt he fa = some (1, sz', wa', wi', br', pd', co', wt', he', fa) ∧ tpX T TK p.2 psz cn he' tk sta vl ∧ kR p.2 = 59 ∧ endsE p.2 ∧ fullC p.1 ∧ lawX p.1 sz' co' ∧ p.1.length + p.2.length ≤ 1000) := by
  intro f
  induction f with
  | zero =>
    intro t C R he sz wa wi br pd co wt h1 h2 h3 hlg hend htp hlw
    exfalso
    have := htp.2.2.2.2.1
    cases R with
    | nil => exact this rfl
    | cons x R => simp at h1
  | succ f ih =>
    intro t C R he sz wa wi br pd co wt h1 h2 h3 hlg hend htp hlw
    obtain ⟨t, rfl⟩ : ∃ t', t = t' + 1 := ⟨t - 1, by omega⟩
    have hR1 : 1 ≤ R.length := by
      have := htp.2.2.2.2.1
      cases R with
      | nil => exact absurd rfl this
      | cons x R => simp
    have hok := stC_ok hlg
    obtain ⟨t1, t2, t3⟩ := tpX_k htp
    have hdv : kR R = 21 → dv (wR R) < 10000 := fun hk => by
      obtain ⟨q1, q2⟩ := t3.2.2.1 hk
      exact dv_small q1 q2
    obtain ⟨he1, es, hs1⟩ := step_X (F := F) htp
    have e59 : (ii (kR R) = (59 : Int32)) = (kR R = 59) := ii_inj (b := 59) (by omega) (by omega)
    have e1k : ii C.length + (1 : Int32) = ii (C.length + 1) := by rw [k_1, ii_add]
    rw [sX1_readLaw_L6]
    unfold bX1_readLaw_L6 bX1_readLaw_L43 bX1_readLaw_L63
    rw [lwS_s]
    cases hT : tkS (stC C) R with
    | inr o =>
      cases o with
      | none =>
        obtain ⟨k59, f0, v0, hst⟩ := tkS_none hT
        refine ⟨fun e he9 => (by cases he9), fun p hp => ?_⟩
        cases hp
        obtain ⟨P, W, hW, hs, hco, hwt, rfl, rfl, hwi, hbr, hpd, hlen⟩ := hlw
        rw [hst] at hW hs hbr hpd hok
        have hpd0 : pd = 0 := hpd
        have hbr0 : br = 0 := hbr
        have hof : okF f0 := okFs_head hok.1
        obtain ⟨b, k, c, s, m⟩ := f0
        have hWu : W = frO (b, k, c, s, m) ++ [] := by
          rw [hW]
          show wtS [(b, k, c, s, m)] = _
          rw [wtS_cons]
          rfl
        have hs0 : stk P (v0 :: (frV (b, k, c, s, m) ++ [])) := hs
        obtain ⟨P1, q1, q2, q3⟩ := rel1 hof (U := []) (fun w W' hh => by cases hh) hs0
        rw [← hWu] at q1
        obtain ⟨hwv, hwl⟩ := wtS_wv hok.1
        have hWe : W = wtS [(b, k, c, s, m)] := hW
        rw [← hWe] at hwv hwl
        simp only [List.length_cons, List.length_nil] at hwl
        obtain ⟨co', e1, h5⟩ := release_eq (F := F) (l := 1) (by omega) (by omega) (wa := wt) W P F co (by omega) (by omega) (by omega) hwv hwt hco
        rw [q1] at e1 h5
        have e1' : fX1_release F 1000 64 wt (1 : Int32) (ii P.length) (ii W.length) co = some (ii P1.length, ii ([] : List Nat).length, co') := e1
        rw [if_neg (show ¬ (1000 : Int32) < ii C.length by rw [k_1000, ii_lt (by omega) (by omega)]; omega), hpd0, if_pos rfl, hbr0, if_pos rfl, tokX htp, Option.bind_some, if_pos (show ii (kR R) = (59 : Int32) by rw [e59]; exact k59), e1', Option.bind_some]
        have hw9 : wC C = fvV (b, k, c, s, m) v0 := wC_eq hst
        have hWl := congrArg List.length hWu
        rw [List.append_nil] at hWl
        have hP1 : 1 ≤ P1.length := by
          have h9 := q2.1 (fun _ => 0)
          cases P1 with
          | nil => cases h9
          | cons a P1 => simp
        refine ⟨_, _, _, _, _, _, _, _, rfl, htp, k59, hend, ⟨hlg, _, _, hst⟩, ⟨P1, rfl, hP1, by omega, h5, fun x => ?_, q2.2⟩, h3⟩
        rw [q2.1 x, hw9]
        rfl
      | some c =>
        have hwf := tkS_wf hok hdv hT
        have h22 := tkS_22 hT
        have h2R := endsE_2 hend h22
        obtain ⟨sl, -⟩ := stp_len h2R
        have hlg2 := lgC_snoc hlg hwf
        have hlen2 : (C ++ [c]).length = C.length + 1 := by rw [List.length_append, List.length_singleton]
        have not59 : ∀ f0 v0, stC C = ([f0], some v0) → kR R ≠ 59 := by
          intro f0 v0 hst k59
          rw [hst] at hT
          unfold tkS at hT
          simp [k59] at hT
        rw [if_neg (show ¬ (1000 : Int32) < ii C.length by rw [k_1000, ii_lt (by omega) (by omega)]; omega)]
        have rest : ∀ (sz' wa' wi' br' pd' : Int32) (co' wt' : Nat → Int32), lwX (C ++ [c]) sz' wa' wi' br' pd' co' wt' → (∀ e, lwS f (C ++ [c]) (stp R) = .inl e → ∃ sz'' wa'' wi'' br'' pd'' co'' wt'' he'', (if (1 : Int32) = 0 then some ((0 : Int32), sz', wa', wi', br', pd', co', wt', he, fa) else (fX9_step F cn he).bind fun R71 => fX1_readLaw_L6 F 1000 64 psz cn 1001 tk 1001 sta 1001 vl t (ii C.length + 1) sz' wa' wi' br' pd' co' wt' R71 fa) = some (0, sz'', wa'', wi'', br'', pd'', co'', wt'', he'', ii e)) ∧ (∀ p, lwS f (C ++ [c]) (stp R) = .inr p → ∃ sz'' wa'' wi'' br'' pd'' co'' wt'' he'', (if (1 : Int32) = 0 then some ((0 : Int32), sz', wa', wi', br', pd', co', wt', he, fa) else (fX9_step F cn he).bind fun R71 => fX1_readLaw_L6 F 1000 64 psz cn 1001 tk 1001 sta 1001 vl t (ii C.length + 1) sz' wa' wi' br' pd' co' wt' R71 fa) = some (1, sz'', wa'', wi'', br'', pd'', co'', wt'', he'', fa) ∧ tpX T TK p.2 psz cn he'' tk sta vl ∧ kR p.2 = 59 ∧ endsE p.2 ∧ fullC p.1 ∧ lawX p.1 sz'' co'' ∧ p.1.length + p.2.length ≤ 1000) := by
          intro sz' wa' wi' br' pd' co' wt' h9
          rw [if_neg (by decide), es, Option.bind_some, e1k]
          have := ih t (C ++ [c]) (stp R) he1 sz' wa' wi' br' pd' co' wt' (by omega) (by omega) (by omega) hlg2 (endsE_stp hend) hs1 h9
          rw [hlen2] at this
          exact this
        cases hcur : (stC C).2 with
        | none =>
          obtain ⟨-, r2, -⟩ := readPart_X (F := F) (by omega) (show C.length < 1000 by omega) hok hcur htp hlw fa
          obtain ⟨sz', wa', wi', br', pd', co', wt', e2, h9⟩ := r2 c hT
          have hpd1 : pd = 1 := by
            obtain ⟨P, W, -, -, -, -, -, -, -, -, hpd, -⟩ := hlw
            rw [hcur] at hpd
            exact hpd
          rw [hpd1] at e2 ⊢
          rw [if_neg (show ¬ (1 : Int32) = 0 by decide), if_neg (show ¬ (1 : Int32) = 0 by decide), e2, Option.bind_some]
          exact rest sz' wa' wi' br' pd' co' wt' h9
        | some v0 =>
          obtain ⟨-, r2⟩ := readJoint_X (F := F) (by omega) (show C.length < 1000 by omega) hok hcur htp hlw fa
          obtain ⟨sz', wa', wi', br', pd', co', wt', e2, h9⟩ := r2 c hT
          have hpd1 : pd = 0 := by
            obtain ⟨P, W, -, -, -, -, -, -, -, -, hpd, -⟩ := hlw
            rw [hcur] at hpd
            exact hpd
          have hrest := rest sz' wa' wi' br' pd' co' wt' h9
          rw [hpd1] at e2 ⊢
          rw [if_pos rfl, if_pos rfl, e2, Option.bind_some, tokX htp, Option.bind_some]
          by_cases hb0 : br = 0
          · rw [if_pos hb0]
            have hn59 : kR R ≠ 59 := by
              obtain ⟨P, W, -, -, -, -, -, -, -, hbr, -, -⟩ := hlw
              obtain ⟨f0, hst0⟩ := br0_one hok hcur hbr hb0
              exact not59 f0 v0 hst0
            rw [if_neg (show ¬ ii (kR R) = (59 : Int32) by rw [e59]; exact hn59)]
            exact hrest
          · rw [if_neg hb0]
            exact hrest
    | inl e0 =>
      refine ⟨fun e he9 => ?_, fun p hp => (by cases hp)⟩
      cases he9
      rw [if_neg (show ¬ (1000 : Int32) < ii C.length by rw [k_1000, ii_lt (by omega) (by omega)]; omega)]
      cases hcur : (stC C).2 with
      | none =>
        obtain ⟨r1, -, -⟩ := readPart_X (F := F) (by omega) (show C.length < 1000 by omega) hok hcur htp hlw fa
        obtain ⟨sz', wa', wi', br', pd', co', wt', e2⟩ := r1 e0 hT
        have hpd1 : pd = 1 := by
          obtain ⟨P, W, -, -, -, -, -, -, -, -, hpd, -⟩ := hlw
          rw [hcur] at hpd
          exact hpd
        rw [hpd1] at e2 ⊢
        rw [if_neg (show ¬ (1 : Int32) = 0 by decide), if_neg (show ¬ (1 : Int32) = 0 by decide), e2, Option.bind_some]
        exact ⟨_, _, _, _, _, _, _, _, rfl⟩
      | some v0 =>
        obtain ⟨r1, -⟩ := readJoint_X (F := F) (by omega) (show C.length < 1000 by omega) hok hcur htp hlw fa
        obtain ⟨sz', wa', wi', br', pd', co', wt', e2⟩ := r1 e0 hT
        have hpd1 : pd = 0 := by
          obtain ⟨P, W, -, -, -, -, -, -, -, -, hpd, -⟩ := hlw
          rw [hcur] at hpd
          exact hpd
        rw [hpd1] at e2 ⊢
        rw [if_pos rfl, if_pos rfl, e2, Option.bind_some, tokX htp, Option.bind_some]
        by_cases hb0 : br = 0
        · rw [if_pos hb0]
          have hn59 : kR R ≠ 59 := by
            intro k59
            obtain ⟨P, W, -, -, -, -, -, -, -, hbr, -, -⟩ := hlw
            obtain ⟨f0, hst0⟩ := br0_one hok hcur hbr hb0
            rw [hst0] at hT
            unfold tkS at hT
            simp [k59] at hT
          rw [if_neg (show ¬ ii (kR R) = (59 : Int32) by rw [e59]; exact hn59)]
          exact ⟨_, _, _, _, _, _, _, _, rfl⟩
        · rw [if_neg hb0]
          exact ⟨_, _, _, _, _, _, _, _, rfl⟩
