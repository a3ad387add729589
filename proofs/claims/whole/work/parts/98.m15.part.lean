/-! PURE: the class reads a part, a joint, the law -/
theorem part_end {F : Nat} (hF : 1000 ≤ F) {C : List Nat} {c : Nat} (hC : C.length < 1000) (hst : okSt (stC C)) (hcur : (stC C).2 = none) (hv : isVl c) {wi br pd : Int32} {co wt : Nat → Int32} {P W : List Nat} (hW : W = wtS (stC C).1) (hs : stk P ((stC C).2.toList ++ vsS (stC C).1)) (hco : rcO co P) (hwt : rWn wt W) (hwi : wi = ii ((stC C).1.length - 1)) (hbr : br = ii (nbF (stC C).1)) (hl : P.length + W.length ≤ C.length) :
    ∃ sz' wa' wi' co', ((fX1_put F 1000 (pcI c) (ii P.length) co).bind fun R139 => fX1_endPart F 1000 64 wt R139.1 (ii W.length) wi pd R139.2) = some (sz', wa', wi', 0, co') ∧ lwX (C ++ [c]) sz' wa' wi' br 0 co' wt := by
  obtain ⟨h1, h2, h3⟩ := hst
  have hvl := vsS_len (stC C).1
  obtain ⟨hwv, hwl⟩ := wtS_wv h1
  rw [hcur] at hs
  have hs1 := stk_vl hv (V := vsS (stC C).1) (by omega) hs
  obtain ⟨P', q1, q2, q3, q4, q5⟩ := cl_fr (stC C).1 (vcV c) (P ++ [c]) h1 hs1
  rw [put_eq (by omega), Option.bind_some]
  dsimp only
  unfold fX1_endPart
  rw [← hW] at q1 hwv hwl
  have hlen1 : (P ++ [c]).length = P.length + 1 := by rw [List.length_append, List.length_singleton]
  have q1a : (clL W (P ++ [c])).1 = wtS (clN (stC C).1 (vcV c)).1 := by rw [q1]
  have q1b : (clL W (P ++ [c])).2 = P' := by rw [q1]
  obtain ⟨co', e1, h4⟩ := endPart_eq (F := F) (wa := wt) (pd := pd) W (P ++ [c]) F ((stC C).1.length - 1) (upd co P.length (pcI c)) (by omega) (by omega) (by omega) hwv hwt (rcO_put hco) (by
    rw [q1a, hW, q4]
    obtain ⟨-, -, g, gs, k3, -⟩ := clN_ok (v := vcV c) h1
    rw [k3]
    simp
    omega) (by omega)
  rw [hlen1, q1a, q1b] at e1
  rw [q1b] at h4
  rw [hwi, e1]
  refine ⟨_, _, _, co', rfl, P', wtS (clN (stC C).1 (vcV c)).1, ?_⟩
  have hst0 : stC C = ((stC C).1, none) := by
    rw [← hcur]
  have hsy : stC (C ++ [c]) = ((clN (stC C).1 (vcV c)).1, some (clN (stC C).1 (vcV c)).2) := by
    rw [stC_snoc, hst0]
    obtain ⟨-, -, g, gs, k3, -⟩ := clN_ok (v := vcV c) h1
    cases hfs : (stC C).1 with
    | nil =>
      rw [hfs] at h1
      exact absurd h1 id
    | cons f fs =>
      unfold isVl at hv
      show (if c = 28 then _ else if c = 30 then _ else _) = _
      rw [if_neg (by omega), if_neg (by omega)]
  rw [hsy]
  refine ⟨rfl, q2, h4, ?_, rfl, rfl, ?_, ?_, rfl, ?_⟩
  · -- the waiting row is the lower part of W
    have hsuf : ∀ (fs : List Fm) (v : VV), okFs fs → ∃ A, wtS fs = A ++ wtS (clN fs v).1 := by
      intro fs
      induction fs with
      | nil => intro v h; exact absurd h id
      | cons f fs ih =>
        intro v h
        unfold clN
        by_cases hf : f.1 = true
        · cases fs with
          | nil =>
            exfalso
            have := h.2
            rw [hf] at this
            cases this
          | cons g gs =>
            rw [if_pos hf]
            obtain ⟨A, hA⟩ := ih (ntV v) h.2
            refine ⟨frO f ++ [if f.1 = true then 13 else 40] ++ A, ?_⟩
            rw [wtS_cons]
            show frO f ++ ([if f.1 = true then 13 else 40] ++ wtS (g :: gs)) = _
            rw [hA, List.append_assoc, List.append_assoc]
        · rw [if_neg hf]
          exact ⟨[], rfl⟩
    obtain ⟨A, hA⟩ := hsuf (stC C).1 (vcV c) h1
    have hdrop : ∀ (A B : List Nat), rWn wt (A ++ B) → rWn wt B := by
      intro A
      induction A with
      | nil => intro B h; exact h
      | cons a A ih => intro B h; exact ih B h.2
    rw [hW, hA] at hwt
    exact hdrop A _ hwt
  · rw [hW, q4]
    obtain ⟨-, k2, g, gs, k3, -⟩ := clN_ok (v := vcV c) h1
    have : 1 ≤ (clN (stC C).1 (vcV c)).1.length := by rw [k3]; simp
    show ii _ = ii ((clN (stC C).1 (vcV c)).1.length - 1)
    congr 1
    omega
  · rw [nbF_cl h1]
    exact hbr
  · rw [List.length_append, List.length_singleton]
    rw [hlen1, ← hW] at q3
    omega
theorem readPart_X {F : Nat} (hF : 1000 ≤ F) {C : List Nat} (hC : C.length < 1000) (hst : okSt (stC C)) (hcur : (stC C).2 = none) {T : List Nat} {TK R : List Tk} {psz cn he : Int32} {tk sta : Nat → Int32} {vl : Nat → Int64} (h : tpX T TK R psz cn he tk sta vl) {sz wa wi br pd : Int32} {co wt : Nat → Int32} (hl : lwX C sz wa wi br pd co wt) (fa : Int32) :
    (∀ e, tkS (stC C) R = .inl e → ∃ sz' wa' wi' br' pd' co' wt', fX1_readPart F 1000 64 psz cn he 1001 tk 1001 sta 1001 vl sz wa wi br pd co wt fa = some (0, sz', wa', wi', br', pd', co', wt', ii e)) ∧ (∀ c, tkS (stC C) R = .inr (some c) → ∃ sz' wa' wi' br' pd' co' wt', fX1_readPart F 1000 64 psz cn he 1001 tk 1001 sta 1001 vl sz wa wi br pd co wt fa = some (1, sz', wa', wi', br', pd', co', wt', fa) ∧ lwX (C ++ [c]) sz' wa' wi' br' pd' co' wt') ∧ tkS (stC C) R ≠ .inr none := by
  obtain ⟨t1, t2, t3⟩ := tpX_k h
  obtain ⟨P, W, hW, hs, hco, hwt, rfl, rfl, hwi, hbr, hpd, hlen⟩ := hl
  obtain ⟨o1, o2, o3⟩ := hst
  obtain ⟨hwv, hwl⟩ := wtS_wv o1
  have hWl : W.length ≤ 30 := by rw [hW]; omega
  have e13 : (ii (kR R) = (13 : Int32)) = (kR R = 13) := ii_inj (b := 13) (by omega) (by omega)
  have e40 : (ii (kR R) = (40 : Int32)) = (kR R = 40) := ii_inj (b := 40) (by omega) (by omega)
  have e21 : (ii (kR R) = (21 : Int32)) = (kR R = 21) := ii_inj (b := 21) (by omega) (by omega)
  cases hfs : (stC C).1 with
  | nil =>
    rw [hfs] at o1
    exact absurd o1 id
  | cons f fs =>
    have hst0 : stC C = (f :: fs, none) := by rw [← hfs, ← hcur]
    have hlf : fs.length ≤ 5 := by rw [hfs] at o2; simp at o2; omega
    have hwi' : wi = ii fs.length := by rw [hwi, hfs]; simp
    have ewi : (wi < (5 : Int32)) = (fs.length < 5) := by rw [hwi', k_5, ii_lt (by omega) (by omega)]
    have hT : tkS (stC C) R = (if (16 ≤ kR R ∧ kR R ≤ 19) ∨ kR R = 13 ∨ kR R = 40 ∨ kR R = 21 then (if 5 ≤ fs.length then .inl (5 + 16 * sR R) else .inr (some (if kR R = 13 then 30 else if kR R = 40 then 28 else if kR R = 21 then 100 + dv (wR R) else kR R - 15))) else .inl (1 + 16 * sR R)) := by rw [hst0]; rfl
    rw [hT]
    unfold fX1_readPart bX1_readPart_L18 bX1_readPart_L23 bX1_readPart_L38 bX1_readPart_L60 bX1_readPart_L115 bX1_readPart_L139 bX1_readPart_L146
    rw [tokX h, isFact_X (tpX_c h)]
    simp only [Option.bind_some]
    have n10 : ¬ (1 : Int32) = 0 := by decide
    have hopen : ∀ (b : Bool) (c w : Nat), w = (if b = true then 13 else 40) → sy (f :: fs, none) c = ((b, none, none, none, none) :: f :: fs, none) → fs.length < 5 → lwX (C ++ [c]) (ii P.length) (ii (W.length + 1)) (wi + 1) (br + (if b = true then 0 else 1)) pd co (upd wt W.length (ii w)) := by
      intro b c w hw hsy h5
      have hs9 : stC (C ++ [c]) = ((b, none, none, none, none) :: f :: fs, none) := by
        rw [stC_snoc, hst0]
        exact hsy
      refine ⟨P, w :: W, ?_⟩
      rw [hs9]
      refine ⟨?_, ?_, hco, rWn_push hwt, rfl, rfl, ?_, ?_, ?_, ?_⟩
      · show w :: W = [] ++ [if b = true then 13 else 40] ++ wtS (f :: fs)
        rw [hW, hfs, hw]
        rfl
      · rw [hst0] at hs
        exact hs
      · rw [hwi', k_1, ii_add]
        rfl
      · rw [hbr, hfs]
        show ii (nbF (f :: fs)) + _ = ii ((if b = true then 0 else 1) + nbF (f :: fs))
        cases b
        · show ii _ + (1 : Int32) = ii (1 + nbF (f :: fs))
          rw [k_1, ii_add, Nat.add_comm]
        · show ii _ + (0 : Int32) = ii (0 + nbF (f :: fs))
          rw [k_0, ii_add, Nat.add_comm]
      · rw [hpd, hst0]
      · rw [List.length_append, List.length_singleton, List.length_cons]
        omega
    by_cases c5 : 5 ≤ fs.length
    · have hw5 : ¬ wi < (5 : Int32) := by rw [ewi]; omega
      simp only [if_neg hw5]
      rw [show fX9_wrong F psz cn he 1001 sta (5 : Int32) fa = some (0, ii (5 + 16 * sR R)) from wrongX h fa, show fX9_wrong F psz cn he 1001 sta (1 : Int32) fa = some (0, ii (1 + 16 * sR R)) from wrongX h fa]
      simp only [Option.bind_some, if_pos c5]
      by_cases c1 : (16 ≤ kR R ∧ kR R ≤ 19) ∨ kR R = 13 ∨ kR R = 40 ∨ kR R = 21
      · rw [if_pos c1]
        refine ⟨fun e he9 => ?_, fun c hc => (by cases hc), fun hc => (by cases hc)⟩
        cases he9
        refine ⟨ii P.length, ii W.length, wi, br, pd, co, wt, ?_⟩
        by_cases d1 : kR R = 13
        · rw [if_pos (show ii (kR R) = (13 : Int32) by rw [e13]; exact d1), if_neg (show ¬ ii (kR R) = (21 : Int32) by rw [e21]; omega)]
          rfl
        · rw [if_neg (show ¬ ii (kR R) = (13 : Int32) by rw [e13]; exact d1)]
          by_cases d2 : kR R = 40
          · rw [if_pos (show ii (kR R) = (40 : Int32) by rw [e40]; exact d2), if_neg (show ¬ ii (kR R) = (21 : Int32) by rw [e21]; omega)]
            rfl
          · rw [if_neg (show ¬ ii (kR R) = (40 : Int32) by rw [e40]; exact d2)]
            by_cases d3 : kR R = 21
            · rw [if_pos (show ii (kR R) = (21 : Int32) by rw [e21]; exact d3)]
              rfl
            · rw [if_neg (show ¬ ii (kR R) = (21 : Int32) by rw [e21]; exact d3), if_pos (show 16 ≤ kR R ∧ kR R ≤ 19 by omega)]
              rfl
      · rw [if_neg c1]
        refine ⟨fun e he9 => ?_, fun c hc => (by cases hc), fun hc => (by cases hc)⟩
        cases he9
        refine ⟨ii P.length, ii W.length, wi, br, pd, co, wt, ?_⟩
        rw [if_neg (show ¬ ii (kR R) = (13 : Int32) by rw [e13]; omega), if_neg (show ¬ ii (kR R) = (40 : Int32) by rw [e40]; omega), if_neg (show ¬ ii (kR R) = (21 : Int32) by rw [e21]; omega), if_neg (show ¬ (16 ≤ kR R ∧ kR R ≤ 19) by omega)]
        rfl
    · have hw5 : wi < (5 : Int32) := by rw [ewi]; omega
      simp only [if_pos hw5]
      rw [show fX9_wrong F psz cn he 1001 sta (1 : Int32) fa = some (0, ii (1 + 16 * sR R)) from wrongX h fa]
      simp only [Option.bind_some, if_neg c5]
      by_cases c1 : (16 ≤ kR R ∧ kR R ≤ 19) ∨ kR R = 13 ∨ kR R = 40 ∨ kR R = 21
      · rw [if_pos c1]
        refine ⟨fun e he9 => (by cases he9), fun c hc => ?_, fun hc => (by cases hc)⟩
        have h2 : (if kR R = 13 then 30 else if kR R = 40 then 28 else if kR R = 21 then 100 + dv (wR R) else kR R - 15) = c := Option.some.inj (Sum.inr.inj hc)
        by_cases d1 : kR R = 13
        · rw [if_pos d1] at h2
          subst h2
          rw [if_pos (show ii (kR R) = (13 : Int32) by rw [e13]; exact d1), if_neg (show ¬ ii (kR R) = (21 : Int32) by rw [e21]; omega), if_neg n10, if_neg n10, await_eq (by omega), Option.bind_some, if_neg (show ¬ ii (kR R) = (40 : Int32) by rw [e40]; omega)]
          exact ⟨_, _, _, _, _, _, _, rfl, hopen true 30 (kR R) (by rw [if_pos rfl]; exact d1) rfl (by omega)⟩
        · rw [if_neg d1] at h2
          rw [if_neg (show ¬ ii (kR R) = (13 : Int32) by rw [e13]; exact d1)]
          by_cases d2 : kR R = 40
          · rw [if_pos d2] at h2
            subst h2
            rw [if_pos (show ii (kR R) = (40 : Int32) by rw [e40]; exact d2), if_neg (show ¬ ii (kR R) = (21 : Int32) by rw [e21]; omega), if_neg n10, if_neg n10, await_eq (by omega), Option.bind_some, if_pos (show ii (kR R) = (40 : Int32) by rw [e40]; exact d2)]
            exact ⟨_, _, _, _, _, _, _, rfl, hopen false 28 (kR R) (by rw [if_neg (by decide)]; exact d2) rfl (by omega)⟩
          · rw [if_neg d2] at h2
            rw [if_neg (show ¬ ii (kR R) = (40 : Int32) by rw [e40]; exact d2)]
            by_cases d3 : kR R = 21
            · rw [if_pos d3] at h2
              subst h2
              have hc9 := tpX_c h
              rw [d3] at hc9
              obtain ⟨n1, n2⟩ := number_X (F := F) hc9
              obtain ⟨sz', wa', wi', co', e1, h4⟩ := part_end (F := F) (c := 100 + dv (wR R)) (pd := pd) hF hC ⟨o1, o2, o3⟩ hcur (Or.inr ⟨by omega, by omega⟩) hW hs hco hwt hwi hbr hlen
              have epc : pcI (100 + dv (wR R)) = ii (dv (wR R)) := by
                unfold pcI
                rw [if_pos (by omega)]
                congr 1
                omega
              rw [epc] at e1
              rw [if_pos (show ii (kR R) = (21 : Int32) by rw [e21]; exact d3), if_pos trivial, if_neg n10, if_pos trivial, if_neg n10, n1, Option.bind_some]
              cases hp : fX1_put F 1000 (ii (dv (wR R))) (ii P.length) co with
              | none =>
                rw [hp] at e1
                cases e1
              | some q =>
                rw [hp, Option.bind_some] at e1
                rw [Option.bind_some, e1, Option.bind_some]
                exact ⟨_, _, _, _, _, _, _, rfl, h4⟩
            · rw [if_neg d3] at h2
              subst h2
              obtain ⟨sz', wa', wi', co', e1, h4⟩ := part_end (F := F) (c := kR R - 15) (pd := pd) hF hC ⟨o1, o2, o3⟩ hcur (Or.inl ⟨by omega, by omega⟩) hW hs hco hwt hwi hbr hlen
              have epc : pcI (kR R - 15) = -(ii (kR R)) := by
                unfold pcI tkN
                rw [if_neg (by omega), if_pos (by omega)]
                congr 2
                omega
              rw [epc] at e1
              rw [if_neg (show ¬ ii (kR R) = (21 : Int32) by rw [e21]; exact d3), if_pos (show 16 ≤ kR R ∧ kR R ≤ 19 by omega), if_pos trivial, if_pos trivial, if_neg n10, if_pos trivial, if_pos trivial]
              cases hp : fX1_put F 1000 (-(ii (kR R))) (ii P.length) co with
              | none =>
                rw [hp] at e1
                cases e1
              | some q =>
                rw [hp, Option.bind_some] at e1
                rw [Option.bind_some, e1, Option.bind_some]
                exact ⟨_, _, _, _, _, _, _, rfl, h4⟩
      · rw [if_neg c1]
        refine ⟨fun e he9 => ?_, fun c hc => (by cases hc), fun hc => (by cases hc)⟩
        cases he9
        refine ⟨ii P.length, ii W.length, wi, br, pd, co, wt, ?_⟩
        rw [if_neg (show ¬ ii (kR R) = (13 : Int32) by rw [e13]; omega), if_neg (show ¬ ii (kR R) = (40 : Int32) by rw [e40]; omega), if_neg (show ¬ ii (kR R) = (21 : Int32) by rw [e21]; omega), if_neg (show ¬ (16 ≤ kR R ∧ kR R ≤ 19) by omega)]
        rfl
