/-! PURE: the class reads a joint -/
theorem rank_any {F κ : Nat} (h : κ < 1000) : fX1_rankOf F (ii κ) = some (ii (rkN κ)) := by
  unfold fX1_rankOf rkN
  have key : ∀ (j : Nat) (z : Int32) (a b : Option Int32) (x y : Nat), z = ii j → j < 1000 → a = some (ii x) → b = some (ii y) → (if ii κ = z then a else b) = some (ii (if κ = j then x else y)) := by
    intro j z a b x y hz hj ha hb
    have e : (ii κ = ii j) = (κ = j) := ii_inj (by omega) (by omega)
    rw [hz, ha, hb]
    by_cases hk : κ = j
    · rw [if_pos (by rw [e]; exact hk), if_pos hk]
    · rw [if_neg (by rw [e]; exact hk), if_neg hk]
  exact key 14 14 _ _ _ _ rfl (by omega) rfl (key 15 15 _ _ _ _ rfl (by omega) rfl (key 42 42 _ _ _ _ rfl (by omega) rfl (key 43 43 _ _ _ _ rfl (by omega) rfl (key 45 45 _ _ _ _ rfl (by omega) rfl (key 60 60 _ _ _ _ rfl (by omega) rfl (key 61 61 _ _ _ _ rfl (by omega) rfl rfl))))))
theorem relL_suf (l : Nat) : ∀ (W P : List Nat), ∃ A, W = A ++ (relL l W P).1
  | [], P => ⟨[], rfl⟩
  | w :: W, P => by
    unfold relL
    by_cases h : l ≤ rkN w
    · rw [if_pos h]
      obtain ⟨A, hA⟩ := relL_suf l W (P ++ [rcd w])
      refine ⟨w :: A, ?_⟩
      rw [List.cons_append, ← hA]
    · rw [if_neg h]
      exact ⟨[], rfl⟩
theorem rWn_suf {wt : Nat → Int32} : ∀ {A B : List Nat}, rWn wt (A ++ B) → rWn wt B
  | [], _, h => h
  | _ :: A, B, h => rWn_suf (A := A) (B := B) h.2
theorem frO_s (b : Bool) (k c : Option (Nat × VV)) (z : Nat) (x : VV) (U : List Nat) : frO (b, k, c, some (z, x), none) ++ U = tkN z :: (frO (b, k, c, none, none) ++ U) := rfl
theorem frV_s (b : Bool) (k c : Option (Nat × VV)) (z : Nat) (x : VV) (U : List VV) : frV (b, k, c, some (z, x), none) ++ U = x :: (frV (b, k, c, none, none) ++ U) := rfl
theorem frO_m (b : Bool) (k c s : Option (Nat × VV)) (x : VV) (U : List Nat) : frO (b, k, c, s, some x) ++ U = 42 :: (frO (b, k, c, s, none) ++ U) := rfl
theorem frV_m (b : Bool) (k c s : Option (Nat × VV)) (x : VV) (U : List VV) : frV (b, k, c, s, some x) ++ U = x :: (frV (b, k, c, s, none) ++ U) := rfl
theorem frO_c (b : Bool) (k : Option (Nat × VV)) (z : Nat) (x : VV) (U : List Nat) : frO (b, k, some (z, x), none, none) ++ U = tkN z :: (frO (b, k, none, none, none) ++ U) := rfl
theorem frV_c (b : Bool) (k : Option (Nat × VV)) (z : Nat) (x : VV) (U : List VV) : frV (b, k, some (z, x), none, none) ++ U = x :: (frV (b, k, none, none, none) ++ U) := rfl
theorem frO_k (b : Bool) (z : Nat) (x : VV) (U : List Nat) : frO (b, some (z, x), none, none, none) ++ U = tkN z :: U := rfl
theorem frV_k (b : Bool) (z : Nat) (x : VV) (U : List VV) : frV (b, some (z, x), none, none, none) ++ U = x :: U := rfl
theorem wtS_suf : ∀ (fs : List Fm) (v : VV), okFs fs → ∃ A, wtS fs = A ++ wtS (clN fs v).1 := by
  intro fs
  induction fs with
  | nil => intro v h; exact absurd h id
  | cons f fs ih =>
    intro v h
    unfold clN
    by_cases hf : f.1 = true
    · cases fs with
      | nil =>
        exfalso
        have := h.2
        rw [hf] at this
        cases this
      | cons g gs =>
        rw [if_pos hf]
        obtain ⟨A, hA⟩ := ih (ntV v) h.2
        refine ⟨frO f ++ [if f.1 = true then 13 else 40] ++ A, ?_⟩
        rw [wtS_cons]
        show frO f ++ ([if f.1 = true then 13 else 40] ++ wtS (g :: gs)) = _
        rw [hA, List.append_assoc, List.append_assoc]
    · rw [if_neg hf]
      exact ⟨[], rfl⟩
theorem end_gen {F : Nat} (hF : 1000 ≤ F) {fs : List Fm} (h1 : okFs fs) (h6 : fs.length ≤ 6) {v : VV} {P : List Nat} (hs : stk P (v :: vsS fs)) {co wt : Nat → Int32} {pd : Int32} (hco : rcO co P) (hwt : rWn wt (wtS fs)) (hl : P.length + (wtS fs).length ≤ 1000) :
    ∃ P' co', fX1_endPart F 1000 64 wt (ii P.length) (ii (wtS fs).length) (ii (fs.length - 1)) pd co = some (ii P'.length, ii (wtS (clN fs v).1).length, ii ((clN fs v).1.length - 1), 0, co') ∧ rcO co' P' ∧ stk P' ((clN fs v).2 :: vsS (clN fs v).1) ∧ rWn wt (wtS (clN fs v).1) ∧ P'.length + (wtS (clN fs v).1).length = P.length + (wtS fs).length := by
  obtain ⟨hwv, hwl⟩ := wtS_wv h1
  obtain ⟨P', q1, q2, q3, q4, q5⟩ := cl_fr fs v P h1 hs
  obtain ⟨-, k2, g, gs, k3, -⟩ := clN_ok (v := v) h1
  have hc1 : 1 ≤ (clN fs v).1.length := by rw [k3]; simp
  have q1a : (clL (wtS fs) P).1 = wtS (clN fs v).1 := by rw [q1]
  have q1b : (clL (wtS fs) P).2 = P' := by rw [q1]
  unfold fX1_endPart
  obtain ⟨co', e1, h4⟩ := endPart_eq (F := F) (wa := wt) (pd := pd) (wtS fs) P F (fs.length - 1) co (by omega) (by omega) hl hwv hwt hco (by rw [q1a, q4]; omega) (by omega)
  rw [q1a, q1b] at e1
  rw [q1b] at h4
  obtain ⟨A, hA⟩ := wtS_suf fs v h1
  have hw9 := hwt
  rw [hA] at hw9
  refine ⟨P', co', ?_, h4, q2, rWn_suf hw9, q3⟩
  rw [e1, q4, show fs.length - 1 - (fs.length - (clN fs v).1.length) = (clN fs v).1.length - 1 from by omega]
theorem joint_end {F : Nat} {C : List Nat} {c κ : Nat} (hκ : tkN c = κ) {f' : Fm} {fs : List Fm} {f : Fm} (hb : f'.1 = f.1) (hst : (stC C).1 = f :: fs) (hsy : stC (C ++ [c]) = (f' :: fs, none)) {W1 P1 : List Nat} {wi br : Int32} {co' wt : Nat → Int32} (hW1 : tkN c :: W1 = wtS (f' :: fs)) (hs : stk P1 (vsS (f' :: fs))) (hco : rcO co' P1) (hwt : rWn wt W1) (hwi : wi = ii ((stC C).1.length - 1)) (hbr : br = ii (nbF (stC C).1)) (hl : P1.length + W1.length ≤ C.length) (h64 : W1.length < 64) :
    ∃ wa' wt', fX1_await F 64 (ii κ) (ii W1.length) wt = some (wa', wt') ∧ lwX (C ++ [c]) (ii P1.length) wa' wi br 1 co' wt' := by
  rw [await_eq h64]
  refine ⟨_, _, rfl, P1, tkN c :: W1, ?_⟩
  rw [hsy, ← hκ]
  refine ⟨hW1, hs, hco, rWn_push hwt, rfl, rfl, ?_, ?_, rfl, ?_⟩
  · rw [hwi, hst]
    rfl
  · rw [hbr, hst, nbF_set hb]
  · rw [List.length_cons, List.length_append, List.length_singleton]
    omega
theorem readJoint_X {F : Nat} (hF : 1000 ≤ F) {C : List Nat} (hC : C.length < 1000) (hst : okSt (stC C)) {v : VV} (hcur : (stC C).2 = some v) {T : List Nat} {TK R : List Tk} {psz cn he : Int32} {tk sta : Nat → Int32} {vl : Nat → Int64} (h : tpX T TK R psz cn he tk sta vl) {sz wa wi br pd : Int32} {co wt : Nat → Int32} (hl : lwX C sz wa wi br pd co wt) (fa : Int32) :
    (∀ e, tkS (stC C) R = .inl e → ∃ sz' wa' wi' br' pd' co' wt', fX1_readJoint F 1000 64 psz cn he 1001 tk 1001 sta sz wa wi br pd co wt fa = some (0, sz', wa', wi', br', pd', co', wt', ii e)) ∧ (∀ c, tkS (stC C) R = .inr (some c) → ∃ sz' wa' wi' br' pd' co' wt', fX1_readJoint F 1000 64 psz cn he 1001 tk 1001 sta sz wa wi br pd co wt fa = some (1, sz', wa', wi', br', pd', co', wt', fa) ∧ lwX (C ++ [c]) sz' wa' wi' br' pd' co' wt') := by
  obtain ⟨t1, t2, t3⟩ := tpX_k h
  obtain ⟨P, W, hW, hs, hco, hwt, rfl, rfl, hwi, hbr, hpd, hlen⟩ := hl
  obtain ⟨o1, o2, o3⟩ := hst
  obtain ⟨hwv, hwl⟩ := wtS_wv o1
  have hWl : W.length ≤ 30 := by rw [hW]; omega
  have hwv2 : ∀ w ∈ W, wvN w := by rw [hW]; exact hwv
  have E : ∀ j : Nat, j < 100 → (ii (kR R) = ii j) = (kR R = j) := fun j hj => ii_inj (by omega) (by omega)
  have e41 : (ii (kR R) = (41 : Int32)) = (kR R = 41) := E 41 (by omega)
  have n10 : ¬ (1 : Int32) = 0 := by decide
  cases hfs : (stC C).1 with
  | nil =>
    rw [hfs] at o1
    exact absurd o1 id
  | cons f fs =>
    obtain ⟨b, k, cc, s, m⟩ := f
    have hst0 : stC C = ((b, k, cc, s, m) :: fs, some v) := by rw [← hfs, ← hcur]
    have hb : b = false := o3 _ _ _ hst0
    have hof : okF (b, k, cc, s, m) := by
      rw [hfs] at o1
      exact okFs_head o1
    have hWu : W = frO (b, k, cc, s, m) ++ uS (b, k, cc, s, m) fs := by rw [hW, hfs, wtS_cons]
    have hs0 : stk P (v :: (frV (b, k, cc, s, m) ++ vsS fs)) := by
      rw [hst0] at hs
      exact hs
    have hU := uS_rank (f := (b, k, cc, s, m)) (fs := fs)
    have hlf : fs.length ≤ 5 := by rw [hfs] at o2; simp at o2; omega
    have hT : tkS (stC C) R = (if kR R = 43 then (.inr (some 20) : Nat ⊕ Option Nat) else if kR R = 45 then .inr (some 21) else if kR R = 42 then .inr (some 22) else if (kR R = 60 ∨ kR R = 61) ∧ cc.isNone = true then .inr (some (if kR R = 60 then 24 else 25)) else if kR R = 14 then .inr (some 26) else if kR R = 15 then .inr (some 27) else if kR R = 41 ∧ 1 ≤ fs.length then .inr (some 29) else if kR R = 59 ∧ fs.length = 0 then .inr none else .inl (1 + 16 * sR R)) := by rw [hst0]; rfl
    have hbr0 : br = ii (nbF ((b, k, cc, s, m) :: fs)) := by rw [hbr, hfs]
    have hnb : (nbF ((b, k, cc, s, m) :: fs) = 0) = (fs.length = 0) := by
      cases fs with
      | nil => exact propext ⟨fun _ => rfl, fun _ => rfl⟩
      | cons g gs =>
        apply propext
        show (if b = true then 0 else 1) + nbF (g :: gs) = 0 ↔ (g :: gs).length = 0
        rw [hb]
        simp
    have hnbl : ∀ (l : List Fm), nbF l ≤ l.length := by
      intro l
      induction l with
      | nil => exact Nat.le_refl _
      | cons a l ih =>
        cases l with
        | nil => exact Nat.zero_le _
        | cons a2 l =>
          show (if a.1 = true then 0 else 1) + nbF (a2 :: l) ≤ (a2 :: l).length + 1
          split <;> omega
    have hnb6 := hnbl ((b, k, cc, s, m) :: fs)
    simp only [List.length_cons] at hnb6
    have ebr : (br ≤ (0 : Int32)) = (fs.length = 0) := by
      rw [hbr0, k_0, ii_le (by omega) (by omega), ← hnb]
      apply propext
      omega
    have hrk : rkN (kR R) ≤ 4 := by
      unfold rkN
      repeat' split
      all_goals omega
    have er0 : (ii (rkN (kR R)) = (0 : Int32)) = (rkN (kR R) = 0) := ii_inj (b := 0) (by omega) (by omega)
    have er2 : (ii (rkN (kR R)) = (2 : Int32)) = (rkN (kR R) = 2) := ii_inj (b := 2) (by omega) (by omega)
    have hwr : fX9_wrong F psz cn he 1001 sta (1 : Int32) fa = some (0, ii (1 + 16 * sR R)) := wrongX h fa
    have ops : ∀ (l : Nat), 1 ≤ l → l ≤ 4 → ∀ (W1 P1 : List Nat), relL l W P = (W1, P1) → ∃ co', fX1_release F 1000 64 wt (ii l) (ii P.length) (ii W.length) co = some (ii P1.length, ii W1.length, co') ∧ rcO co' P1 ∧ rWn wt W1 ∧ W1.length ≤ W.length := by
      intro l h1 h4 W1 P1 hrel
      obtain ⟨co', e1, h5⟩ := release_eq (F := F) h1 h4 (wa := wt) W P F co (by omega) (by omega) (by omega) hwv2 hwt hco
      rw [hrel] at e1 h5
      obtain ⟨A, hA⟩ := relL_suf l W P
      rw [hrel] at hA
      have hAl := congrArg List.length hA
      rw [List.length_append] at hAl
      simp only at hAl
      refine ⟨co', e1, h5, ?_, by omega⟩
      rw [hA] at hwt
      exact rWn_suf hwt
    have bad : rkN (kR R) = 0 → (kR R ≠ 41 ∨ fs.length = 0) → fX1_readJoint F 1000 64 psz cn he 1001 tk 1001 sta (ii P.length) (ii W.length) wi br pd co wt fa = some (0, ii P.length, ii W.length, wi, br, pd, co, wt, ii (1 + 16 * sR R)) := by
      intro h0 h41
      unfold fX1_readJoint bX1_readJoint_L57
      rw [tokX h]
      simp only [Option.bind_some]
      rw [rank_any (show kR R < 1000 by omega), hwr]
      simp only [Option.bind_some]
      rw [if_pos (show ii (rkN (kR R)) = (0 : Int32) by rw [er0]; exact h0)]
      by_cases d : kR R = 41
      · rw [if_pos (show ii (kR R) = (41 : Int32) by rw [e41]; exact d), if_pos (show br ≤ (0 : Int32) by rw [ebr]; exact h41.resolve_left (fun h => h d))]
        rfl
      · rw [if_neg (show ¬ ii (kR R) = (41 : Int32) by rw [e41]; exact d)]
        rfl
    have fin : ∀ (l c : Nat) (f' : Fm) (W1 P1 : List Nat), rkN (kR R) = l → l = 1 ∨ l = 3 ∨ l = 4 → kR R ≠ 41 → tkN c = kR R → f'.1 = b → stC (C ++ [c]) = (f' :: fs, none) → relL l W P = (W1, P1) → tkN c :: W1 = wtS (f' :: fs) → stk P1 (vsS (f' :: fs)) → P1.length + W1.length ≤ P.length + W.length → ∃ sz' wa' wi' br' pd' co' wt', fX1_readJoint F 1000 64 psz cn he 1001 tk 1001 sta (ii P.length) (ii W.length) wi br pd co wt fa = some (1, sz', wa', wi', br', pd', co', wt', fa) ∧ lwX (C ++ [c]) sz' wa' wi' br' pd' co' wt' := by
      intro l c f' W1 P1 hr hl9 h41 htk hfb hsy hrel hw1 hs1 hlen1
      obtain ⟨co', e1, h5, h7, h8⟩ := ops l (by omega) (by omega) W1 P1 hrel
      obtain ⟨wa', wt', e2, h9⟩ := joint_end (F := F) (C := C) (c := c) (κ := kR R) htk (f' := f') (f := (b, k, cc, s, m)) hfb hfs hsy hw1 hs1 h5 h7 hwi hbr (by omega) (by omega)
      unfold fX1_readJoint bX1_readJoint_L57 bX1_readJoint_L85 bX1_readJoint_L96 bX1_readJoint_L120
      rw [tokX h]
      simp only [Option.bind_some]
      rw [rank_any (show kR R < 1000 by omega), if_neg (show ¬ ii (kR R) = (41 : Int32) by rw [e41]; exact h41), Option.bind_some, if_neg (show ¬ ii (rkN (kR R)) = (0 : Int32) by rw [er0]; omega), if_neg (show ¬ ii (rkN (kR R)) = (2 : Int32) by rw [er2]; omega), if_pos trivial, hr, e1, Option.bind_some]
      simp only [if_true]
      rw [e2, Option.bind_some]
      exact ⟨_, _, _, _, _, _, _, rfl, h9⟩
    have hsyn : ∀ c, stC (C ++ [c]) = sy ((b, k, cc, s, m) :: fs, some v) c := fun c => by rw [stC_snoc, hst0]
    rw [hT]
    by_cases d43 : kR R = 43
    · rw [if_pos d43]
      refine ⟨fun e he9 => (by cases he9), fun c hc => ?_⟩
      cases hc
      obtain ⟨P1, q1, q2, q3⟩ := rel3 hof hU hs0
      rw [← hWu] at q1
      have hWL := congrArg List.length hWu
      rw [List.length_append] at hWL
      exact fin 3 20 (b, k, cc, some (20, smV s (tmV m v)), none) _ P1 (by rw [d43]; rfl) (by omega) (by omega) (by rw [d43]; rfl) rfl (by rw [hsyn]; rfl) q1 (by rw [wtS_cons]; rfl) q2 (by rw [List.length_append]; omega)
    rw [if_neg d43]
    by_cases d45 : kR R = 45
    · rw [if_pos d45]
      refine ⟨fun e he9 => (by cases he9), fun c hc => ?_⟩
      cases hc
      obtain ⟨P1, q1, q2, q3⟩ := rel3 hof hU hs0
      rw [← hWu] at q1
      have hWL := congrArg List.length hWu
      rw [List.length_append] at hWL
      exact fin 3 21 (b, k, cc, some (21, smV s (tmV m v)), none) _ P1 (by rw [d45]; rfl) (by omega) (by omega) (by rw [d45]; rfl) rfl (by rw [hsyn]; rfl) q1 (by rw [wtS_cons]; rfl) q2 (by rw [List.length_append]; omega)
    rw [if_neg d45]
    by_cases d42 : kR R = 42
    · rw [if_pos d42]
      refine ⟨fun e he9 => (by cases he9), fun c hc => ?_⟩
      cases hc
      obtain ⟨P1, q1, q2, q3⟩ := rel4 hof hU hs0
      rw [← hWu] at q1
      have hWL := congrArg List.length hWu
      rw [List.length_append] at hWL
      exact fin 4 22 (b, k, cc, s, some (tmV m v)) _ P1 (by rw [d42]; rfl) (by omega) (by omega) (by rw [d42]; rfl) rfl (by rw [hsyn]; rfl) q1 (by rw [wtS_cons]; rfl) q2 (by rw [List.length_append]; omega)
    rw [if_neg d42]
    by_cases d6 : kR R = 60 ∨ kR R = 61
    · -- a comparison
      have hr2 : rkN (kR R) = 2 := by
        rcases d6 with d | d <;> rw [d] <;> rfl
      obtain ⟨P1, q1, q2, q3⟩ := rel3 hof hU hs0
      rw [← hWu] at q1
      have hWL := congrArg List.length hWu
      rw [List.length_append] at hWL
      obtain ⟨co', e1, h5, h7, h8⟩ := ops 3 (by omega) (by omega) _ P1 q1
      have e1' : fX1_release F 1000 64 wt (3 : Int32) (ii P.length) (ii W.length) co = some (ii P1.length, ii (frO (b, k, cc, none, none) ++ uS (b, k, cc, s, m) fs).length, co') := e1
      cases cc with
      | some p =>
        have hp2 : p.1 = 24 ∨ p.1 = 25 := hof.2.1 p rfl
        have hpo : isOp p.1 := by unfold isOp; omega
        obtain ⟨r1, r2, r3, r4⟩ := op_tk hpo
        have hrp : rkN (tkN p.1) = 2 := by rw [r1]; rcases hp2 with d | d <;> rw [d] <;> rfl
        have hlast : fX1_last F (ii (frO (b, k, some p, none, none) ++ uS (b, k, some p, s, m) fs).length) 64 wt = some (ii (tkN p.1)) := last_eq (W := frO (b, k, none, none, none) ++ uS (b, k, some p, s, m) fs) h7 (by
          have : (frO (b, k, some p, none, none) ++ uS (b, k, some p, s, m) fs).length = (frO (b, k, none, none, none) ++ uS (b, k, some p, s, m) fs).length + 1 := rfl
          omega)
        rw [if_neg (show ¬ ((kR R = 60 ∨ kR R = 61) ∧ (some p).isNone = true) from fun hh => absurd hh.2 (by simp)), if_neg (show ¬ kR R = 14 by omega), if_neg (show ¬ kR R = 15 by omega), if_neg (show ¬ (kR R = 41 ∧ 1 ≤ fs.length) by omega), if_neg (show ¬ (kR R = 59 ∧ fs.length = 0) by omega)]
        refine ⟨fun e he9 => ?_, fun c hc => (by cases hc)⟩
        cases he9
        unfold fX1_readJoint bX1_readJoint_L57 bX1_readJoint_L85 bX1_readJoint_L96 bX1_readJoint_L120
        rw [tokX h]
        simp only [Option.bind_some]
        rw [rank_any (show kR R < 1000 by omega), hwr, if_neg (show ¬ ii (kR R) = (41 : Int32) by rw [e41]; omega), Option.bind_some, if_neg (show ¬ ii (rkN (kR R)) = (0 : Int32) by rw [er0]; omega), if_pos (show ii (rkN (kR R)) = (2 : Int32) by rw [er2]; exact hr2), if_neg n10, e1', Option.bind_some]
        dsimp only
        rw [if_neg n10, hlast, Option.bind_some, rank_eq r3, Option.bind_some, hrp, if_pos (show ii 2 = (2 : Int32) from rfl), Option.bind_some, if_pos (Or.inl rfl)]
        exact ⟨_, _, _, _, _, _, _, rfl⟩
      | none =>
        rw [if_pos (show (kR R = 60 ∨ kR R = 61) ∧ (none : Option (Nat × VV)).isNone = true from ⟨d6, rfl⟩)]
        refine ⟨fun e he9 => (by cases he9), fun c hc => ?_⟩
        have h2 : (if kR R = 60 then 24 else 25) = c := Option.some.inj (Sum.inr.inj hc)
        have hc9 : (c = 24 ∧ kR R = 60) ∨ (c = 25 ∧ kR R = 61) := by
          by_cases d : kR R = 60
          · rw [if_pos d] at h2
            omega
          · rw [if_neg d] at h2
            omega
        have htk : tkN c = kR R := by
          rcases hc9 with ⟨d1, d2⟩ | ⟨d1, d2⟩ <;> rw [d1, d2] <;> rfl
        have hsy : stC (C ++ [c]) = ((b, k, some (c, smV s (tmV m v)), none, none) :: fs, none) := by
          rw [hsyn]
          rcases hc9 with ⟨d1, d2⟩ | ⟨d1, d2⟩ <;> rw [d1] <;> rfl
        obtain ⟨wa', wt', e2, h9⟩ := joint_end (F := F) (C := C) (c := c) (κ := kR R) htk (f' := (b, k, some (c, smV s (tmV m v)), none, none)) (f := (b, k, none, s, m)) rfl hfs hsy (W1 := frO (b, k, none, none, none) ++ uS (b, k, none, s, m) fs) (P1 := P1) (by rw [wtS_cons]; rfl) q2 h5 h7 hwi hbr (by rw [List.length_append]; omega) (by omega)
        have hlr : ∃ w, fX1_last F (ii (frO (b, k, none, none, none) ++ uS (b, k, none, s, m) fs).length) 64 wt = some (ii w) ∧ ∃ r, fX1_rankOf F (ii w) = some r ∧ ¬ r = (2 : Int32) := by
          cases hW1 : frO (b, k, none, none, none) ++ uS (b, k, none, s, m) fs with
          | nil =>
            refine ⟨22, rfl, 0, rfl, by decide⟩
          | cons w W2 =>
            rw [hW1] at h7 h8
            have hwm : wvN w ∧ rkN w < 2 := by
              have hmem : w ∈ W := by
                obtain ⟨A, hA⟩ := relL_suf 3 W P
                rw [q1, hW1] at hA
                rw [hA]
                simp
              refine ⟨hwv2 w hmem, ?_⟩
              have : ∀ w' W', frO (b, k, none, none, none) ++ uS (b, k, none, s, m) fs = w' :: W' → rkN w' < 2 := by
                have e0 : frO (b, k, none, none, none) ++ uS (b, k, none, s, m) fs = k.toList.map (fun p => tkN p.1) ++ uS (b, k, none, s, m) fs := by
                  rw [frO_split]
                  rfl
                rw [e0]
                apply hd_op
                · intro p hp
                  have := hof.1 p hp
                  exact ⟨by unfold isOp; omega, by rcases this with d | d <;> rw [d] <;> decide⟩
                · intro w' W' hh
                  rw [hU w' W' hh]
                  decide
              exact this w W2 hW1
            refine ⟨w, last_eq h7 (by simp at h8; omega), ii (rkN w), rank_eq hwm.1, ?_⟩
            rw [show (2 : Int32) = ii 2 from rfl, ii_inj (by omega) (by omega)]
            omega
        obtain ⟨w, e3, r, e4, hr9⟩ := hlr
        unfold fX1_readJoint bX1_readJoint_L57 bX1_readJoint_L85 bX1_readJoint_L96 bX1_readJoint_L120
        rw [tokX h]
        simp only [Option.bind_some]
        rw [rank_any (show kR R < 1000 by omega), if_neg (show ¬ ii (kR R) = (41 : Int32) by rw [e41]; omega), Option.bind_some, if_neg (show ¬ ii (rkN (kR R)) = (0 : Int32) by rw [er0]; omega), if_pos (show ii (rkN (kR R)) = (2 : Int32) by rw [er2]; exact hr2), if_neg n10, e1', Option.bind_some]
        dsimp only
        rw [if_neg n10, e3, Option.bind_some, e4, Option.bind_some, if_neg hr9, e2, Option.bind_some]
        exact ⟨_, _, _, _, _, _, _, rfl, h9⟩
    rw [if_neg (show ¬ ((kR R = 60 ∨ kR R = 61) ∧ cc.isNone = true) from fun hh => d6 hh.1)]
    by_cases d14 : kR R = 14
    · rw [if_pos d14]
      refine ⟨fun e he9 => (by cases he9), fun c hc => ?_⟩
      cases hc
      obtain ⟨P1, q1, q2, q3⟩ := rel1 hof hU hs0
      rw [← hWu] at q1
      have hWL := congrArg List.length hWu
      rw [List.length_append] at hWL
      exact fin 1 26 (b, some (26, fvV (b, k, cc, s, m) v), none, none, none) _ P1 (by rw [d14]; rfl) (by omega) (by omega) (by rw [d14]; rfl) rfl (by rw [hsyn]; rfl) q1 (by rw [wtS_cons]; rfl) q2 (by omega)
    rw [if_neg d14]
    by_cases d15 : kR R = 15
    · rw [if_pos d15]
      refine ⟨fun e he9 => (by cases he9), fun c hc => ?_⟩
      cases hc
      obtain ⟨P1, q1, q2, q3⟩ := rel1 hof hU hs0
      rw [← hWu] at q1
      have hWL := congrArg List.length hWu
      rw [List.length_append] at hWL
      exact fin 1 27 (b, some (27, fvV (b, k, cc, s, m) v), none, none, none) _ P1 (by rw [d15]; rfl) (by omega) (by omega) (by rw [d15]; rfl) rfl (by rw [hsyn]; rfl) q1 (by rw [wtS_cons]; rfl) q2 (by omega)
    rw [if_neg d15]
    have hr0 : rkN (kR R) = 0 := by
      unfold rkN
      rw [if_neg d14, if_neg d15, if_neg d42, if_neg d43, if_neg d45, if_neg (by omega), if_neg (by omega)]
    by_cases d41 : kR R = 41 ∧ 1 ≤ fs.length
    · rw [if_pos d41]
      refine ⟨fun e he9 => (by cases he9), fun c hc => ?_⟩
      cases hc
      obtain ⟨P1, q1, q2, q3⟩ := rel1 hof hU hs0
      rw [← hWu] at q1
      have hWL := congrArg List.length hWu
      rw [List.length_append] at hWL
      obtain ⟨co', e1, h5, h7, h8⟩ := ops 1 (by omega) (by omega) _ P1 q1
      have e1' : fX1_release F 1000 64 wt (1 : Int32) (ii P.length) (ii W.length) co = some (ii P1.length, ii (uS (b, k, cc, s, m) fs).length, co') := e1
      have hne : fs ≠ [] := fun hh => by rw [hh] at d41; exact absurd d41.2 (by decide)
      have hof2 : okFs fs := by
        rw [hfs] at o1
        cases fs with
        | nil => exact absurd rfl hne
        | cons g gs => exact o1.2
      have hu : uS (b, k, cc, s, m) fs = 40 :: wtS fs := by
        cases fs with
        | nil => exact absurd rfl hne
        | cons g gs =>
          show (if b = true then 13 else 40) :: wtS (g :: gs) = _
          rw [hb]
          rfl
      have hul : (uS (b, k, cc, s, m) fs).length = (wtS fs).length + 1 := by rw [hu, List.length_cons]
      rw [hu] at h7
      obtain ⟨P', co2, e2, g1, g2, g3, g4⟩ := end_gen (F := F) (pd := pd) hF hof2 (by omega) q2 h5 h7.2 (by omega)
      have ew : ii (uS (b, k, cc, s, m) fs).length - (1 : Int32) = ii (wtS fs).length := by
        rw [hul, k_1, ii_sub (by omega)]
        congr 1
      have hwi' : wi - (1 : Int32) = ii (fs.length - 1) := by
        rw [hwi, hfs, k_1, List.length_cons, Nat.add_sub_cancel, ii_sub (by omega)]
      have hbr1 : br - (1 : Int32) = ii (nbF fs) := by
        have : nbF ((b, k, cc, s, m) :: fs) = 1 + nbF fs := by
          cases fs with
          | nil => exact absurd rfl hne
          | cons g gs =>
            show (if b = true then 0 else 1) + nbF (g :: gs) = _
            rw [hb]
            rfl
        rw [hbr0, this, k_1, ii_sub (by omega)]
        congr 1
        omega
      unfold fX1_readJoint
      rw [tokX h, Option.bind_some, if_pos (show ii (kR R) = (41 : Int32) by rw [e41]; exact d41.1), if_neg (show ¬ br ≤ (0 : Int32) by rw [ebr]; omega), e1', Option.bind_some]
      dsimp only
      rw [ew, hwi', e2, Option.bind_some]
      dsimp only
      have hsy : stC (C ++ [29]) = ((clN fs (fvV (b, k, cc, s, m) v)).1, some (clN fs (fvV (b, k, cc, s, m) v)).2) := by
        rw [hsyn]
        rfl
      refine ⟨_, _, _, _, _, _, _, rfl, P', wtS (clN fs (fvV (b, k, cc, s, m) v)).1, ?_⟩
      rw [hsy]
      refine ⟨rfl, g2, g1, g3, rfl, rfl, rfl, ?_, rfl, ?_⟩
      · rw [hbr1, nbF_cl hof2]
      · rw [List.length_append, List.length_singleton]
        omega
    · rw [if_neg d41]
      have hbad := bad hr0 (by omega)
      by_cases d59 : kR R = 59 ∧ fs.length = 0
      · rw [if_pos d59]
        exact ⟨fun e he9 => (by cases he9), fun c hc => (by cases hc)⟩
      · rw [if_neg d59]
        refine ⟨fun e he9 => ?_, fun c hc => (by cases hc)⟩
        cases he9
        exact ⟨_, _, _, _, _, _, _, hbad⟩
