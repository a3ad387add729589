/-! PURE: the reference reads a joint of the law, and the law -/
theorem readsJ_M {F : Nat} (hF : 2000 ≤ F) {C : List Nat} (hC : C.length < 1000) (hok : okSt (stC C)) {v : VV} (hcur : (stC C).2 = some v) {T : List Nat} (hT : okT T) {tp : Nat → Int32} (ht : rL tp T) {R : List Tk} {pl bg tkn : Int32} {wd : Int64} {td : Int32} (h : nsM T R pl bg tkn wd td) (wr : Int32) {cd : Int32} {cs op cm : Nat → Int32} (hr : rdM C cd cs op cm) {k11 : Int32 → Int32 → Int32 → Int32 → Int32 → Int64 → Int32 → Int32 → Int32 → (Nat → Int32) → (Nat → Int32) → (Nat → Int32) → Option (Int32 × Int32 × Int32 × Int32 × Int64 × Int32 × Int32 × Int32 × (Nat → Int32) × (Nat → Int32) × (Nat → Int32))} :
    (∀ e, tkS (stC C) R = .inl e → bX12_reads_L11 F (ii T.length) 1000 tp 2000 7 7 k11 (ii ((stC C).1.length - 1)) 0 pl bg tkn wd td wr cd cs op cm = some (0, pl, bg, tkn, wd, td, ii e, cd, cs, op, cm)) ∧ (tkS (stC C) R = .inr none → ∃ pl' bg' tkn' wd' td', bX12_reads_L11 F (ii T.length) 1000 tp 2000 7 7 k11 (ii ((stC C).1.length - 1)) 0 pl bg tkn wd td wr cd cs op cm = some (1, pl', bg', tkn', wd', td', wr, cd, cs, op, cm) ∧ nsM T (stp R) pl' bg' tkn' wd' td') ∧ (∀ c, tkS (stC C) R = .inr (some c) → ∃ pl' bg' tkn' wd' td' cd' op' cm', bX12_reads_L11 F (ii T.length) 1000 tp 2000 7 7 k11 (ii ((stC C).1.length - 1)) 0 pl bg tkn wd td wr cd cs op cm = k11 (ii ((stC (C ++ [c])).1.length - 1)) (if (stC (C ++ [c])).2.isNone = true then 1 else 0) pl' bg' tkn' wd' td' wr cd' (upd cs (1000 + C.length) (ii c)) op' cm' ∧ nsM T (stp R) pl' bg' tkn' wd' td' ∧ rdM (C ++ [c]) cd' (upd cs (1000 + C.length) (ii c)) op' cm') := by
  obtain ⟨p1, b1, t1, w1, d1, e1, h1⟩ := nextToken_M hF hT ht h
  obtain ⟨g1, g2, g3, g4, g5, g6⟩ := nsM_ne h
  obtain ⟨rfl, r2, r3⟩ := hr
  obtain ⟨o1, o2, o3⟩ := hok
  cases hfs : (stC C).1 with
  | nil =>
    rw [hfs] at o1
    exact absurd o1 id
  | cons f fs =>
    obtain ⟨b, k, cc, s, m⟩ := f
    have hst0 : stC C = ((b, k, cc, s, m) :: fs, some v) := by rw [← hfs, ← hcur]
    have hlf : fs.length ≤ 5 := by rw [hfs] at o2; simp at o2; omega
    have hT9 : tkS (stC C) R = (if kR R = 43 then (.inr (some 20) : Nat ⊕ Option Nat) else if kR R = 45 then .inr (some 21) else if kR R = 42 then .inr (some 22) else if (kR R = 60 ∨ kR R = 61) ∧ cc.isNone = true then .inr (some (if kR R = 60 then 24 else 25)) else if kR R = 14 then .inr (some 26) else if kR R = 15 then .inr (some 27) else if kR R = 41 ∧ 1 ≤ fs.length then .inr (some 29) else if kR R = 59 ∧ fs.length = 0 then .inr none else .inl (1 + 16 * sR R)) := by rw [hst0]; rfl
    have hsyn : ∀ c, stC (C ++ [c]) = sy ((b, k, cc, s, m) :: fs, some v) c := fun c => by rw [stC_snoc, hst0]
    rw [hfs] at o1 o2 r3
    obtain ⟨ro, rc, rr⟩ := r3
    simp only at ro rc
    rw [hT9, List.length_cons, Nat.add_sub_cancel]
    unfold bX12_reads_L11 bX12_reads_L206 bX12_reads_L263 bX12_reads_L304 bX12_reads_L324 bX12_reads_L399 bX12_reads_L418 bX12_reads_L237 bX12_reads_L289 bX12_reads_L342
    rw [isWordM (k := 14) (c := (1111 : Int64)) (by omega) rfl h, isWordM (k := 15) (c := (423 : Int64)) (by omega) rfl h, show fX12_isSign F bg tkn 1000 tp (43 : Int32) = _ from isSignM (c := 43) (by omega) (by omega) hT ht h, show fX12_isSign F bg tkn 1000 tp (45 : Int32) = _ from isSignM (c := 45) (by omega) (by omega) hT ht h, show fX12_isSign F bg tkn 1000 tp (42 : Int32) = _ from isSignM (c := 42) (by omega) (by omega) hT ht h, show fX12_isSign F bg tkn 1000 tp (60 : Int32) = _ from isSignM (c := 60) (by omega) (by omega) hT ht h, show fX12_isSign F bg tkn 1000 tp (61 : Int32) = _ from isSignM (c := 61) (by omega) (by omega) hT ht h, show fX12_isSign F bg tkn 1000 tp (41 : Int32) = _ from isSignM (c := 41) (by omega) (by omega) hT ht h, show fX12_isSign F bg tkn 1000 tp (59 : Int32) = _ from isSignM (c := 59) (by omega) (by omega) hT ht h, show fX12_fails F bg (1 : Int32) wr = _ from failsM (k := 1) h wr, if_pos (show (0 : Int32) = 0 from rfl)]
    simp only [Option.bind_some, ite01]
    have eD : ¬ (ii fs.length < 0 ∨ 7 ≤ (ii fs.length).toNatClampNeg) := nidx (by omega) (by omega)
    have eLe : (ii fs.length ≤ (0 : Int32)) = (fs.length = 0) := by
      rw [k_0, ii_le (by omega) (by omega)]
      apply propext
      omega
    have eEq : (ii fs.length = (0 : Int32)) = (fs.length = 0) := len0 (by omega)
    have n0 : vp_nar .boolean (0 : Int32) = 0 := by decide
    have n1 : vp_nar .boolean (1 : Int32) = 1 := by decide
    simp only [if_neg eD]
    simp only [ii_nat (show fs.length < 2147483648 by omega), rc, n0, n1]
    have joint : ∀ (c : Nat) (z : Int32) (f' : Fm) (cm' : Nat → Int32), z = ii c → stC (C ++ [c]) = (f' :: fs, none) → f'.1 = b → cm' fs.length = (if f'.2.2.1.isNone = true then 0 else 1) → (∀ j, j < fs.length → cm' j = cm j) → ∃ pl' bg' tkn' wd' td' cd' op' cm'', ((fX12_puts F 2000 z (ii (1000 + C.length)) cs).bind fun R237 => bX12_reads_L424 F (ii T.length) 1000 tp 2000 7 7 k11 (ii fs.length) 1 pl bg tkn wd td wr R237.1 R237.2 op cm') = k11 (ii ((stC (C ++ [c])).1.length - 1)) (if (stC (C ++ [c])).2.isNone = true then 1 else 0) pl' bg' tkn' wd' td' wr cd' (upd cs (1000 + C.length) (ii c)) op' cm'' ∧ nsM T (stp R) pl' bg' tkn' wd' td' ∧ rdM (C ++ [c]) cd' (upd cs (1000 + C.length) (ii c)) op' cm'' := by
      intro c z f' cm' hz hsy hfb hcm hlow
      rw [hz, puts_eq (by omega), Option.bind_some]
      unfold bX12_reads_L424
      rw [e1, Option.bind_some, hsy]
      refine ⟨_, _, _, _, _, _, _, _, rfl, h1, ?_, rdM_put r2, ?_⟩
      · rw [List.length_append, List.length_singleton]
        rfl
      · rw [hsy]
        refine ⟨fun hne => ?_, hcm, rfO_congr (fun j hj => ⟨rfl, hlow j hj⟩) rr⟩
        rw [ro hne, hfb]
    by_cases d43 : kR R = 43
    · rw [if_pos d43, if_pos d43]
      refine ⟨fun e he => (by cases he), fun he => (by cases he), fun c hc => ?_⟩
      cases hc
      rw [if_pos d43]
      exact joint 20 20 (b, k, cc, some (20, smV s (tmV m v)), none) cm rfl (by rw [hsyn]; rfl) rfl rc (fun j hj => rfl)
    simp only [if_neg d43]
    by_cases d45 : kR R = 45
    · rw [if_pos d45, if_pos d45]
      refine ⟨fun e he => (by cases he), fun he => (by cases he), fun c hc => ?_⟩
      cases hc
      rw [if_pos d45]
      exact joint 21 21 (b, k, cc, some (21, smV s (tmV m v)), none) cm rfl (by rw [hsyn]; rfl) rfl rc (fun j hj => rfl)
    simp only [if_neg d45]
    by_cases d42 : kR R = 42
    · rw [if_pos d42, if_pos d42]
      refine ⟨fun e he => (by cases he), fun he => (by cases he), fun c hc => ?_⟩
      cases hc
      exact joint 22 22 (b, k, cc, s, some (tmV m v)) cm rfl (by rw [hsyn]; rfl) rfl rc (fun j hj => rfl)
    simp only [if_neg d42]
    by_cases d6 : kR R = 60 ∨ kR R = 61
    · cases cc with
      | none =>
        have hcmp : ∀ {α : Type} (x y : α), (if (if (none : Option (Nat × VV)).isNone = true then (0 : Int32) else 1) = 0 then x else y) = x := fun x y => rfl
        simp only [hcmp]
        rw [if_pos (show (kR R = 60 ∨ kR R = 61) ∧ (none : Option (Nat × VV)).isNone = true from ⟨d6, rfl⟩)]
        refine ⟨fun e he => (by cases he), fun he => (by cases he), fun c hc => ?_⟩
        have h2 : (if kR R = 60 then 24 else 25) = c := Option.some.inj (Sum.inr.inj hc)
        by_cases d60 : kR R = 60
        · rw [if_pos d60] at h2
          subst h2
          rw [if_pos d60, if_pos d60]
          exact joint 24 24 (b, k, some (24, smV s (tmV m v)), none, none) (upd cm fs.length 1) rfl (by rw [hsyn]; rfl) rfl (upd_same _ _ _) (fun j hj => upd_ne _ _ (by omega))
        · rw [if_neg d60] at h2
          subst h2
          rw [if_neg d60, if_pos (show kR R = 61 by omega), if_neg d60]
          exact joint 25 25 (b, k, some (25, smV s (tmV m v)), none, none) (upd cm fs.length 1) rfl (by rw [hsyn]; rfl) rfl (upd_same _ _ _) (fun j hj => upd_ne _ _ (by omega))
      | some q =>
        have hcmp : ∀ {α : Type} (x y : α), (if (if (some q).isNone = true then (0 : Int32) else 1) = 0 then x else y) = y := fun x y => rfl
        simp only [hcmp]
        have n14 : ¬ kR R = 14 := by omega
        have n15 : ¬ kR R = 15 := by omega
        have n41 : ¬ kR R = 41 := by omega
        have n59 : ¬ kR R = 59 := by omega
        simp only [if_neg n14, if_neg n15, if_neg n41, if_neg n59, ite_self]
        rw [if_neg (show ¬ ((kR R = 60 ∨ kR R = 61) ∧ (some q).isNone = true) from fun hh => absurd hh.2 (by simp)), if_neg (show ¬ (kR R = 41 ∧ 1 ≤ fs.length) from fun hh => n41 hh.1), if_neg (show ¬ (kR R = 59 ∧ fs.length = 0) from fun hh => n59 hh.1)]
        refine ⟨fun e he => ?_, fun he => (by cases he), fun c hc => (by cases hc)⟩
        cases he
        exact if_pos (Or.inl trivial)
    have n60 : ¬ kR R = 60 := fun hh => d6 (Or.inl hh)
    have n61 : ¬ kR R = 61 := fun hh => d6 (Or.inr hh)
    simp only [if_neg n60, if_neg n61]
    rw [if_neg (show ¬ ((kR R = 60 ∨ kR R = 61) ∧ cc.isNone = true) from fun hh => d6 hh.1)]
    by_cases d14 : kR R = 14
    · rw [if_pos d14, if_pos d14]
      refine ⟨fun e he => (by cases he), fun he => (by cases he), fun c hc => ?_⟩
      cases hc
      rw [if_pos d14]
      exact joint 26 26 (b, some (26, fvV (b, k, cc, s, m) v), none, none, none) (upd cm fs.length 0) rfl (by rw [hsyn]; rfl) rfl (upd_same _ _ _) (fun j hj => upd_ne _ _ (by omega))
    simp only [if_neg d14]
    by_cases d15 : kR R = 15
    · rw [if_pos d15, if_pos d15]
      refine ⟨fun e he => (by cases he), fun he => (by cases he), fun c hc => ?_⟩
      cases hc
      exact joint 27 27 (b, some (27, fvV (b, k, cc, s, m) v), none, none, none) (upd cm fs.length 0) rfl (by rw [hsyn]; rfl) rfl (upd_same _ _ _) (fun j hj => upd_ne _ _ (by omega))
    simp only [if_neg d15]
    by_cases d41 : kR R = 41 ∧ 1 ≤ fs.length
    · rw [if_pos d41, if_pos d41.1, if_neg (show ¬ ii fs.length ≤ (0 : Int32) by rw [eLe]; omega)]
      refine ⟨fun e he => (by cases he), fun he => (by cases he), fun c hc => ?_⟩
      cases hc
      have hne : fs ≠ [] := fun hh => by rw [hh] at d41; exact absurd d41.2 (by decide)
      have hof2 : okFs fs := by
        cases fs with
        | nil => exact absurd rfl hne
        | cons g gs => exact o1.2
      have hsy : stC (C ++ [29]) = ((clN fs (fvV (b, k, cc, s, m) v)).1, some (clN fs (fvV (b, k, cc, s, m) v)).2) := by
        rw [hsyn]
        rfl
      rw [show fX12_puts F 2000 (29 : Int32) (ii (1000 + C.length)) cs = _ from puts_eq (by omega) (ii 29) cs, Option.bind_some]
      dsimp only
      rw [ii_m1 (by omega), close379 (F := F) (tz := ii T.length) (tp := tp) (k11 := k11) fs F (fvV (b, k, cc, s, m) v) hof2 (by omega) (by omega) rr]
      unfold bX12_reads_L424
      rw [e1, Option.bind_some, hsy]
      refine ⟨_, _, _, _, _, _, _, _, rfl, h1, ?_, rdM_put r2, ?_⟩
      · rw [List.length_append, List.length_singleton]
        rfl
      · rw [hsy]
        exact rfO_cl rr
    rw [if_neg d41]
    by_cases q1 : kR R = 41
    · have q2 : fs.length = 0 := by omega
      rw [if_pos q1, if_pos (show ii fs.length ≤ (0 : Int32) by rw [eLe]; exact q2), if_pos (show ii fs.length = (0 : Int32) by rw [eEq]; exact q2), if_neg (show ¬ kR R = 59 by omega), if_neg (show ¬ (kR R = 59 ∧ fs.length = 0) by omega)]
      refine ⟨fun e he => ?_, fun he => (by cases he), fun c hc => (by cases hc)⟩
      cases he
      exact if_pos (Or.inl trivial)
    · rw [if_neg q1]
      by_cases q2 : fs.length = 0
      · rw [if_pos (show ii fs.length = (0 : Int32) by rw [eEq]; exact q2)]
        by_cases q3 : kR R = 59
        · rw [if_pos q3, if_pos (show kR R = 59 ∧ fs.length = 0 from ⟨q3, q2⟩), e1, Option.bind_some]
          exact ⟨fun e he => (by cases he), fun he => ⟨_, _, _, _, _, rfl, h1⟩, fun c hc => (by cases hc)⟩
        · rw [if_neg q3, if_neg (show ¬ (kR R = 59 ∧ fs.length = 0) from fun hh => q3 hh.1)]
          refine ⟨fun e he => ?_, fun he => (by cases he), fun c hc => (by cases hc)⟩
          cases he
          exact if_pos (Or.inl trivial)
      · rw [if_neg (show ¬ ii fs.length = (0 : Int32) by rw [eEq]; exact q2), if_neg (show ¬ (kR R = 59 ∧ fs.length = 0) from fun hh => q2 hh.2)]
        refine ⟨fun e he => ?_, fun he => (by cases he), fun c hc => (by cases hc)⟩
        cases he
        exact if_pos (Or.inl trivial)
