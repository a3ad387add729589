/-! PURE: what release and endPart do to codes and frames -/
theorem mc_op {x : Nat → Int32} {c : Nat} {a b : Int32} {V : List Int32} (h : isOp c) : mc x (b :: a :: V) c = jV c a b :: V := by
  unfold mc
  unfold isOp at h
  rw [if_neg (by omega), if_pos (by omega)]
theorem mc_vl {x : Nat → Int32} {c : Nat} {V : List Int32} (h : isVl c) : mc x V c = vcV c x :: V := by
  unfold mc
  unfold isVl at h
  rw [if_neg (by omega), if_neg (by omega)]
theorem fold_snoc (x : Nat → Int32) (P : List Nat) (c : Nat) : (P ++ [c]).foldl (mc x) [] = mc x (P.foldl (mc x) []) c := by
  rw [List.foldl_append]
  rfl
def jo (o : Option (Nat × VV)) (t : VV) : VV := match o with
  | none => t
  | some p => fun x => jV p.1 (p.2 x) (t x)
theorem jo_sm {s : Option (Nat × VV)} (h : ∀ p, s = some p → p.1 = 20 ∨ p.1 = 21) (t : VV) : jo s t = smV s t := by
  cases s with
  | none => rfl
  | some p =>
    funext x
    show jV p.1 (p.2 x) (t x) = if p.1 = 21 then p.2 x - t x else p.2 x + t x
    unfold jV
    rcases h p rfl with h | h
    · rw [if_pos h, if_neg (by omega)]
    · rw [if_neg (by omega), if_pos h, if_pos h]
theorem jo_cm {s : Option (Nat × VV)} (h : ∀ p, s = some p → p.1 = 24 ∨ p.1 = 25) (t : VV) : jo s t = cmV s t := by
  cases s with
  | none => rfl
  | some p =>
    funext x
    show jV p.1 (p.2 x) (t x) = if p.1 = 24 then (if p.2 x < t x then 1 else 0) else (if p.2 x = t x then 1 else 0)
    unfold jV
    rcases h p rfl with h | h
    · rw [if_neg (by omega), if_neg (by omega), if_neg (by omega), if_pos h, if_pos h]
    · rw [if_neg (by omega), if_neg (by omega), if_neg (by omega), if_neg (by omega), if_pos h, if_neg (show ¬ p.1 = 24 by omega)]
theorem jo_kp {s : Option (Nat × VV)} (h : ∀ p, s = some p → p.1 = 26 ∨ p.1 = 27) (t : VV) : jo s t = kpV s t := by
  cases s with
  | none => rfl
  | some p =>
    funext x
    show jV p.1 (p.2 x) (t x) = if p.1 = 26 then (if p.2 x = 0 then 0 else if t x = 0 then 0 else 1) else (if p.2 x = 0 then (if t x = 0 then 0 else 1) else 1)
    unfold jV
    rcases h p rfl with h | h
    · rw [if_neg (by omega), if_neg (by omega), if_neg (by omega), if_neg (by omega), if_neg (by omega), if_pos h]
    · rw [if_neg (by omega), if_neg (by omega), if_neg (by omega), if_neg (by omega), if_neg (by omega), if_neg (by omega)]
theorem jo_tm (m : Option VV) (t : VV) : jo (m.map (fun a => (22, a))) t = tmV m t := by
  cases m with
  | none => rfl
  | some a => rfl
/-- the class's codes have come to these values -/
def stk (P : List Nat) (V : List VV) : Prop := (∀ x, P.foldl (mc x) [] = V.map (fun v => v x)) ∧ ∀ x, mlg x [] P
theorem stk_op {P : List Nat} {V : List VV} {c : Nat} {a b : VV} (h : isOp c) (hs : stk P (b :: a :: V)) : stk (P ++ [c]) ((fun x => jV c (a x) (b x)) :: V) := by
  refine ⟨fun x => ?_, fun x => ?_⟩
  · rw [fold_snoc, hs.1 x]
    exact mc_op h
  · exact mlg_snoc (hs.2 x) (Or.inr (Or.inl ⟨h, by rw [hs.1 x]; simp⟩))
theorem stk_vl {P : List Nat} {V : List VV} {c : Nat} (h : isVl c) (hV : V.length ≤ 40) (hs : stk P V) : stk (P ++ [c]) (vcV c :: V) := by
  refine ⟨fun x => ?_, fun x => ?_⟩
  · rw [fold_snoc, hs.1 x]
    exact mc_vl h
  · exact mlg_snoc (hs.2 x) (Or.inr (Or.inr ⟨h, by rw [hs.1 x]; simpa using hV⟩))
theorem stk_nt {P : List Nat} {V : List VV} {v : VV} (hs : stk P (v :: V)) : stk (P ++ [30]) (ntV v :: V) := by
  refine ⟨fun x => ?_, fun x => ?_⟩
  · rw [fold_snoc, hs.1 x]
    rfl
  · exact mlg_snoc (hs.2 x) (Or.inl ⟨rfl, by rw [hs.1 x]; simp⟩)
theorem opt_rel {l : Nat} {o : Option (Nat × VV)} (h : ∀ p, o = some p → isOp p.1 ∧ l ≤ rko p.1) {P W : List Nat} {t : VV} {V : List VV} (hs : stk P (t :: (o.toList.map Prod.snd ++ V))) : ∃ P', relL l (o.toList.map (fun p => tkN p.1) ++ W) P = relL l W P' ∧ stk P' (jo o t :: V) ∧ P'.length = P.length + o.toList.length := by
  cases o with
  | none => exact ⟨P, rfl, hs, rfl⟩
  | some p =>
    obtain ⟨h1, h2⟩ := h p rfl
    obtain ⟨q1, q2, q3, q4⟩ := op_tk h1
    refine ⟨P ++ [p.1], ?_, stk_op h1 hs, by simp⟩
    show (if l ≤ rkN (tkN p.1) then relL l W (P ++ [rcd (tkN p.1)]) else _) = _
    rw [q1, q2, if_pos h2]
theorem rel_stop {l : Nat} {W P : List Nat} (h : ∀ w W', W = w :: W' → rkN w < l) : relL l W P = (W, P) := by
  cases W with
  | nil => rfl
  | cons w W =>
    have := h w W rfl
    show (if l ≤ rkN w then _ else _) = _
    rw [if_neg (by omega)]
def uS (f : Fm) (fs : List Fm) : List Nat := (match fs with
    | [] => []
    | _ :: _ => [if f.1 = true then 13 else 40]) ++ wtS fs
theorem wtS_cons (f : Fm) (fs : List Fm) : wtS (f :: fs) = frO f ++ uS f fs := by
  show frO f ++ _ ++ wtS fs = _
  rw [List.append_assoc]
  rfl
theorem uS_rank {f : Fm} {fs : List Fm} : ∀ w W', uS f fs = w :: W' → rkN w = 0 := by
  intro w W' h
  cases fs with
  | nil => cases h
  | cons g gs =>
    have h2 : (if f.1 = true then 13 else 40) = w := (List.cons.inj h).1
    rw [← h2]
    split <;> rfl
theorem frO_split (b : Bool) (k c s : Option (Nat × VV)) (m : Option VV) (U : List Nat) : frO (b, k, c, s, m) ++ U = (m.map (fun a => (22, a))).toList.map (fun p => tkN p.1) ++ (s.toList.map (fun p => tkN p.1) ++ (c.toList.map (fun p => tkN p.1) ++ (k.toList.map (fun p => tkN p.1) ++ U))) := by
  unfold frO
  simp only [List.append_assoc]
  cases m <;> rfl
theorem frV_split (b : Bool) (k c s : Option (Nat × VV)) (m : Option VV) (V : List VV) : frV (b, k, c, s, m) ++ V = (m.map (fun a => (22, a))).toList.map Prod.snd ++ (s.toList.map Prod.snd ++ (c.toList.map Prod.snd ++ (k.toList.map Prod.snd ++ V))) := by
  unfold frV
  simp only [List.append_assoc]
  cases m <;> rfl
theorem hd_op {o : Option (Nat × VV)} {l : Nat} {W : List Nat} (h : ∀ p, o = some p → isOp p.1 ∧ rko p.1 < l) (hW : ∀ w W', W = w :: W' → rkN w < l) : ∀ w W', o.toList.map (fun p => tkN p.1) ++ W = w :: W' → rkN w < l := by
  intro w W' hh
  cases o with
  | none => exact hW w W' hh
  | some p =>
    obtain ⟨h1, h2⟩ := h p rfl
    have h3 : tkN p.1 = w := (List.cons.inj hh).1
    rw [← h3, (op_tk h1).1]
    exact h2
theorem rel4 {b : Bool} {k c s : Option (Nat × VV)} {m : Option VV} (hf : okF (b, k, c, s, m)) {P U : List Nat} {v : VV} {V : List VV} (hU : ∀ w W', U = w :: W' → rkN w = 0) (hs : stk P (v :: (frV (b, k, c, s, m) ++ V))) : ∃ P', relL 4 (frO (b, k, c, s, m) ++ U) P = (frO (b, k, c, s, none) ++ U, P') ∧ stk P' (tmV m v :: (frV (b, k, c, s, none) ++ V)) ∧ P'.length + (frO (b, k, c, s, none)).length = P.length + (frO (b, k, c, s, m)).length := by
  obtain ⟨f1, f2, f3, -⟩ := hf
  simp only at f1 f2 f3
  rw [frO_split]
  rw [frV_split] at hs
  obtain ⟨P1, e1, s1, l1⟩ := opt_rel (l := 4) (W := s.toList.map (fun p => tkN p.1) ++ (c.toList.map (fun p => tkN p.1) ++ (k.toList.map (fun p => tkN p.1) ++ U))) (o := m.map (fun a => (22, a))) (by
    intro p hp
    cases m with
    | none => cases hp
    | some a =>
      cases hp
      exact ⟨by unfold isOp; simp, show 4 ≤ rko 22 by decide⟩) hs
  rw [jo_tm] at s1
  refine ⟨P1, ?_, ?_, ?_⟩
  · rw [e1, rel_stop]
    · rw [frO_split]
      rfl
    · apply hd_op
      · intro p hp
        have := f3 p hp
        exact ⟨by unfold isOp; omega, by rcases this with h | h <;> rw [h] <;> decide⟩
      · apply hd_op
        · intro p hp
          have := f2 p hp
          exact ⟨by unfold isOp; omega, by rcases this with h | h <;> rw [h] <;> decide⟩
        · apply hd_op
          · intro p hp
            have := f1 p hp
            exact ⟨by unfold isOp; omega, by rcases this with h | h <;> rw [h] <;> decide⟩
          · intro w W' h
            rw [hU w W' h]
            decide
  · rw [frV_split]
    exact s1
  · rw [l1]
    unfold frO
    cases m <;> simp <;> omega
theorem rel3 {b : Bool} {k c s : Option (Nat × VV)} {m : Option VV} (hf : okF (b, k, c, s, m)) {P U : List Nat} {v : VV} {V : List VV} (hU : ∀ w W', U = w :: W' → rkN w = 0) (hs : stk P (v :: (frV (b, k, c, s, m) ++ V))) : ∃ P', relL 3 (frO (b, k, c, s, m) ++ U) P = (frO (b, k, c, none, none) ++ U, P') ∧ stk P' (smV s (tmV m v) :: (frV (b, k, c, none, none) ++ V)) ∧ P'.length + (frO (b, k, c, none, none)).length = P.length + (frO (b, k, c, s, m)).length := by
  obtain ⟨f1, f2, f3, -⟩ := hf
  simp only at f1 f2 f3
  rw [frO_split]
  rw [frV_split] at hs
  obtain ⟨P1, e1, s1, l1⟩ := opt_rel (l := 3) (W := s.toList.map (fun p => tkN p.1) ++ (c.toList.map (fun p => tkN p.1) ++ (k.toList.map (fun p => tkN p.1) ++ U))) (o := m.map (fun a => (22, a))) (by
    intro p hp
    cases m with
    | none => cases hp
    | some a =>
      cases hp
      exact ⟨by unfold isOp; simp, show 3 ≤ rko 22 by decide⟩) hs
  rw [jo_tm] at s1
  obtain ⟨P2, e2, s2, l2⟩ := opt_rel (l := 3) (W := c.toList.map (fun p => tkN p.1) ++ (k.toList.map (fun p => tkN p.1) ++ U)) (o := s) (by
    intro p hp
    have := f3 p hp
    exact ⟨by unfold isOp; omega, by rcases this with h | h <;> rw [h] <;> decide⟩) s1
  rw [jo_sm f3] at s2
  refine ⟨P2, ?_, ?_, ?_⟩
  · rw [e1, e2, rel_stop]
    · rw [frO_split]
      rfl
    · apply hd_op
      · intro p hp
        have := f2 p hp
        exact ⟨by unfold isOp; omega, by rcases this with h | h <;> rw [h] <;> decide⟩
      · apply hd_op
        · intro p hp
          have := f1 p hp
          exact ⟨by unfold isOp; omega, by rcases this with h | h <;> rw [h] <;> decide⟩
        · intro w W' h
          rw [hU w W' h]
          decide
  · rw [frV_split]
    exact s2
  · rw [l2, l1]
    unfold frO
    cases m <;> cases s <;> simp <;> omega
theorem rel1 {b : Bool} {k c s : Option (Nat × VV)} {m : Option VV} (hf : okF (b, k, c, s, m)) {P U : List Nat} {v : VV} {V : List VV} (hU : ∀ w W', U = w :: W' → rkN w = 0) (hs : stk P (v :: (frV (b, k, c, s, m) ++ V))) : ∃ P', relL 1 (frO (b, k, c, s, m) ++ U) P = (U, P') ∧ stk P' (fvV (b, k, c, s, m) v :: V) ∧ P'.length = P.length + (frO (b, k, c, s, m)).length := by
  obtain ⟨f1, f2, f3, -⟩ := hf
  simp only at f1 f2 f3
  rw [frO_split]
  rw [frV_split] at hs
  obtain ⟨P1, e1, s1, l1⟩ := opt_rel (l := 1) (W := s.toList.map (fun p => tkN p.1) ++ (c.toList.map (fun p => tkN p.1) ++ (k.toList.map (fun p => tkN p.1) ++ U))) (o := m.map (fun a => (22, a))) (by
    intro p hp
    cases m with
    | none => cases hp
    | some a =>
      cases hp
      exact ⟨by unfold isOp; simp, show 1 ≤ rko 22 by decide⟩) hs
  rw [jo_tm] at s1
  obtain ⟨P2, e2, s2, l2⟩ := opt_rel (l := 1) (W := c.toList.map (fun p => tkN p.1) ++ (k.toList.map (fun p => tkN p.1) ++ U)) (o := s) (by
    intro p hp
    have := f3 p hp
    exact ⟨by unfold isOp; omega, by rcases this with h | h <;> rw [h] <;> decide⟩) s1
  rw [jo_sm f3] at s2
  obtain ⟨P3, e3, s3, l3⟩ := opt_rel (l := 1) (W := k.toList.map (fun p => tkN p.1) ++ U) (o := c) (by
    intro p hp
    have := f2 p hp
    exact ⟨by unfold isOp; omega, by rcases this with h | h <;> rw [h] <;> decide⟩) s2
  rw [jo_cm f2] at s3
  obtain ⟨P4, e4, s4, l4⟩ := opt_rel (l := 1) (W := U) (o := k) (by
    intro p hp
    have := f1 p hp
    exact ⟨by unfold isOp; omega, by rcases this with h | h <;> rw [h] <;> decide⟩) s3
  rw [jo_kp f1] at s4
  refine ⟨P4, ?_, s4, ?_⟩
  · rw [e1, e2, e3, e4, rel_stop]
    intro w W' h
    rw [hU w W' h]
    decide
  · rw [l4, l3, l2, l1]
    unfold frO
    cases m <;> simp <;> omega
/-- parts end: each not that waits holds -/
theorem cl_fr : ∀ (fs : List Fm) (v : VV) (P : List Nat), okFs fs → stk P (v :: vsS fs) → ∃ P', clL (wtS fs) P = (wtS (clN fs v).1, P') ∧ stk P' ((clN fs v).2 :: vsS (clN fs v).1) ∧ P'.length + (wtS (clN fs v).1).length = P.length + (wtS fs).length ∧ (wtS fs).length - (wtS (clN fs v).1).length = fs.length - (clN fs v).1.length ∧ (wtS (clN fs v).1).length ≤ (wtS fs).length := by
  intro fs
  induction fs with
  | nil => intro v P h; exact absurd h id
  | cons f fs ih =>
    intro v P h hs
    by_cases hb : f.1 = true
    · cases fs with
      | nil =>
        exfalso
        have := h.2
        rw [hb] at this
        cases this
      | cons g gs =>
        have e3 : clN (f :: g :: gs) v = clN (g :: gs) (ntV v) := by
          show (if f.1 = true then _ else _) = _
          rw [if_pos hb]
        rw [e3]
        have hff : f.2 = (none, none, none, none) := h.1.2.2.2 hb
        have e4 : wtS (f :: g :: gs) = 13 :: wtS (g :: gs) := by
          rw [wtS_cons]
          unfold frO uS
          rw [hff, hb]
          rfl
        have e5 : vsS (f :: g :: gs) = vsS (g :: gs) := by
          show frV f ++ vsS (g :: gs) = _
          unfold frV
          rw [hff]
          rfl
        rw [e5] at hs
        obtain ⟨P', q1, q2, q3, q4, q5⟩ := ih (ntV v) (P ++ [30]) h.2 (stk_nt hs)
        have e6 : clL (wtS (f :: g :: gs)) P = clL (wtS (g :: gs)) (P ++ [30]) := by
          rw [e4]
          rfl
        obtain ⟨-, k2, -⟩ := clN_ok (v := ntV v) h.2
        refine ⟨P', ?_, q2, ?_, ?_, ?_⟩
        · rw [e6, q1]
        · rw [q3, e4]
          simp
          omega
        · rw [e4]
          simp only [List.length_cons] at q4 k2 ⊢
          omega
        · rw [e4]
          simp
          omega
    · have e3 : clN (f :: fs) v = (f :: fs, v) := by
        show (if f.1 = true then _ else _) = _
        rw [if_neg hb]
      rw [e3]
      refine ⟨P, ?_, hs, rfl, by simp, Nat.le_refl _⟩
      have hf := okFs_head h
      have hne : ∀ w W', wtS (f :: fs) = w :: W' → w ≠ 13 := by
        intro w W' hh
        rw [wtS_cons] at hh
        obtain ⟨fb, k, c, s, m⟩ := f
        rw [frO_split] at hh
        obtain ⟨f1, f2, f3, -⟩ := hf
        simp only at f1 f2 f3 hb
        have hop : ∀ (o : Option (Nat × VV)) (W : List Nat), (∀ p, o = some p → isOp p.1) → (∀ w W', W = w :: W' → w ≠ 13) → ∀ w W', o.toList.map (fun p => tkN p.1) ++ W = w :: W' → w ≠ 13 := by
          intro o W h1 h2 w W' h3
          cases o with
          | none => exact h2 w W' h3
          | some p =>
            have h4 : tkN p.1 = w := (List.cons.inj h3).1
            rw [← h4]
            have h5 := h1 p rfl
            rcases h5 with h | h | h | h | h | h | h <;> rw [h] <;> decide
        refine hop _ _ (fun p hp => ?_) (hop _ _ (fun p hp => ?_) (hop _ _ (fun p hp => ?_) (hop _ _ (fun p hp => ?_) ?_))) w W' hh
        · cases m with
          | none => cases hp
          | some a => cases hp; unfold isOp; simp
        · have := f3 p hp; unfold isOp; omega
        · have := f2 p hp; unfold isOp; omega
        · have := f1 p hp; unfold isOp; omega
        · intro w W' h9
          cases fs with
          | nil => cases h9
          | cons g gs =>
            have h10 : (if fb = true then 13 else 40) = w := (List.cons.inj h9).1
            rw [if_neg hb] at h10
            omega
      cases hW : wtS (f :: fs) with
      | nil => rfl
      | cons w W' =>
        show (if w = 13 then _ else _) = _
        rw [if_neg (hne w W' hW)]
