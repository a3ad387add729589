/-! PURE: the law of takes read: what comes, and the class's yard -/
/-- the code that a token tells, none at the end of the law -/
def tkS (st : List Fm × Option VV) (R : List Tk) : Nat ⊕ Option Nat := match st with
  | ([], _) => .inl (1 + 16 * sR R)
  | (f :: fs, none) => if (16 ≤ kR R ∧ kR R ≤ 19) ∨ kR R = 13 ∨ kR R = 40 ∨ kR R = 21 then (if 5 ≤ fs.length then .inl (5 + 16 * sR R) else .inr (some (if kR R = 13 then 30 else if kR R = 40 then 28 else if kR R = 21 then 100 + dv (wR R) else kR R - 15))) else .inl (1 + 16 * sR R)
  | (f :: fs, some _) => if kR R = 43 then .inr (some 20) else if kR R = 45 then .inr (some 21) else if kR R = 42 then .inr (some 22) else if (kR R = 60 ∨ kR R = 61) ∧ f.2.2.1.isNone = true then .inr (some (if kR R = 60 then 24 else 25)) else if kR R = 14 then .inr (some 26) else if kR R = 15 then .inr (some 27) else if kR R = 41 ∧ 1 ≤ fs.length then .inr (some 29) else if kR R = 59 ∧ fs.length = 0 then .inr none else .inl (1 + 16 * sR R)
def lwS : Nat → List Nat → List Tk → Nat ⊕ (List Nat × List Tk)
  | 0, _, _ => .inl 0
  | f + 1, C, R => match tkS (stC C) R with
    | .inl e => .inl e
    | .inr none => .inr (C, R)
    | .inr (some c) => lwS f (C ++ [c]) (stp R)
theorem tkS_wf {st : List Fm × Option VV} {R : List Tk} {c : Nat} (hst : okSt st) (hd : kR R = 21 → dv (wR R) < 10000) (h : tkS st R = .inr (some c)) : wfC st c := by
  obtain ⟨fs, cur⟩ := st
  cases fs with
  | nil => cases h
  | cons f fs =>
    cases cur with
    | none =>
      have h' : (if (16 ≤ kR R ∧ kR R ≤ 19) ∨ kR R = 13 ∨ kR R = 40 ∨ kR R = 21 then (if 5 ≤ fs.length then (.inl (5 + 16 * sR R) : Nat ⊕ Option Nat) else .inr (some (if kR R = 13 then 30 else if kR R = 40 then 28 else if kR R = 21 then 100 + dv (wR R) else kR R - 15))) else .inl (1 + 16 * sR R)) = .inr (some c) := h
      show ((c = 28 ∨ c = 30) ∧ fs.length ≤ 4) ∨ (1 ≤ c ∧ c ≤ 4) ∨ (100 ≤ c ∧ c ≤ 10099)
      by_cases c1 : (16 ≤ kR R ∧ kR R ≤ 19) ∨ kR R = 13 ∨ kR R = 40 ∨ kR R = 21
      · rw [if_pos c1] at h'
        by_cases c2 : 5 ≤ fs.length
        · rw [if_pos c2] at h'
          cases h'
        · rw [if_neg c2] at h'
          have h2 : (if kR R = 13 then 30 else if kR R = 40 then 28 else if kR R = 21 then 100 + dv (wR R) else kR R - 15) = c := Option.some.inj (Sum.inr.inj h')
          rw [← h2]
          by_cases d1 : kR R = 13
          · rw [if_pos d1]
            omega
          · rw [if_neg d1]
            by_cases d2 : kR R = 40
            · rw [if_pos d2]
              omega
            · rw [if_neg d2]
              by_cases d3 : kR R = 21
              · have := hd d3
                rw [if_pos d3]
                omega
              · rw [if_neg d3]
                omega
      · rw [if_neg c1] at h'
        cases h'
    | some v =>
      show c = 20 ∨ c = 21 ∨ c = 22 ∨ ((c = 24 ∨ c = 25) ∧ f.2.2.1 = none) ∨ c = 26 ∨ c = 27 ∨ (c = 29 ∧ fs ≠ [])
      have h' : (if kR R = 43 then (.inr (some 20) : Nat ⊕ Option Nat) else if kR R = 45 then .inr (some 21) else if kR R = 42 then .inr (some 22) else if (kR R = 60 ∨ kR R = 61) ∧ f.2.2.1.isNone = true then .inr (some (if kR R = 60 then 24 else 25)) else if kR R = 14 then .inr (some 26) else if kR R = 15 then .inr (some 27) else if kR R = 41 ∧ 1 ≤ fs.length then .inr (some 29) else if kR R = 59 ∧ fs.length = 0 then .inr none else .inl (1 + 16 * sR R)) = .inr (some c) := h
      by_cases d1 : kR R = 43
      · rw [if_pos d1] at h'; cases h'; omega
      · rw [if_neg d1] at h'
        by_cases d2 : kR R = 45
        · rw [if_pos d2] at h'; cases h'; omega
        · rw [if_neg d2] at h'
          by_cases d3 : kR R = 42
          · rw [if_pos d3] at h'; cases h'; omega
          · rw [if_neg d3] at h'
            by_cases d4 : (kR R = 60 ∨ kR R = 61) ∧ f.2.2.1.isNone = true
            · rw [if_pos d4] at h'
              have h2 : (if kR R = 60 then 24 else 25) = c := Option.some.inj (Sum.inr.inj h')
              have h3 : f.2.2.1 = none := Option.isNone_iff_eq_none.mp d4.2
              rw [← h2]
              by_cases d5 : kR R = 60
              · rw [if_pos d5]; simp [h3]
              · rw [if_neg d5]; simp [h3]
            · rw [if_neg d4] at h'
              by_cases d5 : kR R = 14
              · rw [if_pos d5] at h'; cases h'; omega
              · rw [if_neg d5] at h'
                by_cases d6 : kR R = 15
                · rw [if_pos d6] at h'; cases h'; omega
                · rw [if_neg d6] at h'
                  by_cases d7 : kR R = 41 ∧ 1 ≤ fs.length
                  · rw [if_pos d7] at h'
                    cases h'
                    have : fs ≠ [] := fun h => by rw [h] at d7; exact absurd d7.2 (by decide)
                    exact Or.inr (Or.inr (Or.inr (Or.inr (Or.inr (Or.inr ⟨rfl, this⟩)))))
                  · rw [if_neg d7] at h'
                    by_cases d8 : kR R = 59 ∧ fs.length = 0
                    · rw [if_pos d8] at h'; cases h'
                    · rw [if_neg d8] at h'; cases h'
/-- brackets that are open -/
def nbF : List Fm → Nat
  | [] => 0
  | [_] => 0
  | f :: g :: fs => (if f.1 = true then 0 else 1) + nbF (g :: fs)
theorem frO_len {f : Fm} : (frO f).length ≤ 4 := by
  obtain ⟨b, k, c, s, m⟩ := f
  unfold frO
  cases k <;> cases c <;> cases s <;> cases m <;> simp
theorem frO_wv {f : Fm} (hf : okF f) : ∀ w ∈ frO f, wvN w := by
  obtain ⟨b, k, c, s, m⟩ := f
  obtain ⟨f1, f2, f3, -⟩ := hf
  simp only at f1 f2 f3
  intro w hw
  have e : frO (b, k, c, s, m) = frO (b, k, c, s, m) ++ [] := by rw [List.append_nil]
  rw [e, frO_split] at hw
  have hop : ∀ (o : Option (Nat × VV)), (∀ p, o = some p → isOp p.1) → w ∈ o.toList.map (fun p => tkN p.1) → wvN w := by
    intro o h1 h2
    cases o with
    | none => cases h2
    | some p =>
      have : w = tkN p.1 := by simpa using h2
      rw [this]
      exact (op_tk (h1 p rfl)).2.2.1
  rcases List.mem_append.mp hw with h | h
  · refine hop _ (fun p hp => ?_) h
    cases m with
    | none => cases hp
    | some a => cases hp; unfold isOp; simp
  · rcases List.mem_append.mp h with h | h
    · exact hop _ (fun p hp => by have := f3 p hp; unfold isOp; omega) h
    · rcases List.mem_append.mp h with h | h
      · exact hop _ (fun p hp => by have := f2 p hp; unfold isOp; omega) h
      · rcases List.mem_append.mp h with h | h
        · exact hop _ (fun p hp => by have := f1 p hp; unfold isOp; omega) h
        · cases h
theorem wtS_wv : ∀ {fs : List Fm}, okFs fs → (∀ w ∈ wtS fs, wvN w) ∧ (wtS fs).length ≤ 5 * fs.length
  | [], h => absurd h id
  | [f], h => by
    rw [wtS_cons]
    have e : uS f [] = [] := rfl
    rw [e, List.append_nil]
    refine ⟨frO_wv h.1, ?_⟩
    have := frO_len (f := f)
    simp
    omega
  | f :: g :: fs, h => by
    obtain ⟨h1, h2⟩ := wtS_wv h.2
    have hl := frO_len (f := f)
    rw [wtS_cons]
    have e : uS f (g :: fs) = (if f.1 = true then 13 else 40) :: wtS (g :: fs) := rfl
    rw [e]
    refine ⟨fun w hw => ?_, ?_⟩
    · rcases List.mem_append.mp hw with hw | hw
      · exact frO_wv h.1 w hw
      · rcases List.mem_cons.mp hw with hw | hw
        · rw [hw]
          split
          · exact Or.inl rfl
          · exact Or.inr (Or.inl rfl)
        · exact h1 w hw
    · rw [List.length_append, List.length_cons]
      simp only [List.length_cons] at h2 ⊢
      omega
theorem vsS_len : ∀ (fs : List Fm), (vsS fs).length ≤ 4 * fs.length
  | [] => Nat.le_refl _
  | f :: fs => by
    have h1 := vsS_len fs
    have h2 : (frV f).length ≤ 4 := by
      obtain ⟨b, k, c, s, m⟩ := f
      unfold frV
      cases k <;> cases c <;> cases s <;> cases m <;> simp
    show (frV f ++ vsS fs).length ≤ _
    rw [List.length_append, List.length_cons]
    omega
/-- the class has read these codes -/
def lwX (C : List Nat) (sz wa wi br pd : Int32) (co wt : Nat → Int32) : Prop := ∃ P W, W = wtS (stC C).1 ∧ stk P ((stC C).2.toList ++ vsS (stC C).1) ∧ rcO co P ∧ rWn wt W ∧ sz = ii P.length ∧ wa = ii W.length ∧ wi = ii ((stC C).1.length - 1) ∧ br = ii (nbF (stC C).1) ∧ pd = (if (stC C).2.isNone = true then 1 else 0) ∧ P.length + W.length ≤ C.length
theorem rWn_push {wt : Nat → Int32} {W : List Nat} {w : Nat} (h : rWn wt W) : rWn (upd wt W.length (ii w)) (w :: W) := by
  have := rW_push (y := ii w) h
  rw [List.length_map] at this
  exact this
theorem await_eq {F : Nat} {W : List Nat} (hl : W.length < 64) (w : Nat) (wt : Nat → Int32) : fX1_await F 64 (ii w) (ii W.length) wt = some (ii (W.length + 1), upd wt W.length (ii w)) := by
  unfold fX1_await bX1_await_L36
  rw [if_neg (by rw [ii_nneg (by omega)]; exact id), if_neg (by
    rw [show (64 : Int32) = ii 64 from rfl, ii_le (by omega) (by omega)]
    omega), if_neg (nidx (by omega) (by omega)), ii_nat (by omega), k_1, ii_add]
theorem nbF_cl : ∀ {fs : List Fm} {v : VV}, okFs fs → nbF (clN fs v).1 = nbF fs
  | [], _, h => absurd h id
  | [f], v, h => by
    unfold clN
    rw [if_neg (by rw [h.2]; decide)]
  | f :: g :: fs, v, h => by
    unfold clN
    by_cases hf : f.1 = true
    · rw [if_pos hf, nbF_cl h.2]
      show _ = (if f.1 = true then 0 else 1) + nbF (g :: fs)
      rw [if_pos hf]
      omega
    · rw [if_neg hf]
theorem nbF_set {f f' : Fm} {fs : List Fm} (h : f'.1 = f.1) : nbF (f' :: fs) = nbF (f :: fs) := by
  cases fs with
  | nil => rfl
  | cons g fs =>
    show (if f'.1 = true then 0 else 1) + _ = (if f.1 = true then 0 else 1) + _
    rw [h]
