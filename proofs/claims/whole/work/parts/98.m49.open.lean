/-! PURE: opened right before one folk -/
def stF (mk : Nat → Nat) (f : Nat) : Nat := mk f ||| 2 ^ f
theorem stF_bit (mk : Nat → Nat) (f g : Nat) : (stF mk f).testBit g = true ↔ dpp mk f g := by
  unfold stF
  rw [Nat.testBit_or, Nat.testBit_two_pow, Bool.or_eq_true, decide_eq_true_eq]
  exact or_comm
theorem stF_0 {mk : Nat → Nat} {M f : Nat} : M ||| stF mk f ≠ 0 := by
  intro h
  have h2 : (M ||| stF mk f).testBit f = true := by
    rw [Nat.testBit_or, (stF_bit mk f f).mpr (Or.inl rfl), Bool.or_true]
  rw [h, Nat.zero_testBit] at h2
  cases h2
/-- bottom first: those not behind the first f0, and those behind it -/
def bnF (mk : Nat → Nat) (f0 : Nat) : Nat → List (Nat × Int) → List (Nat × Int) × List (Nat × Int)
  | _, [] => ([], [])
  | M, x :: w => if M.testBit x.1 = true ∨ (M = 0 ∧ x.1 = f0) then ((bnF mk f0 (M ||| stF mk x.1) w).1, x :: (bnF mk f0 (M ||| stF mk x.1) w).2) else (x :: (bnF mk f0 M w).1, (bnF mk f0 M w).2)
theorem bn_b {mk : Nat → Nat} {f0 M : Nat} {x : Nat × Int} {w : List (Nat × Int)} (h : M.testBit x.1 = true ∨ (M = 0 ∧ x.1 = f0)) : bnF mk f0 M (x :: w) = ((bnF mk f0 (M ||| stF mk x.1) w).1, x :: (bnF mk f0 (M ||| stF mk x.1) w).2) := if_pos h
theorem bn_f {mk : Nat → Nat} {f0 M : Nat} {x : Nat × Int} {w : List (Nat × Int)} (h : ¬ (M.testBit x.1 = true ∨ (M = 0 ∧ x.1 = f0))) : bnF mk f0 M (x :: w) = (x :: (bnF mk f0 M w).1, (bnF mk f0 M w).2) := if_neg h
theorem tb_orF {M N a : Nat} (h : (M ||| N).testBit a = false) : M.testBit a = false ∧ N.testBit a = false := by
  rw [Nat.testBit_or, Bool.or_eq_false_iff] at h
  exact h
theorem bn_free {mk : Nat → Nat} {f0 : Nat} : ∀ {w : List (Nat × Int)} {M : Nat}, ∀ y ∈ (bnF mk f0 M w).1, M.testBit y.1 = false
  | [], _, y, hy => by cases hy
  | x :: w, M, y, hy => by
    by_cases h : M.testBit x.1 = true ∨ (M = 0 ∧ x.1 = f0)
    · rw [bn_b h] at hy
      exact (tb_orF (bn_free (w := w) y hy)).1
    · rw [bn_f h] at hy
      rcases List.mem_cons.mp hy with rfl | hy
      · cases hb : M.testBit y.1
        · rfl
        · exact absurd (Or.inl hb) h
      · exact bn_free (w := w) y hy
theorem cm_of {mk : Nat → Nat} {f g : Nat} (h : (stF mk f).testBit g = false) : cm mk f g := by
  refine Classical.byContradiction (fun h9 => ?_)
  rw [(stF_bit mk f g).mpr (not_cm h9)] at h
  cases h
theorem bn_EQ {mk : Nat → Nat} (hs : symK mk) {f0 : Nat} : ∀ {w : List (Nat × Int)} {M : Nat}, EQ mk w ((bnF mk f0 M w).1 ++ (bnF mk f0 M w).2)
  | [], _ => EQ.rfl9
  | x :: w, M => by
    by_cases h : M.testBit x.1 = true ∨ (M = 0 ∧ x.1 = f0)
    · rw [bn_b h]
      refine (EQ_cons x (bn_EQ hs (w := w) (M := M ||| stF mk x.1))).trans9 (EQ_mid hs ?_).symm9
      intro b hb
      exact cm_of (tb_orF (bn_free (w := w) b hb)).2
    · rw [bn_f h]
      exact EQ_cons x (bn_EQ hs (w := w))
theorem bn_mem {mk : Nat → Nat} {f0 : Nat} : ∀ {w : List (Nat × Int)} {M : Nat} {y : Nat × Int}, y ∈ w ↔ y ∈ (bnF mk f0 M w).1 ∨ y ∈ (bnF mk f0 M w).2
  | [], _, y => by simp [bnF]
  | x :: w, M, y => by
    by_cases h : M.testBit x.1 = true ∨ (M = 0 ∧ x.1 = f0)
    · rw [bn_b h, List.mem_cons, List.mem_cons, bn_mem (w := w) (M := M ||| stF mk x.1)]
      constructor
      · rintro (h1 | h1 | h1)
        · exact Or.inr (Or.inl h1)
        · exact Or.inl h1
        · exact Or.inr (Or.inr h1)
      · rintro (h1 | h1 | h1)
        · exact Or.inr (Or.inl h1)
        · exact Or.inl h1
        · exact Or.inr (Or.inr h1)
    · rw [bn_f h, List.mem_cons, List.mem_cons, bn_mem (w := w) (M := M), or_assoc]
theorem bn_no {mk : Nat → Nat} {f0 : Nat} : ∀ {w : List (Nat × Int)} {M : Nat}, (M = 0 ∨ M.testBit f0 = true) → ∀ y ∈ (bnF mk f0 M w).1, y.1 ≠ f0
  | [], _, _, y, hy => by cases hy
  | x :: w, M, hM, y, hy => by
    by_cases h : M.testBit x.1 = true ∨ (M = 0 ∧ x.1 = f0)
    · rw [bn_b h] at hy
      refine bn_no (w := w) (Or.inr ?_) y hy
      rw [Nat.testBit_or, Bool.or_eq_true]
      rcases h with h | ⟨_, h⟩
      · rcases hM with h0 | h0
        · rw [h0, Nat.zero_testBit] at h; cases h
        · exact Or.inl h0
      · rw [h]; exact Or.inr ((stF_bit mk f0 f0).mpr (Or.inl rfl))
    · rw [bn_f h] at hy
      rcases List.mem_cons.mp hy with rfl | hy
      · intro e
        apply h
        rcases hM with h0 | h0
        · exact Or.inr ⟨h0, e⟩
        · rw [e]; exact Or.inl h0
      · exact bn_no (w := w) hM y hy
/-- nothing free but f0: only f0 stands at the bottom -/
theorem bn_NM {mk : Nat → Nat} {f0 : Nat} : ∀ {w1 : List (Nat × Int)} {M : Nat} {x : Nat × Int} {w2 : List (Nat × Int)}, (bnF mk f0 M (w1 ++ x :: w2)).1 = [] → (∀ b ∈ w1, cm mk b.1 x.1) → M.testBit x.1 = false → M = 0 ∧ x.1 = f0
  | [], M, x, w2, h, _, hM => by
    by_cases hb : M.testBit x.1 = true ∨ (M = 0 ∧ x.1 = f0)
    · rcases hb with hb | hb
      · rw [hM] at hb; cases hb
      · exact hb
    · rw [List.nil_append, bn_f hb] at h
      cases h
  | y :: w1, M, x, w2, h, hc, hM => by
    by_cases hb : M.testBit y.1 = true ∨ (M = 0 ∧ y.1 = f0)
    · rw [List.cons_append, bn_b hb] at h
      have h2 := bn_NM (w1 := w1) h (fun b hb => hc b (List.mem_cons_of_mem _ hb)) (by
        rw [Nat.testBit_or, hM, Bool.false_or]
        cases hq : (stF mk y.1).testBit x.1
        · rfl
        · exact absurd ((stF_bit mk y.1 x.1).mp hq) (cm_dpp (hc y (List.mem_cons_self ..))))
      exact absurd h2.1 stF_0
    · rw [List.cons_append, bn_f hb] at h
      cases h
theorem open_NM {mk : Nat → Nat} (hs : symK mk) {f0 : Nat} {w : List (Nat × Int)} (h : (bnF mk f0 0 w).1 = []) : NM mk f0 w.reverse := by
  intro f k Y e
  obtain ⟨B1, B2, e1, e2, _⟩ := EQ_bot hs e.symm9
  have e3 : w = B2.reverse ++ (f, k) :: B1.reverse := by
    have := congrArg List.reverse e1
    rw [List.reverse_reverse, List.reverse_append, List.reverse_cons, List.append_assoc] at this
    exact this
  rw [e3] at h
  exact (bn_NM h (fun b hb => cm_sym hs (e2 b (List.mem_reverse.mp hb))) (Nat.zero_testBit _)).2
/-- all masks of a row together -/
def mBo (mk : Nat → Nat) : Nat → List (Nat × Int) → Nat
  | M, [] => M
  | M, x :: B => mBo mk (M ||| stF mk x.1) B
theorem mBo_bit {mk : Nat → Nat} : ∀ {B : List (Nat × Int)} {M : Nat} {a : Nat}, (mBo mk M B).testBit a = true ↔ M.testBit a = true ∨ ∃ b ∈ B, dpp mk b.1 a
  | [], M, a => by simp [mBo]
  | x :: B, M, a => by
    show (mBo mk (M ||| stF mk x.1) B).testBit a = true ↔ _
    rw [mBo_bit (B := B), Nat.testBit_or, Bool.or_eq_true, stF_bit]
    simp [or_assoc]
theorem bn_two {mk : Nat → Nat} {f0 : Nat} : ∀ {w : List (Nat × Int)} {M : Nat} {Z : List (Nat × Int)}, bnF mk f0 M ((bnF mk f0 M w).2 ++ Z) = ((bnF mk f0 (mBo mk M (bnF mk f0 M w).2) Z).1, (bnF mk f0 M w).2 ++ (bnF mk f0 (mBo mk M (bnF mk f0 M w).2) Z).2)
  | [], M, Z => rfl
  | x :: w, M, Z => by
    by_cases h : M.testBit x.1 = true ∨ (M = 0 ∧ x.1 = f0)
    · rw [bn_b h]
      show bnF mk f0 M (x :: ((bnF mk f0 (M ||| stF mk x.1) w).2 ++ Z)) = _
      rw [bn_b h, bn_two (w := w) (M := M ||| stF mk x.1)]
      rfl
    · rw [bn_f h]
      exact bn_two (w := w)
/-- kin bind them together, beginning with f0 -/
def CN (mk : Nat → Nat) (f0 : Nat) (w : List (Nat × Int)) : Prop := (∃ x ∈ w, x.1 = f0) ∧ ∀ S : Nat → Prop, S f0 → (∀ x ∈ w, ∀ y ∈ w, S x.1 → dpp mk x.1 y.1 → S y.1) → ∀ x ∈ w, S x.1
theorem CN_mem {mk : Nat → Nat} {f0 : Nat} {w v : List (Nat × Int)} (h : ∀ a, a ∈ w ↔ a ∈ v) (hw : CN mk f0 w) : CN mk f0 v := by
  refine ⟨?_, fun S h0 hc x hx => hw.2 S h0 (fun a ha b hb => hc a ((h a).mp ha) b ((h b).mp hb)) x ((h x).mpr hx)⟩
  obtain ⟨x, hx, e⟩ := hw.1
  exact ⟨x, (h x).mp hx, e⟩
theorem bn_len {mk : Nat → Nat} {f0 : Nat} : ∀ {w : List (Nat × Int)} {M : Nat}, (bnF mk f0 M w).1.length + (bnF mk f0 M w).2.length = w.length
  | [], _ => rfl
  | x :: w, M => by
    by_cases h : M.testBit x.1 = true ∨ (M = 0 ∧ x.1 = f0)
    · have := bn_len (mk := mk) (f0 := f0) (w := w) (M := M ||| stF mk x.1)
      rw [bn_b h]
      show (bnF mk f0 (M ||| stF mk x.1) w).1.length + ((bnF mk f0 (M ||| stF mk x.1) w).2.length + 1) = w.length + 1
      omega
    · have := bn_len (mk := mk) (f0 := f0) (w := w) (M := M)
      rw [bn_f h]
      show ((bnF mk f0 M w).1.length + 1) + (bnF mk f0 M w).2.length = w.length + 1
      omega
/-- fewer are free after a turn -/
theorem bn_less {mk : Nat → Nat} {f0 : Nat} {w : List (Nat × Int)} (hw : CN mk f0 w) (h0 : (bnF mk f0 0 w).1 ≠ []) : (bnF mk f0 0 ((bnF mk f0 0 w).2 ++ (bnF mk f0 0 w).1)).1.length < (bnF mk f0 0 w).1.length := by
  rw [bn_two]
  show (bnF mk f0 (mBo mk 0 (bnF mk f0 0 w).2) (bnF mk f0 0 w).1).1.length < _
  have hl := bn_len (mk := mk) (f0 := f0) (w := (bnF mk f0 0 w).1) (M := mBo mk 0 (bnF mk f0 0 w).2)
  refine Classical.byContradiction (fun h9 => ?_)
  have hB : (bnF mk f0 (mBo mk 0 (bnF mk f0 0 w).2) (bnF mk f0 0 w).1).2 = [] := by
    apply List.eq_nil_of_length_eq_zero
    omega
  have hall : ∀ y ∈ (bnF mk f0 0 w).1, (mBo mk 0 (bnF mk f0 0 w).2).testBit y.1 = false := by
    intro y hy
    rcases (bn_mem (mk := mk) (f0 := f0) (M := mBo mk 0 (bnF mk f0 0 w).2)).mp hy with h | h
    · exact bn_free y h
    · rw [hB] at h; cases h
  have hcm : ∀ y ∈ (bnF mk f0 0 w).1, ∀ b ∈ (bnF mk f0 0 w).2, ¬ dpp mk b.1 y.1 := by
    intro y hy b hb hd
    have h1 := hall y hy
    rw [mBo_bit.mpr (Or.inr ⟨b, hb, hd⟩)] at h1
    cases h1
  obtain ⟨x0, hx0, e0⟩ := hw.1
  have hx0B : x0 ∈ (bnF mk f0 0 w).2 := by
    rcases bn_mem.mp hx0 with h | h
    · exact absurd e0 (bn_no (Or.inl rfl) x0 h)
    · exact h
  have hS := hw.2 (fun a => ∃ b ∈ (bnF mk f0 0 w).2, b.1 = a) ⟨x0, hx0B, e0⟩ (by
    intro x _ y hy hx hd
    obtain ⟨b, hb, e⟩ := hx
    rcases bn_mem.mp hy with h | h
    · exact absurd (by rw [e]; exact hd) (hcm y h b hb)
    · exact ⟨y, h, rfl⟩)
  obtain ⟨y, hy⟩ : ∃ y, y ∈ (bnF mk f0 0 w).1 := by
    cases hF : (bnF mk f0 0 w).1 with
    | nil => exact absurd hF h0
    | cons y l => exact ⟨y, List.mem_cons_self ..⟩
  obtain ⟨b, hb, e⟩ := hS y (bn_mem.mpr (Or.inl hy))
  exact hcm y hy b hb (Or.inl e)
/-- opened, n turns at most -/
def opn (mk : Nat → Nat) (f0 : Nat) : Nat → List (Nat × Int) → List (Nat × Int)
  | 0, w => w
  | n + 1, w => if (bnF mk f0 0 w).1 = [] then w else opn mk f0 n ((bnF mk f0 0 w).2 ++ (bnF mk f0 0 w).1)
theorem cnt_no {f0 : Nat} {w : List (Nat × Int)} (h : ∀ y ∈ w, y.1 ≠ f0) : cnt0 f0 w = 0 := by
  unfold cnt0
  rw [List.length_eq_zero_iff, List.filter_eq_nil_iff]
  intro y hy
  simpa using h y hy
theorem open_1 {mk : Nat → Nat} (hs : symK mk) {f0 : Nat} (w : List (Nat × Int)) : RC mk f0 (bnF mk f0 0 w).1.length 0 w.reverse ((bnF mk f0 0 w).2 ++ (bnF mk f0 0 w).1).reverse := by
  have h := RC_all (mk := mk) (f0 := f0) (bnF mk f0 0 w).1.length (bnF mk f0 0 w).2.reverse (bnF mk f0 0 w).1.reverse (List.length_reverse ..)
  rw [cnt_no (fun y hy => bn_no (Or.inl rfl) y (List.mem_reverse.mp hy)), ← List.reverse_append, ← List.reverse_append] at h
  exact RC_l (EQ_rev (bn_EQ hs)).symm9 h
theorem opn_ok {mk : Nat → Nat} (hs : symK mk) {f0 : Nat} : ∀ (n : Nat) {w : List (Nat × Int)}, CN mk f0 w → (bnF mk f0 0 w).1.length ≤ n → (bnF mk f0 0 (opn mk f0 n w)).1 = [] ∧ ∃ k, RC mk f0 k 0 w.reverse (opn mk f0 n w).reverse
  | 0, w, _, h => ⟨List.eq_nil_of_length_eq_zero (Nat.le_zero.mp h), 0, rfl, EQ.rfl9⟩
  | n + 1, w, hw, h => by
    unfold opn
    by_cases h0 : (bnF mk f0 0 w).1 = []
    · rw [if_pos h0]
      exact ⟨h0, 0, rfl, EQ.rfl9⟩
    · rw [if_neg h0]
      have hm : ∀ a, a ∈ w ↔ a ∈ (bnF mk f0 0 w).2 ++ (bnF mk f0 0 w).1 := by
        intro a
        rw [List.mem_append, or_comm]
        exact bn_mem
      have hl := bn_less hw h0
      obtain ⟨h1, k, h2⟩ := opn_ok hs n (CN_mem hm hw) (by omega)
      refine ⟨h1, (bnF mk f0 0 w).1.length + k, ?_⟩
      have := RC_tr (open_1 hs w) h2
      exact this
theorem opn_Op {mk : Nat → Nat} (hs : symK mk) {f0 n : Nat} {w : List (Nat × Int)} (hw : CN mk f0 w) (hn : w.length ≤ n) : Op mk f0 w.reverse (opn mk f0 n w).reverse := by
  have hl := bn_len (mk := mk) (f0 := f0) (w := w) (M := 0)
  obtain ⟨h1, h2⟩ := opn_ok hs n hw (by omega)
  exact ⟨h2, open_NM hs h1⟩
/-- opened: f0 stands at the bottom -/
theorem opn_head {mk : Nat → Nat} {f0 : Nat} {w : List (Nat × Int)} (h : (bnF mk f0 0 w).1 = []) : w = [] ∨ ∃ c w', w = (f0, c) :: w' := by
  cases w with
  | nil => exact Or.inl rfl
  | cons x w =>
    right
    by_cases hb : (0 : Nat).testBit x.1 = true ∨ ((0 : Nat) = 0 ∧ x.1 = f0)
    · rcases hb with hb | ⟨_, hb⟩
      · rw [Nat.zero_testBit] at hb; cases hb
      · exact ⟨x.2, w, by rw [← hb]⟩
    · rw [bn_f hb] at h
      cases h
