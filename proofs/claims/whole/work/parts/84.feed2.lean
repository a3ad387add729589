/-! PURE: feed of both sides -/
def fd (T : List Nat) (c : Nat) : List Nat := if (c = 10 ∨ (32 ≤ c ∧ c ≤ 126)) ∧ T.length < 1000 then T ++ [c] else T
theorem fd_t {T : List Nat} {c : Nat} (h : c = 10 ∨ (32 ≤ c ∧ c ≤ 126)) (hl : T.length < 1000) : fd T c = T ++ [c] := if_pos ⟨h, hl⟩
theorem fd_f {T : List Nat} {c : Nat} (h : ¬ (c = 10 ∨ (32 ≤ c ∧ c ≤ 126)) ∨ 1000 ≤ T.length) : fd T c = T := if_neg (by
  rintro ⟨h1, h2⟩
  rcases h with h | h
  · exact h h1
  · omega)
theorem fd_len {T : List Nat} {c : Nat} (h : T.length ≤ 1000) : (fd T c).length ≤ 1000 := by
  unfold fd
  split
  · simp
    omega
  · exact h
theorem nar_b : ∀ c, c < 128 → vp_nar .byte (ii c).toInt8.toInt32 = ii c := by decide +kernel
def fdX (x : Int64) : Nat → Nat → List Nat → List Nat
  | 0, _, T => T
  | r + 1, k, T => fdX x r (k + 1) (fd T (byN x (56 - 8 * k)))
theorem feed_X_L {F : Nat} {x : Int64} : ∀ (t k : Nat) (T : List Nat) (a : Nat → Int32), k ≤ 8 → 8 < k + t → T.length ≤ 1000 → rL a T → ∃ a', fX9_addBytes_L3 F 1000 t x (iz (56 - 8 * (k : Int))) (ii T.length) a = some (ii (fdX x (8 - k) k T).length, a') ∧ rL a' (fdX x (8 - k) k T) := by
  intro t
  induction t with
  | zero => intro k T a h1 h2; omega
  | succ t ih =>
    intro k T a h1 h2 h3 h4
    rw [sX9_addBytes_L3]
    unfold bX9_addBytes_L3 bX9_addBytes_L38 bX9_addBytes_L42 bX9_addBytes_L43 bX9_addBytes_L82
    have e1 : (iz (56 - 8 * (k : Int)) < 0) = ((56 - 8 * (k : Int)) < 0) := iz_lt (b := 0) (by omega) (by omega) (by omega) (by omega)
    by_cases hk : 8 ≤ k
    · rw [if_pos (by rw [e1]; omega), show 8 - k = 0 by omega]
      exact ⟨a, rfl, h4⟩
    · rw [if_neg (by rw [e1]; omega), show 8 - k = (8 - (k + 1)) + 1 by omega]
      have e2 : iz (56 - 8 * (k : Int)) = ii (56 - 8 * k) := by
        rw [ii_iz]
        congr 1
        omega
      have e3 : iz (56 - 8 * (k : Int)) + (-8 : Int32) = iz (56 - 8 * ((k + 1 : Nat) : Int)) := by
        rw [show (-8 : Int32) = iz (-8) from rfl, iz_add]
        congr 1
        omega
      rw [e3, e2, by9_X x k (by omega), by9_ii]
      have hc := byN_lt x (56 - 8 * k)
      generalize hcd : byN x (56 - 8 * k) = c at hc ⊢
      have eS : fdX x (8 - (k + 1) + 1) k T = fdX x (8 - (k + 1)) (k + 1) (fd T c) := by
        rw [← hcd]
        rfl
      rw [eS]
      have c10 : (ii c = (10 : Int32)) = (c = 10) := ii_inj (b := 10) (by omega) (by omega)
      have c32 : (ii c < (32 : Int32)) = (c < 32) := ii_lt (b := 32) (by omega) (by omega)
      have c126 : ((126 : Int32) < ii c) = (126 < c) := ii_lt (a := 126) (by omega) (by omega)
      have c1000 : ((1000 : Int32) ≤ ii T.length) = (1000 ≤ T.length) := ii_le (a := 1000) (by omega) (by omega)
      have yes : (c = 10 ∨ (32 ≤ c ∧ c ≤ 126)) → ∃ a', (if (1000 : Int32) ≤ ii T.length then fX9_addBytes_L3 F 1000 t x (iz (56 - 8 * ((k + 1 : Nat) : Int))) (ii T.length) a else if ii T.length < 0 ∨ 1000 ≤ (ii T.length).toNatClampNeg then none else fX9_addBytes_L3 F 1000 t x (iz (56 - 8 * ((k + 1 : Nat) : Int))) (ii T.length + (1 : Int32)) (upd a (ii T.length).toNatClampNeg (vp_nar .byte (ii c).toInt8.toInt32))) = some (ii (fdX x (8 - (k + 1)) (k + 1) (fd T c)).length, a') ∧ rL a' (fdX x (8 - (k + 1)) (k + 1) (fd T c)) := by
        intro hy
        by_cases hl : 1000 ≤ T.length
        · rw [if_pos (by rw [c1000]; exact hl), fd_f (Or.inr hl)]
          exact ih (k + 1) T a (by omega) (by omega) h3 h4
        · rw [if_neg (by rw [c1000]; exact hl), nar_b c (by omega)]
          simp (disch := omega) only [ii_nneg, ii_nat, false_or, k_1, ii_add]
          rw [if_neg (by omega), fd_t hy (by omega)]
          have h5 := ih (k + 1) (T ++ [c]) _ (by omega) (by omega) (by simp; omega) (rL_snoc (t := c) h4)
          rw [List.length_append] at h5
          exact h5
      by_cases h10 : c = 10
      · rw [if_pos (by rw [c10]; exact h10), if_neg (by decide)]
        exact yes (Or.inl h10)
      · rw [if_neg (by rw [c10]; exact h10)]
        by_cases h32 : c < 32
        · rw [if_pos (by rw [c32]; exact h32), if_pos rfl, fd_f (Or.inl (by omega))]
          exact ih (k + 1) T a (by omega) (by omega) h3 h4
        · rw [if_neg (by rw [c32]; exact h32)]
          by_cases h126 : 126 < c
          · rw [if_pos (by rw [c126]; exact h126), if_pos rfl, fd_f (Or.inl (by omega))]
            exact ih (k + 1) T a (by omega) (by omega) h3 h4
          · rw [if_neg (by rw [c126]; exact h126), if_neg (by decide)]
            exact yes (Or.inr (by omega))
theorem feed_X1 {F : Nat} (hF : 1000 ≤ F) {x : Int64} {T : List Nat} {a : Nat → Int32} (h3 : T.length ≤ 1000) (h4 : rL a T) : ∃ a', fX9_addBytes F 1000 x (ii T.length) a = some (ii (fdX x 8 0 T).length, a') ∧ rL a' (fdX x 8 0 T) := by
  unfold fX9_addBytes
  exact feed_X_L F 0 T a (by omega) (by omega) h3 h4
theorem fdX_len {x : Int64} : ∀ {r k : Nat} {T : List Nat}, T.length ≤ 1000 → (fdX x r k T).length ≤ 1000
  | 0, _, _, h => h
  | r + 1, k, T, h => fdX_len (r := r) (k := k + 1) (fd_len h)
theorem feed_X {F : Nat} (hF : 1000 ≤ F) {x y z : Int64} {T : List Nat} {a : Nat → Int32} (h3 : T.length ≤ 1000) (h4 : rL a T) : ∃ a', fX11_feed F 1000 x y z (ii T.length) a = some (ii (fdX z 8 0 (fdX y 8 0 (fdX x 8 0 T))).length, ii (fdX z 8 0 (fdX y 8 0 (fdX x 8 0 T))).length, a') ∧ rL a' (fdX z 8 0 (fdX y 8 0 (fdX x 8 0 T))) := by
  obtain ⟨a1, e1, h5⟩ := feed_X1 hF (x := x) h3 h4
  obtain ⟨a2, e2, h6⟩ := feed_X1 hF (x := y) (fdX_len h3) h5
  obtain ⟨a3, e3, h7⟩ := feed_X1 hF (x := z) (fdX_len (fdX_len h3)) h6
  unfold fX11_feed
  rw [e1]
  simp only [Option.bind_some]
  rw [e2]
  simp only [Option.bind_some]
  rw [e3]
  exact ⟨a3, rfl, h7⟩
