/-! PURE: feed of the reference -/
theorem by9_M2 (x : Int64) : ∀ k, k < 24 → ((x.toUInt64 >>> (((56 : Int32) - ((8 : Int32) * (ii k &&& (7 : Int32)))).toInt64.toUInt64 &&& Int64.toUInt64 63)).toInt64 &&& (255 : Int64)).toInt32 = by9 x (56 - 8 * (k % 8)) := by
  intro k hk
  have e : ∀ k, k < 24 → (((56 : Int32) - ((8 : Int32) * (ii k &&& (7 : Int32)))).toInt64.toUInt64 &&& Int64.toUInt64 63) = UInt64.ofNat (56 - 8 * (k % 8)) := by decide +kernel
  rw [e k hk]
  rfl
def wd (x y z : Int64) (i : Nat) : Int64 := if i < 8 then x else if i < 16 then y else z
def fdM (x y z : Int64) : Nat → Nat → List Nat → List Nat
  | 0, _, T => T
  | r + 1, i, T => fdM x y z r (i + 1) (fd T (byN (wd x y z i) (56 - 8 * (i % 8))))
theorem fdM_eq (x y z : Int64) (T : List Nat) : fdM x y z 24 0 T = fdX z 8 0 (fdX y 8 0 (fdX x 8 0 T)) := rfl
theorem feed_M_L {F : Nat} {x y z th : Int64} {tn9 : Int32} : ∀ (t i : Nat) (T : List Nat) (a : Nat → Int32), i ≤ 24 → 24 < i + t → T.length ≤ 1000 → rL a T → ∃ a', fX12_feed_L8 F 1000 t x y z (ii i) tn9 (ii T.length) a = some (ii (fdM x y z (24 - i) i T).length, tn9, ii (fdM x y z (24 - i) i T).length, a') ∧ rL a' (fdM x y z (24 - i) i T) := by
  intro t
  induction t with
  | zero => intro k T a h1 h2; omega
  | succ t ih =>
    intro i T a h1 h2 h3 h4
    rw [sX12_feed_L8]
    unfold bX12_feed_L8
    have e24 : ((24 : Int32) ≤ ii i) = (24 ≤ i) := ii_le (a := 24) (by omega) (by omega)
    have e8 : ((8 : Int32) ≤ ii i) = (8 ≤ i) := ii_le (a := 8) (by omega) (by omega)
    have e16 : ((16 : Int32) ≤ ii i) = (16 ≤ i) := ii_le (a := 16) (by omega) (by omega)
    by_cases hk : 24 ≤ i
    · rw [if_pos (by rw [e24]; exact hk), show 24 - i = 0 by omega]
      exact ⟨a, rfl, h4⟩
    · rw [if_neg (by rw [e24]; exact hk), show 24 - i = (24 - (i + 1)) + 1 by omega]
      have eS : fdM x y z (24 - (i + 1) + 1) i T = fdM x y z (24 - (i + 1)) (i + 1) (fd T (byN (wd x y z i) (56 - 8 * (i % 8)))) := rfl
      rw [eS]
      have main : ∃ a', bX12_feed_L39 F 1000 (fX12_feed_L8 F 1000 t) x y z (ii i) (wd x y z i) tn9 (ii T.length) a = some (ii (fdM x y z (24 - (i + 1)) (i + 1) (fd T (byN (wd x y z i) (56 - 8 * (i % 8))))).length, tn9, ii (fdM x y z (24 - (i + 1)) (i + 1) (fd T (byN (wd x y z i) (56 - 8 * (i % 8))))).length, a') ∧ rL a' (fdM x y z (24 - (i + 1)) (i + 1) (fd T (byN (wd x y z i) (56 - 8 * (i % 8))))) := by
        unfold bX12_feed_L39 bX12_feed_L93 bX12_feed_L114
        rw [by9_M2 _ i (by omega), by9_ii]
        have hc := byN_lt (wd x y z i) (56 - 8 * (i % 8))
        generalize byN (wd x y z i) (56 - 8 * (i % 8)) = c at hc ⊢
        have c10 : (ii c = (10 : Int32)) = (c = 10) := ii_inj (b := 10) (by omega) (by omega)
        have c32 : (ii c < (32 : Int32)) = (c < 32) := ii_lt (b := 32) (by omega) (by omega)
        have c126 : ((126 : Int32) < ii c) = (126 < c) := ii_lt (a := 126) (by omega) (by omega)
        have c1000 : ((1000 : Int32) ≤ ii T.length) = (1000 ≤ T.length) := ii_le (a := 1000) (by omega) (by omega)
        have ei : ii i + (1 : Int32) = ii (i + 1) := by rw [k_1, ii_add]
        rw [ei]
        by_cases hl : 1000 ≤ T.length
        · rw [if_pos (by rw [c1000]; exact hl), fd_f (Or.inr hl)]
          exact ih (i + 1) T a (by omega) (by omega) h3 h4
        · rw [if_neg (by rw [c1000]; exact hl)]
          have yes : (c = 10 ∨ (32 ≤ c ∧ c ≤ 126)) → ∃ a', (if ii T.length < 0 ∨ 1000 ≤ (ii T.length).toNatClampNeg then none else fX12_feed_L8 F 1000 t x y z (ii (i + 1)) tn9 (ii T.length + (1 : Int32)) (upd a (ii T.length).toNatClampNeg (ii c))) = some (ii (fdM x y z (24 - (i + 1)) (i + 1) (fd T c)).length, tn9, ii (fdM x y z (24 - (i + 1)) (i + 1) (fd T c)).length, a') ∧ rL a' (fdM x y z (24 - (i + 1)) (i + 1) (fd T c)) := by
            intro hy
            simp (disch := omega) only [ii_nneg, ii_nat, false_or, k_1, ii_add]
            rw [if_neg (by omega), fd_t hy (by omega)]
            have h5 := ih (i + 1) (T ++ [c]) _ (by omega) (by omega) (by simp; omega) (rL_snoc (t := c) h4)
            rw [List.length_append] at h5
            exact h5
          by_cases h10 : c = 10
          · rw [if_pos (by rw [c10]; exact h10)]
            exact yes (Or.inl h10)
          · rw [if_neg (by rw [c10]; exact h10)]
            by_cases h32 : c < 32
            · rw [if_pos (by rw [c32]; exact h32), fd_f (Or.inl (by omega))]
              exact ih (i + 1) T a (by omega) (by omega) h3 h4
            · rw [if_neg (by rw [c32]; exact h32)]
              by_cases h126 : 126 < c
              · rw [if_pos (by rw [c126]; exact h126), fd_f (Or.inl (by omega))]
                exact ih (i + 1) T a (by omega) (by omega) h3 h4
              · rw [if_neg (by rw [c126]; exact h126)]
                exact yes (Or.inr (by omega))
      by_cases h8 : 8 ≤ i
      · rw [if_pos (by rw [e8]; exact h8)]
        by_cases h16 : 16 ≤ i
        · rw [if_pos (by rw [e16]; exact h16)]
          have ew : wd x y z i = z := by unfold wd; rw [if_neg (by omega), if_neg (by omega)]
          rw [ew] at main ⊢
          exact main
        · rw [if_neg (by rw [e16]; exact h16)]
          have ew : wd x y z i = y := by unfold wd; rw [if_neg (by omega), if_pos (by omega)]
          rw [ew] at main ⊢
          exact main
      · rw [if_neg (by rw [e8]; exact h8)]
        have ew : wd x y z i = x := by unfold wd; rw [if_pos (by omega)]
        rw [ew] at main ⊢
        exact main
theorem feed_M {F : Nat} (hF : 1000 ≤ F) {x y z : Int64} {th : Int32} {T : List Nat} {a : Nat → Int32} (h3 : T.length ≤ 1000) (h4 : rL a T) : ∃ a', fX12_feed F 1000 x y z th (ii T.length) a = some (ii (fdX z 8 0 (fdX y 8 0 (fdX x 8 0 T))).length, 0, ii (fdX z 8 0 (fdX y 8 0 (fdX x 8 0 T))).length, a') ∧ rL a' (fdX z 8 0 (fdX y 8 0 (fdX x 8 0 T))) := by
  rw [← fdM_eq]
  unfold fX12_feed
  exact feed_M_L (th := x) F 0 T a (by omega) (by omega) h3 h4
