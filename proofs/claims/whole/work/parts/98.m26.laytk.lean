/-! PURE: the class lays what each tie takes -/
theorem pc_X {F : Nat} : ∀ m, m < 64 → fJ6_bitCount_0f7a4 F (ii m) = some (ii (pcN m)) := by
  intro m hm
  have h : ∀ m, m < 64 → fJ6_bitCount_0f7a4 0 (ii m) = some (ii (pcN m)) := by
    unfold fJ6_bitCount_0f7a4
    decide +kernel
  have := h m hm
  unfold fJ6_bitCount_0f7a4 at this ⊢
  exact this
theorem and1_ii : ∀ t, t < 12 → ii t &&& (1 : Int32) = ii (t % 2) := by decide +kernel
theorem layTaken_1 {F : Nat} (hF : 2000 ≤ F) {n ln p : Nat} (hn : n ≤ 6) (hp : p < 24) {C : List Nat} {kd mk : Nat → Nat} {kx kn lc : Nat → Int32} {lz : Int32} (hkx : ∀ f, f < n → kx f = ii (kd f) ∧ kn f = ii (mk f) ∧ kd f < 4 ∧ mk f < 64) (hC0 : C = [] → lz = 0) (hC1 : C ≠ [] → lawX C lz lc) (k2 : Int32 → (Nat → Int32) → (Nat → Int32) → Option ((Nat → Int32) × (Nat → Int32))) :
    ∀ (d t x2 : Nat) (sk tkn : Nat → Int32), x2 + d = 2 * n → d < t → ∃ sk' tkn', fX2_layTaken_L12 F (ii n) (ii ln) 6 kx 6 kn lz 1000 lc 64 288 k2 t (ii p) (ii x2) sk tkn = k2 (ii (p + 1)) sk' tkn' ∧ (∀ u, u < 2 * n → x2 ≤ u → tkn' (p * 12 + u) = ii (tau C kd mk p u)) ∧ ∀ j, j < p * 12 + x2 → tkn' j = tkn j := by
  have e1k : ∀ a : Nat, ii a + (1 : Int32) = ii (a + 1) := fun a => (ii_add a 1)
  have e2n : (2 : Int32) * ii n = ii (2 * n) := by
    have : ∀ n, n ≤ 6 → (2 : Int32) * ii n = ii (2 * n) := by decide +kernel
    exact this n hn
  intro d
  induction d with
  | zero =>
    intro t x2 sk tkn hx ht
    obtain ⟨t, rfl⟩ : ∃ t', t = t' + 1 := ⟨t - 1, by omega⟩
    rw [sX2_layTaken_L12]
    unfold bX2_layTaken_L12
    rw [e2n, if_pos (show ii (2 * n) ≤ ii x2 by rw [ii_le (by omega) (by omega)]; omega), e1k]
    exact ⟨_, _, rfl, fun u hu1 hu2 => absurd hu2 (by omega), fun j _ => rfl⟩
  | succ d ih =>
    intro t x2 sk tkn hx ht
    obtain ⟨t, rfl⟩ : ∃ t', t = t' + 1 := ⟨t - 1, by omega⟩
    have hx12 : x2 < 12 := by omega
    have hf : x2 / 2 < n := by omega
    obtain ⟨y1, y2, y3, y4⟩ := hkx _ hf
    have hix : ii p * (12 : Int32) + ii x2 = ii (p * 12 + x2) := by
      have : ∀ p, p < 24 → ∀ x, x < 12 → ii p * (12 : Int32) + ii x = ii (p * 12 + x) := by decide +kernel
      exact this p hp x2 hx12
    have hix2 : ¬ (ii (p * 12 + x2) < 0 ∨ 288 ≤ (ii (p * 12 + x2)).toNatClampNeg) := by
      rw [ii_nat (by omega)]
      intro h
      rcases h with h | h
      · rw [ii_nneg (by omega)] at h
        exact h
      · omega
    have hif : ¬ (ii (x2 / 2) < 0 ∨ 6 ≤ (ii (x2 / 2)).toNatClampNeg) := by
      rw [ii_nat (by omega)]
      intro h
      rcases h with h | h
      · rw [ii_nneg (by omega)] at h
        exact h
      · omega
    have L75 : ∀ (z : Int32) (sk9 : Nat → Int32), cl9 z = tau C kd mk p x2 → ∃ sk' tkn', bX2_layTaken_L75 F (ii n) (ii ln) 6 kx 6 kn lz 1000 lc 64 288 (fX2_layTaken_L12 F (ii n) (ii ln) 6 kx 6 kn lz 1000 lc 64 288 k2 t) (ii p) (ii x2) z sk9 tkn = k2 (ii (p + 1)) sk' tkn' ∧ (∀ u, u < 2 * n → x2 ≤ u → tkn' (p * 12 + u) = ii (tau C kd mk p u)) ∧ ∀ j, j < p * 12 + x2 → tkn' j = tkn j := by
      intro z sk9 hz
      unfold bX2_layTaken_L75
      rw [hix, if_neg hix2, clamp_X, hz, ii_nat (by omega), e1k]
      obtain ⟨sk', tkn', e, g1, g2⟩ := ih t (x2 + 1) sk9 (upd tkn (p * 12 + x2) (ii (tau C kd mk p x2))) (by omega) (by omega)
      refine ⟨sk', tkn', e, fun u hu1 hu2 => ?_, fun j hj => ?_⟩
      · by_cases hu3 : u = x2
        · subst hu3
          rw [g2 _ (by omega), upd_same]
        · exact g1 u hu1 (by omega)
      · rw [g2 j (by omega), upd_ne _ _ (by omega)]
    rw [sX2_layTaken_L12]
    unfold bX2_layTaken_L12
    rw [e2n, if_neg (show ¬ ii (2 * n) ≤ ii x2 by rw [ii_le (by omega) (by omega)]; omega), folkOf_eq hx12, Option.bind_some, if_neg hif]
    unfold fX1_isTold bX1_isTold_L12
    by_cases hC : C = []
    · rw [hC0 hC, if_pos (show (0 : Int32) ≤ 0 by decide), if_pos (Or.inl rfl), Option.bind_some, if_pos rfl, ii_nat (by omega), y1]
      rw [hC0 hC] at L75
      refine L75 _ _ ?_
      unfold tau
      rw [if_pos hC]
      congr 1
      exact (ii_add 1 (kd (x2 / 2)))
    · obtain ⟨P, rfl, p2, p3, p4, p5, p6⟩ := hC1 hC
      rw [if_neg (show ¬ ii P.length ≤ (0 : Int32) by
        show ¬ ii P.length ≤ ii 0
        rw [ii_le (by omega) (by omega)]
        omega), if_pos (Or.inr rfl), Option.bind_some, if_neg (show ¬ (1 : Int32) = 0 by decide), if_neg hif, ii_nat (by omega), y1, y2, pc_X _ y4, Option.bind_some, and1_ii _ hx12]
      obtain ⟨sk9, e9⟩ := worth_eq (F := F) (sk := sk) (a := ii p) (b := ii (kd (x2 / 2))) (c := ii (pcN (mk (x2 / 2)))) (d := ii (x2 % 2)) hF p3 p4 (p6 _) (p5 _)
      rw [e9, Option.bind_some]
      refine L75 _ _ ?_
      unfold tau
      rw [if_neg hC]
theorem layTaken_L {F : Nat} (hF : 2000 ≤ F) {n ln : Nat} (hn : n ≤ 6) (hl : ln ≤ 24) {C : List Nat} {kd mk : Nat → Nat} {kx kn lc : Nat → Int32} {lz : Int32} (hkx : ∀ f, f < n → kx f = ii (kd f) ∧ kn f = ii (mk f) ∧ kd f < 4 ∧ mk f < 64) (hC0 : C = [] → lz = 0) (hC1 : C ≠ [] → lawX C lz lc) :
    ∀ (d t p : Nat) (sk tkn : Nat → Int32), p + d = ln → d < t → (∀ q, q < p → ∀ u, u < 2 * n → tkn (q * 12 + u) = ii (tau C kd mk q u)) → ∃ sk' tkn', fX2_layTaken_L2 F (ii n) (ii ln) 6 kx 6 kn lz 1000 lc 64 288 t (ii p) sk tkn = some (sk', tkn') ∧ tkX n ln (tau C kd mk) tkn' := by
  intro d
  induction d with
  | zero =>
    intro t p sk tkn hx ht hq
    obtain ⟨t, rfl⟩ : ∃ t', t = t' + 1 := ⟨t - 1, by omega⟩
    rw [sX2_layTaken_L2]
    unfold bX2_layTaken_L2
    rw [if_pos (show ii ln ≤ ii p by rw [ii_le (by omega) (by omega)]; omega)]
    exact ⟨_, _, rfl, fun q hq9 u hu => hq q (by omega) u hu⟩
  | succ d ih =>
    intro t p sk tkn hx ht hq
    obtain ⟨t, rfl⟩ : ∃ t', t = t' + 1 := ⟨t - 1, by omega⟩
    rw [sX2_layTaken_L2]
    unfold bX2_layTaken_L2
    rw [if_neg (show ¬ ii ln ≤ ii p by rw [ii_le (by omega) (by omega)]; omega)]
    obtain ⟨sk', tkn', e, g1, g2⟩ := layTaken_1 (F := F) (p := p) (ln := ln) hF hn (by omega) hkx hC0 hC1 (fX2_layTaken_L2 F (ii n) (ii ln) 6 kx 6 kn lz 1000 lc 64 288 t) (2 * n) F 0 sk tkn (by omega) (by omega)
    rw [show fX2_layTaken_L12 F (ii n) (ii ln) 6 kx 6 kn lz 1000 lc 64 288 (fX2_layTaken_L2 F (ii n) (ii ln) 6 kx 6 kn lz 1000 lc 64 288 t) F (ii p) (0 : Int32) sk tkn = _ from e]
    refine ih t (p + 1) sk' tkn' (by omega) (by omega) ?_
    intro q hq9 u hu
    by_cases hqp : q = p
    · subst hqp
      exact g1 u hu (Nat.zero_le _)
    · rw [g2 _ (by omega)]
      exact hq q (by omega) u hu
theorem layTaken_X {F : Nat} (hF : 2000 ≤ F) {n ln : Nat} (hn : n ≤ 6) (hl : ln ≤ 24) {C : List Nat} {kd mk : Nat → Nat} {kx kn lc : Nat → Int32} {lz : Int32} (hkx : ∀ f, f < n → kx f = ii (kd f) ∧ kn f = ii (mk f) ∧ kd f < 4 ∧ mk f < 64) (hC0 : C = [] → lz = 0) (hC1 : C ≠ [] → lawX C lz lc) (sk tkn : Nat → Int32) :
    ∃ sk' tkn', fX2_layTaken F (ii n) (ii ln) 6 kx 6 kn lz 1000 lc 64 288 sk tkn = some (sk', tkn') ∧ tkX n ln (tau C kd mk) tkn' :=
  layTaken_L hF hn hl hkx hC0 hC1 ln F 0 sk tkn (by omega) (by omega) (fun q hq => absurd hq (by omega))
