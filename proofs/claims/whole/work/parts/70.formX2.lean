/-! PURE: the class's form, whole -/
theorem nar_1 : vp_nar .boolean (1 : Int32) = 1 := by decide
theorem nar_0 : vp_nar .boolean (0 : Int32) = 0 := by decide
theorem bt_half (rd : Nat → Nat) (x : Nat × Int) : bt rd x / 2 = x.1 := by
  unfold bt
  split <;> omega
theorem bu_split {rd : Nat → Nat} {Q : List (Nat × Int)} {P1 P2 : List (Nat × Nat)} {v : Nat × Nat} (h : bu rd Q = P1 ++ v :: P2) {fo co : Nat → Int32} (hr : rP fo co Q) : ∃ x, x ∈ Q ∧ v = (bt rd x, bn rd x) ∧ fo P1.length = ii x.1 ∧ co P1.length = iz x.2 := by
  unfold bu at h
  obtain ⟨R1, R2, e1, e2, e3⟩ := List.map_eq_append_iff.mp h
  obtain ⟨x, R3, e4, e5, e6⟩ := List.map_eq_cons_iff.mp e3
  have e7 : Q = R3.reverse ++ x :: R1.reverse := by
    have := congrArg List.reverse e1
    rw [List.reverse_reverse, e4] at this
    rw [this]
    simp
  rw [e7] at hr
  have h1 := rP_tail hr
  have hl : P1.length = R1.reverse.length := by
    rw [← e2]
    simp
  refine ⟨x, by rw [e7]; simp, e5.symm, ?_, ?_⟩
  · rw [hl]
    exact h1.1.1
  · rw [hl]
    exact h1.1.2
theorem bu_fo {rd : Nat → Nat} {Q : List (Nat × Int)} {fo co : Nat → Int32} (hr : rP fo co Q) {k : Nat} (hk : k < Q.length) : fo k = ii (fkV (bu rd Q) k) := by
  have hk2 : k < (bu rd Q).length := by rw [bu_len]; exact hk
  have ej : bu rd Q = (bu rd Q).take k ++ (bu rd Q)[k] :: (bu rd Q).drop (k + 1) := by
    rw [← List.drop_eq_getElem_cons hk2, List.take_append_drop]
  have hl : ((bu rd Q).take k).length = k := by rw [List.length_take]; omega
  obtain ⟨x, hx, e1, e2, e3⟩ := bu_split ej hr
  have e4 := fkV_at ej
  rw [hl] at e2 e4
  rw [e2, e4, e1]
  show ii x.1 = ii (bt rd x / 2)
  rw [bt_half]
theorem FM_len {mk : Nat → Nat} : ∀ {k : Nat} {V : List (Nat × Nat)} {O : List Nat}, FM mk k V O → O.length = (flat V).length
  | 0, V, O, ⟨h1, h2⟩ => by rw [h1, h2]; rfl
  | k + 1, V, O, ⟨A, t, m, B, O', h1, _, h2, h3⟩ => by
    have ih := FM_len h3
    rw [flat_app, List.length_append] at ih
    rw [h1, h2, flat_app, flat_cons]
    simp only [List.length_append, List.length_replicate]
    omega
theorem wform_L29 {F n N N2 W S R M : Nat} {mk rd : Nat → Nat} {st ro : Nat → Int32} (hn : okN n mk rd) (hx : netX n mk rd st ro) (hS : n ≤ S) (hR : n ≤ R) {Q : List (Nat × Int)} {fo co : Nat → Int32} (hP : okP n 100 Q) (hC : okC rd Q) (hr : rP fo co Q) (hN : Q.length ≤ N) (hN2 : Q.length ≤ N2) (hW : Q.length ≤ W) (hN3 : N < 1000000) (hNF : N < F) (hM : M < 1000000) (hMF : M < F) :
    ∀ (k : Nat) (U : List (Nat × Nat)) (O : List Nat), FM mk k U O → ∀ (g i : Nat) (w a : Nat → Int32) (D : List Nat), uu w 0 (bu rd Q) = U → i + k = Q.length → rL a D → (D ++ O).length ≤ M → k < g → ∃ w' a', fX5_writeForm_L29 F (ii Q.length) N fo N2 co W S st R ro M g (ii i) w (ii D.length) a = some (w', ii (D ++ O).length, a') ∧ rL a' (D ++ O) := by
  intro k
  induction k with
  | zero =>
    rintro U O ⟨h1, h2⟩ g i w a D hU hi ha hD hg
    obtain ⟨g, rfl⟩ : ∃ g', g = g' + 1 := ⟨g - 1, by omega⟩
    rw [sX5_writeForm_L29]
    unfold bX5_writeForm_L29
    rw [if_pos (by rw [ii_le (by omega) (by omega)]; omega), h2, List.append_nil]
    exact ⟨_, _, rfl, ha⟩
  | succ k ih =>
    rintro U O ⟨A, t, m, B, O', h1, hb, h2, h3⟩ g i w a D hU hi ha hD hg
    obtain ⟨g, rfl⟩ : ∃ g', g = g' + 1 := ⟨g - 1, by omega⟩
    have hV := bu_ok hn hP hC
    obtain ⟨P1, P2, e1, e2, e3, e4⟩ := find_X hn (fun x hx => (hV x hx).2) (hU.trans h1) hb
    obtain ⟨x, hx1, hx2, hx3, hx4⟩ := bu_split e1 hr
    have hp : P1.length < Q.length := by
      have := congrArg List.length e1
      rw [bu_len] at this
      simp at this
      omega
    obtain ⟨et, em⟩ := Prod.mk.inj hx2
    obtain ⟨hp1, hp2, hp3⟩ := hP x hx1
    obtain ⟨hc1, hc2⟩ := hC x hx1
    rw [sX5_writeForm_L29]
    unfold bX5_writeForm_L29 bX5_writeForm_L66
    rw [if_neg (by rw [ii_le (by omega) (by omega)]; omega)]
    unfold fX5_leastInFront
    have e5 : fX5_leastInFront_L7 F (ii Q.length) N fo W w S st F (0 : Int32) (-1 : Int32) (0 : Int32) = some (ii P1.length) :=
      least_L hn hx hS hN hW hN3 (fun j hj => bu_fo hr hj) (fun j hj => fkV_lt (fun x hx => (hV x hx).2) (by rw [bu_len]; exact hj)) hp e2 (fun j hj => e3 j (by rw [bu_len]; exact hj)) F 0 (-1) (by omega) (by omega) (fun _ => Or.inl rfl) (fun h => absurd h (by omega))
    rw [e5]
    simp (disch := omega) only [ii_nneg, ii_nat, false_or, Option.bind_some]
    have hlen : D.length + (m + O'.length) ≤ M := by
      rw [h2] at hD
      simpa using hD
    rw [if_neg (by rw [kz_m1, ii_iz, iz_inj (by omega) (by omega) (by omega) (by omega)]; omega), if_neg (by omega), bundle_eq hn hx hR hp hN hN2 (by omega) hM hMF hx3 hx4 hp1 hp2 hp3 (tv_ne (hn.2.1 x.1 hp1).2.1 hc1 hc2) (by rw [← em]; omega)]
    simp only [Option.bind_some]
    rw [← et, ← em, nar_1, k_1, ii_add]
    have h7 := rpA_rL (m := m) (t := t) ha
    have e8 : D.length + m = (D ++ List.replicate m t).length := by simp
    have e9 : D ++ O = (D ++ List.replicate m t) ++ O' := by rw [h2]; simp
    rw [e8, e9]
    exact ih (A ++ B) O' h3 g (i + 1) _ _ _ e4 (by omega) h7 (by rw [← e9]; exact hD) (by omega)
theorem uu_all {w : Nat → Int32} : ∀ (P : List (Nat × Nat)) (k : Nat), (∀ j, k ≤ j → j < k + P.length → w j = 0) → uu w k P = P
  | [], k, _ => rfl
  | x :: P, k, h => by
    show (if w k = 0 then x :: uu w (k + 1) P else uu w (k + 1) P) = x :: P
    rw [if_pos (h k (by omega) (by simp)), uu_all P (k + 1) (fun j h1 h2 => h j (by omega) (by simp only [List.length_cons]; omega))]
/-- the class's form of a pile -/
theorem writeForm_eq {F n N N2 W S R M : Nat} {mk rd : Nat → Nat} {st ro : Nat → Int32} (hn : okN n mk rd) (hx : netX n mk rd st ro) (hS : n ≤ S) (hR : n ≤ R) {Q : List (Nat × Int)} {fo co : Nat → Int32} (hP : okP n 100 Q) (hC : okC rd Q) (hr : rP fo co Q) (hN : Q.length ≤ N) (hN2 : Q.length ≤ N2) (hW : Q.length ≤ W) (hN3 : N < 1000000) (hNF : N < F) (hM : M < 1000000) (hMF : M < F) {O : List Nat} (hO : FM mk Q.length (bu rd Q) O) (hOM : O.length ≤ M) (w a : Nat → Int32) (s : Int32) :
    ∃ w' a', fX5_writeForm F (ii Q.length) N fo N2 co W S st R ro M w s a = some (w', ii O.length, a') ∧ rL a' O := by
  have key : ∀ (k j : Nat) (w : Nat → Int32), j ≤ Q.length → Q.length < j + k → (∀ i, i < j → w i = 0) → ∃ w' a', fX5_writeForm_L6 F (ii Q.length) N fo N2 co W S st R ro M k (ii j) w (ii 0) a = some (w', ii O.length, a') ∧ rL a' O := by
    intro k
    induction k with
    | zero => intro j w h1 h2; omega
    | succ k ih =>
      intro j w h1 h2 h3
      rw [sX5_writeForm_L6]
      unfold bX5_writeForm_L6
      simp (disch := omega) only [ii_nneg, ii_nat, ii_le, false_or]
      by_cases hj : Q.length ≤ j
      · rw [if_pos hj]
        exact wform_L29 hn hx hS hR hP hC hr hN hN2 hW hN3 hNF hM hMF Q.length (bu rd Q) O hO F 0 w a [] (uu_all _ 0 (fun i h4 h5 => h3 i (by rw [bu_len] at h5; omega))) (by omega) (fun i hi => absurd hi (by simp)) hOM (by omega)
      · rw [if_neg hj, if_neg (by omega), nar_0, k_1, ii_add]
        exact ih (j + 1) _ (by omega) (by omega) (fun i hi => by
          by_cases h4 : i = j
          · rw [h4, upd_same]
          · rw [upd_ne _ _ h4]
            exact h3 i (by omega))
  unfold fX5_writeForm fX7_clear
  simp only [Option.bind_some]
  exact key F 0 w (by omega) (by omega) (fun i hi => absurd hi (by omega))
