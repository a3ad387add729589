/-! PURE: cuts of the class -/
theorem agB_lt {m D : Nat} (h : agB m D 0) : D < 2 ^ m := by
  apply Nat.lt_pow_two_of_testBit
  intro i hi
  rw [h i hi, Nat.zero_testBit]
theorem lt_agB {m D : Nat} (h : D < 2 ^ m) : agB m D 0 := by
  intro i hi
  rw [Nat.zero_testBit, Nat.testBit_lt_two_pow (Nat.lt_of_lt_of_le h (Nat.pow_le_pow_right (by decide) hi))]
theorem run_oC {mk rd : Nat → Nat} (hs : ∀ f g, (mk f).testBit g = (mk g).testBit f) (hr : okR rd) {L : List Nat} {D : Nat} : runC mk rd L L.length [] D = [] ↔ oC mk rd L D := out_rev hs hr
theorem bsC_of {mk rd : Nat → Nat} (hs : ∀ f g, (mk f).testBit g = (mk g).testBit f) (hr : okR rd) {L : List Nat} {k D : Nat} (h1 : ∀ k', k' < k → srC mk rd L L.length [] k' 0 none) (h2 : srC mk rd L L.length [] k 0 (some D)) : bsC mk rd L (2 ^ L.length) (some D) := by
  obtain ⟨a1, a2, a3, a4⟩ := h2
  refine ⟨agB_lt a1, (run_oC hs hr).mp a3, ?_⟩
  intro C hC hoC
  have hrC := (run_oC hs hr).mpr hoC
  by_cases hlt : pcS L.length C < k
  · exact absurd hrC (h1 _ hlt C (lt_agB hC) (Int.le_refl _))
  · by_cases he : pcS L.length D < pcS L.length C
    · exact Or.inl he
    · exact Or.inr ⟨by omega, a4 C (lt_agB hC) (by omega) hrC⟩
theorem bsC_1 {mk rd : Nat → Nat} {L : List Nat} {S B C : Nat} (h1 : bsC mk rd L S (some B)) (h2 : bsC mk rd L S (some C)) : B = C := by
  have a := h1.2.2 C h2.1 h2.2.1
  have b := h2.2.2 B h1.1 h1.2.1
  omega
theorem pcS_full (m : Nat) : pcS m (2 ^ m - 1) = m := by
  have : ∀ k, k ≤ m → pcS k (2 ^ m - 1) = k := by
    intro k
    induction k with
    | zero => intro _; rfl
    | succ k ih =>
      intro hk
      rw [pcS_s, ih (by omega), ind_t (full_b (by omega))]
  exact this m (Nat.le_refl _)
theorem few_L84 {F n : Nat} {mk rd : Nat → Nat} {st ro : Nat → Int32} (hn : okN n mk rd) (hx : netX n mk rd st ro) (hr : okR rd) (hF : 2000 ≤ F) {L : List Nat} {a : Nat → Int32} (hL : okL n L) (ha : rL a L) (h14 : L.length ≤ 14) :
    ∀ (t k : Nat) (fd : Int32) (to un ne ks : Nat → Int32) (kf kc : Nat → Nat → Int32), L.length < k + t → k ≤ L.length → ks L.length = ii 0 → (∀ f, f < 6 → to f = iz (UU L f L.length)) → (∀ t, t < 12 → un t = ii (cnT L t L.length)) → (∀ k' : Nat, k' < k → srC mk rd L L.length [] k' 0 none) → ∃ B r, fX0_fewest_L84 F 15 6 12 6 (ii n) 6 st 6 ro (ii L.length) 24 a 14 14 t (ii k) fd to un ne ks kf kc = some (ii B, r) ∧ bsC mk rd L (2 ^ L.length) (some B) := by
  intro t
  induction t with
  | zero => intro k fd to un ne ks kf kc h1 h2; omega
  | succ t ih =>
    intro k fd to un ne ks kf kc h1 h2 h3 h4 h5 h6
    rw [sX0_fewest_L84]
    unfold bX0_fewest_L84 bX0_fewest_L116
    have hUU : ∀ f, -(14 : Int) ≤ UU L f L.length ∧ UU L f L.length ≤ 14 := by
      intro f
      unfold UU
      have := cnT_le (L := L) (t := 2 * f) (l := L.length)
      have := cnT_le (L := L) (t := 2 * f + 1) (l := L.length)
      omega
    have hpre : preC n rd L L.length L.length (k : Int) 0 [] (fun f => UU L f L.length) to un ks kf kc := by
      refine ⟨by omega, by omega, by decide, fun i _ => Nat.zero_testBit i, fun x hx => (by cases hx), fun x hx => (by cases hx), ?_, h3, trivial, h4, ?_, ?_, h5⟩
      · show 0 + L.length ≤ 14; omega
      · intro f hf
        have := hUU f
        show -(28 - (L.length : Int)) ≤ UU L f L.length ∧ UU L f L.length ≤ 28 - (L.length : Int)
        omega
      · intro f hf
        show nrm (rd f) (UU L f L.length) = nrm (rd f) (0 + UU L f L.length)
        rw [Int.zero_add]
    obtain ⟨o, r, e, q1, q2, q3, q4, q5⟩ := search_X (F := F) hn hx hr hF hL ha h14 L.length 15 (by omega) (Nat.le_refl _) (k : Int) 0 [] _ fd to un ne ks kf kc hpre
    rw [if_neg (by rw [ii_lt (by omega) (by omega)]; omega), e1k, ii_iz k, show (0 : Int32) = ii 0 from rfl, e, Option.bind_some]
    rcases q5 with ⟨r0, ro0⟩ | ⟨r0, D, ro1, rD⟩
    · rw [if_pos (show r.1 = ii 0 from r0)]
      subst ro0
      by_cases hkm : k = L.length
      · exfalso
        have hp0 := Nat.two_pow_pos L.length
        refine q4 (2 ^ L.length - 1) (lt_agB (by omega)) (by rw [pcS_full, hkm]; exact Int.le_refl _) ?_
        unfold runC
        rw [slF_full L.length (fun i hi => full_b hi)]
        rfl
      · refine ih (k + 1) _ _ _ _ _ _ _ (by omega) (by omega) (by rw [(q3 _ (Nat.le_refl _)).1]; exact h3) q1 q2 ?_
        intro k' hk'
        by_cases hkk : k' = k
        · rw [hkk]; exact q4
        · exact h6 k' (by omega)
    · rw [if_neg (show ¬ r.1 = ii 0 by rw [r0]; decide)]
      subst ro1
      rw [rD]
      exact ⟨D, _, rfl, bsC_of hn.2.2 hr h6 q4⟩
theorem few_L29 {F n : Nat} {mk rd : Nat → Nat} {st ro : Nat → Int32} (hn : okN n mk rd) (hx : netX n mk rd st ro) (hr : okR rd) (hF : 2000 ≤ F) {L : List Nat} {a : Nat → Int32} (hL : okL n L) (ha : rL a L) (h14 : L.length ≤ 14) :
    ∀ (t i : Nat) (fd : Int32) (to un ne ks : Nat → Int32) (kf kc : Nat → Nat → Int32), L.length < i + t → i ≤ L.length → (∀ f, f < 6 → to f = iz (UU L f i)) → (∀ t, t < 12 → un t = ii (cnT L t i)) → ∃ B r, fX0_fewest_L29 F 15 6 12 6 (ii n) 6 st 6 ro (ii L.length) 24 a 14 14 t (ii i) fd to un ne ks kf kc = some (ii B, r) ∧ bsC mk rd L (2 ^ L.length) (some B) := by
  have hn6 := hn.1
  intro t
  induction t with
  | zero => intro i fd to un ne ks kf kc h1 h2; omega
  | succ t ih =>
    intro i fd to un ne ks kf kc h1 h2 h3 h4
    rw [sX0_fewest_L29]
    unfold bX0_fewest_L29 fX5_clear
    rw [e1k]
    by_cases h : L.length ≤ i
    · have : i = L.length := by omega
      subst this
      rw [if_pos (by rw [ii_le (by omega) (by omega)]; exact h), if_neg (nidx (by omega) (by omega)), ii_nat (by omega), Option.bind_some]
      exact few_L84 hn hx hr hF hL ha h14 F 0 _ _ _ _ _ _ _ (by omega) (by omega) (vup_s _ _ _) h3 h4 (fun k' hk' => by omega)
    · have ht := hL _ (getD_mem (L := L) (k := i) (by omega))
      rw [if_neg (by rw [ii_le (by omega) (by omega)]; exact h), if_neg (nidx (by omega) (by omega)), ii_nat (by omega), ha i (by omega), countIn_X (by omega), Option.bind_some, if_neg (nidn (by omega) (by omega)), comeBy_X (by omega), Option.bind_some]
      refine ih (i + 1) fd _ _ ne ks kf kc (by omega) (by omega) ?_ ?_
      · intro f hf
        rw [UU_s]
        by_cases hff : f = L.getD i 0 / 2
        · rw [hff, upd_same, if_pos rfl, h3 _ (by omega), show (1 : Int32) = iz 1 from rfl, iz_mul, iz_add, Int.one_mul]
        · rw [upd_ne _ _ hff, if_neg (fun h9 => hff h9.symm), Int.add_zero]
          exact h3 f hf
      · intro t2 ht2
        rw [cnT_s]
        by_cases htt : t2 = L.getD i 0
        · rw [htt, upd_same, h4 _ (by omega), ind_t rfl, e1k]
        · rw [upd_ne _ _ htt, h4 t2 ht2, ind_f (fun h9 => htt h9.symm), Nat.add_zero]
theorem cuts_X {F n : Nat} {mk rd : Nat → Nat} {st ro : Nat → Int32} (hn : okN n mk rd) (hx : netX n mk rd st ro) (hr : okR rd) (hF : 2000 ≤ F) {L : List Nat} {a : Nat → Int32} (hL : okL n L) (ha : rL a L) (h14 : L.length ≤ 14) (fd : Int32) (to un ne ks : Nat → Int32) (kf kc : Nat → Nat → Int32) :
    ∃ B r, fX11_cuts F (ii n) 6 st 6 ro (ii L.length) 24 a 15 6 12 6 14 14 fd to un ne ks kf kc = some (ii B, r) ∧ bsC mk rd L (2 ^ L.length) (some B) := by
  obtain ⟨t1, e1, g1⟩ := fill_X (F := F) (N := 6) (by omega) (by omega) to
  obtain ⟨u1, e2, g2⟩ := fill_X (F := F) (N := 12) (by omega) (by omega) un
  obtain ⟨B, r, e3, g3⟩ := few_L29 (F := F) hn hx hr hF hL ha h14 F 0 fd t1 u1 ne ks kf kc (by omega) (by omega) (fun f hf => by rw [g1 f hf]; rfl) (fun t ht => by rw [g2 t ht]; rfl)
  unfold fX11_cuts bX11_cuts_L37 fX0_fewest
  rw [show ii 0 = (0 : Int32) from rfl] at e3
  rw [if_pos (by rw [k_14, ii_le (by omega) (by omega)]; exact h14), if_pos (by rw [k_14, ii_le (by omega) (by omega)]; exact h14), e1, Option.bind_some, e2, Option.bind_some, e3, Option.bind_some]
  exact ⟨B, _, rfl, g3⟩
theorem cuts_X0 {F n : Nat} {L : List Nat} (h14 : 14 < L.length) (h24 : L.length ≤ 24) (st ro a : Nat → Int32) (fd : Int32) (to un ne ks : Nat → Int32) (kf kc : Nat → Nat → Int32) : fX11_cuts F (ii n) 6 st 6 ro (ii L.length) 24 a 15 6 12 6 14 14 fd to un ne ks kf kc = some (-1, fd, to, un, ne, ks, kf, kc) := by
  unfold fX11_cuts bX11_cuts_L37
  rw [if_neg (by rw [k_14, ii_le (by omega) (by omega)]; omega)]
