/-! PURE: the class lays what must come before, and the stages -/
theorem nidn {d N : Nat} (h : d < N) (hN : N < 2147483648) : ¬ (ii d < 0 ∨ N ≤ d) := by
  rw [ii_nneg (by omega)]
  rintro (h1 | h1)
  · exact h1
  · omega
theorem e1k (a : Nat) : ii a + (1 : Int32) = ii (a + 1) := ii_add a 1
theorem ii_14b (f c : Nat) : ii f * (14 : Int32) + ii c = ii (14 * f + c) := by
  rw [k_14, ii_mul, ii_add, Nat.mul_comm f 14]
theorem stp_b {n : Nat} {mk rd : Nat → Nat} (hn : okN n mk rd) {a b : Nat} : (mk (a / 2) ||| 2 ^ (a / 2)).testBit (b / 2) = true ↔ dep mk b a := by
  rw [tb_or2', hn.2.2 (a / 2) (b / 2)]
  unfold dep
  constructor
  · rintro (h | h)
    · exact Or.inr h
    · exact Or.inl h.symm
  · rintro (h | h)
    · exact Or.inr h.symm
    · exact Or.inl h
theorem bef_L45 {F n : Nat} {mk rd : Nat → Nat} {st ro : Nat → Int32} (hn : okN n mk rd) {L : List Nat} {a : Nat → Int32} (hL : okL n L) (ha : rL a L) (h14 : L.length ≤ 14) (ah : Int32) (ea la : Nat → Int32) (k8 : Int32 → (Nat → Int32) → Option (Nat → Int32)) {i : Nat} (hi : i < L.length) :
    ∀ (t j : Nat) (be : Nat → Int32), i < j + t → j ≤ i → be i = ii (orN j (dI mk L i)) → ∃ be', fX3_layBefore_L45 F (ii L.length) 14 6 st ah 24 a 8 ea 8 la k8 t (ii i) (ii (mk (fkA L i) ||| 2 ^ fkA L i)) (ii j) be = k8 (ii (i + 1)) be' ∧ be' i = ii (orN i (dI mk L i)) ∧ ∀ k, k ≠ i → be' k = be k := by
  intro t
  induction t with
  | zero => intro j be h1 h2; omega
  | succ t ih =>
    intro j be h1 h2 h3
    rw [sX3_layBefore_L45]
    unfold bX3_layBefore_L45 bX3_layBefore_L84
    rw [e1k, e1k]
    by_cases h : i ≤ j
    · have : j = i := by omega
      subst this
      rw [if_pos (by rw [ii_le (by omega) (by omega)]; exact h)]
      exact ⟨be, rfl, h3, fun k _ => rfl⟩
    · have tj := hL _ (getD_mem (L := L) (k := j) (by omega))
      have ti := hL _ (getD_mem (L := L) (k := i) (by omega))
      have h6 := hn.1
      rw [if_neg (by rw [ii_le (by omega) (by omega)]; exact h), if_neg (nidx (by omega) (by omega)), ii_nat (by omega), ha j (by omega), folkOf_eq (by omega)]
      simp only [Option.bind_some]
      have hmk := (hn.2.1 (fkA L i) (by show L.getD i 0 / 2 < n; omega)).1
      have hor : mk (fkA L i) ||| 2 ^ fkA L i < 2 ^ 6 := Nat.or_lt_two_pow (by omega) (Nat.pow_lt_pow_right (by decide) (by show L.getD i 0 / 2 < 6; omega))
      have b0 := iBit0 (S := mk (fkA L i) ||| 2 ^ fkA L i) (k := L.getD j 0 / 2) (by omega) (by omega)
      have sb := stp_b hn (a := L.getD i 0) (b := L.getD j 0)
      by_cases hd : dep mk (L.getD j 0) (L.getD i 0)
      · rw [if_neg (by rw [b0, sb.mpr hd]; decide), if_neg (nidx (by omega) (by omega)), if_neg (nidx (by omega) (by omega)), ii_nat (by omega), h3, iSh j (by omega), iOr]
        obtain ⟨be', e, g1, g2⟩ := ih (j + 1) (upd be i (ii (orN j (dI mk L i) ||| 2 ^ j))) (by omega) (by omega) (by rw [upd_same, orN_s]; unfold dI; rw [if_pos hd])
        exact ⟨be', e, g1, fun k hk => by rw [g2 k hk, upd_ne _ _ hk]⟩
      · rw [if_pos (by
          rw [b0]
          cases h9 : (mk (fkA L i) ||| 2 ^ fkA L i).testBit (L.getD j 0 / 2)
          · rfl
          · exact absurd (sb.mp h9) hd)]
        exact ih (j + 1) be (by omega) (by omega) (by rw [h3, orN_s]; unfold dI; rw [if_neg hd, Nat.or_zero])
theorem bef_L99 {F : Nat} {mk : Nat → Nat} {L E G : List Nat} {ea la : Nat → Int32} (hE : rL ea E) (hGl : rL la G) (hG : G.length = E.length) (h8 : E.length ≤ 8) (hE1 : ∀ e ∈ E, e < L.length) (hG1 : ∀ g ∈ G, g < L.length) (h14 : L.length ≤ 14) (st a : Nat → Int32) :
    ∀ (t e : Nat) (be : Nat → Int32), E.length < e + t → e ≤ E.length → (∀ k, k < L.length → be k = ii (muE mk L E G e k)) → ∃ be', fX3_layBefore_L99 F (ii L.length) 14 6 st (ii E.length) 24 a 8 ea 8 la t (ii e) be = some be' ∧ ∀ k, k < L.length → be' k = ii (muA mk L E G k) := by
  intro t
  induction t with
  | zero => intro e be h1 h2; omega
  | succ t ih =>
    intro e be h1 h2 h3
    rw [sX3_layBefore_L99]
    unfold bX3_layBefore_L99 bX3_layBefore_L150
    rw [e1k]
    by_cases h : E.length ≤ e
    · have : e = E.length := by omega
      subst this
      rw [if_pos (by rw [ii_le (by omega) (by omega)]; exact h)]
      exact ⟨be, rfl, h3⟩
    · have hg := hG1 _ (getD_mem (L := G) (k := e) (by omega))
      have he := hE1 _ (getD_mem (L := E) (k := e) (by omega))
      rw [if_neg (by rw [ii_le (by omega) (by omega)]; exact h), if_neg (nidx (by omega) (by omega)), ii_nat (by omega), hGl e (by omega), hE e (by omega), if_neg (by rw [ii_nneg (by omega)]; simp), if_neg (by rw [ii_le (by omega) (by omega)]; omega), if_neg (nidx (by omega) (by omega)), if_neg (nidn (by omega) (by omega)), if_neg (nidx (by omega) (by omega)), ii_nat (by omega), iSh _ (by omega), h3 _ hg, iOr]
      refine ih (e + 1) _ (by omega) (by omega) ?_
      intro k hk
      by_cases hkg : k = G.getD e 0
      · subst hkg
        rw [upd_same, muE_s]
        unfold aI
        rw [if_pos rfl]
      · rw [upd_ne _ _ hkg, h3 k hk, muE_s]
        unfold aI
        rw [if_neg (Ne.symm hkg), Nat.or_zero]
theorem bef_L8 {F n : Nat} {mk rd : Nat → Nat} {st ro : Nat → Int32} (hn : okN n mk rd) (hx : netX n mk rd st ro) (hF : 1000 ≤ F) {L E G : List Nat} {a ea la : Nat → Int32} (hL : okL n L) (ha : rL a L) (h14 : L.length ≤ 14) (hE : rL ea E) (hGl : rL la G) (hG : G.length = E.length) (h8 : E.length ≤ 8) (hE1 : ∀ e ∈ E, e < L.length) (hG1 : ∀ g ∈ G, g < L.length) :
    ∀ (t i : Nat) (be : Nat → Int32), L.length < i + t → i ≤ L.length → (∀ k, k < i → be k = ii (muE mk L E G 0 k)) → ∃ be', fX3_layBefore_L8 F (ii L.length) 14 6 st (ii E.length) 24 a 8 ea 8 la t (ii i) be = some be' ∧ ∀ k, k < L.length → be' k = ii (muA mk L E G k) := by
  intro t
  induction t with
  | zero => intro i be h1 h2; omega
  | succ t ih =>
    intro i be h1 h2 h3
    rw [sX3_layBefore_L8]
    unfold bX3_layBefore_L8
    by_cases h : L.length ≤ i
    · have : i = L.length := by omega
      subst this
      rw [if_pos (by rw [ii_le (by omega) (by omega)]; exact h)]
      exact bef_L99 hE hGl hG h8 hE1 hG1 h14 st a F 0 be (by omega) (by omega) h3
    · have ti := hL _ (getD_mem (L := L) (k := i) (by omega))
      have h6 := hn.1
      rw [if_neg (by rw [ii_le (by omega) (by omega)]; exact h), if_neg (nidx (by omega) (by omega)), if_neg (nidx (by omega) (by omega)), ii_nat (by omega), ha i (by omega), folkOf_eq (by omega)]
      simp only [Option.bind_some]
      rw [if_neg (nidx (by omega) (by omega)), ii_nat (by omega), (hx _ (show L.getD i 0 / 2 < n by omega)).1]
      obtain ⟨be', e, g1, g2⟩ := bef_L45 (F := F) (st := st) (ro := ro) hn hL ha h14 (ii E.length) ea la (fX3_layBefore_L8 F (ii L.length) 14 6 st (ii E.length) 24 a 8 ea 8 la t) (i := i) (by omega) F 0 (upd be i 0) (by omega) (by omega) (by rw [upd_same]; rfl)
      rw [show ii 0 = (0 : Int32) from rfl] at e
      rw [e]
      refine ih (i + 1) be' (by omega) (by omega) ?_
      intro k hk
      by_cases hki : k = i
      · subst hki
        rw [g1]
        unfold muE
        rw [show orN 0 (aI E G k) = 0 from rfl, Nat.or_zero]
      · rw [g2 k hki, upd_ne _ _ hki]
        exact h3 k (by omega)
theorem tied_X {F s f : Nat} {L : List Nat} {ti sp : Nat → Int32} (hf : f < 6) (h14 : L.length ≤ 14) (hs : s < 2000) (h1 : ti f = ii (cnF L f L.length)) (h2 : sp f = ii (stP (rxL L) f)) (h3 : stP (rxL L) f ≤ 1296) : fX3_tiedAt F 6 ti 6 sp (ii s) (ii f) = some (ii (dg (rxL L) s f)) := by
  have hp := stP_pos (rxL_pos L) f
  have hc := cnF_le L f L.length
  unfold fX3_tiedAt bX3_tiedAt_L30
  rw [if_neg (nidx (by omega) (by omega)), ii_nat (by omega), h1, h2, if_neg (by rw [k_0, ii_le (by omega) (by omega)]; omega), if_neg (nidn (by omega) (by omega)), if_neg (by rw [k_0, ii_inj (by omega) (by omega)]; omega), if_neg (nidn (by omega) (by omega)), e1k, if_neg (by rw [k_0, ii_inj (by omega) (by omega)]; omega)]
  have hd1 : s / stP (rxL L) f ≤ s := Nat.div_le_self _ _
  have hd2 : s / stP (rxL L) f / (cnF L f L.length + 1) ≤ s / stP (rxL L) f := Nat.div_le_self _ _
  rw [ii_div (by omega) (by omega), ii_div (by omega) (by omega), ii_mul]
  have e := Nat.div_add_mod (s / stP (rxL L) f) (cnF L f L.length + 1)
  rw [Nat.mul_comm] at e
  rw [ii_sub (by omega)]
  congr 2
  unfold dg
  show _ = s / stP (rxL L) f % (cnF L f L.length + 1)
  omega
theorem stP_le {r : Nat → Nat} (h : ∀ f, 0 < r f) {f g : Nat} (hfg : f ≤ g) : stP r f ≤ stP r g := by
  induction g with
  | zero => rw [show f = 0 by omega]; exact Nat.le_refl _
  | succ g ih =>
    by_cases he : f = g + 1
    · rw [he]; exact Nat.le_refl _
    · rw [stP_s]
      exact Nat.le_trans (ih (by omega)) (Nat.le_mul_of_pos_right _ (h g))
theorem stP_1296 {L : List Nat} (h6 : ∀ y, y < L.length → fkA L y < 6) (h14 : L.length ≤ 14) {f : Nat} (hf : f ≤ 6) : stP (rxL L) f ≤ 1296 := by
  refine Nat.le_trans (stP_le (rxL_pos L) hf) ?_
  exact rx_1296 (t := fun f => cnF L f L.length) (by rw [cnF_tot h6 _ (Nat.le_refl _)]; exact h14)
def dnP (L : List Nat) (s f n : Nat) : Nat := biN L.length (fun y => (fkA L y < f ∧ cnA L y < dg (rxL L) s (fkA L y)) ∨ (fkA L y = f ∧ cnA L y < n))
theorem dnP_b {L : List Nat} {s f n i : Nat} : (dnP L s f n).testBit i = true ↔ i < L.length ∧ ((fkA L i < f ∧ cnA L i < dg (rxL L) s (fkA L i)) ∨ (fkA L i = f ∧ cnA L i < n)) := biN_b
theorem dnP_up {L : List Nat} {s f n y : Nat} (hy : y < L.length) (h1 : fkA L y = f) (h2 : cnA L y = n) : dnP L s f n ||| 2 ^ y = dnP L s f (n + 1) := by
  apply tb_ext
  intro i
  rw [tb_or2', dnP_b, dnP_b]
  constructor
  · rintro (⟨a1, a2 | a2⟩ | a1)
    · exact ⟨a1, Or.inl a2⟩
    · exact ⟨a1, Or.inr ⟨a2.1, by omega⟩⟩
    · subst a1
      exact ⟨hy, Or.inr ⟨h1, by omega⟩⟩
  · rintro ⟨a1, a2 | a2⟩
    · exact Or.inl ⟨a1, Or.inl a2⟩
    · by_cases hc : cnA L i = n
      · right
        exact cnF_inj (by rw [h1, a2.1]) (by show cnA L y = cnA L i; omega)
      · exact Or.inl ⟨a1, Or.inr ⟨a2.1, by omega⟩⟩
theorem dnP_nx {L : List Nat} {s f : Nat} : dnP L s f (dg (rxL L) s f) = dnP L s (f + 1) 0 := by
  apply tb_ext
  intro i
  rw [dnP_b, dnP_b]
  constructor
  · rintro ⟨a1, a2 | a2⟩
    · exact ⟨a1, Or.inl ⟨by omega, a2.2⟩⟩
    · exact ⟨a1, Or.inl ⟨by omega, by rw [a2.1]; exact a2.2⟩⟩
  · rintro ⟨a1, a2 | a2⟩
    · by_cases hc : fkA L i = f
      · exact ⟨a1, Or.inr ⟨hc, by have := a2.2; rw [hc] at this; exact this⟩⟩
      · exact ⟨a1, Or.inl ⟨by omega, a2.2⟩⟩
    · omega
theorem dnP_6 {L : List Nat} (h6 : ∀ y, y < L.length → fkA L y < 6) {s : Nat} : dnP L s 6 0 = dnS L s := by
  apply tb_ext
  intro i
  rw [dnP_b, dnS_b]
  constructor
  · rintro ⟨a1, a2 | a2⟩
    · exact ⟨a1, a2.2⟩
    · omega
  · rintro ⟨a1, a2⟩
    exact ⟨a1, Or.inl ⟨h6 i a1, a2⟩⟩
theorem dnP_00 {L : List Nat} {s : Nat} : dnP L s 0 0 = 0 := by
  apply tb_ext
  intro i
  rw [dnP_b, Nat.zero_testBit]
  constructor
  · rintro ⟨a1, a2 | a2⟩ <;> omega
  · intro h; cases h
theorem done_L21 {F s f : Nat} {L : List Nat} {pl ti sp : Nat → Int32} (h14 : L.length ≤ 14) (hf : f < 6) (hpl : ∀ y, y < L.length → pl (14 * fkA L y + cnA L y) = ii y) (k4 : Int32 → Int32 → Int32 → Option Int32) :
    ∀ (t n : Nat), dg (rxL L) s f < n + t → n ≤ dg (rxL L) s f → fX3_doneAt_L21 F 84 pl 6 ti 6 sp k4 t (ii s) (ii (dnP L s f n)) (ii f) (ii (dg (rxL L) s f)) (ii n) = k4 (ii s) (ii (dnP L s (f + 1) 0)) (ii (f + 1)) := by
  have hd : dg (rxL L) s f < cnF L f L.length + 1 := dg_lt (rxL_pos L) s f
  have hc := cnF_le L f L.length
  intro t
  induction t with
  | zero => intro n h1 h2; omega
  | succ t ih =>
    intro n h1 h2
    rw [sX3_doneAt_L21]
    unfold bX3_doneAt_L21
    rw [e1k, e1k, ii_14b]
    by_cases h : dg (rxL L) s f ≤ n
    · have : n = dg (rxL L) s f := by omega
      subst this
      rw [if_pos (by rw [ii_le (by omega) (by omega)]; exact h), dnP_nx]
    · obtain ⟨y, y1, y2, y3⟩ := cnF_ex (L := L) (f := f) (z := L.length) (n := n) (by omega)
      have y4 : cnA L y = n := by show cnF L (fkA L y) y = n; rw [y2, y3]
      have e := hpl y y1
      rw [y2, y4] at e
      rw [if_neg (by rw [ii_le (by omega) (by omega)]; exact h), if_neg (nidx (by omega) (by omega)), ii_nat (by omega), e, iSh y (by omega), iOr, dnP_up y1 y2 y4]
      exact ih (n + 1) (by omega) (by omega)
theorem done_L4 {F s : Nat} {L : List Nat} {pl ti sp : Nat → Int32} (hF : 1000 ≤ F) (h6 : ∀ y, y < L.length → fkA L y < 6) (h14 : L.length ≤ 14) (hs : s < 2000) (hpl : ∀ y, y < L.length → pl (14 * fkA L y + cnA L y) = ii y) (hti : ∀ f, f < 6 → ti f = ii (cnF L f L.length)) (hsp : ∀ f, f < 6 → sp f = ii (stP (rxL L) f)) :
    ∀ (t f : Nat), 6 < f + t → f ≤ 6 → fX3_doneAt_L4 F 84 pl 6 ti 6 sp t (ii s) (ii (dnP L s f 0)) (ii f) = some (ii (dnS L s)) := by
  intro t
  induction t with
  | zero => intro f h1 h2; omega
  | succ t ih =>
    intro f h1 h2
    rw [sX3_doneAt_L4]
    unfold bX3_doneAt_L4
    by_cases h : 6 ≤ f
    · have : f = 6 := by omega
      subst this
      rw [if_pos (by rw [k_6, ii_le (by omega) (by omega)]; exact h), dnP_6 h6]
    · have hd : dg (rxL L) s f < cnF L f L.length + 1 := dg_lt (rxL_pos L) s f
      have hc := cnF_le L f L.length
      rw [if_neg (by rw [k_6, ii_le (by omega) (by omega)]; exact h), tied_X (by omega) h14 hs (hti f (by omega)) (hsp f (by omega)) (stP_1296 h6 h14 (by omega))]
      simp only [Option.bind_some]
      rw [k_0, done_L21 h14 (show f < 6 by omega) hpl _ F 0 (by omega) (by omega)]
      exact ih (f + 1) (by omega) (by omega)
theorem done_X {F s : Nat} {L : List Nat} {pl ti sp : Nat → Int32} (hF : 1000 ≤ F) (h6 : ∀ y, y < L.length → fkA L y < 6) (h14 : L.length ≤ 14) (hs : s < 2000) (hpl : ∀ y, y < L.length → pl (14 * fkA L y + cnA L y) = ii y) (hti : ∀ f, f < 6 → ti f = ii (cnF L f L.length)) (hsp : ∀ f, f < 6 → sp f = ii (stP (rxL L) f)) : fX3_doneAt F 84 pl 6 ti 6 sp (ii s) = some (ii (dnS L s)) := by
  unfold fX3_doneAt
  have := done_L4 (F := F) (s := s) hF h6 h14 hs hpl hti hsp F 0 (by omega) (by omega)
  rw [dnP_00] at this
  exact this
/-- what the class has laid -/
abbrev ordX (L : List Nat) (MU : Nat → Nat) (be pl ti sp dn : Nat → Int32) : Prop := (∀ k, k < L.length → be k = ii (MU k)) ∧ (∀ y, y < L.length → pl (14 * fkA L y + cnA L y) = ii y) ∧ (∀ f, f < 6 → ti f = ii (cnF L f L.length)) ∧ (∀ f, f < 6 → sp f = ii (stP (rxL L) f)) ∧ ∀ s, s < stP (rxL L) 6 → dn s = ii (dnS L s)
theorem stg_L132 {F : Nat} {L : List Nat} {pl ti sp a : Nat → Int32} (hF : 2000 ≤ F) (h6 : ∀ y, y < L.length → fkA L y < 6) (h14 : L.length ≤ 14) (hpl : ∀ y, y < L.length → pl (14 * fkA L y + cnA L y) = ii y) (hti : ∀ f, f < 6 → ti f = ii (cnF L f L.length)) (hsp : ∀ f, f < 6 → sp f = ii (stP (rxL L) f)) (m9 z9 : Int32) :
    ∀ (t s : Nat) (dn : Nat → Int32), stP (rxL L) 6 < s + t → s ≤ stP (rxL L) 6 → (∀ k, k < s → dn k = ii (dnS L k)) → ∃ dn', fX3_layStages_L132 F m9 84 6 6 1296 z9 24 a t (ii s) (ii (stP (rxL L) 6)) pl ti sp dn = some (ii (stP (rxL L) 6), pl, ti, sp, dn') ∧ ∀ k, k < stP (rxL L) 6 → dn' k = ii (dnS L k) := by
  have hK := stP_1296 h6 h14 (Nat.le_refl 6)
  intro t
  induction t with
  | zero => intro s dn h1 h2; omega
  | succ t ih =>
    intro s dn h1 h2 h3
    rw [sX3_layStages_L132]
    unfold bX3_layStages_L132
    by_cases h : stP (rxL L) 6 ≤ s
    · have : s = stP (rxL L) 6 := by omega
      subst this
      rw [if_pos (by rw [ii_le (by omega) (by omega)]; exact h)]
      exact ⟨dn, rfl, h3⟩
    · rw [if_neg (by rw [ii_le (by omega) (by omega)]; exact h), done_X (by omega) h6 h14 (by omega) hpl hti hsp]
      simp only [Option.bind_some]
      rw [if_neg (nidx (by omega) (by omega)), ii_nat (by omega), e1k]
      refine ih (s + 1) _ (by omega) (by omega) ?_
      intro k hk
      by_cases hks : k = s
      · rw [hks, upd_same]
      · rw [upd_ne _ _ hks]
        exact h3 k (by omega)
theorem stg_L77 {F : Nat} {L : List Nat} {pl ti a : Nat → Int32} (hF : 2000 ≤ F) (h6 : ∀ y, y < L.length → fkA L y < 6) (h14 : L.length ≤ 14) (hpl : ∀ y, y < L.length → pl (14 * fkA L y + cnA L y) = ii y) (hti : ∀ f, f < 6 → ti f = ii (cnF L f L.length)) (m9 z9 : Int32) :
    ∀ (t f : Nat) (sp dn : Nat → Int32), 6 < f + t → f ≤ 6 → (∀ k, k < f → sp k = ii (stP (rxL L) k)) → ∃ sp' dn', fX3_layStages_L77 F m9 84 6 6 1296 z9 24 a t (ii f) (ii (stP (rxL L) f)) pl ti sp dn = some (ii (stP (rxL L) 6), pl, ti, sp', dn') ∧ (∀ k, k < 6 → sp' k = ii (stP (rxL L) k)) ∧ ∀ k, k < stP (rxL L) 6 → dn' k = ii (dnS L k) := by
  have hK := stP_1296 h6 h14 (Nat.le_refl 6)
  intro t
  induction t with
  | zero => intro f sp dn h1 h2; omega
  | succ t ih =>
    intro f sp dn h1 h2 h3
    rw [sX3_layStages_L77]
    unfold bX3_layStages_L77
    by_cases h : 6 ≤ f
    · have : f = 6 := by omega
      subst this
      rw [if_pos (by rw [k_6, ii_le (by omega) (by omega)]; exact h), if_neg (show ¬ (1296 : Int32) < ii (stP (rxL L) 6) by rw [k_1296, ii_lt (by omega) (by omega)]; omega)]
      obtain ⟨dn', e, g⟩ := stg_L132 (F := F) (a := a) hF h6 h14 hpl hti h3 m9 z9 F 0 dn (by omega) (by omega) (fun k hk => by omega)
      exact ⟨sp, dn', e, h3, g⟩
    · rw [if_neg (by rw [k_6, ii_le (by omega) (by omega)]; exact h), if_neg (nidx (by omega) (by omega)), if_neg (nidx (by omega) (by omega)), ii_nat (by omega), hti f (by omega), e1k, e1k, ii_mul]
      refine ih (f + 1) _ dn (by omega) (by omega) ?_
      intro k hk
      by_cases hkf : k = f
      · rw [hkf, upd_same]
      · rw [upd_ne _ _ hkf]
        exact h3 k (by omega)
theorem pl_ne {L : List Nat} {y z : Nat} (hz : z < 14) (hy : y < 14) (hzy : z ≠ y) : 14 * fkA L z + cnA L z ≠ 14 * fkA L y + cnA L y := by
  have h1 : cnA L z ≤ z := cnF_le L (fkA L z) z
  have h2 : cnA L y ≤ y := cnF_le L (fkA L y) y
  intro h
  have e1 : fkA L z = fkA L y := by omega
  exact hzy (cnF_inj e1 (show cnA L z = cnA L y by omega))
theorem stg_L10 {F n : Nat} {mk rd : Nat → Nat} (hn : okN n mk rd) {L : List Nat} {a : Nat → Int32} (hF : 2000 ≤ F) (hL : okL n L) (ha : rL a L) (h6 : ∀ y, y < L.length → fkA L y < 6) (h14 : L.length ≤ 14) (sg9 : Int32) :
    ∀ (t y : Nat) (pl ti sp dn : Nat → Int32), L.length < y + t → y ≤ L.length → (∀ z, z < y → pl (14 * fkA L z + cnA L z) = ii z) → (∀ f, f < 6 → ti f = ii (cnF L f y)) → ∃ pl' ti' sp' dn', fX3_layStages_L10 F (ii L.length) 84 6 6 1296 (ii L.length) 24 a t (ii y) sg9 pl ti sp dn = some (ii (stP (rxL L) 6), pl', ti', sp', dn') ∧ (∀ z, z < L.length → pl' (14 * fkA L z + cnA L z) = ii z) ∧ (∀ f, f < 6 → ti' f = ii (cnF L f L.length)) ∧ (∀ k, k < 6 → sp' k = ii (stP (rxL L) k)) ∧ ∀ k, k < stP (rxL L) 6 → dn' k = ii (dnS L k) := by
  intro t
  induction t with
  | zero => intro y pl ti sp dn h1 h2; omega
  | succ t ih =>
    intro y pl ti sp dn h1 h2 h3 h4
    rw [sX3_layStages_L10]
    unfold bX3_layStages_L10 bX3_layStages_L64
    by_cases h : L.length ≤ y
    · have : y = L.length := by omega
      subst this
      rw [if_pos (by rw [ii_le (by omega) (by omega)]; exact h)]
      obtain ⟨sp', dn', e, g1, g2⟩ := stg_L77 (F := F) (a := a) hF h6 h14 h3 h4 (ii L.length) (ii L.length) F 0 sp dn (by omega) (by omega) (fun k hk => by omega)
      rw [show ii 0 = (0 : Int32) from rfl, show ii (stP (rxL L) 0) = (1 : Int32) from rfl] at e
      rw [e]
      exact ⟨pl, ti, sp', dn', rfl, h3, h4, g1, g2⟩
    · have ty := hL _ (getD_mem (L := L) (k := y) (by omega))
      have hn6 := hn.1
      have hfy : L.getD y 0 / 2 < 6 := h6 y (by omega)
      have hcy : cnF L (L.getD y 0 / 2) y ≤ y := cnF_le L (fkA L y) y
      rw [if_neg (by rw [ii_le (by omega) (by omega)]; exact h), row_at (by omega) (by omega) a (by omega), if_pos (show y < L.length by omega), ha y (by omega), Option.bind_some, folkOf_eq (by omega), Option.bind_some]
      rw [if_neg (by rw [ii_nneg (by omega)]; simp), if_neg (by rw [k_6, ii_le (by omega) (by omega)]; omega), if_neg (nidx (by omega) (by omega)), ii_nat (by omega), h4 _ hfy, ii_14b, if_neg (nidx (by omega) (by omega)), if_neg (nidn (by omega) (by omega)), if_neg (nidn (by omega) (by omega)), ii_nat (by omega), e1k, e1k]
      refine ih (y + 1) _ _ sp dn (by omega) (by omega) ?_ ?_
      · intro z hz
        by_cases hzy : z = y
        · rw [hzy, upd_same]
        · rw [upd_ne _ _ (pl_ne (L := L) (by omega) (by omega) hzy)]
          exact h3 z (by omega)
      · intro f hf
        rw [cnF_s]
        by_cases hff : f = L.getD y 0 / 2
        · rw [hff, upd_same, ind_t rfl]
        · rw [upd_ne _ _ hff, h4 f hf, ind_f (fun h9 => hff h9.symm), Nat.add_zero]
theorem next_X {F : Nat} {L : List Nat} {MU : Nat → Nat} {be pl ti sp dn : Nat → Int32} (hX : ordX L MU be pl ti sp dn) (hM : okM L MU) (hMU : ∀ k, k < L.length → MU k < 2 ^ L.length) (h14 : L.length ≤ 14) {s f : Nat} (hs : s < stP (rxL L) 6) (hf : f < 6) : (∀ x, NX L MU s f x → fX3_nextPlace F (ii (stP (rxL L) 6)) 14 be 84 pl 6 ti 6 sp 1296 dn (ii s) (ii f) = some (ii x)) ∧ ((∀ x, ¬ NX L MU s f x) → fX3_nextPlace F (ii (stP (rxL L) 6)) 14 be 84 pl 6 ti 6 sp 1296 dn (ii s) (ii f) = some (-1)) := by
  obtain ⟨h1, h2, h3, h4, h5⟩ := hX
  have hK := stP_1296 hM.1 h14 (Nat.le_refl 6)
  have hKf := stP_1296 hM.1 h14 (show f ≤ 6 by omega)
  have hd : dg (rxL L) s f < cnF L f L.length + 1 := dg_lt (rxL_pos L) s f
  have hc := cnF_le L f L.length
  have hp := p2_le h14
  unfold fX3_nextPlace bX3_nextPlace_L32 bX3_nextPlace_L72
  rw [tied_X hf h14 (by omega) (h3 f hf) (h4 f hf) hKf]
  simp only [Option.bind_some]
  rw [if_neg (nidx (by omega) (by omega)), ii_nat (by omega), h3 f hf, h4 f hf, ii_14b, ii_add]
  by_cases hlt : cnF L f L.length ≤ dg (rxL L) s f
  · rw [if_pos (by rw [ii_le (by omega) (by omega)]; exact hlt)]
    refine ⟨fun x hx => ?_, fun _ => rfl⟩
    have := NX_dg hx
    have : dg (rxL L) s f + 1 < cnF L f L.length + 1 := this
    omega
  · obtain ⟨y, y1, y2, y3⟩ := cnF_ex (L := L) (f := f) (z := L.length) (n := dg (rxL L) s f) (by omega)
    have y4 : cnA L y = dg (rxL L) s f := by show cnF L (fkA L y) y = _; rw [y2, y3]
    have e := h2 y y1
    rw [y2, y4] at e
    have hin := dg_in (rxL_pos L) hf hs (show dg (rxL L) s f + 1 < cnF L f L.length + 1 by omega)
    have hdn := dnS_lt (L := L) (s := s)
    have hmy := hMU y y1
    have hb : (dnS L s).testBit y = false := by
      cases h9 : (dnS L s).testBit y
      · rfl
      · rw [dnS_b, y2, y4] at h9
        omega
    rw [if_neg (by rw [ii_le (by omega) (by omega)]; exact hlt), if_neg (nidn (by omega) (by omega)), if_pos (by rw [ii_lt (by omega) (by omega)]; exact hin), if_neg (nidx (by omega) (by omega)), ii_nat (by omega), e, if_neg (nidx (by omega) (by omega)), if_neg (nidx (by omega) (by omega)), ii_nat (by omega), ii_nat (by omega), h1 y y1, h5 s hs]
    have b1 := iSub (a := MU y) (b := dnS L s) (by omega) (by omega)
    by_cases hsub : subM (MU y) (dnS L s)
    · have hN : NX L MU s f y := ⟨y1, y2, y3, hb, hsub⟩
      rw [if_pos (by rw [b1]; exact hsub)]
      exact ⟨fun x hx => by rw [NX_1 hx hN], fun h9 => absurd hN (h9 y)⟩
    · rw [if_neg (by rw [b1]; exact hsub)]
      refine ⟨fun x hx => ?_, fun _ => rfl⟩
      have hxy : x = y := cnF_inj (L := L) (by rw [hx.2.1, y2]) (by rw [hx.2.1, y2, hx.2.2.1, y3])
      subst hxy
      exact absurd hx.2.2.2.2 hsub
