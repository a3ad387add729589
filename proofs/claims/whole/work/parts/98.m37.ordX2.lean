/-! PURE: the class counts; orders, ask -/
theorem ii_nm1 {x : Nat} (h : x < 2147483648) : ii x ≠ (-1 : Int32) := by
  intro h9
  have h10 : ¬ (ii x < 0) := by rw [ii_nneg h]; exact id
  rw [h9] at h10
  exact h10 (by decide)
theorem fil64_L {F N : Nat} (hN : N < 10000) : ∀ (d t k : Nat) (a : Nat → Int64), k + d = N → d < t → ∃ a', fJ7_fill_d0a16_L6 F N t 0 (ii k) (ii N) a = some a' ∧ (∀ j, k ≤ j → j < N → a' j = 0) ∧ ∀ j, j < k → a' j = a j := by
  intro d
  induction d with
  | zero =>
    intro t k a hk ht
    obtain ⟨t, rfl⟩ : ∃ t', t = t' + 1 := ⟨t - 1, by omega⟩
    rw [sJ7_fill_d0a16_L6]
    unfold bJ7_fill_d0a16_L6
    rw [if_pos (show ii N ≤ ii k by rw [ii_le (by omega) (by omega)]; omega)]
    exact ⟨_, rfl, fun j h1 h2 => absurd h1 (by omega), fun j _ => rfl⟩
  | succ d ih =>
    intro t k a hk ht
    obtain ⟨t, rfl⟩ : ∃ t', t = t' + 1 := ⟨t - 1, by omega⟩
    rw [sJ7_fill_d0a16_L6]
    unfold bJ7_fill_d0a16_L6
    rw [if_neg (show ¬ ii N ≤ ii k by rw [ii_le (by omega) (by omega)]; omega), if_neg (nidx (by omega) (by omega)), ii_nat (by omega), e1k]
    obtain ⟨a', e, g1, g2⟩ := ih t (k + 1) (vp_updL a k 0) (by omega) (by omega)
    refine ⟨a', e, fun j h1 h2 => ?_, fun j h1 => ?_⟩
    · by_cases hj : j = k
      · rw [hj, g2 _ (by omega), pk_uLs]
      · exact g1 j (by omega) h2
    · rw [g2 j (by omega), pk_uLn (by omega)]
theorem fil64_X {F N : Nat} (hN : N < 10000) (hF : N < F) (a : Nat → Int64) : ∃ a', fJ7_fill_d0a16 F N 0 a = some a' ∧ ∀ j, j < N → a' j = 0 := by
  obtain ⟨a', e, g1, -⟩ := fil64_L (F := F) hN N F 0 a (by omega) (by omega)
  exact ⟨a', e, fun j hj => g1 j (Nat.zero_le _) hj⟩
theorem cw_L27 {F s : Nat} {L : List Nat} {MU : Nat → Nat} {be pl ti sp dn : Nat → Int32} (hX : ordX L MU be pl ti sp dn) (hM : okM L MU) (hMU : ∀ k, k < L.length → MU k < 2 ^ L.length) (h14 : L.length ≤ 14) (hs : s < stP (rxL L) 6) (k17 : Int32 → (Nat → Int64) → Option (Nat → Int64)) :
    ∀ (t f : Nat) (w : Nat → Int64), 6 < f + t → f ≤ 6 → (∀ j, j < stP (rxL L) 6 → w j = il (tabP (cfC L MU 6) s j + cfC L MU f s j * tabP (cfC L MU 6) s s)) → ∃ w', fX3_countWays_L27 F (ii (stP (rxL L) 6)) 14 be 84 pl 6 ti 6 sp 1296 dn 1296 k17 t (ii s) (ii f) w = k17 (ii (s + 1)) w' ∧ ∀ j, j < stP (rxL L) 6 → w' j = il (tabP (cfC L MU 6) (s + 1) j) := by
  have hK := stP_1296 hM.1 h14 (Nat.le_refl 6)
  have hW : tabP (cfC L MU 6) s s ≤ 11112006825558016 := wyC_le hM h14 hs
  intro t
  induction t with
  | zero => intro f w h1 h2; omega
  | succ t ih =>
    intro f w h1 h2 h3
    rw [sX3_countWays_L27]
    unfold bX3_countWays_L27 bX3_countWays_L82 bX3_countWays_L76
    rw [e1k, e1k]
    have hw : w s = il (tabP (cfC L MU 6) s s) := by
      rw [h3 s hs, cfC_0 L MU f s s (Nat.le_refl _), Nat.zero_mul, Nat.add_zero]
    by_cases h : 6 ≤ f
    · have : f = 6 := by omega
      subst this
      rw [if_pos (by rw [k_6, ii_le (by omega) (by omega)]; exact h)]
      exact ⟨w, rfl, h3⟩
    · rw [if_neg (by rw [k_6, ii_le (by omega) (by omega)]; exact h), if_neg (nidx (by omega) (by omega)), ii_nat (by omega), hw]
      by_cases hz : tabP (cfC L MU 6) s s = 0
      · rw [if_pos (by rw [lg_cmp_eq, hz]; rfl)]
        refine ⟨w, rfl, ?_⟩
        intro j hj
        rw [h3 j hj, tabP_s, hz, Nat.mul_zero, Nat.mul_zero]
      · rw [if_neg (by
          rw [lg_cmp_eq, il_0]
          exact fun h9 => hz (il_in2 (by omega) (by omega) h9))]
        have nx := next_X (F := F) hX hM hMU h14 hs (show f < 6 by omega)
        by_cases hN : ∃ x, NX L MU s f x
        · obtain ⟨x, hN⟩ := hN
          have hin := NX_in hs (show f < 6 by omega) hN
          have hx14 := hN.1
          rw [nx.1 x hN, Option.bind_some, if_neg (ii_nm1 (by omega)), if_neg (nidx (by omega) (by omega)), ii_nat (by omega), hX.2.2.2.1 f (by omega), ii_add, if_neg (nidx (by omega) (by omega)), if_neg (nidn (by omega) (by omega)), if_neg (nidx (by omega) (by omega)), ii_nat (by omega)]
          refine ih (f + 1) _ (by omega) (by omega) ?_
          intro j hj
          rw [cfC_s, NX_s1 hN (fun _ => ind (s + stP (rxL L) f = j))]
          by_cases hj2 : j = s + stP (rxL L) f
          · subst hj2
            rw [pk_uLs, h3 _ hj, il_add, ind_t rfl, Nat.add_mul, Nat.one_mul, Nat.add_assoc]
          · rw [pk_uLn hj2, h3 j hj, ind_f (fun h9 => hj2 h9.symm), Nat.add_zero]
        · have hN2 : ∀ x, ¬ NX L MU s f x := fun x hx => hN ⟨x, hx⟩
          rw [nx.2 hN2, Option.bind_some, if_pos rfl]
          refine ih (f + 1) w (by omega) (by omega) ?_
          intro j hj
          rw [cfC_s, h3 j hj, NX_s0 hN2 (fun _ => ind (s + stP (rxL L) f = j)), Nat.add_zero]
theorem cw_L17 {F : Nat} {L : List Nat} {MU : Nat → Nat} {be pl ti sp dn : Nat → Int32} (hF : 2000 ≤ F) (hX : ordX L MU be pl ti sp dn) (hM : okM L MU) (hMU : ∀ k, k < L.length → MU k < 2 ^ L.length) (h14 : L.length ≤ 14) :
    ∀ (t s : Nat) (w : Nat → Int64), stP (rxL L) 6 < s + t → s ≤ stP (rxL L) 6 → (∀ j, j < stP (rxL L) 6 → w j = il (tabP (cfC L MU 6) s j)) → ∃ w', fX3_countWays_L17 F (ii (stP (rxL L) 6)) 14 be 84 pl 6 ti 6 sp 1296 dn 1296 t (ii s) w = some w' ∧ ∀ j, j < stP (rxL L) 6 → w' j = il (wyC L MU j) := by
  have hK := stP_1296 hM.1 h14 (Nat.le_refl 6)
  intro t
  induction t with
  | zero => intro s w h1 h2; omega
  | succ t ih =>
    intro s w h1 h2 h3
    rw [sX3_countWays_L17]
    unfold bX3_countWays_L17
    by_cases h : stP (rxL L) 6 ≤ s
    · have : s = stP (rxL L) 6 := by omega
      subst this
      rw [if_pos (by rw [ii_le (by omega) (by omega)]; exact h)]
      refine ⟨w, rfl, ?_⟩
      intro j hj
      rw [h3 j hj]
      obtain ⟨d, hd⟩ : ∃ d, stP (rxL L) 6 = j + d := ⟨stP (rxL L) 6 - j, by omega⟩
      rw [show tabP (cfC L MU 6) (stP (rxL L) 6) j = tabP (cfC L MU 6) (j + d) j from by rw [← hd], tabP_fin (cfC_0 L MU 6)]
      rfl
    · rw [if_neg (by rw [ii_le (by omega) (by omega)]; exact h)]
      obtain ⟨w', e, g⟩ := cw_L27 (F := F) (s := s) hX hM hMU h14 (by omega) (fX3_countWays_L17 F (ii (stP (rxL L) 6)) 14 be 84 pl 6 ti 6 sp 1296 dn 1296 t) F 0 w (by omega) (by omega) (by
        intro j hj
        rw [h3 j hj, show cfC L MU 0 s j = 0 from rfl, Nat.zero_mul, Nat.add_zero])
      rw [k_0, e]
      exact ih (s + 1) w' (by omega) (by omega) g
theorem cw_X {F : Nat} {L : List Nat} {MU : Nat → Nat} {be pl ti sp dn : Nat → Int32} (hF : 2000 ≤ F) (hX : ordX L MU be pl ti sp dn) (hM : okM L MU) (hMU : ∀ k, k < L.length → MU k < 2 ^ L.length) (h14 : L.length ≤ 14) (w : Nat → Int64) : ∃ w', fX3_countWays F (ii (stP (rxL L) 6)) 14 be 84 pl 6 ti 6 sp 1296 dn 1296 w = some w' ∧ ∀ j, j < stP (rxL L) 6 → w' j = il (wyC L MU j) := by
  have hK := stP_1296 hM.1 h14 (Nat.le_refl 6)
  obtain ⟨w1, e, g⟩ := fil64_X (F := F) (N := 1296) (by omega) (by omega) w
  unfold fX3_countWays
  rw [e, Option.bind_some, if_neg (by decide), show ((0 : Int32)).toNatClampNeg = 0 from rfl]
  refine cw_L17 hF hX hM hMU h14 F 0 _ (by omega) (by omega) ?_
  intro j hj
  by_cases h0 : j = 0
  · rw [h0, pk_uLs]
    rfl
  · rw [pk_uLn h0, g j (by omega)]
    show (0 : Int64) = il (ind (j = 0))
    rw [ind_f h0]
    rfl
theorem co_L34 {F s : Nat} {L : List Nat} {MU : Nat → Nat} {be pl ti sp dn : Nat → Int32} (hX : ordX L MU be pl ti sp dn) (hM : okM L MU) (hMU : ∀ k, k < L.length → MU k < 2 ^ L.length) (h14 : L.length ≤ 14) (hs : s < stP (rxL L) 6) (k7 : Int32 → (Nat → Int64) → Option (Nat → Int64)) :
    ∀ (t f : Nat) (v : Nat → Int64), 6 < f + t → f ≤ 6 → v s = il (ind (s = stP (rxL L) 6 - 1) + sN f (fun f => sN L.length (fun x => ind (NX L MU s f x) * mW L.length MU (dnS L s ||| 2 ^ x)))) → (∀ j, s < j → j < stP (rxL L) 6 → v j = il (mW L.length MU (dnS L j))) → ∃ v', fX3_countOnward_L34 F (ii (stP (rxL L) 6)) 14 be 84 pl 6 ti 6 sp 1296 dn 1296 k7 t (ii s) (ii f) v = k7 (ii s + (-1 : Int32)) v' ∧ ∀ j, s ≤ j → j < stP (rxL L) 6 → v' j = il (mW L.length MU (dnS L j)) := by
  have hK := stP_1296 hM.1 h14 (Nat.le_refl 6)
  intro t
  induction t with
  | zero => intro f v h1 h2; omega
  | succ t ih =>
    intro f v h1 h2 h3 h4
    rw [sX3_countOnward_L34]
    unfold bX3_countOnward_L34 bX3_countOnward_L72
    rw [e1k]
    by_cases h : 6 ≤ f
    · have : f = 6 := by omega
      subst this
      rw [if_pos (by rw [k_6, ii_le (by omega) (by omega)]; exact h)]
      refine ⟨v, rfl, ?_⟩
      intro j hj1 hj2
      by_cases hj : j = s
      · rw [hj, h3, ← mW_C hM hs]
      · exact h4 j (by omega) hj2
    · rw [if_neg (by rw [k_6, ii_le (by omega) (by omega)]; exact h)]
      have nx := next_X (F := F) hX hM hMU h14 hs (show f < 6 by omega)
      by_cases hN : ∃ x, NX L MU s f x
      · obtain ⟨x, hN⟩ := hN
        have hin := NX_in hs (show f < 6 by omega) hN
        have hx14 := hN.1
        have hsp := stP_pos (rxL_pos L) f
        rw [nx.1 x hN, Option.bind_some, if_neg (ii_nm1 (by omega)), if_neg (nidx (by omega) (by omega)), if_neg (nidx (by omega) (by omega)), ii_nat (by omega), ii_nat (by omega), hX.2.2.2.1 f (by omega), ii_add, if_neg (nidx (by omega) (by omega)), if_neg (nidn (by omega) (by omega)), ii_nat (by omega)]
        refine ih (f + 1) _ (by omega) (by omega) ?_ ?_
        · rw [pk_uLs, h3, h4 _ (by omega) hin, il_add, sN_s, NX_s1 hN (fun x => mW L.length MU (dnS L s ||| 2 ^ x)), NX_dn hN, Nat.add_assoc]
        · intro j hj1 hj2
          rw [pk_uLn (by omega)]
          exact h4 j hj1 hj2
      · have hN2 : ∀ x, ¬ NX L MU s f x := fun x hx => hN ⟨x, hx⟩
        rw [nx.2 hN2, Option.bind_some, if_pos rfl]
        refine ih (f + 1) v (by omega) (by omega) ?_ h4
        rw [h3, sN_s, NX_s0 hN2 (fun x => mW L.length MU (dnS L s ||| 2 ^ x)), Nat.add_zero]
theorem co_L7 {F : Nat} {L : List Nat} {MU : Nat → Nat} {be pl ti sp dn : Nat → Int32} (hF : 2000 ≤ F) (hX : ordX L MU be pl ti sp dn) (hM : okM L MU) (hMU : ∀ k, k < L.length → MU k < 2 ^ L.length) (h14 : L.length ≤ 14) :
    ∀ (t r : Nat) (v : Nat → Int64), r < t → r ≤ stP (rxL L) 6 → (∀ j, r ≤ j → j < stP (rxL L) 6 → v j = il (mW L.length MU (dnS L j))) → ∃ v', fX3_countOnward_L7 F (ii (stP (rxL L) 6)) 14 be 84 pl 6 ti 6 sp 1296 dn 1296 t (iz ((r : Int) - 1)) v = some v' ∧ ∀ j, j < stP (rxL L) 6 → v' j = il (mW L.length MU (dnS L j)) := by
  have hK := stP_1296 hM.1 h14 (Nat.le_refl 6)
  have hp := stP_pos (rxL_pos L) 6
  intro t
  induction t with
  | zero => intro r v h1 h2; omega
  | succ t ih =>
    intro r v h1 h2 h3
    rw [sX3_countOnward_L7]
    unfold bX3_countOnward_L7 bX3_countOnward_L31
    cases r with
    | zero =>
      rw [if_pos (by decide)]
      exact ⟨v, rfl, fun j hj => h3 j (by omega) hj⟩
    | succ r =>
      have e0 : iz (((r + 1 : Nat) : Int) - 1) = ii r := by
        rw [ii_iz]
        congr 1
        omega
      have e3 : ii r + (-1 : Int32) = iz ((r : Int) - 1) := by
        rw [ii_iz, kz_m1, iz_add]
        rfl
      have e4 : ii (stP (rxL L) 6) - (1 : Int32) = ii (stP (rxL L) 6 - 1) := by rw [k_1, ii_sub (by omega)]
      have go : ∀ z : Int64, z = il (ind (r = stP (rxL L) 6 - 1)) → ∃ v', fX3_countOnward_L34 F (ii (stP (rxL L) 6)) 14 be 84 pl 6 ti 6 sp 1296 dn 1296 (fX3_countOnward_L7 F (ii (stP (rxL L) 6)) 14 be 84 pl 6 ti 6 sp 1296 dn 1296 t) F (ii r) 0 (vp_updL v r z) = some v' ∧ ∀ j, j < stP (rxL L) 6 → v' j = il (mW L.length MU (dnS L j)) := by
        intro z hz
        obtain ⟨v', e, g⟩ := co_L34 (F := F) (s := r) hX hM hMU h14 (by omega) (fX3_countOnward_L7 F (ii (stP (rxL L) 6)) 14 be 84 pl 6 ti 6 sp 1296 dn 1296 t) F 0 (vp_updL v r z) (by omega) (by omega) (by rw [pk_uLs, hz, sN_0, Nat.add_zero]) (by
          intro j hj1 hj2
          rw [pk_uLn (by omega)]
          exact h3 j (by omega) hj2)
        rw [k_0, e, e3]
        exact ih r v' (by omega) (by omega) g
      rw [e0, if_neg (by rw [ii_nneg (by omega)]; simp), e4]
      by_cases hr : r = stP (rxL L) 6 - 1
      · rw [if_pos (by rw [ii_inj (by omega) (by omega)]; exact hr), if_neg (nidx (by omega) (by omega)), ii_nat (by omega)]
        exact go 1 (by rw [ind_t hr]; rfl)
      · rw [if_neg (by rw [ii_inj (by omega) (by omega)]; exact hr), if_neg (nidx (by omega) (by omega)), ii_nat (by omega)]
        exact go 0 (by rw [ind_f hr]; rfl)
theorem co_X {F : Nat} {L : List Nat} {MU : Nat → Nat} {be pl ti sp dn : Nat → Int32} (hF : 2000 ≤ F) (hX : ordX L MU be pl ti sp dn) (hM : okM L MU) (hMU : ∀ k, k < L.length → MU k < 2 ^ L.length) (h14 : L.length ≤ 14) (v : Nat → Int64) : ∃ v', fX3_countOnward F (ii (stP (rxL L) 6)) 14 be 84 pl 6 ti 6 sp 1296 dn 1296 v = some v' ∧ ∀ j, j < stP (rxL L) 6 → v' j = il (mW L.length MU (dnS L j)) := by
  have hK := stP_1296 hM.1 h14 (Nat.le_refl 6)
  have hp := stP_pos (rxL_pos L) 6
  unfold fX3_countOnward
  have e : ii (stP (rxL L) 6) - (1 : Int32) = iz (((stP (rxL L) 6 : Nat) : Int) - 1) := by
    rw [ii_iz, k_1, ii_iz, iz_sub]
    rfl
  rw [e]
  exact co_L7 hF hX hM hMU h14 F (stP (rxL L) 6) v (by omega) (by omega) (fun j h1 h2 => by omega)
theorem af_L3 {F D k Z m : Nat} (hm : m ≤ 14) (hD : D < 2 ^ m) (hk : k < m) (B : Nat → Nat → Nat) :
    ∀ (t i : Nat) (A : Nat → Int64), m < i + t → i ≤ m → (∀ i' k', i' < m → k' < m → A (14 * i' + k') = il (B i' k' + ind (k' = k ∧ i' < i) * (ind (D.testBit i' = true) * Z))) → ∃ A', fX3_addFirsts_L3 F (ii m) 196 t (ii k) (ii D) (il Z) (ii i) A = some A' ∧ ∀ i' k', i' < m → k' < m → A' (14 * i' + k') = il (B i' k' + ind (k' = k) * (ind (D.testBit i' = true) * Z)) := by
  have hp := p2_le hm
  intro t
  induction t with
  | zero => intro i A h1 h2; omega
  | succ t ih =>
    intro i A h1 h2 h3
    rw [sX3_addFirsts_L3]
    unfold bX3_addFirsts_L3 bX3_addFirsts_L37
    rw [e1k, ii_14b]
    by_cases h : m ≤ i
    · have : i = m := by omega
      subst this
      rw [if_pos (by rw [ii_le (by omega) (by omega)]; exact h)]
      refine ⟨A, rfl, ?_⟩
      intro i' k' hi' hk'
      rw [h3 i' k' hi' hk', ind_c (show (k' = k ∧ i' < i) ↔ k' = k from ⟨fun h => h.1, fun h => ⟨h, hi'⟩⟩)]
    · have b0 := iBit0 (S := D) (k := i) (by omega) (by omega)
      rw [if_neg (by rw [ii_le (by omega) (by omega)]; exact h)]
      by_cases hb : D.testBit i = true
      · rw [if_neg (by rw [b0, hb]; decide), if_neg (nidx (by omega) (by omega)), if_neg (nidx (by omega) (by omega)), ii_nat (by omega)]
        refine ih (i + 1) _ (by omega) (by omega) ?_
        intro i' k' hi' hk'
        by_cases hj : 14 * i' + k' = 14 * i + k
        · have a1 : i' = i := by omega
          have a2 : k' = k := by omega
          subst a1 a2
          rw [pk_uLs, h3 i' k' hi' hk', il_add, ind_f (p := k' = k' ∧ i' < i') (fun h9 => by omega), ind_t (p := k' = k' ∧ i' < i' + 1) ⟨rfl, by omega⟩, ind_t hb, Nat.zero_mul, Nat.add_zero, Nat.one_mul, Nat.one_mul]
        · rw [pk_uLn hj, h3 i' k' hi' hk', ind_c (show (k' = k ∧ i' < i) ↔ (k' = k ∧ i' < i + 1) from ⟨fun h => ⟨h.1, by omega⟩, fun h => ⟨h.1, by omega⟩⟩)]
      · rw [if_pos (by rw [b0]; simpa using hb)]
        refine ih (i + 1) A (by omega) (by omega) ?_
        intro i' k' hi' hk'
        rw [h3 i' k' hi' hk']
        by_cases hj : i' = i
        · subst hj
          rw [ind_f hb, Nat.zero_mul, Nat.mul_zero, Nat.mul_zero]
        · rw [ind_c (show (k' = k ∧ i' < i) ↔ (k' = k ∧ i' < i + 1) from ⟨fun h => ⟨h.1, by omega⟩, fun h => ⟨h.1, by omega⟩⟩)]
theorem cf_L20 {F s : Nat} {L : List Nat} {MU : Nat → Nat} {be pl ti sp dn : Nat → Int32} {w v : Nat → Int64} (hF : 2000 ≤ F) (hX : ordX L MU be pl ti sp dn) (hM : okM L MU) (hMU : ∀ k, k < L.length → MU k < 2 ^ L.length) (h14 : L.length ≤ 14) (hw : ∀ j, j < stP (rxL L) 6 → w j = il (wyC L MU j)) (hv : ∀ j, j < stP (rxL L) 6 → v j = il (mW L.length MU (dnS L j))) (hs : s < stP (rxL L) 6) (B : Nat → Nat → Nat) (k10 : Int32 → (Nat → Int64) → Option (Nat → Int64)) :
    ∀ (t f : Nat) (A : Nat → Int64), 6 < f + t → f ≤ 6 → (∀ i' k', i' < L.length → k' < L.length → A (14 * i' + k') = il (B i' k' + tmC L MU f i' k' s)) → ∃ A', fX3_countFirsts_L20 F (ii L.length) (ii (stP (rxL L) 6)) 14 be 84 pl 6 ti 6 sp 1296 dn 1296 w 1296 v 196 k10 t (ii s) (ii f) A = k10 (ii (s + 1)) A' ∧ ∀ i' k', i' < L.length → k' < L.length → A' (14 * i' + k') = il (B i' k' + tmC L MU 6 i' k' s) := by
  have hK := stP_1296 hM.1 h14 (Nat.le_refl 6)
  have hW := wyC_le hM h14 hs
  intro t
  induction t with
  | zero => intro f A h1 h2; omega
  | succ t ih =>
    intro f A h1 h2 h3
    rw [sX3_countFirsts_L20]
    unfold bX3_countFirsts_L20 bX3_countFirsts_L86 bX3_countFirsts_L80
    rw [e1k, e1k]
    by_cases h : 6 ≤ f
    · have : f = 6 := by omega
      subst this
      rw [if_pos (by rw [k_6, ii_le (by omega) (by omega)]; exact h)]
      exact ⟨A, rfl, h3⟩
    · rw [if_neg (by rw [k_6, ii_le (by omega) (by omega)]; exact h), if_neg (nidx (by omega) (by omega)), ii_nat (by omega), hw s hs]
      by_cases hz : wyC L MU s = 0
      · rw [if_pos (by rw [lg_cmp_eq, hz]; rfl)]
        refine ⟨A, rfl, ?_⟩
        intro i' k' hi' hk'
        rw [h3 i' k' hi' hk']
        have e0 : ∀ q, tmC L MU q i' k' s = 0 := fun q => sN_z (fun f _ => sN_z (fun x _ => by rw [hz, Nat.zero_mul, Nat.mul_zero, Nat.mul_zero, Nat.mul_zero]))
        rw [e0, e0]
      · rw [if_neg (by
          rw [lg_cmp_eq, il_0]
          exact fun h9 => hz (il_in2 (by omega) (by omega) h9))]
        have nx := next_X (F := F) hX hM hMU h14 hs (show f < 6 by omega)
        by_cases hN : ∃ x, NX L MU s f x
        · obtain ⟨x, hN⟩ := hN
          have hin := NX_in hs (show f < 6 by omega) hN
          have hx14 := hN.1
          obtain ⟨A', e, g⟩ := af_L3 (F := F) (D := dnS L s) (k := x) (Z := wyC L MU s * mW L.length MU (dnS L s ||| 2 ^ x)) h14 dnS_lt hx14 (fun i' k' => B i' k' + tmC L MU f i' k' s) F 0 A (by omega) (by omega) (by
            intro i' k' hi' hk'
            rw [h3 i' k' hi' hk', ind_f (p := k' = x ∧ i' < 0) (fun h9 => by omega), Nat.zero_mul, Nat.add_zero])
          rw [nx.1 x hN, Option.bind_some, if_neg (ii_nm1 (by omega)), if_neg (nidx (by omega) (by omega)), if_neg (nidn (by omega) (by omega)), if_neg (nidn (by omega) (by omega)), ii_nat (by omega), hX.2.2.2.1 f (by omega), ii_add, if_neg (nidx (by omega) (by omega)), ii_nat (by omega), hX.2.2.2.2 s hs, hv _ hin, NX_dn hN, il_mul]
          unfold fX3_addFirsts
          rw [k_0, e, Option.bind_some]
          refine ih (f + 1) A' (by omega) (by omega) ?_
          intro i' k' hi' hk'
          rw [g i' k' hi' hk', tmC_s, NX_s1 hN (fun x => ind (x = k') * (ind ((dnS L s).testBit i' = true) * (wyC L MU s * mW L.length MU (dnS L s ||| 2 ^ x)))), ind_c (show k' = x ↔ x = k' from eq_comm), Nat.add_assoc]
        · have hN2 : ∀ x, ¬ NX L MU s f x := fun x hx => hN ⟨x, hx⟩
          rw [nx.2 hN2, Option.bind_some, if_pos rfl]
          refine ih (f + 1) A (by omega) (by omega) ?_
          intro i' k' hi' hk'
          rw [h3 i' k' hi' hk', tmC_s, NX_s0 hN2 (fun x => ind (x = k') * (ind ((dnS L s).testBit i' = true) * (wyC L MU s * mW L.length MU (dnS L s ||| 2 ^ x)))), Nat.add_zero]
theorem cf_L10 {F : Nat} {L : List Nat} {MU : Nat → Nat} {be pl ti sp dn : Nat → Int32} {w v : Nat → Int64} (hF : 2000 ≤ F) (hX : ordX L MU be pl ti sp dn) (hM : okM L MU) (hMU : ∀ k, k < L.length → MU k < 2 ^ L.length) (h14 : L.length ≤ 14) (hw : ∀ j, j < stP (rxL L) 6 → w j = il (wyC L MU j)) (hv : ∀ j, j < stP (rxL L) 6 → v j = il (mW L.length MU (dnS L j))) :
    ∀ (t s : Nat) (A : Nat → Int64), stP (rxL L) 6 < s + t → s ≤ stP (rxL L) 6 → (∀ i' k', i' < L.length → k' < L.length → A (14 * i' + k') = il (sN s (tmC L MU 6 i' k'))) → ∃ A', fX3_countFirsts_L10 F (ii L.length) (ii (stP (rxL L) 6)) 14 be 84 pl 6 ti 6 sp 1296 dn 1296 w 1296 v 196 t (ii s) A = some A' ∧ ∀ i' k', i' < L.length → k' < L.length → A' (14 * i' + k') = il (aW L.length MU i' k') := by
  have hK := stP_1296 hM.1 h14 (Nat.le_refl 6)
  intro t
  induction t with
  | zero => intro s A h1 h2; omega
  | succ t ih =>
    intro s A h1 h2 h3
    rw [sX3_countFirsts_L10]
    unfold bX3_countFirsts_L10
    by_cases h : stP (rxL L) 6 ≤ s
    · have : s = stP (rxL L) 6 := by omega
      subst this
      rw [if_pos (by rw [ii_le (by omega) (by omega)]; exact h)]
      refine ⟨A, rfl, ?_⟩
      intro i' k' hi' hk'
      rw [h3 i' k' hi' hk', aW_C hM hk']
    · rw [if_neg (by rw [ii_le (by omega) (by omega)]; exact h)]
      obtain ⟨A', e, g⟩ := cf_L20 (F := F) (s := s) hF hX hM hMU h14 hw hv (by omega) (fun i' k' => sN s (tmC L MU 6 i' k')) (fX3_countFirsts_L10 F (ii L.length) (ii (stP (rxL L) 6)) 14 be 84 pl 6 ti 6 sp 1296 dn 1296 w 1296 v 196 t) F 0 A (by omega) (by omega) (by
        intro i' k' hi' hk'
        rw [h3 i' k' hi' hk', show tmC L MU 0 i' k' s = 0 from rfl, Nat.add_zero])
      rw [k_0, e]
      exact ih (s + 1) A' (by omega) (by omega) g
theorem all_X {F : Nat} {L : List Nat} {MU : Nat → Nat} {w : Nat → Int64} (hM : okM L MU) (h14 : L.length ≤ 14) (hw : ∀ j, j < stP (rxL L) 6 → w j = il (wyC L MU j)) : fX3_all F (ii (stP (rxL L) 6)) 1296 w = some (il (nW L.length MU (2 ^ L.length - 1))) := by
  have hK := stP_1296 hM.1 h14 (Nat.le_refl 6)
  have hp := stP_pos (rxL_pos L) 6
  unfold fX3_all bX3_all_L22
  have e4 : ii (stP (rxL L) 6) - (1 : Int32) = ii (stP (rxL L) 6 - 1) := by rw [k_1, ii_sub (by omega)]
  rw [if_neg (by rw [k_0, ii_le (by omega) (by omega)]; omega), e4, if_neg (nidx (by omega) (by omega)), ii_nat (by omega), hw _ (by omega), wyC_full hM]
