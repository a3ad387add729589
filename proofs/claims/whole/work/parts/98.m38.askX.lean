/-! PURE: orders and ask of the class -/
theorem max64 {F a b : Nat} (ha : a < 2 ^ 63) (hb : b < 2 ^ 63) : fJ9_max_f86c9 F (il a) (il b) = some (il (mxN a b)) := by
  unfold fJ9_max_f86c9 bJ9_max_f86c9_L11 mxN
  by_cases h : a < b
  · rw [if_pos (by rw [lg_cmp_lt, il_lt ha hb]; exact h), if_pos (by omega)]
  · rw [if_neg (by rw [lg_cmp_lt, il_lt ha hb]; exact h)]
    by_cases h2 : a ≤ b
    · rw [if_pos h2, show a = b by omega]
    · rw [if_neg h2]
theorem ba_L33 {F : Nat} {L : List Nat} {MU : Nat → Nat} {w ia : Nat → Int64} (hM : okM L MU) (h14 : L.length ≤ 14) (hw : ∀ j, j < stP (rxL L) 6 → w j = il (wyC L MU j)) (hA : ∀ i k, i < L.length → k < L.length → ia (14 * i + k) = il (aW L.length MU i k)) (be pl ti sp dn : Nat → Int32) (v : Nat → Int64) {a : Nat} (ha : a < L.length) (k18 : Int64 → Int32 → Int32 → (Nat → Int64) → (Nat → Int64) → Option (Int32 × (Nat → Int64) × (Nat → Int64))) :
    ∀ (t b : Nat) (st : Nat × Int32), L.length < b + t → a < b → b ≤ L.length → st.1 < 2 ^ 62 → fX3_bestToAsk_L33 F (ii L.length) (ii (stP (rxL L) 6)) 14 be 84 pl 6 ti 6 sp 1296 dn 1296 w 1296 196 k18 t (il st.1) st.2 (ii a) (ii b) v ia = k18 (il (akI (aW L.length MU) a (L.length - b) b st).1) (akI (aW L.length MU) a (L.length - b) b st).2 (ii (a + 1)) v ia := by
  intro t
  induction t with
  | zero => intro b st h1 h2; omega
  | succ t ih =>
    intro b st h1 h2 h3 h4
    have hp0 := Nat.two_pow_pos L.length
    have hN := nW_le (mu := MU) h14 (show 2 ^ L.length - 1 < 2 ^ L.length by omega)
    rw [sX3_bestToAsk_L33]
    unfold bX3_bestToAsk_L33 bX3_bestToAsk_L90
    have e3 : ii a * (24 : Int32) + ii b = ii (24 * a + b) := by rw [k_24, ii_mul, ii_add, Nat.mul_comm a 24]
    rw [e1k, e1k, e3, ii_14b]
    by_cases h : L.length ≤ b
    · have : b = L.length := by omega
      subst this
      rw [if_pos (by rw [ii_le (by omega) (by omega)]; exact h), Nat.sub_self]
      rfl
    · have hall := aW_all MU ha (show b < L.length by omega) (show a ≠ b by omega)
      have er : L.length - b = (L.length - (b + 1)) + 1 := by omega
      have e9 : nW L.length MU (2 ^ L.length - 1) - aW L.length MU a b = aW L.length MU b a := by omega
      rw [if_neg (by rw [ii_le (by omega) (by omega)]; exact h), if_neg (nidx (by omega) (by omega)), ii_nat (by omega), all_X hM h14 hw, Option.bind_some, hA a b ha (by omega), il_sub (by omega), e9, max64 (by omega) (by omega), Option.bind_some, er]
      show _ = k18 (il (akI (aW L.length MU) a (L.length - (b + 1)) (b + 1) (stA (aW L.length MU) a b st)).1) (akI (aW L.length MU) a (L.length - (b + 1)) (b + 1) (stA (aW L.length MU) a b st)).2 (ii (a + 1)) v ia
      have hy : mxN (aW L.length MU a b) (aW L.length MU b a) ≤ 11112006825558016 := mxN_le (by omega) (by omega)
      have hs9 := ih (b + 1) (stA (aW L.length MU) a b st) (by omega) (by omega) (by omega) (by have := stA_le (A := aW L.length MU) (a := a) (b := b) (st := st); omega)
      by_cases hc : mxN (aW L.length MU a b) (aW L.length MU b a) < st.1
      · rw [if_neg (by rw [lg_cmp_ge, il_le (by omega) (by omega)]; omega), ← hs9]
        unfold stA
        rw [if_pos hc]
      · rw [if_pos (by rw [lg_cmp_ge, il_le (by omega) (by omega)]; omega), ← hs9]
        unfold stA
        rw [if_neg hc]
theorem ba_L18 {F : Nat} {L : List Nat} {MU : Nat → Nat} {w ia : Nat → Int64} (hF : 2000 ≤ F) (hM : okM L MU) (h14 : L.length ≤ 14) (hw : ∀ j, j < stP (rxL L) 6 → w j = il (wyC L MU j)) (hA : ∀ i k, i < L.length → k < L.length → ia (14 * i + k) = il (aW L.length MU i k)) (be pl ti sp dn : Nat → Int32) (v : Nat → Int64) :
    ∀ (t a : Nat) (st : Nat × Int32), L.length < a + t → a ≤ L.length → st.1 < 2 ^ 62 → fX3_bestToAsk_L18 F (ii L.length) (ii (stP (rxL L) 6)) 14 be 84 pl 6 ti 6 sp 1296 dn 1296 w 1296 196 t (il st.1) st.2 (ii a) v ia = some ((akO (aW L.length MU) L.length (L.length - a) a st).2, v, ia) := by
  intro t
  induction t with
  | zero => intro a st h1 h2; omega
  | succ t ih =>
    intro a st h1 h2 h4
    rw [sX3_bestToAsk_L18]
    unfold bX3_bestToAsk_L18
    rw [e1k]
    by_cases h : L.length ≤ a
    · have : a = L.length := by omega
      subst this
      rw [if_pos (by rw [ii_le (by omega) (by omega)]; exact h), Nat.sub_self]
      rfl
    · have er : L.length - a = (L.length - (a + 1)) + 1 := by omega
      rw [if_neg (by rw [ii_le (by omega) (by omega)]; exact h), ba_L33 hM h14 hw hA be pl ti sp dn v (show a < L.length by omega) _ F (a + 1) st (by omega) (by omega) (by omega) h4, er]
      have := akI_le (A := aW L.length MU) (a := a) (L.length - (a + 1)) (a + 1) st
      rw [ih (a + 1) _ (by omega) (by omega) (by omega)]
      rfl
theorem best_X {F : Nat} {L : List Nat} {MU : Nat → Nat} {be pl ti sp dn : Nat → Int32} {w : Nat → Int64} (hF : 2000 ≤ F) (hX : ordX L MU be pl ti sp dn) (hM : okM L MU) (hMU : ∀ k, k < L.length → MU k < 2 ^ L.length) (h14 : L.length ≤ 14) (hw : ∀ j, j < stP (rxL L) 6 → w j = il (wyC L MU j)) (v fs : Nat → Int64) :
    ∃ v' fs', fX3_bestToAsk F (ii L.length) (ii (stP (rxL L) 6)) 14 be 84 pl 6 ti 6 sp 1296 dn 1296 w 1296 196 v fs = some ((akO (aW L.length MU) L.length L.length 0 (nW L.length MU (2 ^ L.length - 1), -1)).2, v', fs') := by
  obtain ⟨v', e1, g1⟩ := co_X (F := F) hF hX hM hMU h14 v
  obtain ⟨f1, e2, g2⟩ := fil64_X (F := F) (N := 196) (by omega) (by omega) fs
  have hK := stP_1296 hM.1 h14 (Nat.le_refl 6)
  obtain ⟨f2, e3, g3⟩ := cf_L10 (F := F) hF hX hM hMU h14 hw g1 F 0 f1 (by omega) (by omega) (by
    intro i' k' hi' hk'
    rw [g2 _ (by omega)]
    rfl)
  have hp0 := Nat.two_pow_pos L.length
  have hN := nW_le (mu := MU) h14 (show 2 ^ L.length - 1 < 2 ^ L.length by omega)
  unfold fX3_bestToAsk fX3_countFirsts
  rw [show ii 0 = (0 : Int32) from rfl] at e3
  rw [e1, Option.bind_some, e2, Option.bind_some, e3, Option.bind_some, all_X hM h14 hw, Option.bind_some]
  have := ba_L18 (F := F) hF hM h14 hw g3 be pl ti sp dn v' F 0 (nW L.length MU (2 ^ L.length - 1), -1) (by omega) (by omega) (by show nW _ _ _ < _; omega)
  rw [Nat.sub_zero] at this
  exact ⟨v', f2, this⟩
theorem prep_X {F n : Nat} {mk rd : Nat → Nat} {st ro : Nat → Int32} (hn : okN n mk rd) (hx : netX n mk rd st ro) (hF : 2000 ≤ F) {L E G : List Nat} {a ea la : Nat → Int32} (hL : okL n L) (ha : rL a L) (h14 : L.length ≤ 14) (hE : rL ea E) (hGl : rL la G) (hG : G.length = E.length) (h8 : E.length ≤ 8) (hE1 : ∀ e ∈ E, e < L.length) (hG1 : ∀ g ∈ G, g < L.length) (t9 s9 : Int32) (be pl ti sp dn : Nat → Int32) (w : Nat → Int64) :
    ∃ be' pl' ti' sp' dn' w', fX3_prepare F 14 84 6 6 1296 1296 6 st (ii E.length) (ii L.length) 24 a 8 ea 8 la t9 s9 be pl ti sp dn w = some (1, ii L.length, ii (stP (rxL L) 6), be', pl', ti', sp', dn', w') ∧ ordX L (muA mk L E G) be' pl' ti' sp' dn' ∧ ∀ j, j < stP (rxL L) 6 → w' j = il (wyC L (muA mk L E G) j) := by
  have hM : okM L (muA mk L E G) := muA_ok hn hL
  have hMU : ∀ k, k < L.length → muA mk L E G k < 2 ^ L.length := fun k hk => muE_lt (by omega) (Nat.le_refl _) hE1
  obtain ⟨be', e1, g1⟩ := bef_L8 (F := F) hn hx (by omega) hL ha h14 hE hGl hG h8 hE1 hG1 F 0 be (by omega) (by omega) (fun k hk => by omega)
  obtain ⟨t1, e2, g2⟩ := fill_X (F := F) (N := 6) (by omega) (by omega) ti
  obtain ⟨pl', ti', sp', dn', e3, q1, q2, q3, q4⟩ := stg_L10 (F := F) hn hF hL ha hM.1 h14 s9 F 0 pl t1 sp dn (by omega) (by omega) (fun z hz => by omega) (by
    intro f hf
    rw [g2 f hf]
    rfl)
  have hX : ordX L (muA mk L E G) be' pl' ti' sp' dn' := ⟨g1, q1, q2, q3, q4⟩
  obtain ⟨w', e4, g4⟩ := cw_X (F := F) hF hX hM hMU h14 w
  unfold fX3_prepare fX3_layBefore fX3_layStages
  rw [show ii 0 = (0 : Int32) from rfl] at e1 e3
  rw [if_pos (by rw [k_14, ii_le (by omega) (by omega)]; exact h14), e1, Option.bind_some, e2, Option.bind_some, e3, Option.bind_some, e4, Option.bind_some]
  exact ⟨_, _, _, _, _, _, rfl, hX, g4⟩
theorem orders_X {F n : Nat} {mk rd : Nat → Nat} {st ro : Nat → Int32} (hn : okN n mk rd) (hx : netX n mk rd st ro) (hF : 2000 ≤ F) {L E G : List Nat} {a ea la : Nat → Int32} (hL : okL n L) (ha : rL a L) (h14 : L.length ≤ 14) (hE : rL ea E) (hGl : rL la G) (hG : G.length = E.length) (h8 : E.length ≤ 8) (hE1 : ∀ e ∈ E, e < L.length) (hG1 : ∀ g ∈ G, g < L.length) (t9 s9 : Int32) (be pl ti sp dn : Nat → Int32) (w : Nat → Int64) :
    ∃ t8 s8 be' pl' ti' sp' dn' w', fX11_orders F 6 st (ii E.length) (ii L.length) 24 a 8 ea 8 la 14 84 6 6 1296 1296 t9 s9 be pl ti sp dn w = some (il (nW L.length (muA mk L E G) (2 ^ L.length - 1)), t8, s8, be', pl', ti', sp', dn', w') := by
  obtain ⟨be', pl', ti', sp', dn', w', e, hX, hw⟩ := prep_X (F := F) hn hx hF hL ha h14 hE hGl hG h8 hE1 hG1 t9 s9 be pl ti sp dn w
  unfold fX11_orders bX11_orders_L31
  rw [e, Option.bind_some, if_neg (show ¬ (1 : Int32) = 0 by decide)]
  show ∃ t8 s8 be' pl' ti' sp' dn' w', (fX3_all F (ii (stP (rxL L) 6)) 1296 _).bind _ = _
  rw [all_X (muA_ok hn hL) h14 hw, Option.bind_some]
  exact ⟨_, _, _, _, _, _, _, _, rfl⟩
theorem orders_X0 {F : Nat} {L : List Nat} (h14 : 14 < L.length) (h24 : L.length ≤ 24) (st a ea la : Nat → Int32) (ah t9 s9 : Int32) (be pl ti sp dn : Nat → Int32) (w : Nat → Int64) :
    fX11_orders F 6 st ah (ii L.length) 24 a 8 ea 8 la 14 84 6 6 1296 1296 t9 s9 be pl ti sp dn w = some (-1, ii L.length, s9, be, pl, ti, sp, dn, w) := by
  unfold fX11_orders bX11_orders_L31 fX3_prepare
  rw [if_neg (by rw [k_14, ii_le (by omega) (by omega)]; omega), Option.bind_some, if_pos rfl]
theorem ask_X {F n : Nat} {mk rd : Nat → Nat} {st ro : Nat → Int32} (hn : okN n mk rd) (hx : netX n mk rd st ro) (hF : 2000 ≤ F) {L E G : List Nat} {a ea la : Nat → Int32} (hL : okL n L) (ha : rL a L) (h14 : L.length ≤ 14) (hE : rL ea E) (hGl : rL la G) (hG : G.length = E.length) (h8 : E.length ≤ 8) (hE1 : ∀ e ∈ E, e < L.length) (hG1 : ∀ g ∈ G, g < L.length) (t9 s9 : Int32) (be pl ti sp dn : Nat → Int32) (w v fs : Nat → Int64) :
    ∃ t8 s8 be' pl' ti' sp' dn' w' v' fs', fX11_ask F 6 st (ii E.length) (ii L.length) 24 a 8 ea 8 la 14 84 6 6 1296 1296 1296 196 t9 s9 be pl ti sp dn w v fs = some ((akO (aW L.length (muA mk L E G)) L.length L.length 0 (nW L.length (muA mk L E G) (2 ^ L.length - 1), -1)).2, t8, s8, be', pl', ti', sp', dn', w', v', fs') := by
  have hMU : ∀ k, k < L.length → muA mk L E G k < 2 ^ L.length := fun k hk => muE_lt (by omega) (Nat.le_refl _) hE1
  obtain ⟨be', pl', ti', sp', dn', w', e, hX, hw⟩ := prep_X (F := F) hn hx hF hL ha h14 hE hGl hG h8 hE1 hG1 t9 s9 be pl ti sp dn w
  obtain ⟨v', fs', e2⟩ := best_X (F := F) hF hX (muA_ok hn hL) hMU h14 hw v fs
  unfold fX11_ask bX11_ask_L29
  rw [e, Option.bind_some, if_neg (show ¬ (1 : Int32) = 0 by decide)]
  show ∃ t8 s8 be' pl' ti' sp' dn' w' v' fs', (fX3_bestToAsk F (ii L.length) (ii (stP (rxL L) 6)) 14 _ 84 _ 6 _ 6 _ 1296 _ 1296 _ 1296 196 v fs).bind _ = _
  rw [e2, Option.bind_some]
  exact ⟨_, _, _, _, _, _, _, _, _, _, rfl⟩
theorem ask_X0 {F : Nat} {L : List Nat} (h14 : 14 < L.length) (h24 : L.length ≤ 24) (st a ea la : Nat → Int32) (ah t9 s9 : Int32) (be pl ti sp dn : Nat → Int32) (w v fs : Nat → Int64) :
    fX11_ask F 6 st ah (ii L.length) 24 a 8 ea 8 la 14 84 6 6 1296 1296 1296 196 t9 s9 be pl ti sp dn w v fs = some (-1, ii L.length, s9, be, pl, ti, sp, dn, w, v, fs) := by
  unfold fX11_ask bX11_ask_L29 fX3_prepare
  rw [if_neg (by rw [k_14, ii_le (by omega) (by omega)]; omega), Option.bind_some, if_pos rfl]
