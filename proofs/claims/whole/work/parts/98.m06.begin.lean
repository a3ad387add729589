/-! PURE: the class's tape: begin, token, step, wrong -/
def ixS (c : Int32) : Nat → Nat → Int32
  | 0, _ => -1
  | r + 1, i => if (vTx 1).getD i 0 = c then ii i else ixS c r (i + 1)
theorem indexOf_L {F : Nat} {c : Int32} : ∀ (t i : Nat), i ≤ 8 → 8 < i + t → fJ1_indexOfChar_4cfef_zB1_L7 F t (ii 8) c (ii i) = some (ixS c (8 - i) i) := by
  intro t
  induction t with
  | zero => intro i h1 h2; omega
  | succ t ih =>
    intro i h1 h2
    rw [sJ1_indexOfChar_4cfef_zB1_L7]
    unfold bJ1_indexOfChar_4cfef_zB1_L7
    by_cases h : i = 8
    · subst h
      rw [if_pos (by decide)]
      rfl
    · have e8 : vLen 1 = 8 := rfl
      rw [if_neg (by rw [ii_le (by omega) (by omega)]; omega), e8, if_neg (nidx (by omega) (by omega)), ii_nat (by omega), show 8 - i = (8 - (i + 1)) + 1 from by omega]
      unfold ixS
      by_cases hc : (vTx 1).getD i 0 = c
      · rw [if_pos hc, if_pos hc]
      · rw [if_neg hc, if_neg hc, k_1, ii_add]
        exact ih (i + 1) (by omega) (by omega)
theorem ixS_ok : ∀ c, c < 127 → decide (ixS ((ii c).toInt8.toInt32) 8 0 < 0) = !decide (c = 40 ∨ c = 41 ∨ c = 42 ∨ c = 43 ∨ c = 45 ∨ c = 59 ∨ c = 60 ∨ c = 61) := by decide +kernel
theorem chr_ok : ∀ c, c < 127 → ((ii c).toUInt32 % 65536).toInt32 = ii c := by decide +kernel
theorem indexOf_eq {F c : Nat} (hF : 1000 ≤ F) (hc : c < 127) : fJ0_indexOf_0f7a4_zS1 F (ii c) = some (ixS ((ii c).toInt8.toInt32) 8 0) := by
  unfold fJ0_indexOf_0f7a4_zS1 fJ0_indexOf_7cf53_zS1 fJ0_isLatin1_aae02_zS1 bJ0_isLatin1_aae02_zS1_L17 bJ0_isLatin1_aae02_zS1_L18 fJ0_length_8abf5_zS1 fJ0_coder_7d493_zS1 bJ0_coder_7d493_zS1_L14
  rw [if_neg (show ¬ (1 : Int32) = 0 by decide), if_pos (show (0 : Int32) = 0 from rfl), if_pos (show (1 : Int32) = 0 ∨ (1 : Int32) = 1 from Or.inr rfl), if_neg (show ¬ (1 : Int32) = 0 by decide), if_pos (show (0 : Int32).toInt8.toInt32 = 0 by decide), Option.bind_some, if_neg (show ¬ (1 : Int32) = 0 by decide), Option.bind_some, Option.bind_some]
  have e1 : Int32.ofNat (vLen 1) >>> ((0 : Int32) &&& 31) = ii 8 := by decide
  rw [e1]
  unfold fJ1_indexOf_4cfef_zB1 fJ1_canEncode_9a6ad bJ1_canEncode_9a6ad_L15 bJ1_canEncode_9a6ad_L16
  rw [if_neg (show ¬ ii c < 0 by rw [ii_nneg (by omega)]; exact id), if_neg (show ¬ (255 : Int32) < ii c by rw [k_255, ii_lt (by omega) (by omega)]; omega), if_pos (show (1 : Int32) = 0 ∨ (1 : Int32) = 1 from Or.inr rfl), Option.bind_some, if_neg (show ¬ (1 : Int32) = 0 by decide)]
  have e2 : (if (0 : Int32) < (0 : Int32) then (0 : Int32) else 0) = ii 0 := by decide
  have e3 : (if Int32.ofNat (vLen 1) < ii 8 then Int32.ofNat (vLen 1) else ii 8) = ii 8 := by decide
  rw [e2, e3, if_pos (by decide)]
  unfold fJ1_indexOfChar_4cfef_zB1
  rw [indexOf_L F 0 (by omega) (by omega)]
  rfl
theorem begin_L {F : Nat} (hF : 2000 ≤ F) {T : List Nat} (hT : okT T) {sg9 : Nat → Int32} (hsg : rL sg9 T) {he fa : Int32} :
    ∀ (t p : Nat) (A : List (Nat × List Nat × Nat)) (tk sta : Nat → Int32) (vl : Nat → Int64), p ≤ T.length → T.length < p + t → A.length ≤ p → rTk tk sta vl A → ∃ tk' sta' vl', fX9_begin_L17 F (ii T.length) 1000 sg9 1001 1001 1001 t (ii p) (ii A.length) he fa tk sta vl = some (ii (A ++ tlT T p).length, he, fa, tk', sta', vl') ∧ rTk tk' sta' vl' (A ++ tlT T p) := by
  intro t
  induction t with
  | zero => intro p A tk sta vl h1 h2; omega
  | succ t ih =>
    intro p A tk sta vl h1 h2 h3 hr
    have hT1 := hT.1
    rw [sX9_begin_L17]
    unfold bX9_begin_L17 bX9_begin_L97 bX9_begin_L102 bX9_begin_L114
    by_cases h : T.length ≤ p
    · rw [if_pos (by rw [ii_le (by omega) (by omega)]; exact h), tlT_end h]
      obtain ⟨tk', sta', vl', e1, h4⟩ := lay9 (F := F) (κ := 22) (σ := T.length) (w := []) (v := 0) (A := A) (by omega) hr (fun h => absurd h (by decide)) (fun h => absurd h (by decide))
      rw [k_22, e1]
      exact ⟨_, _, _, rfl, h4⟩
    · have hp : p < T.length := by omega
      have hc := okT_at hT hp
      rw [if_neg (by rw [ii_le (by omega) (by omega)]; exact h), if_neg (nidx (by omega) (by omega)), ii_nat (by omega), hsg p hp, isLetter_eq (by omega)]
      simp only [Option.bind_some]
      by_cases hw : 97 ≤ T.getD p 0 ∧ T.getD p 0 ≤ 122
      · rw [if_pos hw, if_neg (by decide)]
        have e := twL_s hp hw
        have hl : 1 ≤ (twL T p).length := by rw [e]; simp
        have hl2 := twL_len T p (by omega)
        have e1 : fX9_readWord F (ii T.length) 1000 sg9 1001 1001 1001 (ii p) (ii A.length) tk sta vl = bX9_readWord_L49 F (ii T.length) 1000 sg9 1001 1001 1001 (ii p) (ii (p + (twL T p).length)) (il (bv 32 (twL T p))) (ii A.length) tk sta vl := readWord_L (F := F) hT hsg hp F p [] (by simp) (by omega) (by omega) (by simp)
        rw [e1]
        unfold bX9_readWord_L49 bX9_readWord_L71
        have e2 : ii (p + (twL T p).length) - ii p = ii (twL T p).length := by
          rw [ii_sub (by omega)]
          congr 1
          omega
        rw [e2, tlT_w hp hw]
        have e3 : (ii (twL T p).length ≤ (8 : Int32)) = ((twL T p).length ≤ 8) := by rw [k_8, ii_le (by omega) (by omega)]
        have key : ∀ κ : Nat, (κ ≤ 20 ∨ κ = 23) → ∃ tk' sta' vl', (((fX9_lay F 1001 1001 1001 (ii κ) (ii p) (il (bv 32 (twL T p))) (ii A.length) tk sta vl).bind fun R73 => some (ii (p + (twL T p).length), R73.1, R73.2.1, R73.2.2.1, R73.2.2.2)).bind fun R45 => if R45.1 ≤ ii p then fX9_begin_L17 F (ii T.length) 1000 sg9 1001 1001 1001 t (ii p + 1) R45.2.1 he fa R45.2.2.1 R45.2.2.2.1 R45.2.2.2.2 else fX9_begin_L17 F (ii T.length) 1000 sg9 1001 1001 1001 t R45.1 R45.2.1 he fa R45.2.2.1 R45.2.2.2.1 R45.2.2.2.2) = some (ii (A ++ (κ, twL T p, p) :: tlT T (p + (twL T p).length)).length, he, fa, tk', sta', vl') ∧ rTk tk' sta' vl' (A ++ (κ, twL T p, p) :: tlT T (p + (twL T p).length)) := by
          intro κ hκ
          obtain ⟨tk1, sta1, vl1, e4, h4⟩ := lay9 (F := F) (κ := κ) (σ := p) (w := twL T p) (v := il (bv 32 (twL T p))) (A := A) (by omega) hr (fun _ => rfl) (fun h => absurd h (by omega))
          rw [e4]
          simp only [Option.bind_some]
          rw [if_neg (by rw [ii_le (by omega) (by omega)]; omega)]
          have := ih (p + (twL T p).length) (A ++ [(κ, twL T p, p)]) tk1 sta1 vl1 (by omega) (by omega) (by rw [List.length_append, List.length_singleton]; omega) h4
          rw [List.append_assoc] at this
          exact this
        by_cases h8 : (twL T p).length ≤ 8
        · rw [if_pos (by rw [e3]; exact h8), wordAt_eq (by omega) hT hsg hp h8, if_pos h8]
          simp only [Option.bind_some]
          exact key _ (Or.inl (kw_le _).1)
        · rw [if_neg (by rw [e3]; exact h8), if_neg h8]
          exact key 23 (Or.inr rfl)
      · rw [if_neg hw, if_pos rfl, isDigit_eq (by omega)]
        simp only [Option.bind_some]
        by_cases hd : 48 ≤ T.getD p 0 ∧ T.getD p 0 ≤ 57
        · rw [if_pos hd, if_neg (by decide)]
          have e := twD_s hp hd
          have hl : 1 ≤ (twD T p).length := by rw [e]; simp
          have hl2 := twD_len T p (by omega)
          have e1 : fX9_readNumber F (ii T.length) 1000 sg9 1001 1001 1001 (ii p) (ii A.length) tk sta vl = bX9_readNumber_L47 F (ii T.length) 1000 sg9 1001 1001 1001 (ii p) (ii (p + (twD T p).length)) (il (dv (twD T p))) (ii A.length) tk sta vl := readNumber_L (F := F) hT hsg hp F p [] (by simp) (by omega) (by omega) (by simp)
          rw [e1]
          unfold bX9_readNumber_L47 bX9_readNumber_L62
          have e2 : ii (p + (twD T p).length) - ii p = ii (twD T p).length := by
            rw [ii_sub (by omega)]
            congr 1
            omega
          rw [e2, tlT_d hp hd]
          have e3 : (ii (twD T p).length ≤ (4 : Int32)) = ((twD T p).length ≤ 4) := by rw [k_4, ii_le (by omega) (by omega)]
          have key : ∀ κ : Nat, (κ = 21 ∨ κ = 23) → ∃ tk' sta' vl', (((fX9_lay F 1001 1001 1001 (ii κ) (ii p) (il (dv (twD T p))) (ii A.length) tk sta vl).bind fun R73 => some (ii (p + (twD T p).length), R73.1, R73.2.1, R73.2.2.1, R73.2.2.2)).bind fun R45 => if R45.1 ≤ ii p then fX9_begin_L17 F (ii T.length) 1000 sg9 1001 1001 1001 t (ii p + 1) R45.2.1 he fa R45.2.2.1 R45.2.2.2.1 R45.2.2.2.2 else fX9_begin_L17 F (ii T.length) 1000 sg9 1001 1001 1001 t R45.1 R45.2.1 he fa R45.2.2.1 R45.2.2.2.1 R45.2.2.2.2) = some (ii (A ++ (κ, twD T p, p) :: tlT T (p + (twD T p).length)).length, he, fa, tk', sta', vl') ∧ rTk tk' sta' vl' (A ++ (κ, twD T p, p) :: tlT T (p + (twD T p).length)) := by
            intro κ hκ
            obtain ⟨tk1, sta1, vl1, e4, h4⟩ := lay9 (F := F) (κ := κ) (σ := p) (w := twD T p) (v := il (dv (twD T p))) (A := A) (by omega) hr (fun h => absurd h (by omega)) (fun _ => rfl)
            rw [e4]
            simp only [Option.bind_some]
            rw [if_neg (by rw [ii_le (by omega) (by omega)]; omega)]
            have := ih (p + (twD T p).length) (A ++ [(κ, twD T p, p)]) tk1 sta1 vl1 (by omega) (by omega) (by rw [List.length_append, List.length_singleton]; omega) h4
            rw [List.append_assoc] at this
            exact this
          by_cases h4 : (twD T p).length ≤ 4
          · rw [if_pos (by rw [e3]; exact h4), if_pos h4]
            exact key 21 (Or.inl rfl)
          · rw [if_neg (by rw [e3]; exact h4), if_neg h4]
            exact key 23 (Or.inr rfl)
        · rw [if_neg hd, if_pos rfl]
          have e10 : (ii (T.getD p 0) = (10 : Int32)) = (T.getD p 0 = 10) := ii_inj (b := 10) (by omega) (by omega)
          have e32 : (ii (T.getD p 0) = (32 : Int32)) = (T.getD p 0 = 32) := ii_inj (b := 32) (by omega) (by omega)
          have e1k : ii p + (1 : Int32) = ii (p + 1) := by rw [k_1, ii_add]
          rw [e1k]
          have hle : ¬ ii (p + 1) ≤ ii p := by rw [ii_le (by omega) (by omega)]; omega
          simp only [if_neg hle]
          by_cases hb : T.getD p 0 = 10 ∨ T.getD p 0 = 32
          · rw [tlT_b hp hb]
            rcases hb with hb | hb
            · rw [if_pos (by rw [e10]; exact hb)]
              exact ih (p + 1) A tk sta vl (by omega) (by omega) (by omega) hr
            · rw [if_neg (by rw [e10]; omega), if_pos (by rw [e32]; exact hb)]
              exact ih (p + 1) A tk sta vl (by omega) (by omega) (by omega) hr
          · rw [if_neg (by rw [e10]; omega), if_neg (by rw [e32]; omega), chr_ok _ hc, indexOf_eq (by omega) hc, tlT_s hp hw hd hb]
            simp only [Option.bind_some]
            have hix := ixS_ok _ hc
            have key : ∀ κ : Nat, (23 ≤ κ) → ∃ tk' sta' vl', ((fX9_lay F 1001 1001 1001 (ii κ) (ii p) (0 : Int64) (ii A.length) tk sta vl).bind fun R99 => fX9_begin_L17 F (ii T.length) 1000 sg9 1001 1001 1001 t (ii (p + 1)) R99.1 he fa R99.2.1 R99.2.2.1 R99.2.2.2) = some (ii (A ++ (κ, [], p) :: tlT T (p + 1)).length, he, fa, tk', sta', vl') ∧ rTk tk' sta' vl' (A ++ (κ, [], p) :: tlT T (p + 1)) := by
              intro κ hκ
              obtain ⟨tk1, sta1, vl1, e4, h4⟩ := lay9 (F := F) (κ := κ) (σ := p) (w := []) (v := 0) (A := A) (by omega) hr (fun h => absurd h (by omega)) (fun h => absurd h (by omega))
              rw [e4]
              simp only [Option.bind_some]
              have := ih (p + 1) (A ++ [(κ, [], p)]) tk1 sta1 vl1 (by omega) (by omega) (by rw [List.length_append, List.length_singleton]; omega) h4
              rw [List.append_assoc] at this
              exact this
            by_cases hs : T.getD p 0 = 40 ∨ T.getD p 0 = 41 ∨ T.getD p 0 = 42 ∨ T.getD p 0 = 43 ∨ T.getD p 0 = 45 ∨ T.getD p 0 = 59 ∨ T.getD p 0 = 60 ∨ T.getD p 0 = 61
            · have h9 : ¬ ixS ((ii (T.getD p 0)).toInt8.toInt32) 8 0 < 0 := by
                intro h9
                rw [decide_eq_true h9, decide_eq_true hs] at hix
                cases hix
              rw [if_neg h9, if_pos hs]
              exact key _ (by omega)
            · have h9 : ixS ((ii (T.getD p 0)).toInt8.toInt32) 8 0 < 0 := by
                rw [decide_eq_false hs] at hix
                exact of_decide_eq_true hix
              rw [if_pos h9, if_neg hs]
              exact key 23 (by omega)
theorem begin_X {F : Nat} (hF : 2000 ≤ F) {T : List Nat} (hT : okT T) {sg9 : Nat → Int32} (hsg : rL sg9 T) (cn he fa : Int32) (tk sta : Nat → Int32) (vl : Nat → Int64) : ∃ tk' sta' vl', fX9_begin F (ii T.length) 1000 sg9 1001 1001 1001 cn he fa tk sta vl = some (ii (tlT T 0).length, 0, 0, tk', sta', vl') ∧ rTk tk' sta' vl' (tlT T 0) := by
  have hT1 := hT.1
  exact begin_L (F := F) (he := 0) (fa := 0) hF hT hsg F 0 [] tk sta vl (by omega) (by omega) (by simp) (fun j hj => absurd hj (by simp))
