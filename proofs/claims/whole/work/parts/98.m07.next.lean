/-! PURE: tokens as both sides see them -/
abbrev Tk := Nat × List Nat × Nat
def okTk (T : List Nat) (x : Tk) : Prop := x.2.2 ≤ T.length ∧ (x.1 ≤ 20 → okW x.2.1 ∧ x.2.1.length ≤ 8 ∧ kw x.2.1 = x.1) ∧ (x.1 = 21 → okD x.2.1 ∧ x.2.1.length ≤ 4) ∧ (24 ≤ x.1 → T.getD x.2.2 0 = x.1 ∧ x.2.2 < T.length ∧ (x.1 = 40 ∨ x.1 = 41 ∨ x.1 = 42 ∨ x.1 = 43 ∨ x.1 = 45 ∨ x.1 = 59 ∨ x.1 = 60 ∨ x.1 = 61))
theorem tl_ok {T : List Nat} : ∀ (r p : Nat), p + r = T.length + 1 → ∀ x ∈ tlT T p, okTk T x := by
  intro r
  induction r using Nat.strongRecOn with
  | ind r ih =>
    intro p hp x hx
    by_cases h : T.length ≤ p
    · rw [tlT_end h] at hx
      rw [List.mem_singleton.mp hx]
      exact ⟨Nat.le_refl _, fun h => absurd h (by simp), fun h => absurd h (by simp), fun h => absurd h (by simp)⟩
    · have hp2 : p < T.length := by omega
      by_cases hw : 97 ≤ T.getD p 0 ∧ T.getD p 0 ≤ 122
      · have e := twL_s hp2 hw
        have hl : 1 ≤ (twL T p).length := by rw [e]; simp
        have hl2 := twL_len T p (by omega)
        rw [tlT_w hp2 hw] at hx
        rcases List.mem_cons.mp hx with hx | hx
        · rw [hx]
          have hk := kw_le (twL T p)
          by_cases h8 : (twL T p).length ≤ 8
          · rw [if_pos h8]
            refine ⟨by show p ≤ T.length; omega, fun _ => ⟨twL_ok T p, h8, rfl⟩, fun h => ?_, fun h => ?_⟩
            · have h9 : kw (twL T p) = 21 := h
              omega
            · have h9 : 24 ≤ kw (twL T p) := h
              omega
          · rw [if_neg h8]
            exact ⟨by show p ≤ T.length; omega, fun h => absurd h (by simp), fun h => absurd h (by simp), fun h => absurd h (by simp)⟩
        · exact ih (T.length + 1 - (p + (twL T p).length)) (by omega) (p + (twL T p).length) (by omega) x hx
      · by_cases hd : 48 ≤ T.getD p 0 ∧ T.getD p 0 ≤ 57
        · have e := twD_s hp2 hd
          have hl : 1 ≤ (twD T p).length := by rw [e]; simp
          have hl2 := twD_len T p (by omega)
          rw [tlT_d hp2 hd] at hx
          rcases List.mem_cons.mp hx with hx | hx
          · rw [hx]
            by_cases h4 : (twD T p).length ≤ 4
            · rw [if_pos h4]
              exact ⟨by show p ≤ T.length; omega, fun h => absurd h (by simp), fun _ => ⟨twD_ok T p, h4⟩, fun h => absurd h (by simp)⟩
            · rw [if_neg h4]
              exact ⟨by show p ≤ T.length; omega, fun h => absurd h (by simp), fun h => absurd h (by simp), fun h => absurd h (by simp)⟩
          · exact ih (T.length + 1 - (p + (twD T p).length)) (by omega) (p + (twD T p).length) (by omega) x hx
        · by_cases hb : T.getD p 0 = 10 ∨ T.getD p 0 = 32
          · rw [tlT_b hp2 hb] at hx
            exact ih (r - 1) (by omega) (p + 1) (by omega) x hx
          · rw [tlT_s hp2 hw hd hb] at hx
            rcases List.mem_cons.mp hx with hx | hx
            · rw [hx]
              by_cases hs : T.getD p 0 = 40 ∨ T.getD p 0 = 41 ∨ T.getD p 0 = 42 ∨ T.getD p 0 = 43 ∨ T.getD p 0 = 45 ∨ T.getD p 0 = 59 ∨ T.getD p 0 = 60 ∨ T.getD p 0 = 61
              · rw [if_pos hs]
                refine ⟨by show p ≤ T.length; omega, fun h => ?_, fun h => ?_, fun h => ⟨rfl, hp2, hs⟩⟩
                · have h9 : T.getD p 0 ≤ 20 := h
                  omega
                · have h9 : T.getD p 0 = 21 := h
                  omega
              · rw [if_neg hs]
                exact ⟨by show p ≤ T.length; omega, fun h => absurd h (by simp), fun h => absurd h (by simp), fun h => absurd h (by simp)⟩
            · exact ih (r - 1) (by omega) (p + 1) (by omega) x hx
theorem tl_len {T : List Nat} : ∀ (r p : Nat), p + r = T.length + 1 → (tlT T p).length ≤ r + 0 ∨ T.length < p := by
  intro r
  induction r using Nat.strongRecOn with
  | ind r ih =>
    intro p hp
    by_cases h0 : T.length < p
    · exact Or.inr h0
    left
    by_cases h : T.length ≤ p
    · rw [tlT_end h]
      simp
      omega
    · have hp2 : p < T.length := by omega
      by_cases hw : 97 ≤ T.getD p 0 ∧ T.getD p 0 ≤ 122
      · have e := twL_s hp2 hw
        have hl : 1 ≤ (twL T p).length := by rw [e]; simp
        have hl2 := twL_len T p (by omega)
        rw [tlT_w hp2 hw, List.length_cons]
        rcases ih (T.length + 1 - (p + (twL T p).length)) (by omega) (p + (twL T p).length) (by omega) with h9 | h9 <;> omega
      · by_cases hd : 48 ≤ T.getD p 0 ∧ T.getD p 0 ≤ 57
        · have e := twD_s hp2 hd
          have hl : 1 ≤ (twD T p).length := by rw [e]; simp
          have hl2 := twD_len T p (by omega)
          rw [tlT_d hp2 hd, List.length_cons]
          rcases ih (T.length + 1 - (p + (twD T p).length)) (by omega) (p + (twD T p).length) (by omega) with h9 | h9 <;> omega
        · by_cases hb : T.getD p 0 = 10 ∨ T.getD p 0 = 32
          · rw [tlT_b hp2 hb]
            rcases ih (r - 1) (by omega) (p + 1) (by omega) with h9 | h9 <;> omega
          · rw [tlT_s hp2 hw hd hb, List.length_cons]
            rcases ih (r - 1) (by omega) (p + 1) (by omega) with h9 | h9 <;> omega
def stp (R : List Tk) : List Tk := match R with
  | [] => []
  | [t] => [t]
  | _ :: u :: R => u :: R
/-- the class at R -/
def tpX (T : List Nat) (TK R : List Tk) (sz cn he : Int32) (tk sta : Nat → Int32) (vl : Nat → Int64) : Prop := sz = ii T.length ∧ cn = ii TK.length ∧ rTk tk sta vl TK ∧ (∃ A, TK = A ++ R ∧ he = ii A.length) ∧ R ≠ [] ∧ TK.length ≤ 1001 ∧ T.length ≤ 1000 ∧ ∀ x ∈ TK, okTk T x
theorem tpX_at {T : List Nat} {TK R : List Tk} {κ σ : Nat} {w : List Nat} {sz cn he : Int32} {tk sta : Nat → Int32} {vl : Nat → Int64} (h : tpX T TK ((κ, w, σ) :: R) sz cn he tk sta vl) : ∃ a, he = ii a ∧ a < TK.length ∧ TK.length ≤ 1001 ∧ cn = ii TK.length ∧ tk a = ii κ ∧ sta a = ii σ ∧ (κ ≤ 20 → vl a = il (bv 32 w)) ∧ (κ = 21 → vl a = il (dv w)) ∧ okTk T (κ, w, σ) ∧ κ ≤ 61 ∧ σ ≤ 1000 := by
  obtain ⟨h1, h2, h3, ⟨A, h4, h5⟩, h6, h7, h8, h9⟩ := h
  have hl : TK.length = A.length + (R.length + 1) := by rw [h4, List.length_append, List.length_cons]
  have hg : TK.getD A.length dT = (κ, w, σ) := by
    rw [h4, getT2 (Nat.le_refl _), Nat.sub_self]
    rfl
  obtain ⟨g1, g2, g3, g4⟩ := h3 A.length (by omega)
  rw [hg] at g1 g2 g3 g4
  have hk := h9 (κ, w, σ) (by rw [h4]; simp)
  refine ⟨A.length, h5, by omega, h7, h2, g1, g2, g3, g4, hk, ?_, Nat.le_trans hk.1 h8⟩
  by_cases hc : 24 ≤ κ
  · have := (hk.2.2.2 hc).2.2
    simp only at this
    omega
  · omega
theorem tok_X {F : Nat} {T : List Nat} {TK R : List Tk} {κ σ : Nat} {w : List Nat} {sz cn he : Int32} {tk sta : Nat → Int32} {vl : Nat → Int64} (h : tpX T TK ((κ, w, σ) :: R) sz cn he tk sta vl) : fX9_token F cn he 1001 tk = some (ii κ) := by
  obtain ⟨a, h1, h2, h3, h4, h5, h6, h7, h8, h9, h10, h11⟩ := tpX_at h
  unfold fX9_token bX9_token_L25
  rw [h4, h1, if_neg (by rw [ii_le (by omega) (by omega)]; omega), if_neg (nidx (by omega) (by omega)), ii_nat (by omega), h5]
theorem name_X {F : Nat} {T : List Nat} {TK R : List Tk} {κ σ : Nat} {w : List Nat} {sz cn he : Int32} {tk sta : Nat → Int32} {vl : Nat → Int64} (h : tpX T TK ((κ, w, σ) :: R) sz cn he tk sta vl) (hk : κ ≤ 20) : fX9_name F cn he 1001 vl = some (il (bv 32 w)) := by
  obtain ⟨a, h1, h2, h3, h4, h5, h6, h7, h8, h9, h10, h11⟩ := tpX_at h
  unfold fX9_name bX9_name_L24
  rw [h4, h1, if_neg (by rw [ii_le (by omega) (by omega)]; omega), if_neg (nidx (by omega) (by omega)), ii_nat (by omega), h7 hk]
theorem number_X {F : Nat} {T : List Nat} {TK R : List Tk} {σ : Nat} {w : List Nat} {sz cn he : Int32} {tk sta : Nat → Int32} {vl : Nat → Int64} (h : tpX T TK ((21, w, σ) :: R) sz cn he tk sta vl) : fX9_number F cn he 1001 vl = some (ii (dv w)) ∧ dv w < 10000 := by
  obtain ⟨a, h1, h2, h3, h4, h5, h6, h7, h8, h9, h10, h11⟩ := tpX_at h
  obtain ⟨d1, d2⟩ := h9.2.2.1 rfl
  refine ⟨?_, dv_small d1 d2⟩
  unfold fX9_number fX9_name bX9_name_L24
  rw [h4, h1, if_neg (by rw [ii_le (by omega) (by omega)]; omega), if_neg (nidx (by omega) (by omega)), ii_nat (by omega), h8 rfl, Option.bind_some]
  exact congrArg some Int64.toInt32_ofNat'
theorem wrong_X {F k : Nat} {T : List Nat} {TK R : List Tk} {κ σ : Nat} {w : List Nat} {sz cn he : Int32} {tk sta : Nat → Int32} {vl : Nat → Int64} (h : tpX T TK ((κ, w, σ) :: R) sz cn he tk sta vl) (fa : Int32) : fX9_wrong F sz cn he 1001 sta (ii k) fa = some (0, ii (k + 16 * σ)) := by
  obtain ⟨a, h1, h2, h3, h4, h5, h6, h7, h8, h9, h10, h11⟩ := tpX_at h
  unfold fX9_wrong bX9_wrong_L31
  rw [h4, h1, if_neg (by rw [ii_le (by omega) (by omega)]; omega), if_neg (nidx (by omega) (by omega)), ii_nat (by omega), h6, k_16, ii_mul, ii_add]
theorem step_X {F : Nat} {T : List Nat} {TK R : List Tk} {sz cn he : Int32} {tk sta : Nat → Int32} {vl : Nat → Int64} (h : tpX T TK R sz cn he tk sta vl) : ∃ he', fX9_step F cn he = some he' ∧ tpX T TK (stp R) sz cn he' tk sta vl := by
  obtain ⟨h1, h2, h3, ⟨A, h4, h5⟩, h6, h7, h8, h9⟩ := h
  unfold fX9_step bX9_step_L23
  cases R with
  | nil => exact absurd rfl h6
  | cons t R =>
    have hl : TK.length = A.length + (R.length + 1) := by rw [h4, List.length_append, List.length_cons]
    have e1 : ii A.length + (1 : Int32) = ii (A.length + 1) := by rw [k_1, ii_add]
    rw [h2, h5, e1]
    cases R with
    | nil =>
      rw [if_pos (by
        rw [ii_le (by omega) (by omega)]
        simp at hl
        omega)]
      exact ⟨_, rfl, h1, rfl, h3, ⟨A, h4, rfl⟩, h6, h7, h8, h9⟩
    | cons u R =>
      rw [if_neg (by
        rw [ii_le (by omega) (by omega)]
        simp at hl
        omega)]
      refine ⟨_, rfl, h1, rfl, h3, ⟨A ++ [t], ?_, ?_⟩, by simp [stp], h7, h8, h9⟩
      · rw [h4, List.append_assoc]
        rfl
      · rw [List.length_append, List.length_singleton]
theorem expect_X1 {F c : Nat} {T : List Nat} {TK R : List Tk} {κ σ : Nat} {w : List Nat} {sz cn he : Int32} {tk sta : Nat → Int32} {vl : Nat → Int64} (h : tpX T TK ((κ, w, σ) :: R) sz cn he tk sta vl) (hc : κ = c) (fa : Int32) : ∃ he', fX9_expect F sz cn 1001 tk 1001 sta (ii c) he fa = some (1, he', fa) ∧ tpX T TK (stp ((κ, w, σ) :: R)) sz cn he' tk sta vl := by
  obtain ⟨he', e1, h1⟩ := step_X (F := F) h
  unfold fX9_expect
  rw [tok_X h, Option.bind_some, if_pos (by rw [hc]), e1, Option.bind_some]
  exact ⟨he', rfl, h1⟩
theorem expect_X0 {F c : Nat} (hc9 : c < 1000) {T : List Nat} {TK R : List Tk} {κ σ : Nat} {w : List Nat} {sz cn he : Int32} {tk sta : Nat → Int32} {vl : Nat → Int64} (h : tpX T TK ((κ, w, σ) :: R) sz cn he tk sta vl) (hc : κ ≠ c) (fa : Int32) : fX9_expect F sz cn 1001 tk 1001 sta (ii c) he fa = some (0, he, ii (1 + 16 * σ)) := by
  obtain ⟨a, h1, h2, h3, h4, h5, h6, h7, h8, h9, h10, h11⟩ := tpX_at h
  unfold fX9_expect
  rw [tok_X h, Option.bind_some, if_neg (by rw [ii_inj (by omega) (by omega)]; exact hc), k_1, wrong_X h, Option.bind_some, if_pos (Or.inl rfl)]
theorem isName_X {F : Nat} {T : List Nat} {TK R : List Tk} {κ σ : Nat} {w : List Nat} {sz cn he : Int32} {tk sta : Nat → Int32} {vl : Nat → Int64} (h : tpX T TK ((κ, w, σ) :: R) sz cn he tk sta vl) : fX9_isName F cn he 1001 tk = some (if 16 ≤ κ ∧ κ ≤ 20 then 1 else 0) := by
  obtain ⟨a, h1, h2, h3, h4, h5, h6, h7, h8, h9, h10, h11⟩ := tpX_at h
  unfold fX9_isName bX9_isName_L23 bX9_isName_L27 bX9_isName_L28
  rw [tok_X h, Option.bind_some]
  have e20 : (ii κ = (20 : Int32)) = (κ = 20) := ii_inj (b := 20) (by omega) (by omega)
  have e16 : (ii κ < (16 : Int32)) = (κ < 16) := by rw [k_16, ii_lt (by omega) (by omega)]
  have e19 : ((19 : Int32) < ii κ) = (19 < κ) := by rw [k_19, ii_lt (by omega) (by omega)]
  by_cases c1 : κ = 20
  · rw [if_pos (by rw [e20]; exact c1), if_pos (Or.inr rfl), if_pos (by omega)]
  · rw [if_neg (by rw [e20]; exact c1)]
    by_cases c2 : κ < 16
    · rw [if_pos (by rw [e16]; exact c2), if_pos (Or.inl rfl), if_neg (by omega)]
    · rw [if_neg (by rw [e16]; exact c2)]
      by_cases c3 : 19 < κ
      · rw [if_pos (by rw [e19]; exact c3), if_pos (Or.inl rfl), if_neg (by omega)]
      · rw [if_neg (by rw [e19]; exact c3), if_pos (Or.inr rfl), if_pos (by omega)]
theorem isFact_X {F : Nat} {T : List Nat} {TK R : List Tk} {κ σ : Nat} {w : List Nat} {sz cn he : Int32} {tk sta : Nat → Int32} {vl : Nat → Int64} (h : tpX T TK ((κ, w, σ) :: R) sz cn he tk sta vl) : fX9_isFact F cn he 1001 tk = some (if 16 ≤ κ ∧ κ ≤ 19 then 1 else 0) := by
  obtain ⟨a, h1, h2, h3, h4, h5, h6, h7, h8, h9, h10, h11⟩ := tpX_at h
  unfold fX9_isFact bX9_isFact_L21 bX9_isFact_L22
  rw [tok_X h, Option.bind_some]
  have e16 : (ii κ < (16 : Int32)) = (κ < 16) := by rw [k_16, ii_lt (by omega) (by omega)]
  have e19 : ((19 : Int32) < ii κ) = (19 < κ) := by rw [k_19, ii_lt (by omega) (by omega)]
  by_cases c2 : κ < 16
  · rw [if_pos (by rw [e16]; exact c2), if_pos (Or.inl rfl), if_neg (by omega)]
  · rw [if_neg (by rw [e16]; exact c2)]
    by_cases c3 : 19 < κ
    · rw [if_pos (by rw [e19]; exact c3), if_pos (Or.inl rfl), if_neg (by omega)]
    · rw [if_neg (by rw [e19]; exact c3), if_pos (Or.inr rfl), if_pos (by omega)]
