/-! PURE: the reference's tokens -/
def tMk (κ : Nat) : Nat := if κ ≤ 20 then 1 else if κ = 21 then 2 else if κ = 22 then 0 else if κ = 23 then 4 else 3
/-- the reference at R -/
def nsM (T : List Nat) (R : List Tk) (pl bg tkn : Int32) (wd : Int64) (td : Int32) : Prop := ∃ κ w σ R', R = (κ, w, σ) :: R' ∧ okTk T (κ, w, σ) ∧ bg = ii σ ∧ tkn = ii (tMk κ) ∧ (κ ≤ 20 → wd = il (bv 27 w)) ∧ (κ = 21 → td = ii (dv w)) ∧ ((κ = 22 ∧ R' = [] ∧ pl = ii T.length ∧ w = [] ∧ σ = T.length) ∨ (κ ≠ 22 ∧ ∃ p, p ≤ T.length ∧ pl = ii p ∧ R' = tlT T p))
theorem signAt_M {F p : Nat} {T : List Nat} (hT : okT T) {tp : Nat → Int32} (ht : rL tp T) (hp : p ≤ T.length) : fX12_signAt F (ii T.length) 1000 tp (ii p) = some (ii (if p < T.length then T.getD p 0 else 0)) := by
  have hT1 := hT.1
  unfold fX12_signAt bX12_signAt_L18
  by_cases h : T.length ≤ p
  · rw [if_pos (by rw [ii_le (by omega) (by omega)]; exact h), if_neg (by omega)]
    rfl
  · rw [if_neg (by rw [ii_le (by omega) (by omega)]; exact h), if_neg (nidx (by omega) (by omega)), ii_nat (by omega), ht p (by omega), if_pos (by omega)]
theorem wordM_L {F p : Nat} {T : List Nat} (hT : okT T) {tp : Nat → Int32} (ht : rL tp T) (hp : p < T.length) {tkn : Int32} {td : Int32} :
    ∀ (t q : Nat) (w : List Nat) (wd : Int64), q = p + w.length → q ≤ T.length → T.length < q + t → twL T p = w ++ twL T q → (w.length ≤ 8 → wd = il (bv 27 w)) → ∃ wd', fX12_nextToken_L109 F (ii T.length) 1000 tp t (ii q) (ii p) tkn wd td = some (ii (p + (twL T p).length), ii p, (if (twL T p).length ≤ 8 then 1 else 4), wd', td) ∧ ((twL T p).length ≤ 8 → wd' = il (bv 27 (twL T p))) := by
  intro t
  induction t with
  | zero => intro q w wd h1 h2 h3; omega
  | succ t ih =>
    intro q w wd h1 h2 h3 h4 h5
    have hT1 := hT.1
    rw [sX12_nextToken_L109]
    unfold bX12_nextToken_L109 bX12_nextToken_L175 bX12_nextToken_L188 bX12_nextToken_L208
    rw [signAt_M hT ht h2, Option.bind_some, Option.bind_some, Option.bind_some]
    have e2 : ii q - ii p = ii w.length := by
      rw [ii_sub (by omega)]
      congr 1
      omega
    rw [e2]
    by_cases hl : q < T.length ∧ 97 ≤ T.getD q 0 ∧ T.getD q 0 ≤ 122
    · obtain ⟨hq, hl⟩ := hl
      have hc := okT_at hT hq
      rw [if_pos hq, if_neg (show ¬ ii (T.getD q 0) < (97 : Int32) by rw [k_97, ii_lt (by omega) (by omega)]; omega), if_neg (show ¬ (122 : Int32) < ii (T.getD q 0) by rw [k_122, ii_lt (by omega) (by omega)]; omega)]
      have e1k : ii q + (1 : Int32) = ii (q + 1) := by rw [k_1, ii_add]
      have h6 : twL T p = (w ++ [T.getD q 0]) ++ twL T (q + 1) := by
        rw [h4, twL_s hq hl, List.append_assoc]
        rfl
      have hlen : (w ++ [T.getD q 0]).length = w.length + 1 := by rw [List.length_append, List.length_singleton]
      rw [e1k]
      by_cases h8 : 8 ≤ w.length
      · rw [if_pos (show (8 : Int32) ≤ ii w.length by rw [k_8, ii_le (by omega) (by omega)]; exact h8)]
        exact ih (q + 1) (w ++ [T.getD q 0]) wd (by omega) (by omega) (by omega) h6 (fun h => by omega)
      · rw [if_neg (show ¬ (8 : Int32) ≤ ii w.length by rw [k_8, ii_le (by omega) (by omega)]; exact h8), h5 (by omega)]
        refine ih (q + 1) (w ++ [T.getD q 0]) _ (by omega) (by omega) (by omega) h6 (fun h => ?_)
        have e3 : (ii (T.getD q 0)).toInt64 = il (T.getD q 0) := il_int (by omega)
        have e4 : (27 : Int64) = il 27 := rfl
        have e5 : (96 : Int64) = il 96 := rfl
        rw [e3, e4, e5, il_mul, il_add, il_sub (by omega), bv_snoc]
        congr 1
        omega
    · have h0 : twL T q = [] := twL_0 (by omega)
      have h6 : twL T p = w := by rw [h4, h0, List.append_nil]
      rw [h6]
      have e3 : (ii w.length ≤ (8 : Int32)) = (w.length ≤ 8) := by rw [k_8, ii_le (by omega) (by omega)]
      have fin : ∃ wd', (if ii w.length ≤ (8 : Int32) then some (ii q, ii p, (1 : Int32), wd, td) else some (ii q, ii p, (4 : Int32), wd, td)) = some (ii (p + w.length), ii p, (if w.length ≤ 8 then (1 : Int32) else 4), wd', td) ∧ (w.length ≤ 8 → wd' = il (bv 27 w)) := by
        refine ⟨wd, ?_, h5⟩
        rw [← h1]
        by_cases h8 : w.length ≤ 8
        · rw [if_pos (by rw [e3]; exact h8), if_pos h8]
        · rw [if_neg (by rw [e3]; exact h8), if_neg h8]
      by_cases hq : q < T.length
      · have hc := okT_at hT hq
        rw [if_pos hq]
        by_cases c1 : T.getD q 0 < 97
        · rw [if_pos (show ii (T.getD q 0) < (97 : Int32) by rw [k_97, ii_lt (by omega) (by omega)]; exact c1)]
          exact fin
        · rw [if_neg (show ¬ ii (T.getD q 0) < (97 : Int32) by rw [k_97, ii_lt (by omega) (by omega)]; exact c1), if_pos (show (122 : Int32) < ii (T.getD q 0) by rw [k_122, ii_lt (by omega) (by omega)]; omega)]
          exact fin
      · rw [if_neg hq, if_pos (by decide)]
        exact fin
theorem numM_L {F p : Nat} {T : List Nat} (hT : okT T) {tp : Nat → Int32} (ht : rL tp T) (hp : p < T.length) {tkn : Int32} {wd : Int64} :
    ∀ (t q : Nat) (w : List Nat) (td : Int32), q = p + w.length → q ≤ T.length → T.length < q + t → twD T p = w ++ twD T q → (w.length ≤ 4 → td = ii (dv w)) → ∃ td', fX12_nextToken_L224 F (ii T.length) 1000 tp t (ii q) (ii p) tkn wd td = some (ii (p + (twD T p).length), ii p, (if (twD T p).length ≤ 4 then 2 else 4), wd, td') ∧ ((twD T p).length ≤ 4 → td' = ii (dv (twD T p))) := by
  intro t
  induction t with
  | zero => intro q w td h1 h2 h3; omega
  | succ t ih =>
    intro q w td h1 h2 h3 h4 h5
    have hT1 := hT.1
    rw [sX12_nextToken_L224]
    unfold bX12_nextToken_L224 bX12_nextToken_L286 bX12_nextToken_L299 bX12_nextToken_L318
    rw [signAt_M hT ht h2, Option.bind_some, Option.bind_some, Option.bind_some]
    have e2 : ii q - ii p = ii w.length := by
      rw [ii_sub (by omega)]
      congr 1
      omega
    rw [e2]
    by_cases hl : q < T.length ∧ 48 ≤ T.getD q 0 ∧ T.getD q 0 ≤ 57
    · obtain ⟨hq, hl⟩ := hl
      have hc := okT_at hT hq
      rw [if_pos hq, if_neg (show ¬ ii (T.getD q 0) < (48 : Int32) by rw [k_48, ii_lt (by omega) (by omega)]; omega), if_neg (show ¬ (57 : Int32) < ii (T.getD q 0) by rw [k_57, ii_lt (by omega) (by omega)]; omega)]
      have e1k : ii q + (1 : Int32) = ii (q + 1) := by rw [k_1, ii_add]
      have h6 : twD T p = (w ++ [T.getD q 0]) ++ twD T (q + 1) := by
        rw [h4, twD_s hq hl, List.append_assoc]
        rfl
      have hlen : (w ++ [T.getD q 0]).length = w.length + 1 := by rw [List.length_append, List.length_singleton]
      rw [e1k]
      by_cases h8 : 4 ≤ w.length
      · rw [if_pos (show (4 : Int32) ≤ ii w.length by rw [k_4, ii_le (by omega) (by omega)]; exact h8)]
        exact ih (q + 1) (w ++ [T.getD q 0]) td (by omega) (by omega) (by omega) h6 (fun h => by omega)
      · rw [if_neg (show ¬ (4 : Int32) ≤ ii w.length by rw [k_4, ii_le (by omega) (by omega)]; exact h8), h5 (by omega)]
        refine ih (q + 1) (w ++ [T.getD q 0]) _ (by omega) (by omega) (by omega) h6 (fun h => ?_)
        rw [k_10, ii_mul, ii_add, k_48, ii_sub (by omega), dv_snoc]
        congr 1
        omega
    · have h0 : twD T q = [] := twD_0 (by omega)
      have h6 : twD T p = w := by rw [h4, h0, List.append_nil]
      rw [h6]
      have e3 : (ii w.length ≤ (4 : Int32)) = (w.length ≤ 4) := by rw [k_4, ii_le (by omega) (by omega)]
      have fin : ∃ td', (if ii w.length ≤ (4 : Int32) then some (ii q, ii p, (2 : Int32), wd, td) else some (ii q, ii p, (4 : Int32), wd, td)) = some (ii (p + w.length), ii p, (if w.length ≤ 4 then (2 : Int32) else 4), wd, td') ∧ (w.length ≤ 4 → td' = ii (dv w)) := by
        refine ⟨td, ?_, h5⟩
        rw [← h1]
        by_cases h8 : w.length ≤ 4
        · rw [if_pos (by rw [e3]; exact h8), if_pos h8]
        · rw [if_neg (by rw [e3]; exact h8), if_neg h8]
      by_cases hq : q < T.length
      · have hc := okT_at hT hq
        rw [if_pos hq]
        by_cases c1 : T.getD q 0 < 48
        · rw [if_pos (show ii (T.getD q 0) < (48 : Int32) by rw [k_48, ii_lt (by omega) (by omega)]; exact c1)]
          exact fin
        · rw [if_neg (show ¬ ii (T.getD q 0) < (48 : Int32) by rw [k_48, ii_lt (by omega) (by omega)]; exact c1), if_pos (show (57 : Int32) < ii (T.getD q 0) by rw [k_57, ii_lt (by omega) (by omega)]; omega)]
          exact fin
      · rw [if_neg hq, if_pos (by decide)]
        exact fin
theorem next_M {F : Nat} (hF : 2000 ≤ F) {T : List Nat} (hT : okT T) {tp : Nat → Int32} (ht : rL tp T) :
    ∀ (t p : Nat) (bg tkn : Int32) (wd : Int64) (td : Int32), p ≤ T.length → T.length < p + t → ∃ pl' bg' tkn' wd' td', fX12_nextToken_L0 F (ii T.length) 1000 tp t (ii p) bg tkn wd td = some (pl', bg', tkn', wd', td') ∧ nsM T (tlT T p) pl' bg' tkn' wd' td' := by
  intro t
  induction t with
  | zero => intro p bg tkn wd td h1 h2; omega
  | succ t ih =>
    intro p bg tkn wd td h1 h2
    have hT1 := hT.1
    have hok := tl_ok (T := T) (T.length + 1 - p) p (by omega)
    rw [sX12_nextToken_L0]
    unfold bX12_nextToken_L0 bX12_nextToken_L39 bX12_nextToken_L52
    by_cases h : T.length ≤ p
    · have hpe : p = T.length := by omega
      rw [if_pos (by rw [ii_le (by omega) (by omega)]; exact h), if_pos (by rw [hpe])]
      refine ⟨_, _, _, _, _, rfl, 22, [], T.length, [], tlT_end h, ?_, by rw [hpe], rfl, fun h => absurd h (by decide), fun h => absurd h (by decide), Or.inl ⟨rfl, rfl, by rw [hpe], rfl, rfl⟩⟩
      exact hok _ (by rw [tlT_end h]; simp)
    · have hp : p < T.length := by omega
      have hc := okT_at hT hp
      have hidx : ¬ (ii p < 0 ∨ 1000 ≤ (ii p).toNatClampNeg) := nidx (by omega) (by omega)
      rw [if_neg (by rw [ii_le (by omega) (by omega)]; exact h), if_neg (show ¬ ii p = ii T.length by rw [ii_inj (by omega) (by omega)]; omega)]
      simp only [if_neg hidx]
      rw [ii_nat (by omega), ht p hp]
      have e10 : (ii (T.getD p 0) = (10 : Int32)) = (T.getD p 0 = 10) := ii_inj (b := 10) (by omega) (by omega)
      have e32 : (ii (T.getD p 0) = (32 : Int32)) = (T.getD p 0 = 32) := ii_inj (b := 32) (by omega) (by omega)
      have e1k : ii p + (1 : Int32) = ii (p + 1) := by rw [k_1, ii_add]
      by_cases hb : T.getD p 0 = 10 ∨ T.getD p 0 = 32
      · rw [tlT_b hp hb, e1k]
        rcases hb with hb | hb
        · rw [if_neg (by rw [e32]; omega), if_pos (by rw [e10]; exact hb)]
          exact ih (p + 1) bg tkn wd td (by omega) (by omega)
        · rw [if_pos (by rw [e32]; exact hb)]
          exact ih (p + 1) bg tkn wd td (by omega) (by omega)
      · rw [if_neg (by rw [e32]; omega), if_neg (by rw [e10]; omega)]
        have e97 : (ii (T.getD p 0) < (97 : Int32)) = (T.getD p 0 < 97) := by rw [k_97, ii_lt (by omega) (by omega)]
        have e122 : ((122 : Int32) < ii (T.getD p 0)) = (122 < T.getD p 0) := by rw [k_122, ii_lt (by omega) (by omega)]
        have e48 : (ii (T.getD p 0) < (48 : Int32)) = (T.getD p 0 < 48) := by rw [k_48, ii_lt (by omega) (by omega)]
        have e57 : ((57 : Int32) < ii (T.getD p 0)) = (57 < T.getD p 0) := by rw [k_57, ii_lt (by omega) (by omega)]
        by_cases hw : 97 ≤ T.getD p 0 ∧ T.getD p 0 ≤ 122
        · rw [if_neg (by rw [e97]; omega), if_neg (by rw [e122]; omega)]
          obtain ⟨wd', e1, h6⟩ := wordM_L (F := F) hT ht hp (tkn := tkn) (td := 0) F p [] 0 (by simp) (by omega) (by omega) (by simp) (fun _ => rfl)
          have hl2 := twL_len T p (by omega)
          rw [e1]
          rw [tlT_w hp hw] at hok
          have hok1 := hok _ (List.mem_cons_self)
          by_cases h8 : (twL T p).length ≤ 8
          · rw [if_pos h8] at hok1 ⊢
            have hk := (kw_le (twL T p)).1
            refine ⟨_, _, _, _, _, rfl, kw (twL T p), twL T p, p, _, by rw [tlT_w hp hw, if_pos h8], hok1, rfl, ?_, fun _ => h6 h8, fun h => by omega, Or.inr ⟨by omega, _, hl2, rfl, rfl⟩⟩
            unfold tMk
            rw [if_pos hk]
            rfl
          · rw [if_neg h8] at hok1 ⊢
            exact ⟨_, _, _, _, _, rfl, 23, twL T p, p, _, by rw [tlT_w hp hw, if_neg h8], hok1, rfl, rfl, fun h => absurd h (by decide), fun h => absurd h (by decide), Or.inr ⟨by decide, _, hl2, rfl, rfl⟩⟩
        · have step1 : ∀ {α : Type} (x y : α), (if ii (T.getD p 0) < (97 : Int32) then x else if (122 : Int32) < ii (T.getD p 0) then x else y) = x := by
            intro α x y
            by_cases c1 : T.getD p 0 < 97
            · rw [if_pos (by rw [e97]; exact c1)]
            · rw [if_neg (by rw [e97]; exact c1), if_pos (by rw [e122]; omega)]
          rw [step1]
          unfold bX12_nextToken_L212
          by_cases hd : 48 ≤ T.getD p 0 ∧ T.getD p 0 ≤ 57
          · rw [if_neg (by rw [e48]; omega), if_neg (by rw [e57]; omega)]
            obtain ⟨td', e1, h6⟩ := numM_L (F := F) hT ht hp (tkn := tkn) (wd := 0) F p [] 0 (by simp) (by omega) (by omega) (by simp) (fun _ => rfl)
            have hl2 := twD_len T p (by omega)
            rw [e1]
            rw [tlT_d hp hd] at hok
            have hok1 := hok _ (List.mem_cons_self)
            by_cases h4 : (twD T p).length ≤ 4
            · rw [if_pos h4] at hok1 ⊢
              exact ⟨_, _, _, _, _, rfl, 21, twD T p, p, _, by rw [tlT_d hp hd, if_pos h4], hok1, rfl, rfl, fun h => absurd h (by decide), fun _ => h6 h4, Or.inr ⟨by decide, _, hl2, rfl, rfl⟩⟩
            · rw [if_neg h4] at hok1 ⊢
              exact ⟨_, _, _, _, _, rfl, 23, twD T p, p, _, by rw [tlT_d hp hd, if_neg h4], hok1, rfl, rfl, fun h => absurd h (by decide), fun h => absurd h (by decide), Or.inr ⟨by decide, _, hl2, rfl, rfl⟩⟩
          · have step2 : ∀ {α : Type} (x y : α), (if ii (T.getD p 0) < (48 : Int32) then x else if (57 : Int32) < ii (T.getD p 0) then x else y) = x := by
              intro α x y
              by_cases c1 : T.getD p 0 < 48
              · rw [if_pos (by rw [e48]; exact c1)]
              · rw [if_neg (by rw [e48]; exact c1), if_pos (by rw [e57]; omega)]
            rw [step2]
            unfold bX12_nextToken_L322 bX12_nextToken_L345 bX12_nextToken_L363 bX12_nextToken_L367 bX12_nextToken_L368
            rw [tlT_s hp hw hd hb] at hok
            have hok1 := hok _ (List.mem_cons_self)
            have e40 : (ii (T.getD p 0) < (40 : Int32)) = (T.getD p 0 < 40) := by rw [k_40, ii_lt (by omega) (by omega)]
            have e43 : (ii (T.getD p 0) ≤ (43 : Int32)) = (T.getD p 0 ≤ 43) := by rw [k_43, ii_le (by omega) (by omega)]
            have e45 : (ii (T.getD p 0) = (45 : Int32)) = (T.getD p 0 = 45) := ii_inj (b := 45) (by omega) (by omega)
            have e59 : (ii (T.getD p 0) < (59 : Int32)) = (T.getD p 0 < 59) := by rw [k_59, ii_lt (by omega) (by omega)]
            have e61 : ((61 : Int32) < ii (T.getD p 0)) = (61 < T.getD p 0) := by rw [k_61, ii_lt (by omega) (by omega)]
            rw [e1k]
            have hval : ∀ {α : Type} (x y : α), (if ii (T.getD p 0) < (40 : Int32) then (if ii (T.getD p 0) = (45 : Int32) then x else if ii (T.getD p 0) < (59 : Int32) then y else if (61 : Int32) < ii (T.getD p 0) then y else x) else if ii (T.getD p 0) ≤ (43 : Int32) then x else (if ii (T.getD p 0) = (45 : Int32) then x else if ii (T.getD p 0) < (59 : Int32) then y else if (61 : Int32) < ii (T.getD p 0) then y else x)) = if (T.getD p 0 = 40 ∨ T.getD p 0 = 41 ∨ T.getD p 0 = 42 ∨ T.getD p 0 = 43 ∨ T.getD p 0 = 45 ∨ T.getD p 0 = 59 ∨ T.getD p 0 = 60 ∨ T.getD p 0 = 61) then x else y := by
              intro α x y
              by_cases c1 : T.getD p 0 < 40
              · rw [if_pos (by rw [e40]; exact c1), if_neg (by rw [e45]; omega), if_pos (by rw [e59]; omega), if_neg (by omega)]
              · rw [if_neg (by rw [e40]; exact c1)]
                by_cases c2 : T.getD p 0 ≤ 43
                · rw [if_pos (by rw [e43]; exact c2), if_pos (by omega)]
                · rw [if_neg (by rw [e43]; exact c2)]
                  by_cases c3 : T.getD p 0 = 45
                  · rw [if_pos (by rw [e45]; exact c3), if_pos (by omega)]
                  · rw [if_neg (by rw [e45]; exact c3)]
                    by_cases c4 : T.getD p 0 < 59
                    · rw [if_pos (by rw [e59]; exact c4), if_neg (by omega)]
                    · rw [if_neg (by rw [e59]; exact c4)]
                      by_cases c5 : 61 < T.getD p 0
                      · rw [if_pos (by rw [e61]; exact c5), if_neg (by omega)]
                      · rw [if_neg (by rw [e61]; exact c5), if_pos (by omega)]
            rw [hval]
            by_cases hs : T.getD p 0 = 40 ∨ T.getD p 0 = 41 ∨ T.getD p 0 = 42 ∨ T.getD p 0 = 43 ∨ T.getD p 0 = 45 ∨ T.getD p 0 = 59 ∨ T.getD p 0 = 60 ∨ T.getD p 0 = 61
            · rw [if_pos hs] at hok1 ⊢
              refine ⟨_, _, _, _, _, rfl, T.getD p 0, [], p, _, by rw [tlT_s hp hw hd hb, if_pos hs], hok1, rfl, ?_, fun h => by omega, fun h => by omega, Or.inr ⟨by omega, p + 1, by omega, rfl, rfl⟩⟩
              unfold tMk
              rw [if_neg (by omega), if_neg (by omega), if_neg (by omega), if_neg (by omega)]
              rfl
            · rw [if_neg hs] at hok1 ⊢
              exact ⟨_, _, _, _, _, rfl, 23, [], p, _, by rw [tlT_s hp hw hd hb, if_neg hs], hok1, rfl, rfl, fun h => absurd h (by decide), fun h => absurd h (by decide), Or.inr ⟨by decide, p + 1, by omega, rfl, rfl⟩⟩
theorem tlT_ne (T : List Nat) : ∀ (r p : Nat), p + r = T.length + 1 → tlT T p ≠ [] := by
  intro r
  induction r using Nat.strongRecOn with
  | ind r ih =>
    intro p hp
    by_cases h : T.length ≤ p
    · rw [tlT_end h]
      simp
    · have hp2 : p < T.length := by omega
      by_cases hw : 97 ≤ T.getD p 0 ∧ T.getD p 0 ≤ 122
      · rw [tlT_w hp2 hw]
        simp
      · by_cases hd : 48 ≤ T.getD p 0 ∧ T.getD p 0 ≤ 57
        · rw [tlT_d hp2 hd]
          simp
        · by_cases hb : T.getD p 0 = 10 ∨ T.getD p 0 = 32
          · rw [tlT_b hp2 hb]
            exact ih (r - 1) (by omega) (p + 1) (by omega)
          · rw [tlT_s hp2 hw hd hb]
            simp
theorem nextToken_M {F : Nat} (hF : 2000 ≤ F) {T : List Nat} (hT : okT T) {tp : Nat → Int32} (ht : rL tp T) {R : List Tk} {pl bg tkn : Int32} {wd : Int64} {td : Int32} (h : nsM T R pl bg tkn wd td) : ∃ pl' bg' tkn' wd' td', fX12_nextToken F (ii T.length) 1000 tp pl bg tkn wd td = some (pl', bg', tkn', wd', td') ∧ nsM T (stp R) pl' bg' tkn' wd' td' := by
  have hT1 := hT.1
  obtain ⟨κ, w, σ, R', h1, h2, h3, h4, h5, h6, h7⟩ := h
  unfold fX12_nextToken
  rcases h7 with ⟨q1, q2, q3, q4, q5⟩ | ⟨q1, p, q2, q3, q4⟩
  · subst q1 q2 q4 q5
    rw [q3]
    obtain ⟨pl', bg', tkn', wd', td', e1, g1⟩ := next_M hF hT ht F T.length bg tkn wd td (Nat.le_refl _) (by omega)
    refine ⟨pl', bg', tkn', wd', td', e1, ?_⟩
    rw [tlT_end (Nat.le_refl _)] at g1
    rw [h1]
    exact g1
  · rw [q3]
    obtain ⟨pl', bg', tkn', wd', td', e1, g1⟩ := next_M hF hT ht F p bg tkn wd td q2 (by omega)
    refine ⟨pl', bg', tkn', wd', td', e1, ?_⟩
    have hs : stp R = tlT T p := by
      rw [h1, q4]
      have hne := tlT_ne T (T.length + 1 - p) p (by omega)
      cases hR : tlT T p with
      | nil => exact absurd hR hne
      | cons u U => rfl
    rw [hs]
    exact g1
