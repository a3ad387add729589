/-! PURE: cuts of the reference -/
/-- what is kept of the first k places -/
def slF (L : List Nat) (S : Nat) : Nat → List Nat
  | 0 => []
  | k + 1 => slF L S k ++ (if S.testBit k = true then [] else [L.getD k 0])
theorem slF_in {L : List Nat} {S k : Nat} (h : S.testBit k = true) : slF L S (k + 1) = slF L S k := by
  show slF L S k ++ (if S.testBit k = true then [] else [L.getD k 0]) = _
  rw [if_pos h, List.append_nil]
theorem slF_out {L : List Nat} {S k : Nat} (h : ¬ S.testBit k = true) : slF L S (k + 1) = slF L S k ++ [L.getD k 0] := by
  show slF L S k ++ (if S.testBit k = true then [] else [L.getD k 0]) = _
  rw [if_neg h]
theorem slF_len {L : List Nat} {S k : Nat} : (slF L S k).length ≤ k := by
  induction k with
  | zero => exact Nat.le_refl _
  | succ k ih =>
    by_cases h : S.testBit k = true
    · rw [slF_in h]; omega
    · rw [slF_out h, List.length_append]
      simp only [List.length_cons, List.length_nil]
      omega
theorem slF_ok {n : Nat} {L : List Nat} {S k : Nat} (hL : okL n L) (hk : k ≤ L.length) : okL n (slF L S k) := by
  induction k with
  | zero => intro t ht; cases ht
  | succ k ih =>
    by_cases h : S.testBit k = true
    · rw [slF_in h]; exact ih (by omega)
    · rw [slF_out h]
      intro t ht
      rcases List.mem_append.mp ht with h1 | h1
      · exact ih (by omega) t h1
      · rw [List.mem_singleton.mp h1]
        exact hL _ (getD_mem (by omega))
abbrev oC (mk rd : Nat → Nat) (L : List Nat) (S : Nat) : Prop := psL mk rd [] (slF L S L.length) = []
theorem psL_snoc {mk rd : Nat → Nat} {Q : List (Nat × Int)} {L : List Nat} {t : Nat} : psL mk rd Q (L ++ [t]) = psT mk rd (psL mk rd Q L) t := by
  rw [psL_app]
  rfl
theorem coc_L7 {F n : Nat} {mk rd : Nat → Nat} {ki kn : Nat → Int32} (hn : okN n mk rd) (hm : netM n mk rd ki kn) (hF : 97 ≤ F) {L : List Nat} {s : Nat → Int32} (hL : okL n L) (hs : rS s L) (h14 : L.length ≤ 14) {S : Nat} (hS : S < 2 ^ 31) :
    ∀ (t i : Nat) (fo co : Nat → Int32), L.length < i + t → i ≤ L.length → rP fo co (psL mk rd [] (slF L S i)) → ∃ z fo' co', (oC mk rd L S → fX12_comesOutCut_L7 F 12 ki 12 kn 25 s 96 96 t (ii S) (ii i) (ii (psL mk rd [] (slF L S i)).length) fo co = some (1, z, fo', co')) ∧ (¬ oC mk rd L S → fX12_comesOutCut_L7 F 12 ki 12 kn 25 s 96 96 t (ii S) (ii i) (ii (psL mk rd [] (slF L S i)).length) fo co = some (0, z, fo', co')) := by
  intro t
  induction t with
  | zero => intro i fo co h1 h2; omega
  | succ t ih =>
    intro i fo co h1 h2 hr
    have hln := psL_len (mk := mk) (rd := rd) (L := slF L S i) (Q := [])
    have hl2 := slF_len (L := L) (S := S) (k := i)
    have hl3 : ([] : List (Nat × Int)).length = 0 := rfl
    rw [sX12_comesOutCut_L7]
    unfold bX12_comesOutCut_L7 bX12_comesOutCut_L37 bX12_comesOutCut_L55
    have z0 : ((0 : Int32)).toNatClampNeg = 0 := rfl
    rw [z0, hs.1, if_neg (show ¬ ((0 : Int32) < 0 ∨ 25 ≤ 0) by decide), e1k]
    by_cases h : L.length ≤ i
    · have : i = L.length := by omega
      subst this
      have e0 := len0 (k := (psL mk rd [] (slF L S L.length)).length) (by omega)
      refine ⟨ii (psL mk rd [] (slF L S L.length)).length, fo, co, fun ho => ?_, fun ho => ?_⟩
      · rw [if_pos (by rw [ii_le (by omega) (by omega)]; exact h), if_pos (by rw [e0, ho]; rfl)]
        rfl
      · rw [if_pos (by rw [ii_le (by omega) (by omega)]; exact h), if_neg (by rw [e0]; exact fun h9 => ho (List.eq_nil_of_length_eq_zero h9))]
        rfl
    · have b0 := iBit0 (S := S) (k := i) hS (by omega)
      rw [if_neg (by rw [ii_le (by omega) (by omega)]; exact h)]
      by_cases hb : S.testBit i = true
      · rw [if_neg (by rw [b0, hb]; decide)]
        have := ih (i + 1) fo co (by omega) (by omega) (by rw [slF_in hb]; exact hr)
        rw [slF_in hb] at this
        exact this
      · have ht := hL _ (getD_mem (L := L) (k := i) (by omega))
        have hP := psL_ok (B := 3) hn (slF_ok (S := S) hL (show i ≤ L.length by omega)) (by omega) (Q := []) (fun x hx => by cases hx)
        obtain ⟨fo', co', e, hl, hr'⟩ := jT_eq (F := F) hn hm hF ht (okP_mono (by omega) hP) (by omega) hr
        rw [if_pos (by rw [b0]; simpa using hb), if_neg (nidx (by omega) (by omega)), ii_nat (by omega), hs.2 i (by omega), e]
        have := ih (i + 1) fo' co' (by omega) (by omega) (by rw [slF_out hb, psL_snoc]; exact hr')
        rw [slF_out hb, psL_snoc] at this
        exact this
theorem coc_M {F n : Nat} {mk rd : Nat → Nat} {ki kn : Nat → Int32} (hn : okN n mk rd) (hm : netM n mk rd ki kn) (hF : 97 ≤ F) {L : List Nat} {s : Nat → Int32} (hL : okL n L) (hs : rS s L) (h14 : L.length ≤ 14) {S : Nat} (hS : S < 2 ^ 31) (z : Int32) (fo co : Nat → Int32) :
    ∃ z' fo' co', (oC mk rd L S → fX12_comesOutCut F 12 ki 12 kn 25 s 96 96 (ii S) z fo co = some (1, z', fo', co')) ∧ (¬ oC mk rd L S → fX12_comesOutCut F 12 ki 12 kn 25 s 96 96 (ii S) z fo co = some (0, z', fo', co')) := by
  unfold fX12_comesOutCut
  exact coc_L7 hn hm hF hL hs h14 hS F 0 fo co (by omega) (by omega) trivial
theorem bitsP_L {F S : Nat} (hS : S < 2 ^ 31) : ∀ (t k : Nat), 24 < k + t → k ≤ 24 → fX12_bits_L4 F t (ii S) (ii (pcS k S)) (ii k) = some (ii (pcS 24 S)) := by
  intro t
  induction t with
  | zero => intro k h1 h2; omega
  | succ t ih =>
    intro k h1 h2
    rw [sX12_bits_L4]
    unfold bX12_bits_L4
    rw [e1k]
    by_cases h : 24 ≤ k
    · have : k = 24 := by omega
      subst this
      rw [if_pos (by rw [k_24, ii_le (by omega) (by omega)]; exact h)]
    · rw [if_neg (by rw [k_24, ii_le (by omega) (by omega)]; exact h), iBit hS (by omega)]
      have e : ii (pcS k S) + (if S.testBit k = true then (1 : Int32) else 0) = ii (pcS (k + 1) S) := by
        show _ = ii (pcS k S + ind (S.testBit k = true))
        rw [← ii_add]
        congr 1
        unfold ind
        by_cases hb : S.testBit k = true
        · rw [if_pos hb, if_pos hb]; rfl
        · rw [if_neg hb, if_neg hb]; rfl
      rw [e]
      exact ih (k + 1) (by omega) (by omega)
theorem bitsP {F S : Nat} (hS : S < 2 ^ 31) (hF : 100 ≤ F) : fX12_bits F (ii S) = some (ii (pcS 24 S)) := by
  unfold fX12_bits
  exact bitsP_L hS F 0 (by omega) (by omega)
theorem pcS_ext {m k S : Nat} (hm : m ≤ k) (hS : S < 2 ^ m) : pcS k S = pcS m S := by
  induction k with
  | zero => rw [show m = 0 by omega]
  | succ k ih =>
    by_cases h : m = k + 1
    · rw [h]
    · have e : pcS (k + 1) S = pcS k S + ind (S.testBit k = true) := rfl
      rw [e, ih (by omega), ind_f (by
        rw [Nat.testBit_lt_two_pow (Nat.lt_of_lt_of_le hS (Nat.pow_le_pow_right (by decide) (by omega)))]
        decide), Nat.add_zero]
/-- the best of the sets below S -/
def bsC (mk rd : Nat → Nat) (L : List Nat) (S : Nat) : Option Nat → Prop
  | none => ∀ C, C < S → ¬ oC mk rd L C
  | some B => B < S ∧ oC mk rd L B ∧ ∀ C, C < S → oC mk rd L C → pcS L.length B < pcS L.length C ∨ (pcS L.length B = pcS L.length C ∧ B ≤ C)
def obI : Option Nat → Int32
  | none => -1
  | some B => ii B
theorem cuts_L22 {F n : Nat} {mk rd : Nat → Nat} {ki kn : Nat → Int32} (hn : okN n mk rd) (hm : netM n mk rd ki kn) (hF : 20000 ≤ F) {L : List Nat} {s : Nat → Int32} (hL : okL n L) (hs : rS s L) (h14 : L.length ≤ 14) (th : Int32) :
    ∀ (t S : Nat) (b : Option Nat) (z : Int32) (fo co : Nat → Int32), 2 ^ L.length < S + t → S ≤ 2 ^ L.length → bsC mk rd L S b → ∃ b' z' fo' co', fX12_cuts_L22 F 12 ki 12 kn 25 s 96 96 t (obI b) (ii S) th z fo co = some (obI b', th, z', fo', co') ∧ bsC mk rd L (2 ^ L.length) b' := by
  have hp := p2_le h14
  intro t
  induction t with
  | zero => intro S b z fo co h1 h2; omega
  | succ t ih =>
    intro S b z fo co h1 h2 hb
    rw [sX12_cuts_L22]
    unfold bX12_cuts_L22 bX12_cuts_L49 bX12_cuts_L59
    have z0 : ((0 : Int32)).toNatClampNeg = 0 := rfl
    rw [z0, hs.1, if_neg (show ¬ ((0 : Int32) < 0 ∨ 25 ≤ 0) by decide), e1k, iSh _ (by omega)]
    by_cases h : 2 ^ L.length ≤ S
    · have : S = 2 ^ L.length := by omega
      subst this
      rw [if_pos (by rw [ii_le (by omega) (by omega)]; exact h)]
      exact ⟨b, z, fo, co, rfl, hb⟩
    · rw [if_neg (by rw [ii_le (by omega) (by omega)]; exact h)]
      obtain ⟨z', fo', co', o1, o0⟩ := coc_M (F := F) hn hm (by omega) hL hs h14 (show S < 2 ^ 31 by omega) z fo co
      have pS : pcS 24 S = pcS L.length S := pcS_ext (by omega) (by omega)
      have step : ∀ b : Option Nat, bsC mk rd L S b → (∀ B, b = some B → pcS L.length S < pcS L.length B) → ∃ b' z9 fo9 co9, ((fX12_comesOutCut F 12 ki 12 kn 25 s 96 96 (ii S) z fo co).bind fun R51 => if R51.1 = 0 then fX12_cuts_L22 F 12 ki 12 kn 25 s 96 96 t (obI b) (ii (S + 1)) th R51.2.1 R51.2.2.1 R51.2.2.2 else fX12_cuts_L22 F 12 ki 12 kn 25 s 96 96 t (ii S) (ii (S + 1)) th R51.2.1 R51.2.2.1 R51.2.2.2) = some (obI b', th, z9, fo9, co9) ∧ bsC mk rd L (2 ^ L.length) b' := by
        intro b hb hlt
        by_cases ho : oC mk rd L S
        · rw [o1 ho, Option.bind_some, if_neg (show ¬ (1 : Int32) = 0 by decide)]
          refine ih (S + 1) (some S) _ _ _ (by omega) (by omega) ⟨by omega, ho, ?_⟩
          intro C hC hoC
          by_cases hCS : C = S
          · rw [hCS]; exact Or.inr ⟨rfl, Nat.le_refl _⟩
          · left
            cases b with
            | none => exact absurd hoC (hb C (by omega))
            | some B =>
              have h1 := hb.2.2 C (by omega) hoC
              have h2 := hlt B rfl
              omega
        · rw [o0 ho, Option.bind_some, if_pos rfl]
          refine ih (S + 1) b _ _ _ (by omega) (by omega) ?_
          cases b with
          | none =>
            intro C hC
            by_cases hCS : C = S
            · rw [hCS]; exact ho
            · exact hb C (by omega)
          | some B =>
            refine ⟨by have := hb.1; omega, hb.2.1, ?_⟩
            intro C hC hoC
            by_cases hCS : C = S
            · rw [hCS] at hoC; exact absurd hoC ho
            · exact hb.2.2 C (by omega) hoC
      cases b with
      | none =>
        rw [show obI none = (-1 : Int32) from rfl, if_pos (by decide)]
        exact step none hb (fun B hB => by cases hB)
      | some B =>
        have hB := hb.1
        have pB : pcS 24 B = pcS L.length B := pcS_ext (by omega) (by omega)
        have q1 := pcS_le L.length S
        have q2 := pcS_le L.length B
        rw [show obI (some B) = ii B from rfl, if_neg (by rw [ii_nneg (by omega)]; simp), bitsP (by omega) (by omega), Option.bind_some, bitsP (by omega) (by omega), Option.bind_some, pS, pB]
        by_cases hc : pcS L.length B ≤ pcS L.length S
        · rw [if_pos (by rw [ii_le (by omega) (by omega)]; exact hc)]
          refine ih (S + 1) (some B) _ _ _ (by omega) (by omega) ⟨by omega, hb.2.1, ?_⟩
          intro C hC hoC
          by_cases hCS : C = S
          · rw [hCS]; omega
          · exact hb.2.2 C (by omega) hoC
        · rw [if_neg (by rw [ii_le (by omega) (by omega)]; exact hc)]
          exact step (some B) hb (fun B' hB' => by cases hB'; omega)
theorem slF_full {L : List Nat} {S : Nat} : ∀ k, (∀ i, i < k → S.testBit i = true) → slF L S k = [] := by
  intro k
  induction k with
  | zero => intro _; rfl
  | succ k ih =>
    intro h
    rw [slF_in (h k (by omega))]
    exact ih (fun i hi => h i (by omega))
theorem cuts_M {F n : Nat} {mk rd : Nat → Nat} {ki kn : Nat → Int32} (hn : okN n mk rd) (hm : netM n mk rd ki kn) (hF : 20000 ≤ F) {L : List Nat} {s : Nat → Int32} (hL : okL n L) (hs : rS s L) (h14 : L.length ≤ 14) (th z : Int32) (fo co : Nat → Int32) :
    ∃ B z' fo' co', fX12_cuts F 12 ki 12 kn 25 s 96 96 th z fo co = some (ii B, 0, z', fo', co') ∧ bsC mk rd L (2 ^ L.length) (some B) := by
  have hp := p2_le h14
  have hp0 := Nat.two_pow_pos L.length
  obtain ⟨b, z', fo', co', e, g⟩ := cuts_L22 (F := F) hn hm hF hL hs h14 0 F 0 none z fo co (by omega) (by omega) (fun C hC => by omega)
  unfold fX12_cuts
  have z0 : ((0 : Int32)).toNatClampNeg = 0 := rfl
  rw [z0, hs.1, if_neg (by decide), if_pos (by rw [k_14, ii_le (by omega) (by omega)]; exact h14)]
  cases b with
  | none =>
    exfalso
    refine g (2 ^ L.length - 1) (by omega) ?_
    show psL mk rd [] (slF L (2 ^ L.length - 1) L.length) = []
    rw [slF_full L.length (fun i hi => full_b hi)]
    rfl
  | some B => exact ⟨B, z', fo', co', e, g⟩
theorem cuts_M0 {F : Nat} {L : List Nat} {s : Nat → Int32} (hs : rS s L) (h14 : 14 < L.length) (h24 : L.length ≤ 24) (ki kn : Nat → Int32) (th z : Int32) (fo co : Nat → Int32) : fX12_cuts F 12 ki 12 kn 25 s 96 96 th z fo co = some (-1, 0, z, fo, co) := by
  unfold fX12_cuts
  have z0 : ((0 : Int32)).toNatClampNeg = 0 := rfl
  rw [z0, hs.1, if_neg (by decide), if_neg (by rw [k_14, ii_le (by omega) (by omega)]; omega)]
