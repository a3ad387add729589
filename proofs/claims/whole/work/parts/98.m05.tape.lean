/-! PURE: the class lays the tokens -/
def dT : Nat × List Nat × Nat := (22, [], 0)
def rTk (tk sta : Nat → Int32) (vl : Nat → Int64) (A : List (Nat × List Nat × Nat)) : Prop := ∀ j, j < A.length → tk j = ii (A.getD j dT).1 ∧ sta j = ii (A.getD j dT).2.2 ∧ ((A.getD j dT).1 ≤ 20 → vl j = il (bv 32 (A.getD j dT).2.1)) ∧ ((A.getD j dT).1 = 21 → vl j = il (dv (A.getD j dT).2.1))
theorem updL_same (f : Nat → Int64) (k : Nat) (x : Int64) : vp_updL f k x k = x := by simp [vp_updL]
theorem updL_ne (f : Nat → Int64) {k j : Nat} (x : Int64) (h : j ≠ k) : vp_updL f k x j = f j := by simp [vp_updL, h]
theorem getT1 {A B : List (Nat × List Nat × Nat)} {i : Nat} (h : i < A.length) : (A ++ B).getD i dT = A.getD i dT := by
  simp only [List.getD_eq_getElem?_getD]
  rw [List.getElem?_append_left h]
theorem getT2 {A B : List (Nat × List Nat × Nat)} {i : Nat} (h : A.length ≤ i) : (A ++ B).getD i dT = B.getD (i - A.length) dT := by
  simp only [List.getD_eq_getElem?_getD]
  rw [List.getElem?_append_right h]
theorem lay9 {F κ σ : Nat} {w : List Nat} {v : Int64} {A : List (Nat × List Nat × Nat)} {tk sta : Nat → Int32} {vl : Nat → Int64} (hA : A.length ≤ 1000) (h : rTk tk sta vl A) (h1 : κ ≤ 20 → v = il (bv 32 w)) (h2 : κ = 21 → v = il (dv w)) :
    ∃ tk' sta' vl', fX9_lay F 1001 1001 1001 (ii κ) (ii σ) v (ii A.length) tk sta vl = some (ii (A ++ [(κ, w, σ)]).length, tk', sta', vl') ∧ rTk tk' sta' vl' (A ++ [(κ, w, σ)]) := by
  unfold fX9_lay bX9_lay_L50
  have e : ¬ (ii A.length < 0 ∨ 1001 ≤ (ii A.length).toNatClampNeg) := nidx (by omega) (by omega)
  rw [if_neg (by rw [k_1000, ii_lt (by omega) (by omega)]; omega)]
  simp only [if_neg e]
  rw [ii_nat (by omega), k_1, ii_add, List.length_append, List.length_singleton]
  refine ⟨_, _, _, rfl, fun j hj => ?_⟩
  rw [List.length_append, List.length_singleton] at hj
  by_cases hj2 : j < A.length
  · rw [getT1 hj2, upd_ne _ _ (by omega), upd_ne _ _ (by omega), updL_ne _ _ (by omega)]
    exact h j hj2
  · have : j = A.length := by omega
    subst this
    rw [getT2 (Nat.le_refl _), Nat.sub_self, upd_same, upd_same, updL_same]
    exact ⟨rfl, rfl, h1, h2⟩
theorem isLetter_eq {F c : Nat} (hc : c < 1000) : fX9_isLetter F (ii c) = some (if 97 ≤ c ∧ c ≤ 122 then 1 else 0) := by
  unfold fX9_isLetter bX9_isLetter_L16 bX9_isLetter_L17
  have e1 : (ii c < (97 : Int32)) = (c < 97) := by rw [k_97, ii_lt (by omega) (by omega)]
  have e2 : ((122 : Int32) < ii c) = (122 < c) := by rw [k_122, ii_lt (by omega) (by omega)]
  by_cases h1 : c < 97
  · rw [if_pos (by rw [e1]; exact h1), if_pos (Or.inl rfl), if_neg (by omega)]
  · rw [if_neg (by rw [e1]; exact h1)]
    by_cases h2 : 122 < c
    · rw [if_pos (by rw [e2]; exact h2), if_pos (Or.inl rfl), if_neg (by omega)]
    · rw [if_neg (by rw [e2]; exact h2), if_pos (Or.inr rfl), if_pos (by omega)]
theorem isDigit_eq {F c : Nat} (hc : c < 1000) : fX9_isDigit F (ii c) = some (if 48 ≤ c ∧ c ≤ 57 then 1 else 0) := by
  unfold fX9_isDigit bX9_isDigit_L16 bX9_isDigit_L17
  have e1 : (ii c < (48 : Int32)) = (c < 48) := by rw [k_48, ii_lt (by omega) (by omega)]
  have e2 : ((57 : Int32) < ii c) = (57 < c) := by rw [k_57, ii_lt (by omega) (by omega)]
  by_cases h1 : c < 48
  · rw [if_pos (by rw [e1]; exact h1), if_pos (Or.inl rfl), if_neg (by omega)]
  · rw [if_neg (by rw [e1]; exact h1)]
    by_cases h2 : 57 < c
    · rw [if_pos (by rw [e2]; exact h2), if_pos (Or.inl rfl), if_neg (by omega)]
    · rw [if_neg (by rw [e2]; exact h2), if_pos (Or.inr rfl), if_pos (by omega)]
theorem tw_get (f : Nat → Bool) {T : List Nat} {p i d : Nat} (h : i < ((T.drop p).takeWhile f).length) : ((T.drop p).takeWhile f).getD i d = T.getD (p + i) 0 := by
  obtain ⟨r, hr⟩ := List.takeWhile_prefix (l := T.drop p) f
  have h1 : (T.drop p)[i]? = ((T.drop p).takeWhile f)[i]? := by
    conv => lhs; rw [← hr]
    rw [List.getElem?_append_left h]
  rw [List.getD_eq_getElem?_getD, ← h1, List.getElem?_drop, List.getD_eq_getElem?_getD]
  have h2 : (T.drop p)[i]? = some (((T.drop p).takeWhile f)[i]) := by rw [h1, List.getElem?_eq_getElem h]
  rw [List.getElem?_drop] at h2
  rw [h2]
  rfl
def okT (T : List Nat) : Prop := T.length ≤ 1000 ∧ ∀ c ∈ T, c < 127
theorem okT_at {T : List Nat} (h : okT T) {p : Nat} (hp : p < T.length) : T.getD p 0 < 127 := h.2 _ (rL_mem (a := fun _ => 0) hp)
theorem charAt_eq {F : Nat} : ∀ k, k < 20 → ∀ i, i < 5 → fJ0_charAt_5068e_zS0 F (ii (k * 5 + i)) = some (ii ((WL k).getD i 32)) := by
  unfold fJ0_charAt_5068e_zS0 fJ0_isLatin1_aae02_zS0 bJ0_isLatin1_aae02_zS0_L17 bJ0_isLatin1_aae02_zS0_L18 fJ1_charAt_3b067_zB0 fJ0_checkIndex_df160 fJ3_checkIndex_8e157_zV bJ3_checkIndex_8e157_zV_L9
  decide +kernel
theorem pad_eq {w u : List Nat} (hw : okW w) (hu : okW u) (h1 : w.length ≤ 5) (h2 : u.length ≤ 5) (h : ∀ j, j < 5 → w.getD j 32 = u.getD j 32) : w = u := by
  have hl : ∀ (w u : List Nat), okW w → w.length ≤ 5 → (∀ j, j < 5 → w.getD j 32 = u.getD j 32) → w.length ≤ u.length := by
    intro w u hw h1 h
    by_cases hlt : w.length ≤ u.length
    · exact hlt
    · exfalso
      have h3 := h u.length (by omega)
      have h4 : u.getD u.length 32 = 32 := by
        rw [List.getD_eq_getElem?_getD, List.getElem?_eq_none (Nat.le_refl _)]
        rfl
      have h5 : w.getD u.length 32 = w[u.length]'(by omega) := by
        rw [List.getD_eq_getElem?_getD, List.getElem?_eq_getElem (by omega)]
        rfl
      have h6 := hw _ (List.getElem_mem (show u.length < w.length by omega))
      rw [h4, h5] at h3
      omega
  have e : w.length = u.length := Nat.le_antisymm (hl w u hw h1 h) (hl u w hu h2 (fun j hj => (h j hj).symm))
  apply List.ext_getElem e
  intro i hi1 hi2
  have h3 := h i (by omega)
  rw [List.getD_eq_getElem?_getD, List.getElem?_eq_getElem hi1, List.getD_eq_getElem?_getD, List.getElem?_eq_getElem hi2] at h3
  exact h3
theorem isWord_L {F k p : Nat} (hk : k < 20) {T : List Nat} (hT : okT T) {sg9 : Nat → Int32} (hsg : rL sg9 T) (hp : p < T.length) (hl : (twL T p).length ≤ 5) :
    ∀ (t i : Nat), i ≤ 5 → 5 < i + t → (∀ j, j < i → (twL T p).getD j 32 = (WL k).getD j 32) → fX9_isWord_L3 F (ii T.length) 1000 sg9 t (ii k) (ii p) (ii (twL T p).length) (ii i) = some (if twL T p = WL k then 1 else 0) := by
  intro t
  induction t with
  | zero => intro i h1 h2; omega
  | succ t ih =>
    intro i h1 h2 h3
    obtain ⟨q1, q2, q3⟩ := WL_ok k hk
    have hT1 := hT.1
    have hpl := twL_len T p (by omega)
    rw [sX9_isWord_L3]
    unfold bX9_isWord_L3 bX9_isWord_L38 bX9_isWord_L40
    by_cases h5 : i = 5
    · subst h5
      rw [if_pos (by decide), if_pos (pad_eq (twL_ok T p) q3 hl q1 h3)]
    · have e1 : (ii k * (5 : Int32)) + ii i = ii (k * 5 + i) := by rw [k_5, ii_mul, ii_add]
      rw [if_neg (show ¬ (5 : Int32) ≤ ii i by rw [k_5, ii_le (by omega) (by omega)]; omega), e1, charAt_eq k hk i (by omega), ii_add]
      simp only [Option.bind_some]
      have hch : (WL k).getD i 32 < 1000 := by
        by_cases hi : i < (WL k).length
        · have := q3 _ (List.getElem_mem hi)
          rw [List.getD_eq_getElem?_getD, List.getElem?_eq_getElem hi]
          simp only [Option.getD_some]
          omega
        · rw [List.getD_eq_getElem?_getD, List.getElem?_eq_none (by omega)]
          simp
      have fin : ∀ (x : Nat), x < 1000 → (twL T p).getD i 32 = x → (if ii ((WL k).getD i 32) = ii x then fX9_isWord_L3 F (ii T.length) 1000 sg9 t (ii k) (ii p) (ii (twL T p).length) (ii i + 1) else some 0) = some (if twL T p = WL k then 1 else 0) := by
        intro x hx hwx
        by_cases heq : (WL k).getD i 32 = x
        · rw [if_pos (by rw [heq]), k_1, ii_add]
          apply ih (i + 1) (by omega) (by omega)
          intro j hj
          by_cases hj2 : j = i
          · rw [hj2, hwx, heq]
          · exact h3 j (by omega)
        · rw [if_neg (by rw [ii_inj (by omega) (by omega)]; exact heq), if_neg (by
            intro hh
            apply heq
            rw [← hh]
            exact hwx)]
      by_cases hi : (twL T p).length ≤ i
      · rw [if_pos (by rw [ii_le (by omega) (by omega)]; exact hi)]
        exact fin 32 (by omega) (by rw [List.getD_eq_getElem?_getD, List.getElem?_eq_none hi]; rfl)
      · rw [if_neg (by rw [ii_le (by omega) (by omega)]; exact hi), if_neg (by rw [ii_le (by omega) (by omega)]; omega), if_neg (nidx (by omega) (by omega)), ii_nat (by omega), hsg (p + i) (by omega)]
        exact fin _ (by have := okT_at hT (show p + i < T.length by omega); omega) (tw_get _ (by unfold twL at hi; omega))
theorem wordAt_L {F p : Nat} (hF : 1000 ≤ F) {T : List Nat} (hT : okT T) {sg9 : Nat → Int32} (hsg : rL sg9 T) (hp : p < T.length) (hl : (twL T p).length ≤ 5) :
    ∀ (t k : Nat), k ≤ 20 → 20 < k + t → fX9_wordAt_L2 F (ii T.length) 1000 sg9 t (ii p) (ii (twL T p).length) (ii k) = some (ii (kwF (twL T p) (20 - k) k)) := by
  intro t
  induction t with
  | zero => intro k h1 h2; omega
  | succ t ih =>
    intro k h1 h2
    rw [sX9_wordAt_L2]
    unfold bX9_wordAt_L2 bX9_wordAt_L31
    by_cases h : k = 20
    · subst h
      rw [if_pos (by decide)]
      rfl
    · rw [if_neg (show ¬ (19 : Int32) < ii k by rw [k_19, ii_lt (by omega) (by omega)]; omega), if_neg (show ¬ (5 : Int32) < ii (twL T p).length by rw [k_5, ii_lt (by omega) (by omega)]; omega)]
      have e1 : fX9_isWord F (ii T.length) 1000 sg9 (ii k) (ii p) (ii (twL T p).length) = some (if twL T p = WL k then 1 else 0) := isWord_L (F := F) (show k < 20 by omega) hT hsg hp hl F 0 (by omega) (by omega) (fun j hj => absurd hj (by omega))
      rw [e1, show 20 - k = (20 - (k + 1)) + 1 from by omega]
      simp only [Option.bind_some]
      unfold kwF
      by_cases hw : twL T p = WL k
      · rw [if_pos hw, if_neg (by decide), if_pos hw]
      · rw [if_neg hw, if_pos rfl, if_neg hw, k_1, ii_add]
        exact ih (k + 1) (by omega) (by omega)
theorem wordAt_eq {F p : Nat} (hF : 1000 ≤ F) {T : List Nat} (hT : okT T) {sg9 : Nat → Int32} (hsg : rL sg9 T) (hp : p < T.length) (hl : (twL T p).length ≤ 8) : fX9_wordAt F (ii T.length) 1000 sg9 (ii p) (ii (twL T p).length) = some (ii (kw (twL T p))) := by
  unfold fX9_wordAt
  by_cases h5 : (twL T p).length ≤ 5
  · exact wordAt_L hF hT hsg hp h5 F 0 (by omega) (by omega)
  · obtain ⟨F, rfl⟩ : ∃ G, F = G + 1 := ⟨F - 1, by omega⟩
    have e : kw (twL T p) = 20 := by
      obtain ⟨h1, h2⟩ := kw_le (twL T p)
      by_cases h3 : kw (twL T p) < 20
      · have := (WL_ok _ h3).1
        rw [← h2 h3] at this
        omega
      · omega
    rw [sX9_wordAt_L2, e]
    unfold bX9_wordAt_L2 bX9_wordAt_L31
    rw [if_neg (by decide), if_pos (show (5 : Int32) < ii (twL T p).length by rw [k_5, ii_lt (by omega) (by omega)]; omega)]
    rfl
theorem readWord_L {F p : Nat} {T : List Nat} (hT : okT T) {sg9 : Nat → Int32} (hsg : rL sg9 T) (hp : p < T.length) {cn : Int32} {tk sta : Nat → Int32} {vl : Nat → Int64} :
    ∀ (t q : Nat) (w : List Nat), q = p + w.length → q ≤ T.length → T.length < q + t → twL T p = w ++ twL T q → fX9_readWord_L4 F (ii T.length) 1000 sg9 1001 1001 1001 t (ii p) (ii q) (il (bv 32 w)) cn tk sta vl = bX9_readWord_L49 F (ii T.length) 1000 sg9 1001 1001 1001 (ii p) (ii (p + (twL T p).length)) (il (bv 32 (twL T p))) cn tk sta vl := by
  intro t
  induction t with
  | zero => intro q w h1 h2 h3; omega
  | succ t ih =>
    intro q w h1 h2 h3 h4
    have hT1 := hT.1
    rw [sX9_readWord_L4]
    unfold bX9_readWord_L4
    by_cases h : T.length ≤ q
    · rw [if_pos (by rw [ii_le (by omega) (by omega)]; exact h)]
      rw [twL_0 (Or.inl h), List.append_nil] at h4
      rw [h4, h1]
    · have hc := okT_at hT (show q < T.length by omega)
      have hidx : ¬ (ii q < 0 ∨ 1000 ≤ (ii q).toNatClampNeg) := nidx (by omega) (by omega)
      rw [if_neg (by rw [ii_le (by omega) (by omega)]; exact h), if_neg hidx, ii_nat (by omega), hsg q (by omega), isLetter_eq (by omega)]
      simp only [Option.bind_some]
      by_cases hl : 97 ≤ T.getD q 0 ∧ T.getD q 0 ≤ 122
      · rw [if_pos hl, if_neg (by decide), if_neg (by rw [ii_nat (by omega)] at hidx; exact hidx)]
        have e1 : (ii (T.getD q 0) - (97 : Int32) + (1 : Int32)).toInt64 = il (T.getD q 0 - 96) := by
          rw [k_97, ii_sub hl.1, k_1, ii_add, show T.getD q 0 - 97 + 1 = T.getD q 0 - 96 from by omega, il_int (by omega)]
        have e2 : (32 : Int64) = il 32 := rfl
        rw [e1, e2, il_mul, il_add, ← bv_snoc, k_1, ii_add]
        refine ih (q + 1) (w ++ [T.getD q 0]) (by rw [List.length_append, List.length_singleton]; omega) (by omega) (by omega) ?_
        rw [h4, twL_s (by omega) hl, List.append_assoc]
        rfl
      · rw [if_neg hl, if_pos rfl]
        rw [twL_0 (Or.inr hl), List.append_nil] at h4
        rw [h4, h1]
theorem readNumber_L {F p : Nat} {T : List Nat} (hT : okT T) {sg9 : Nat → Int32} (hsg : rL sg9 T) (hp : p < T.length) {cn : Int32} {tk sta : Nat → Int32} {vl : Nat → Int64} :
    ∀ (t q : Nat) (w : List Nat), q = p + w.length → q ≤ T.length → T.length < q + t → twD T p = w ++ twD T q → fX9_readNumber_L4 F (ii T.length) 1000 sg9 1001 1001 1001 t (ii p) (ii q) (il (dv w)) cn tk sta vl = bX9_readNumber_L47 F (ii T.length) 1000 sg9 1001 1001 1001 (ii p) (ii (p + (twD T p).length)) (il (dv (twD T p))) cn tk sta vl := by
  intro t
  induction t with
  | zero => intro q w h1 h2 h3; omega
  | succ t ih =>
    intro q w h1 h2 h3 h4
    have hT1 := hT.1
    rw [sX9_readNumber_L4]
    unfold bX9_readNumber_L4
    by_cases h : T.length ≤ q
    · rw [if_pos (by rw [ii_le (by omega) (by omega)]; exact h)]
      rw [twD_0 (Or.inl h), List.append_nil] at h4
      rw [h4, h1]
    · have hc := okT_at hT (show q < T.length by omega)
      have hidx : ¬ (ii q < 0 ∨ 1000 ≤ (ii q).toNatClampNeg) := nidx (by omega) (by omega)
      rw [if_neg (by rw [ii_le (by omega) (by omega)]; exact h), if_neg hidx, ii_nat (by omega), hsg q (by omega), isDigit_eq (by omega)]
      simp only [Option.bind_some]
      by_cases hl : 48 ≤ T.getD q 0 ∧ T.getD q 0 ≤ 57
      · rw [if_pos hl, if_neg (by decide), if_neg (by rw [ii_nat (by omega)] at hidx; exact hidx)]
        have e1 : (ii (T.getD q 0) - (48 : Int32)).toInt64 = il (T.getD q 0 - 48) := by
          rw [k_48, ii_sub hl.1, il_int (by omega)]
        have e2 : (10 : Int64) = il 10 := rfl
        rw [e1, e2, il_mul, il_add, ← dv_snoc, k_1, ii_add]
        refine ih (q + 1) (w ++ [T.getD q 0]) (by rw [List.length_append, List.length_singleton]; omega) (by omega) (by omega) ?_
        rw [h4, twD_s (by omega) hl, List.append_assoc]
        rfl
      · rw [if_neg hl, if_pos rfl]
        rw [twD_0 (Or.inr hl), List.append_nil] at h4
        rw [h4, h1]
