/-! PURE: the reference's rings, packed -/
def pkN (O : List Nat) : Nat := O.foldl (fun v t => v * 16 + (t + 1)) 0
theorem pk_snoc (O : List Nat) (t : Nat) : pkN (O ++ [t]) = pkN O * 16 + (t + 1) := by unfold pkN; rw [List.foldl_append]; rfl
theorem pkN_lt : ∀ (k : Nat) {O : List Nat}, O.length = k → (∀ t ∈ O, t < 12) → pkN O < 16 ^ k := by
  intro k
  induction k with
  | zero => intro O h _; rw [List.eq_nil_of_length_eq_zero h]; decide
  | succ k ih =>
    intro O h ht
    rcases List.eq_nil_or_concat O with rfl | ⟨O', t, rfl⟩
    · cases h
    · rw [List.concat_eq_append] at h ht ⊢
      have h1 := ih (O := O') (by simpa using h) (fun x hx => ht x (by simp [hx]))
      have h2 := ht t (by simp)
      rw [pk_snoc, Nat.pow_succ]
      omega
theorem pk_inj : ∀ (k : Nat) {O O' : List Nat}, O.length = k → (∀ t ∈ O, t < 12) → (∀ t ∈ O', t < 12) → pkN O = pkN O' → O = O' := by
  intro k
  induction k with
  | zero =>
    intro O O' h _ ht e
    rw [List.eq_nil_of_length_eq_zero h] at e ⊢
    rcases List.eq_nil_or_concat O' with rfl | ⟨P, t, rfl⟩
    · rfl
    · rw [List.concat_eq_append, pk_snoc] at e
      have : pkN [] = 0 := rfl
      omega
  | succ k ih =>
    intro O O' h h1 h2 e
    rcases List.eq_nil_or_concat O with rfl | ⟨P, t, rfl⟩
    · cases h
    · rcases List.eq_nil_or_concat O' with rfl | ⟨P', t', rfl⟩
      · rw [List.concat_eq_append, pk_snoc] at e
        have : pkN [] = 0 := rfl
        omega
      · rw [List.concat_eq_append] at h h1 ⊢
        rw [List.concat_eq_append] at h2 ⊢
        rw [List.concat_eq_append, List.concat_eq_append, pk_snoc, pk_snoc] at e
        have a1 := h1 t (by simp)
        have a2 := h2 t' (by simp)
        have e1 : t = t' := by omega
        have e2 := ih (O := P) (O' := P') (by simpa using h) (fun x hx => h1 x (by simp [hx])) (fun x hx => h2 x (by simp [hx])) (by omega)
        rw [e1, e2]
theorem pw16 {k : Nat} (h : k ≤ 12) : 16 ^ k ≤ 281474976710656 := by
  have := Nat.pow_le_pow_right (n := 16) (by decide) h
  exact this
theorem lgp {v : Nat} (h : v < 9223372036854775808) : (lg_cmp (il v) (0 : Int64) ≤ 0) = (v = 0) := by
  apply propext
  unfold lg_cmp
  have h0 : ((0 : Int64) < il v) = (0 < v) := propext (Int64.ofNat_lt_iff_lt (a := 0) (b := v) (by decide) h)
  show ((if (0 : Int64) < il v then (1 : Int32) else if il v = 0 then 0 else -1) ≤ 0) ↔ v = 0
  by_cases hv : v = 0
  · rw [hv]
    constructor
    · intro _; rfl
    · intro _; decide
  · rw [if_pos (by rw [h0]; omega)]
    constructor
    · intro h9; exact absurd h9 (by decide)
    · intro h9; exact absurd h9 hv
theorem take_pk {O : List Nat} {i : Nat} (hi : i < O.length) : pkN (O.take (i + 1)) = pkN (O.take i) * 16 + (O.getD i 0 + 1) := by
  have : O.take (i + 1) = O.take i ++ [O.getD i 0] := by
    rw [List.take_add_one, List.getD_eq_getElem?_getD, List.getElem?_eq_getElem hi]
    rfl
  rw [this, pk_snoc]
theorem packed_L {F N : Nat} {O : List Nat} {fm : Nat → Int32} (ho : ∀ t ∈ O, t < 12) (hr : rL fm O) (hN : O.length ≤ N) (hN2 : N < 1000000) : ∀ (t i : Nat), i ≤ O.length → O.length < i + t → fX12_packed_L4 F (ii O.length) N fm t (il (pkN (O.take i))) (ii i) = some (il (pkN O)) := by
  intro t
  induction t with
  | zero => intro i h1 h2; omega
  | succ t ih =>
    intro i h1 h2
    rw [sX12_packed_L4]
    unfold bX12_packed_L4
    by_cases h : O.length ≤ i
    · rw [if_pos (by rw [ii_le (by omega) (by omega)]; exact h), List.take_of_length_le h]
    · have h12 := ho _ (rL_mem (a := fm) (L := O) (k := i) (by omega))
      rw [if_neg (by rw [ii_le (by omega) (by omega)]; exact h), if_neg (nidx (by omega) (by omega)), ii_nat (by omega), hr i (by omega), il_int (by omega), e1k]
      have e : il (pkN (O.take i)) * (16 : Int64) + il (O.getD i 0) + (1 : Int64) = il (pkN (O.take (i + 1))) := by
        rw [take_pk (by omega), show (16 : Int64) = il 16 from rfl, show (1 : Int64) = il 1 from rfl, il_mul, il_add, il_add, Nat.add_assoc]
      rw [e]
      exact ih (i + 1) (by omega) (by omega)
theorem packed_eq {F N : Nat} {O : List Nat} {fm : Nat → Int32} (ho : ∀ t ∈ O, t < 12) (hr : rL fm O) (hN : O.length ≤ N) (hN2 : N < 1000000) (hF : N < F) : fX12_packed F (ii O.length) N fm = some (il (pkN O)) := by
  unfold fX12_packed
  exact packed_L ho hr hN hN2 F 0 (Nat.zero_le _) (by omega)
theorem div_pk {O : List Nat} {t : Nat} (hl : O.length ≤ 11) (ho : ∀ x ∈ O ++ [t], x < 12) : il (pkN (O ++ [t])) / (16 : Int64) = il (pkN O) := by
  have h1 := pkN_lt _ rfl ho
  have h2 := pw16 (k := (O ++ [t]).length) (by simp; omega)
  have h3 := ho t (by simp)
  rw [show (16 : Int64) = il 16 from rfl, il_div (by omega) (by decide), pk_snoc]
  congr 1
  omega
theorem longOf_L {F : Nat} : ∀ (t : Nat) (O : List Nat) (k : Nat), O.length ≤ 12 → (∀ x ∈ O, x < 12) → O.length < t → fX12_longOf_L4 F t (ii k) (il (pkN O)) = some (ii (k + O.length)) := by
  intro t
  induction t with
  | zero => intro O k _ _ h; omega
  | succ t ih =>
    intro O k hl ho h
    rw [sX12_longOf_L4]
    unfold bX12_longOf_L4
    have h1 := pkN_lt _ rfl ho
    have h2 := pw16 hl
    rcases List.eq_nil_or_concat O with rfl | ⟨P, x, rfl⟩
    · rw [if_pos (by rw [lgp (by omega)]; rfl)]
      rfl
    · rw [List.concat_eq_append] at hl ho h h1 h2 ⊢
      have hl2 : P.length ≤ 11 := by simpa using hl
      rw [if_neg (by rw [lgp (by omega), pk_snoc]; omega), div_pk hl2 ho, e1k, ih P (k + 1) (by omega) (fun y hy => ho y (by simp [hy])) (by simp at h; omega)]
      congr 2
      simp
      omega
theorem longOf_eq {F : Nat} (hF : 1000 ≤ F) {O : List Nat} (hl : O.length ≤ 12) (ho : ∀ x ∈ O, x < 12) : fX12_longOf F (il (pkN O)) = some (ii O.length) := by
  unfold fX12_longOf
  have := longOf_L (F := F) F O 0 hl ho (by omega)
  rw [Nat.zero_add] at this
  exact this
theorem unp_7 {F N : Nat} {x1 : Int64} {ti : Nat → Int32} : ∀ (t : Nat) (O : List Nat) (k : Nat), O.length ≤ 12 → (∀ x ∈ O, x < 12) → O.length < t → fX12_unpacks_L7 F N t x1 (il (pkN O)) (ii k) ti = fX12_unpacks_L42 F N F x1 (ii (k + O.length) - (1 : Int32)) (ii (k + O.length)) ti := by
  intro t
  induction t with
  | zero => intro O k _ _ h; omega
  | succ t ih =>
    intro O k hl ho h
    rw [sX12_unpacks_L7]
    unfold bX12_unpacks_L7
    have h1 := pkN_lt _ rfl ho
    have h2 := pw16 hl
    rcases List.eq_nil_or_concat O with rfl | ⟨P, x, rfl⟩
    · rw [if_pos (by rw [lgp (by omega)]; rfl)]
      rfl
    · rw [List.concat_eq_append] at hl ho h h1 h2 ⊢
      have hl2 : P.length ≤ 11 := by simpa using hl
      rw [if_neg (by rw [lgp (by omega), pk_snoc]; omega), div_pk hl2 ho, e1k, ih P (k + 1) (by omega) (fun y hy => ho y (by simp [hy])) (by simp at h; omega)]
      rw [show k + 1 + P.length = k + (P ++ [x]).length by simp; omega]
theorem rem_pk {O : List Nat} {t : Nat} (hl : O.length ≤ 11) (ho : ∀ x ∈ O ++ [t], x < 12) : (il (pkN (O ++ [t])) - il (pkN (O ++ [t])) / (16 : Int64) * (16 : Int64)).toInt32 - (1 : Int32) = ii t := by
  have h1 := pkN_lt _ rfl ho
  have h2 := pw16 (k := (O ++ [t]).length) (by simp; omega)
  have h3 := ho t (by simp)
  rw [div_pk hl ho, show (16 : Int64) = il 16 from rfl, il_mul, il_sub (by rw [pk_snoc]; omega), show pkN (O ++ [t]) - pkN O * 16 = t + 1 by rw [pk_snoc]; omega]
  have e4 : (il (t + 1)).toInt32 = ii (t + 1) := Int64.toInt32_ofNat'
  rw [e4, k_1, ii_sub (by omega)]
  rfl
theorem unp_42 {F N : Nat} (hN : 12 ≤ N) (hN2 : N < 1000000) {tm : Int32} : ∀ (t : Nat) (O D : List Nat) (ti : Nat → Int32), O.length ≤ 12 → (∀ x ∈ O, x < 12) → O.length < t → (∀ k, k < D.length → ti (O.length + k) = ii (D.getD k 0)) → ∃ ti', fX12_unpacks_L42 F N t (il (pkN O)) (iz ((O.length : Int) - 1)) tm ti = some (tm, ti') ∧ rL ti' (O ++ D) := by
  intro t
  induction t with
  | zero => intro O D ti _ _ h; omega
  | succ t ih =>
    intro O D ti hl ho h hD
    rw [sX12_unpacks_L42]
    unfold bX12_unpacks_L42
    rcases List.eq_nil_or_concat O with rfl | ⟨P, x, rfl⟩
    · rw [if_pos (by decide)]
      refine ⟨ti, rfl, fun k hk => ?_⟩
      have := hD k hk
      rw [List.length_nil, Nat.zero_add] at this
      exact this
    · rw [List.concat_eq_append] at hl ho h hD ⊢
      have hl2 : P.length ≤ 11 := by simpa using hl
      have e0 : iz (((P ++ [x]).length : Int) - 1) = ii P.length := by
        rw [ii_iz]
        congr 1
        simp
      have e1 : ii P.length + (-1 : Int32) = iz ((P.length : Int) - 1) := by
        rw [ii_iz, kz_m1, iz_add]
        rfl
      rw [e0, if_neg (by rw [ii_nneg (by omega)]; exact id), if_neg (nidx (by omega) (by omega)), ii_nat (by omega), rem_pk hl2 ho, div_pk hl2 ho, e1]
      obtain ⟨ti', h1, h2⟩ := ih P (x :: D) (upd ti P.length (ii x)) (by omega) (fun y hy => ho y (by simp [hy])) (by simp at h; omega) (by
        intro k hk
        cases k with
        | zero => rw [Nat.add_zero, upd_same]; rfl
        | succ k =>
          rw [upd_ne _ _ (by omega)]
          have := hD k (by simpa using hk)
          rw [show P.length + (k + 1) = (P ++ [x]).length + k by simp; omega, this]
          rfl)
      refine ⟨ti', h1, ?_⟩
      rw [List.append_assoc]
      exact h2
theorem unpacks_eq {F N : Nat} (hN : 12 ≤ N) (hN2 : N < 1000000) (hF : 1000 ≤ F) {O : List Nat} (hl : O.length ≤ 12) (ho : ∀ x ∈ O, x < 12) (tm : Int32) (ti : Nat → Int32) : ∃ ti', fX12_unpacks F N (il (pkN O)) tm ti = some (ii O.length, ti') ∧ rL ti' O := by
  unfold fX12_unpacks
  rw [show (0 : Int32) = ii 0 from rfl, unp_7 F O 0 hl ho (by omega), Nat.zero_add]
  have e0 : ii O.length - (1 : Int32) = iz ((O.length : Int) - 1) := by
    rw [ii_iz, show (1 : Int32) = iz 1 from rfl, iz_sub]
  rw [e0]
  obtain ⟨ti', h1, h2⟩ := unp_42 (F := F) hN hN2 (tm := ii O.length) F O [] ti hl ho (by omega) (fun k hk => by simp at hk)
  rw [List.append_nil] at h2
  exact ⟨ti', h1, h2⟩
