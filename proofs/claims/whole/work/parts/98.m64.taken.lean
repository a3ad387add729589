/-! PURE: the reference takes a tie around -/
theorem okL12 {n : Nat} {mk rd : Nat → Nat} (hn : okN n mk rd) {L : List Nat} (h : okL n L) : ∀ t ∈ L, t < 12 := fun t ht => by
  have := h t ht
  have := hn.1
  omega
theorem tk_okL {n t : Nat} {O : List Nat} (ht : t < 2 * n) (hO : okL n O) : okL n (tkW t O) := by
  intro x hx
  unfold tkW at hx
  rcases List.mem_cons.mp hx with rfl | hx
  · exact tn_lt ht
  · rcases List.mem_append.mp hx with hx | hx
    · exact hO x hx
    · rw [List.mem_singleton.mp hx]; exact ht
theorem tk_len (t : Nat) (O : List Nat) : (tkW t O).length = O.length + 2 := by unfold tkW; simp
theorem taken_L {F n : Nat} {mk rd : Nat → Nat} {ki kn : Nat → Int32} (hn : okN n mk rd) (hr : okR rd) (hm : netM n mk rd ki kn) (hF : 1000 ≤ F) {O : List Nat} (hO : okL n O) (hl : O.length ≤ 80) {t0 : Nat} (ht0 : t0 < 2 * n) {ti : Nat → Int32} (hti : rL ti O) {fmn : Int32} {fm : Nat → Int32} :
    ∀ (k i : Nat) (fo co : Nat → Int32), i ≤ O.length → O.length < i + k → rP fo co (psL mk rd [] (tn t0 :: O.take i)) →
      ∃ b' tm' fmn' fo' co' ti' fm', fX12_taken_L21 F 12 ki 12 kn 96 96 96 96 k (ii t0) (ii i) (ii (psL mk rd [] (tn t0 :: O.take i)).length) (ii O.length) fmn fo co ti fm = some (il (pkN (frm mk rd (tkW t0 O))), b', tm', fmn', fo', co', ti', fm') := by
  intro k
  induction k with
  | zero => intro i fo co h1 h2; omega
  | succ k ih =>
    intro i fo co h1 h2 hp
    rw [sX12_taken_L21]
    unfold bX12_taken_L21
    have hLi : okL n (tn t0 :: O.take i) := by
      intro x hx
      rcases List.mem_cons.mp hx with rfl | hx
      · exact tn_lt ht0
      · exact hO x (List.mem_of_mem_take hx)
    have hli : (tn t0 :: O.take i).length ≤ 81 := by rw [List.length_cons, List.length_take]; omega
    obtain ⟨p1, p2, p3, p4⟩ := pile_facts (mk := mk) hn hr hLi (by omega)
    by_cases h : O.length ≤ i
    · rw [if_pos (by rw [ii_le (by omega) (by omega)]; exact h)]
      rw [List.take_of_length_le h] at hp p1 p2 p3 p4 hli hLi ⊢
      obtain ⟨fo', co', e1, e2, e3⟩ := jT_eq (F := F) (t := t0) hn hm (by omega) ht0 p1 (by omega) hp
      rw [e1, Option.bind_some]
      have eW : psT mk rd (psL mk rd [] (tn t0 :: O)) t0 = psL mk rd [] (tkW t0 O) := by
        unfold tkW
        show _ = psL mk rd [] ((tn t0 :: O) ++ [t0])
        rw [psL_snoc]
      rw [eW] at e2 e3 ⊢
      have hLW := tk_okL (O := O) ht0 hO
      have hlW := tk_len t0 O
      obtain ⟨q1, q2, q3, q4⟩ := pile_facts (mk := mk) hn hr hLW (by omega)
      obtain ⟨g1, g2⟩ := frm_ok (mk := mk) hn hr hLW (by omega)
      obtain ⟨ti', fm', f1, f2⟩ := laysForm_eq (F := F) (N := 96) (M := 96) hn hm (by omega) (by omega) (by omega) (by omega) q1 q2 (by omega) e3 (frm_FM mk rd (tkW t0 O)) (by omega) (by omega) (ii O.length) fmn ti fm
      rw [f1, Option.bind_some, packed_eq (okL12 hn g1) f2 (by omega) (by omega) (by omega), Option.bind_some]
      exact ⟨_, _, _, _, _, _, _, rfl⟩
    · rw [if_neg (by rw [ii_le (by omega) (by omega)]; exact h), if_neg (nidx (by omega) (by omega)), ii_nat (by omega), hti i (by omega)]
      have hti2 := hO _ (rL_mem (a := ti) (L := O) (k := i) (by omega))
      obtain ⟨fo', co', e1, e2, e3⟩ := jT_eq (F := F) (t := O.getD i 0) hn hm (by omega) hti2 p1 (by omega) hp
      rw [e1, Option.bind_some, e1k]
      have et : psT mk rd (psL mk rd [] (tn t0 :: O.take i)) (O.getD i 0) = psL mk rd [] (tn t0 :: O.take (i + 1)) := by
        have : O.take (i + 1) = O.take i ++ [O.getD i 0] := by
          rw [List.take_add_one, List.getD_eq_getElem?_getD, List.getElem?_eq_getElem (by omega)]
          rfl
        rw [this]
        show _ = psL mk rd [] ((tn t0 :: O.take i) ++ [O.getD i 0])
        rw [psL_snoc]
      rw [et] at e3 ⊢
      exact ih (i + 1) fo' co' (by omega) (by omega) e3
theorem taken_eq {F n : Nat} {mk rd : Nat → Nat} {ki kn : Nat → Int32} (hn : okN n mk rd) (hr : okR rd) (hm : netM n mk rd ki kn) (hF : 1000 ≤ F) {O : List Nat} (hO : okL n O) (hl : O.length ≤ 12) {t0 : Nat} (ht0 : t0 < 2 * n) (b tm fmn : Int32) (fo co ti fm : Nat → Int32) : ∃ b' tm' fmn' fo' co' ti' fm', fX12_taken F 12 ki 12 kn 96 96 96 96 (il (pkN O)) (ii t0) b tm fmn fo co ti fm = some (il (pkN (frm mk rd (tkW t0 O))), b', tm', fmn', fo', co', ti', fm') := by
  unfold fX12_taken
  have h6 := hn.1
  obtain ⟨ti', u1, u2⟩ := unpacks_eq (F := F) (N := 96) (by omega) (by omega) hF hl (okL12 hn hO) tm ti
  rw [u1, Option.bind_some, turned_eq (by omega), Option.bind_some]
  obtain ⟨fo', co', e1, e2, e3⟩ := jT_eq (F := F) (t := tn t0) hn hm (by omega) (tn_lt ht0) (okP_nil (n := n) (B := 100)) (by decide) (fo := fo) (co := co) (Q := []) trivial
  have e1' : fX12_joins F 12 ki 12 kn 96 96 (ii (tn t0)) (0 : Int32) fo co = some (ii (psT mk rd [] (tn t0)).length, fo', co') := e1
  rw [e1', Option.bind_some]
  exact taken_L hn hr hm hF hO (by omega) ht0 u2 F 0 fo' co' (Nat.zero_le _) (by omega) e3
/-- rings laid in a row -/
def rR (rg : Nat → Int64) (L : List (List Nat)) : Prop := ∀ k, k < L.length → rg k = il (pkN (L.getD k []))
theorem il_inj2 {a b : Nat} (ha : a < 9223372036854775808) (hb : b < 9223372036854775808) (h : il a = il b) : a = b := by
  have h1 : (il a).toInt = a := Int64.toInt_ofNat_of_lt ha
  have h2 : (il b).toInt = b := Int64.toInt_ofNat_of_lt hb
  have h3 := congrArg Int64.toInt h
  rw [h1, h2] at h3
  exact Int.ofNat.inj h3
def okO (n : Nat) (O : List Nat) : Prop := okL n O ∧ O.length ≤ 12
theorem pk_ok {n : Nat} {mk rd : Nat → Nat} (hn : okN n mk rd) {O P : List Nat} (h1 : okO n O) (h2 : okO n P) (h : il (pkN O) = il (pkN P)) : O = P := by
  have a1 := pkN_lt _ rfl (okL12 hn h1.1)
  have a2 := pkN_lt _ rfl (okL12 hn h2.1)
  have b1 := pw16 h1.2
  have b2 := pw16 h2.2
  exact pk_inj _ rfl (okL12 hn h1.1) (okL12 hn h2.1) (il_inj2 (by omega) (by omega) h)
theorem getD_in {L : List (List Nat)} {k : Nat} (hk : k < L.length) : L.getD k [] ∈ L := by
  rw [List.getD_eq_getElem?_getD, List.getElem?_eq_getElem hk]
  simp
theorem found_L {F n : Nat} {mk rd : Nat → Nat} (hn : okN n mk rd) {L : List (List Nat)} (hL : ∀ P ∈ L, okO n P) (hl : L.length ≤ 2000) {rg : Nat → Int64} (hr : rR rg L) {O : List Nat} (hO : okO n O) : ∀ (t i : Nat), i ≤ L.length → L.length < i + t → (∀ j, j < i → L.getD j [] ≠ O) → (O ∈ L → fX12_isFound_L2 F (ii L.length) 2000 rg t (il (pkN O)) (ii i) = some 1) ∧ (O ∉ L → fX12_isFound_L2 F (ii L.length) 2000 rg t (il (pkN O)) (ii i) = some 0) := by
  intro t
  induction t with
  | zero => intro i h1 h2; omega
  | succ t ih =>
    intro i h1 h2 hj
    rw [sX12_isFound_L2]
    unfold bX12_isFound_L2
    by_cases h : L.length ≤ i
    · rw [if_pos (by rw [ii_le (by omega) (by omega)]; exact h)]
      refine ⟨fun hm => ?_, fun _ => rfl⟩
      exfalso
      obtain ⟨k, hk, e⟩ := List.getElem_of_mem hm
      refine hj k (by omega) ?_
      rw [List.getD_eq_getElem?_getD, List.getElem?_eq_getElem hk]
      exact e
    · rw [if_neg (by rw [ii_le (by omega) (by omega)]; exact h), if_neg (nidx (by omega) (by omega)), ii_nat (by omega), hr i (by omega)]
      have hmi := getD_in (L := L) (k := i) (by omega)
      by_cases he : L.getD i [] = O
      · rw [if_pos (by rw [cmp0, he])]
        refine ⟨fun _ => rfl, fun hno => ?_⟩
        rw [he] at hmi
        exact absurd hmi hno
      · rw [if_neg (by rw [cmp0]; exact fun h9 => he (pk_ok hn (hL _ hmi) hO h9)), e1k]
        refine ih (i + 1) (by omega) (by omega) (fun j hj2 => ?_)
        by_cases hji : j = i
        · rw [hji]; exact he
        · exact hj j (by omega)
theorem found_eq {F n : Nat} {mk rd : Nat → Nat} (hn : okN n mk rd) (hF : 3000 ≤ F) {L : List (List Nat)} (hL : ∀ P ∈ L, okO n P) (hl : L.length ≤ 2000) {rg : Nat → Int64} (hr : rR rg L) {O : List Nat} (hO : okO n O) : (O ∈ L → fX12_isFound F (ii L.length) 2000 rg (il (pkN O)) = some 1) ∧ (O ∉ L → fX12_isFound F (ii L.length) 2000 rg (il (pkN O)) = some 0) := by
  unfold fX12_isFound
  exact found_L hn hL hl hr hO F 0 (Nat.zero_le _) (by omega) (fun j hj => by omega)
theorem rR_snoc {rg : Nat → Int64} {L : List (List Nat)} {O : List Nat} (h : rR rg L) : rR (vp_updL rg L.length (il (pkN O))) (L ++ [O]) := by
  intro k hk
  rw [List.length_append, List.length_singleton] at hk
  by_cases e : k = L.length
  · rw [e, updL_same, List.getD_eq_getElem?_getD, List.getElem?_append_right (Nat.le_refl _)]
    simp
  · rw [updL_ne _ _ e, h k (by omega), List.getD_eq_getElem?_getD, List.getD_eq_getElem?_getD, List.getElem?_append_left (by omega)]
