/-! PURE: the class opens a pile -/
theorem firstOf_L {F : Nat} {w : List (Nat × Int)} {fo co : Nat → Int32} (hp : rP fo co w.reverse) (hl : w.length ≤ 24) (h6 : ∀ x ∈ w, x.1 < 6) {f0 : Nat} (hf0 : f0 < 6) : ∀ (t : Nat) (A B : List (Nat × Int)), w = A ++ B → B.length < t → (∃ x ∈ B, x.1 = f0) → ∃ C x D, B = C ++ x :: D ∧ x.1 = f0 ∧ (∀ y ∈ C, y.1 ≠ f0) ∧ fX5_firstOf_L2 F (ii w.length) 24 fo t (ii f0) (ii A.length) = some (ii (A.length + C.length)) := by
  intro t
  induction t with
  | zero => intro A B _ h; omega
  | succ t ih =>
    intro A B e hB hex
    rw [sX5_firstOf_L2]
    unfold bX5_firstOf_L2
    cases B with
    | nil => obtain ⟨x, hx, _⟩ := hex; cases hx
    | cons x B =>
      have el : A.length + 1 + B.length = w.length := by rw [e, List.length_append, List.length_cons]; omega
      have e2 : w = (A ++ [x]) ++ B := by rw [e]; simp
      have el2 : (A ++ [x]).length = A.length + 1 := by simp
      have hat := rP_at (e ▸ hp)
      have hx6 := h6 x (by rw [e]; simp)
      rw [if_neg (by rw [ii_le (by omega) (by omega)]; omega), if_neg (nidx (by omega) (by omega)), ii_nat (by omega), hat.1]
      by_cases hx : x.1 = f0
      · rw [if_pos (by rw [hx])]
        exact ⟨[], x, B, rfl, hx, fun y hy => (by cases hy), rfl⟩
      · rw [if_neg (by rw [ii_inj (by omega) (by omega)]; exact hx), e1k]
        have hex2 : ∃ y ∈ B, y.1 = f0 := by
          obtain ⟨y, hy, e3⟩ := hex
          rcases List.mem_cons.mp hy with rfl | hy
          · exact absurd e3 hx
          · exact ⟨y, hy, e3⟩
        obtain ⟨C, y, D, h1, h2, h3, h4⟩ := ih (A ++ [x]) B e2 (by rw [List.length_cons] at hB; omega) hex2
        rw [el2] at h4
        refine ⟨x :: C, y, D, by rw [h1]; rfl, h2, ?_, ?_⟩
        · intro z hz
          rcases List.mem_cons.mp hz with rfl | hz
          · exact hx
          · exact h3 z hz
        · rw [h4, List.length_cons]
          congr 2
          omega
theorem tk_bits {b : Bool} {T T' : Nat} : ∀ {w : List (Nat × Int)} {k : Nat}, (∀ i, k ≤ i → T.testBit i = T'.testBit i) → tkI T b k w = tkI T' b k w
  | [], _, _ => rfl
  | x :: w, k, h => by
    have ih := tk_bits (b := b) (w := w) (k := k + 1) (fun i hi => h i (by omega))
    unfold tkI
    rw [h k (Nat.le_refl _), ih]
theorem st6 {n : Nat} {mk rd : Nat → Nat} (hn : okN n mk rd) {f : Nat} (hf : f < n) : stF mk f < 64 := or_lt64 _ (hn.2.1 f hf).1 f (by have := hn.1; omega)
theorem notBehind_L {F n : Nat} {mk rd : Nat → Nat} {st ro : Nat → Int32} (hn : okN n mk rd) (hx : netX n mk rd st ro) {w : List (Nat × Int)} {fo co : Nat → Int32} (hp : rP fo co w.reverse) (hl : w.length ≤ 24) (hfo : ∀ x ∈ w, x.1 < n) {f0 a : Nat} (ha : a < w.length) :
    ∀ (t : Nat) (A B : List (Nat × Int)) (M T : Nat), w = A ++ B → B.length < t → M < 64 → T < 2 ^ A.length → ((M = 0 ∧ ∃ C x D, B = C ++ x :: D ∧ x.1 = f0 ∧ (∀ y ∈ C, y.1 ≠ f0) ∧ a = A.length + C.length) ∨ (M ≠ 0 ∧ a < A.length)) →
      ∃ T', fX6_notBehind_L8 F 6 st (ii w.length) 24 fo t (ii a) (ii M) (ii T) (ii A.length) = some (ii T') ∧ T' < 2 ^ w.length ∧ (∀ i, i < A.length → T'.testBit i = T.testBit i) ∧ tkI T' true A.length B = (bnF mk f0 M B).1 ∧ tkI T' false A.length B = (bnF mk f0 M B).2 := by
  have h6 := hn.1
  intro t
  induction t with
  | zero => intro A B M T _ h; omega
  | succ t ih =>
    intro A B M T e hB hM hT hst
    rw [sX6_notBehind_L8]
    unfold bX6_notBehind_L8
    cases B with
    | nil =>
      rw [List.append_nil] at e
      rw [if_pos (by rw [e]; exact Int32.le_refl _)]
      exact ⟨T, rfl, by rw [e]; exact hT, fun _ _ => rfl, rfl, rfl⟩
    | cons x B =>
      have el : A.length + 1 + B.length = w.length := by rw [e, List.length_append, List.length_cons]; omega
      have e2 : w = (A ++ [x]) ++ B := by rw [e]; simp
      have el2 : (A ++ [x]).length = A.length + 1 := by simp
      have hat := rP_at (e ▸ hp)
      have hxn := hfo x (by rw [e]; simp)
      have hTb : T.testBit A.length = false := Nat.testBit_lt_two_pow hT
      have hB2 : B.length < t := by rw [List.length_cons] at hB; omega
      rw [if_neg (by rw [ii_le (by omega) (by omega)]; omega)]
      have hbound : (M.testBit x.1 = true ∨ (M = 0 ∧ x.1 = f0)) → (M ||| stF mk x.1 ≠ 0 ∧ a < A.length + 1) → ∃ T', bX6_notBehind_L43 F 6 st (ii w.length) 24 fo (fX6_notBehind_L8 F 6 st (ii w.length) 24 fo t) (ii a) (ii M) (ii T) (ii A.length) = some (ii T') ∧ T' < 2 ^ w.length ∧ (∀ i, i < A.length → T'.testBit i = T.testBit i) ∧ tkI T' true A.length (x :: B) = (bnF mk f0 M (x :: B)).1 ∧ tkI T' false A.length (x :: B) = (bnF mk f0 M (x :: B)).2 := by
        intro hb hst2
        have hor := ii_or M hM (stF mk x.1) (st6 hn hxn)
        have hs1 : st x.1 = ii (stF mk x.1) := (hx x.1 hxn).1
        unfold bX6_notBehind_L43 bX6_notBehind_L48
        rw [if_neg (by decide), if_neg (nidx (by omega) (by omega)), ii_nat (by omega), hat.1, if_neg (nidx (by omega) (by omega)), ii_nat (by omega), hs1, hor.1]
        unfold bX6_notBehind_L82
        rw [e1k]
        obtain ⟨T', h1, h2, h3, h4, h5⟩ := ih (A ++ [x]) B (M ||| stF mk x.1) T e2 hB2 hor.2 (by rw [el2]; exact Nat.lt_trans hT (Nat.pow_lt_pow_right (by decide) (by omega))) (Or.inr ⟨hst2.1, by rw [el2]; exact hst2.2⟩)
        rw [el2] at h1 h3 h4 h5
        have h6' : T'.testBit A.length = false := by rw [h3 _ (by omega)]; exact hTb
        refine ⟨T', h1, h2, fun i hi => h3 i (by omega), ?_, ?_⟩
        · rw [tkI_f (by rw [h6']; decide), bn_b hb]; exact h4
        · rw [tkI_t h6', bn_b hb, h5]
      have hfree : ¬ (M.testBit x.1 = true ∨ (M = 0 ∧ x.1 = f0)) → ((M = 0 ∧ ∃ C x D, B = C ++ x :: D ∧ x.1 = f0 ∧ (∀ y ∈ C, y.1 ≠ f0) ∧ a = (A.length + 1) + C.length) ∨ (M ≠ 0 ∧ a < A.length + 1)) → ∃ T', bX6_notBehind_L47 F 6 st (ii w.length) 24 fo (fX6_notBehind_L8 F 6 st (ii w.length) 24 fo t) (ii a) (ii M) (ii T) (ii A.length) = some (ii T') ∧ T' < 2 ^ w.length ∧ (∀ i, i < A.length → T'.testBit i = T.testBit i) ∧ tkI T' true A.length (x :: B) = (bnF mk f0 M (x :: B)).1 ∧ tkI T' false A.length (x :: B) = (bnF mk f0 M (x :: B)).2 := by
        intro hb hst2
        unfold bX6_notBehind_L47 bX6_notBehind_L48
        rw [if_pos rfl, ii_or2 (by omega)]
        unfold bX6_notBehind_L82
        rw [e1k]
        obtain ⟨T', h1, h2, h3, h4, h5⟩ := ih (A ++ [x]) B M (T ||| 2 ^ A.length) e2 hB2 hM (by rw [el2]; exact or2_lt (Nat.lt_trans hT (Nat.pow_lt_pow_right (by decide) (by omega))) (by omega)) (by rw [el2]; exact hst2)
        rw [el2] at h1 h3 h4 h5
        have h6' : T'.testBit A.length = true := by rw [h3 _ (by omega), tb_or2]; simp
        refine ⟨T', h1, h2, fun i hi => ?_, ?_, ?_⟩
        · rw [h3 i (by omega), tb_or2, decide_eq_false (by omega), Bool.or_false]
        · rw [tkI_t h6', bn_f hb, h4]
        · rw [tkI_f (by rw [h6']; decide), bn_f hb]; exact h5
      rcases hst with ⟨h0, C, y, D, c1, c2, c3, c4⟩ | ⟨h0, ha2⟩
      · cases C with
        | nil =>
          have hxy : x = y := (List.cons.inj c1).1
          rw [if_pos (by rw [c4]; rfl)]
          have hst2 : a < A.length + 1 := by rw [c4]; exact Nat.lt_succ_self _
          exact hbound (Or.inr ⟨h0, by rw [hxy]; exact c2⟩) ⟨stF_0, hst2⟩
        | cons z C =>
          have hxz : x = z := (List.cons.inj c1).1
          have hxf : x.1 ≠ f0 := by rw [hxz]; exact c3 z (List.mem_cons_self ..)
          rw [List.length_cons] at c4
          rw [if_neg (by rw [ii_inj (by omega) (by omega)]; omega), if_pos (by rw [ii_le (by omega) (by omega)]; omega)]
          refine hfree ?_ (Or.inl ⟨h0, C, y, D, (List.cons.inj c1).2, c2, fun v hv => c3 v (List.mem_cons_of_mem _ hv), by omega⟩)
          rintro (h | h)
          · rw [h0, Nat.zero_testBit] at h; cases h
          · exact hxf h.2
      · rw [if_neg (by rw [ii_inj (by omega) (by omega)]; omega), if_neg (by rw [ii_le (by omega) (by omega)]; omega), if_neg (nidx (by omega) (by omega)), ii_nat (by omega), hat.1]
        cases hb : M.testBit x.1
        · rw [if_pos (by rw [iBit0 (by omega) (by omega)]; exact hb)]
          refine hfree ?_ (Or.inr ⟨h0, by omega⟩)
          rintro (h | h)
          · rw [hb] at h; cases h
          · exact h0 h.1
        · rw [if_neg (by rw [iBit0 (by omega) (by omega), hb]; decide)]
          exact hbound (Or.inl hb) ⟨stF_0, by omega⟩
theorem notBehind_X {F n : Nat} {mk rd : Nat → Nat} {st ro : Nat → Int32} (hn : okN n mk rd) (hx : netX n mk rd st ro) (hF : 1000 ≤ F) {w : List (Nat × Int)} {fo co : Nat → Int32} (hp : rP fo co w.reverse) (hl : w.length ≤ 24) (hfo : ∀ x ∈ w, x.1 < n) {f0 : Nat} (hf0 : f0 < 6) (hex : ∃ x ∈ w, x.1 = f0) :
    ∃ a T, fX5_firstOf F (ii w.length) 24 fo (ii f0) = some a ∧ fX6_notBehind F 6 st (ii w.length) 24 fo a = some (ii T) ∧ T < 2 ^ w.length ∧ tkI T true 0 w = (bnF mk f0 0 w).1 ∧ tkI T false 0 w = (bnF mk f0 0 w).2 := by
  have h6 := hn.1
  obtain ⟨C, x, D, h1, h2, h3, h4⟩ := firstOf_L (F := F) hp hl (fun x hx => Nat.lt_of_lt_of_le (hfo x hx) h6) hf0 F [] w rfl (by omega) hex
  rw [List.length_nil, Nat.zero_add] at h4
  have hlc : C.length < w.length := by rw [h1, List.length_append, List.length_cons]; omega
  obtain ⟨T, t1, t2, _, t4, t5⟩ := notBehind_L (F := F) hn hx hp hl hfo (f0 := f0) hlc F [] w 0 0 rfl (by omega) (by decide) (by decide) (Or.inl ⟨rfl, C, x, D, h1, h2, h3, by rw [List.length_nil, Nat.zero_add]⟩)
  exact ⟨ii C.length, T, h4, t1, t2, t4, t5⟩
theorem tk_none {T : Nat} : ∀ {w : List (Nat × Int)} {k : Nat}, tkI T true k w = [] → ∀ i, k ≤ i → i < k + w.length → T.testBit i = false
  | [], k, _, i, h1, h2 => by simp at h2; omega
  | x :: w, k, h, i, h1, h2 => by
    cases hb : T.testBit k
    · rw [tkI_f (by rw [hb]; decide)] at h
      by_cases hi : i = k
      · rw [hi]; exact hb
      · exact tk_none h i (by omega) (by rw [List.length_cons] at h2; omega)
    · rw [tkI_t hb] at h
      cases h
theorem tk_zero {T : Nat} {w : List (Nat × Int)} (hT : T < 2 ^ w.length) : T = 0 ↔ tkI T true 0 w = [] := by
  constructor
  · intro h
    rw [h]
    have : ∀ (w : List (Nat × Int)) (k : Nat), tkI 0 true k w = [] := by
      intro w
      induction w with
      | nil => intro k; rfl
      | cons x w ih => intro k; rw [tkI_f (by rw [Nat.zero_testBit]; decide), ih]
    exact this w 0
  · intro h
    apply Nat.eq_of_testBit_eq
    intro i
    rw [Nat.zero_testBit]
    by_cases hi : i < w.length
    · exact tk_none h i (Nat.zero_le _) (by omega)
    · exact Nat.testBit_lt_two_pow (Nat.lt_of_lt_of_le hT (Nat.pow_le_pow_right (by decide) (by omega)))
theorem PK_RT {mk rd : Nat → Nat} {n m : Nat} {x y : List (Nat × Int)} (hs : symK mk) (h : PK n rd x) (h2 : RT mk m x y) : PK n rd y := by
  refine ⟨fun a ha => h.1 a ((RT_mem h2 a).mpr ha), fun a ha => h.2.1 a ((RT_mem h2 a).mpr ha), ?_⟩
  have : ∀ {m : Nat} {x y : List (Nat × Int)}, RT mk m x y → tt rd x = tt rd y := by
    have hE : ∀ (k : Nat) {x y : List (Nat × Int)}, x.length = k → EQ mk x y → tt rd x = tt rd y := by
      intro k
      induction k with
      | zero =>
        intro x y hk h
        rw [List.eq_nil_of_length_eq_zero hk] at h ⊢
        rw [EQ.nil9 h.symm9]
      | succ k ih =>
        intro x y hk h
        cases x with
        | nil => cases hk
        | cons a x =>
          obtain ⟨B1, B2, e1, _, e3⟩ := EQ_top hs h
          have := ih (by rw [List.length_cons] at hk; omega) e3
          rw [e1, tt_ap2]
          rw [tt_ap2] at this
          show bn rd a + tt rd x = tt rd B1 + (bn rd a + tt rd B2)
          omega
    intro m
    induction m with
    | zero => intro x y h; exact hE _ rfl h
    | succ m ih =>
      intro x y h
      obtain ⟨f, z, ⟨k, Y, e1, e2⟩, h3⟩ := h
      rw [hE _ rfl e1, ← ih h3, hE _ rfl e2, tt_ap2]
      show tt rd Y + (bn rd (f, k) + 0) = bn rd (f, k) + tt rd Y
      omega
  rw [← this h2]
  exact h.2.2
/-- what the class has opened -/
theorem openAt_L {F n : Nat} {mk rd : Nat → Nat} {st ro : Nat → Int32} (hn : okN n mk rd) (hr : okR rd) (hx : netX n mk rd st ro) (hF : 1000 ≤ F) {f0 : Nat} (hf0 : f0 < 6) :
    ∀ (t j : Nat) (w : List (Nat × Int)) (z : Int32) (tf tc fo co : Nat → Int32), j ≤ 24 → 24 < j + t → GR mk rd w.reverse → PK n rd w.reverse → (∃ x ∈ w, x.1 = f0) → rP fo co w.reverse →
      ∃ z' tf' tc' fo' co', fX6_openAt_L3 F 24 24 (ii n) 6 st 6 ro 24 24 t (ii f0) (ii j) z tf tc (ii w.length) fo co = some (z', tf', tc', ii w.length, fo', co') ∧ rP fo' co' (opn mk f0 (24 - j) w).reverse := by
  intro t
  induction t with
  | zero => intro j w z tf tc fo co _ h; omega
  | succ t ih =>
    intro j w z tf tc fo co hj hjt hG hP hex hp
    have hl := len_tt hr hP.2.1
    have h24 := hP.2.2
    rw [List.length_reverse] at hl
    rw [sX6_openAt_L3]
    unfold bX6_openAt_L3
    by_cases h : 24 ≤ j
    · rw [if_pos (by rw [k_24, ii_le (by omega) (by omega)]; exact h)]
      rw [show 24 - j = 0 by omega]
      exact ⟨z, tf, tc, fo, co, rfl, hp⟩
    · rw [if_neg (by rw [k_24, ii_le (by omega) (by omega)]; exact h)]
      obtain ⟨a, T, h1, h2, h3, h4, h5⟩ := notBehind_X hn hx hF hp (by omega) (fun x hx => hP.1 x (List.mem_reverse.mpr hx)) hf0 hex
      rw [h1, Option.bind_some, h2, Option.bind_some]
      have hT31 : T < 2 ^ 31 := Nat.lt_of_lt_of_le h3 (Nat.pow_le_pow_right (by decide) (by omega))
      rw [show 24 - j = (24 - (j + 1)) + 1 by omega]
      unfold opn
      by_cases h0 : (bnF mk f0 0 w).1 = []
      · have hT0 : T = 0 := (tk_zero h3).mpr (by rw [h4]; exact h0)
        rw [if_pos (by rw [hT0]; rfl), if_pos h0]
        exact ⟨z, tf, tc, fo, co, rfl, hp⟩
      · have hT0 : T ≠ 0 := fun h9 => h0 (by rw [← h4]; exact (tk_zero h3).mp h9)
        rw [if_neg (by rw [k_0, ii_inj (by omega) (by omega)]; exact hT0), if_neg h0]
        have hRT : RT mk (bnF mk f0 0 w).1.length w.reverse ((bnF mk f0 0 w).2 ++ (bnF mk f0 0 w).1).reverse := RC_RT (open_1 hn.2.2 w)
        have hG2 := RT_GR hn.2.2 _ hG hRT
        have hP2 := PK_RT hn.2.2 hP hRT
        have hself := pW_self hG2.1 hG2.2.1
        rw [List.reverse_reverse] at hself
        obtain ⟨f3, c3, e1, e2⟩ := turn_X hn hr hx hF hP hp hT31 z tf tc
        rw [h4, h5, hself] at e1 e2
        have hlen : ((bnF mk f0 0 w).2 ++ (bnF mk f0 0 w).1).length = w.length := by
          have := RT_len hn.2.2 hRT
          rw [List.length_reverse, List.length_reverse] at this
          exact this.symm
        rw [List.length_reverse, hlen] at e1
        rw [e1, Option.bind_some, pile_copy (by omega) (by omega), Option.bind_some, e1k]
        have hcp := rP_copy (f2 := fo) (c2 := co) e2
        rw [List.length_reverse, hlen] at hcp
        have hex2 : ∃ x ∈ (bnF mk f0 0 w).2 ++ (bnF mk f0 0 w).1, x.1 = f0 := by
          obtain ⟨x, hx1, hx2⟩ := hex
          refine ⟨x, ?_, hx2⟩
          rw [List.mem_append, or_comm]
          exact bn_mem.mp hx1
        have := ih (j + 1) _ (ii w.length) f3 c3 _ _ (by omega) (by omega) hG2 hP2 hex2 hcp
        rw [hlen] at this
        exact this
theorem openAt_X {F n : Nat} {mk rd : Nat → Nat} {st ro : Nat → Int32} (hn : okN n mk rd) (hr : okR rd) (hx : netX n mk rd st ro) (hF : 1000 ≤ F) {f0 : Nat} (hf0 : f0 < 6) {w : List (Nat × Int)} (hG : GR mk rd w.reverse) (hP : PK n rd w.reverse) (hex : ∃ x ∈ w, x.1 = f0) {fo co : Nat → Int32} (hp : rP fo co w.reverse) (z : Int32) (tf tc : Nat → Int32) :
    ∃ z' tf' tc' fo' co', fX6_openAt F 24 24 (ii n) 6 st 6 ro 24 24 (ii f0) z tf tc (ii w.length) fo co = some (z', tf', tc', ii w.length, fo', co') ∧ rP fo' co' (opn mk f0 24 w).reverse := by
  unfold fX6_openAt
  exact openAt_L hn hr hx hF hf0 F 0 w z tf tc fo co (by omega) (by omega) hG hP hex hp
