/-! PURE: the reference's form -/
theorem mayPass_eq {F n : Nat} {mk rd : Nat → Nat} {ki kn : Nat → Int32} (hn : okN n mk rd) (hm : netM n mk rd ki kn) {a b : Nat} (ha : a < 2 * n) (hb : b < 2 * n) : (a / 2 = b / 2 → fX12_mayPass F 12 kn (ii a) (ii b) = some 0) ∧ (a / 2 ≠ b / 2 → (mk (a / 2)).testBit (b / 2) = true → fX12_mayPass F 12 kn (ii a) (ii b) = some 0) ∧ (a / 2 ≠ b / 2 → (mk (a / 2)).testBit (b / 2) = false → fX12_mayPass F 12 kn (ii a) (ii b) = some 1) := by
  have h6 := hn.1
  have hmk := (hn.2.1 (a / 2) (by omega)).1
  have hk := (hm (a / 2) (by omega)).1
  have hb1 := bit_kin _ hmk (b / 2) (by omega)
  unfold fX12_mayPass bX12_mayPass_L30 bX12_mayPass_L31
  rw [tie_half a (by omega), tie_half b (by omega)]
  have e1 : (ii (a / 2) = ii (b / 2)) = (a / 2 = b / 2) := ii_inj (by omega) (by omega)
  simp (disch := omega) only [ii_nneg, ii_nat, false_or]
  refine ⟨fun h => ?_, fun h h2 => ?_, fun h h2 => ?_⟩
  · rw [if_pos (by rw [e1]; exact h), if_pos (Or.inl trivial)]
  · rw [if_neg (by rw [e1]; exact h), if_neg (by omega), hk, if_neg (by rw [hb1]; simp [h2]), if_pos (Or.inl trivial)]
  · rw [if_neg (by rw [e1]; exact h), if_neg (by omega), hk, if_pos (by rw [hb1]; exact h2), if_pos (Or.inr trivial)]
theorem isFree_L {F n N : Nat} {mk rd : Nat → Nat} {ki kn : Nat → Int32} (hn : okN n mk rd) (hm : netM n mk rd ki kn) {T : List Nat} {ti : Nat → Int32} (hT : okL n T) (ht : rL ti T) (hN : T.length ≤ N) (hN2 : N < 1000000) {j : Nat} (hj : j < T.length) :
    ∀ (k i : Nat), i ≤ j → j < i + k → (∀ x, x < i → T.getD x 0 / 2 ≠ T.getD j 0 / 2 ∧ (mk (T.getD j 0 / 2)).testBit (T.getD x 0 / 2) = false) → (freI mk T j → fX12_isFree_L2 F 12 kn N ti k (ii j) (ii i) = some 1) ∧ (¬ freI mk T j → fX12_isFree_L2 F 12 kn N ti k (ii j) (ii i) = some 0) := by
  intro k
  induction k with
  | zero => intro i h1 h2; omega
  | succ k ih =>
    intro i h1 h2 h3
    rw [sX12_isFree_L2]
    unfold bX12_isFree_L2
    simp (disch := omega) only [k_1, ii_nneg, ii_nat, ii_le, ii_add, false_or]
    by_cases hij : j ≤ i
    · have e : i = j := by omega
      rw [if_pos hij]
      refine ⟨fun _ => rfl, fun h => absurd (fun x hx => h3 x (by omega)) h⟩
    · rw [if_neg hij, if_neg (by omega), if_neg (by omega), ht j hj, ht i (by omega)]
      have hp := mayPass_eq (F := F) hn hm (a := T.getD j 0) (b := T.getD i 0) (hT _ (rL_mem (a := ti) hj)) (hT _ (rL_mem (a := ti) (by omega)))
      by_cases ha : T.getD j 0 / 2 = T.getD i 0 / 2
      · rw [hp.1 ha]
        simp only [Option.bind_some]
        rw [if_pos trivial]
        refine ⟨fun h => absurd ha.symm (h i (by omega)).1, fun _ => rfl⟩
      · by_cases hb : (mk (T.getD j 0 / 2)).testBit (T.getD i 0 / 2) = true
        · rw [hp.2.1 ha hb]
          simp only [Option.bind_some]
          rw [if_pos trivial]
          refine ⟨fun h => ?_, fun _ => rfl⟩
          have := (h i (by omega)).2
          rw [hb] at this
          exact absurd this (by decide)
        · have hb' : (mk (T.getD j 0 / 2)).testBit (T.getD i 0 / 2) = false := by simpa using hb
          rw [hp.2.2 ha hb']
          simp only [Option.bind_some]
          rw [if_neg (by decide)]
          refine ih (i + 1) (by omega) (by omega) (fun x hx => ?_)
          by_cases hx2 : x = i
          · rw [hx2]
            exact ⟨fun h => ha h.symm, hb'⟩
          · exact h3 x (by omega)
theorem isFree_eq {F n N : Nat} {mk rd : Nat → Nat} {ki kn : Nat → Int32} (hn : okN n mk rd) (hm : netM n mk rd ki kn) {T : List Nat} {ti : Nat → Int32} (hT : okL n T) (ht : rL ti T) (hN : T.length ≤ N) (hN2 : N < F) (hN3 : N < 1000000) {j : Nat} (hj : j < T.length) : (freI mk T j → fX12_isFree F 12 kn N ti (ii j) = some 1) ∧ (¬ freI mk T j → fX12_isFree F 12 kn N ti (ii j) = some 0) :=
  isFree_L hn hm hT ht hN hN3 hj F 0 (by omega) (by omega) (fun x hx => absurd hx (by omega))
theorem takesOut_L {F N len : Nat} (hN : len ≤ N) (hb : N < 1000000) : ∀ (n p : Nat) (a : Nat → Int32), len ≤ p + n → p < len → fX12_takesOut_L12 F N n (ii p) (ii (len - 1)) a = some (ii (len - 1), shA a p len) := by
  intro n
  induction n with
  | zero => intro p a h1 h2; omega
  | succ n ih =>
    intro p a h1 h2
    rw [sX12_takesOut_L12]
    unfold bX12_takesOut_L12
    simp (disch := omega) only [k_1, k_0, ii_add, ii_le, ii_lt, ii_nat, Nat.not_lt_zero, false_or]
    by_cases h : len ≤ p + 1
    · rw [if_pos (by omega), shA_end h]
    · rw [if_neg (by omega), if_neg (by omega), if_neg (by omega), ih (p + 1) _ (by omega) (by omega), shA_step (by omega)]
theorem takesOut_eq {F N len p : Nat} (hN : len ≤ N) (hb : N < 1000000) (hF : N < F) (hp : p < len) (a : Nat → Int32) : fX12_takesOut F N (ii p) (ii len) a = some (ii (len - 1), shA a p len) := by
  unfold fX12_takesOut
  rw [k_1, ii_sub (by omega)]
  exact takesOut_L hN hb F p a (by omega) hp
/-- the search of the reference ends at the place sought -/
theorem lays_L20 {F n N M : Nat} {mk rd : Nat → Nat} {ki kn : Nat → Int32} (hn : okN n mk rd) (hm : netM n mk rd ki kn) (hN3 : N < 1000000) (hNF : N < F) (hM3 : M < 1000000) {T : List Nat} {ti : Nat → Int32} (hT : okL n T) (ht : rL ti T) (hN : T.length ≤ N) {p : Nat} (hp : p < T.length) (hfp : freI mk T p) (hlp : ∀ j, j < T.length → freI mk T j → j = p ∨ T.getD p 0 < T.getD j 0) {bl : Int32} {bf bc fm : Nat → Int32} {fN : Nat} (hfN : fN < M) (k9 : Int32 → Int32 → (Nat → Int32) → (Nat → Int32) → Option (Int32 × Int32 × (Nat → Int32) × (Nat → Int32))) :
    ∀ (k j : Nat) (x : Int32), j ≤ T.length → T.length < j + k → (j ≤ p → x = -1 ∨ ∃ q, q < j ∧ x = ii q ∧ T.getD p 0 < T.getD q 0) → (p < j → x = ii p) → fX12_laysForm_L20 F bl 12 ki 12 kn 96 bf 96 bc N M k9 k x (ii j) (ii T.length) (ii fN) ti fm = k9 (ii (T.length - 1)) (ii (fN + 1)) (shA ti p T.length) (upd fm fN (ii (T.getD p 0))) := by
  intro k
  induction k with
  | zero => intro j x h1 h2; omega
  | succ k ih =>
    intro j x h1 h2 h3 h4
    have h6 := hn.1
    rw [sX12_laysForm_L20]
    unfold bX12_laysForm_L20
    have e1 : (ii T.length ≤ ii j) = (T.length ≤ j) := ii_le (by omega) (by omega)
    by_cases hj : T.length ≤ j
    · have hx := h4 (by omega)
      rw [if_pos (by rw [e1]; exact hj), hx, takesOut_eq hN hN3 hNF hp]
      simp (disch := omega) only [k_1, ii_nneg, ii_nat, ii_add, false_or, Option.bind_some]
      rw [if_neg (by omega), if_neg (by omega), ht p hp]
    · rw [if_neg (by rw [e1]; exact hj)]
      have hfr := isFree_eq (F := F) hn hm hT ht hN hNF hN3 (j := j) (by omega)
      have tl : ∀ q, q < T.length → T.getD q 0 < 12 := fun q hq => by
        have := hT _ (rL_mem (a := ti) hq)
        omega
      have go : ∀ y : Int32, (j + 1 ≤ p → y = -1 ∨ ∃ q, q < j + 1 ∧ y = ii q ∧ T.getD p 0 < T.getD q 0) → (p < j + 1 → y = ii p) → bX12_laysForm_L57 F bl 12 ki 12 kn 96 bf 96 bc N M (fX12_laysForm_L20 F bl 12 ki 12 kn 96 bf 96 bc N M k9 k) y (ii j) (ii T.length) (ii fN) ti fm = k9 (ii (T.length - 1)) (ii (fN + 1)) (shA ti p T.length) (upd fm fN (ii (T.getD p 0))) := by
        intro y h7 h8
        unfold bX12_laysForm_L57
        rw [k_1, ii_add]
        exact ih (j + 1) y (by omega) (by omega) h7 h8
      have look : (j ≤ p → True) → (p < j → ¬ freI mk T j ∨ T.getD j 0 ≤ T.getD p 0 → x = ii p) → (p < j → ¬ freI mk T j) → bX12_laysForm_L47 F bl 12 ki 12 kn 96 bf 96 bc N M (fX12_laysForm_L20 F bl 12 ki 12 kn 96 bf 96 bc N M k9 k) x (ii j) (ii T.length) (ii fN) ti fm = k9 (ii (T.length - 1)) (ii (fN + 1)) (shA ti p T.length) (upd fm fN (ii (T.getD p 0))) := by
        intro _ _ h9
        unfold bX12_laysForm_L47
        by_cases hf : freI mk T j
        · rw [hfr.1 hf]
          simp only [Option.bind_some]
          rw [if_neg (by decide)]
          have hjp : j ≤ p := Nat.le_of_not_lt fun h => h9 h hf
          rcases hlp j (by omega) hf with h | h
          · exact go _ (fun h7 => by omega) (fun _ => by rw [h])
          · exact go _ (fun _ => Or.inr ⟨j, by omega, rfl, h⟩) (fun h8 => by
              have : j = p := by omega
              rw [this] at h
              omega)
        · rw [hfr.2 hf]
          simp only [Option.bind_some]
          rw [if_pos trivial]
          refine go _ (fun h7 => ?_) (fun h8 => ?_)
          · rcases h3 (by omega) with h | ⟨q, h, h'⟩
            · exact Or.inl h
            · exact Or.inr ⟨q, by omega, h'⟩
          · by_cases h10 : j = p
            · rw [h10] at hf
              exact absurd hfp hf
            · exact h4 (by omega)
      by_cases hx : x < 0
      · rw [if_pos hx]
        refine look (fun _ => trivial) (fun h => fun _ => h4 h) (fun h => ?_)
        rw [h4 h] at hx
        simp (disch := omega) only [ii_nneg] at hx
      · rw [if_neg hx]
        obtain ⟨q, hq, hxq⟩ : ∃ q, q < T.length ∧ x = ii q := by
          by_cases h : p < j
          · exact ⟨p, hp, h4 h⟩
          · rcases h3 (by omega) with h | ⟨q, h, h', _⟩
            · rw [h] at hx
              exact absurd (by decide) hx
            · exact ⟨q, by omega, h'⟩
        have hqx : (p < j → q = p) := fun h => by
          have := h4 h
          rw [hxq, ii_inj (by omega) (by omega)] at this
          exact this
        have hqy : (j ≤ p → T.getD p 0 < T.getD q 0) := fun h => by
          rcases h3 h with h | ⟨q', h, h', h''⟩
          · rw [h] at hx
            exact absurd (by decide) hx
          · rw [hxq, ii_inj (by omega) (by omega)] at h'
            rw [h']
            exact h''
        rw [hxq]
        simp (disch := omega) only [ii_nneg, ii_nat, false_or]
        rw [if_neg (by omega), if_neg (by omega), ht q hq, ht j (by omega)]
        have e2 : (ii (T.getD q 0) ≤ ii (T.getD j 0)) = (T.getD q 0 ≤ T.getD j 0) := ii_le (by have := tl q hq; omega) (by have := tl j (by omega); omega)
        by_cases hle : T.getD q 0 ≤ T.getD j 0
        · rw [if_pos (by rw [e2]; exact hle), ← hxq]
          refine go _ (fun h7 => ?_) (fun h8 => ?_)
          · rcases h3 (by omega) with h | ⟨q, h, h'⟩
            · exact Or.inl h
            · exact Or.inr ⟨q, by omega, h'⟩
          · by_cases h10 : j = p
            · have := hqy (by omega)
              rw [h10] at hle
              omega
            · exact h4 (by omega)
        · rw [if_neg (by rw [e2]; exact hle), ← hxq]
          refine look (fun _ => trivial) (fun h => fun _ => h4 h) (fun h hf => ?_)
          rcases hlp j (by omega) hf with h10 | h10
          · omega
          · rw [hqx h] at hle
            omega
theorem shA_rL {a : Nat → Int32} {A B : List Nat} {t : Nat} (h : rL a (A ++ t :: B)) : rL (shA a A.length (A ++ t :: B).length) (A ++ B) := by
  intro k hk
  have hl : (A ++ t :: B).length = A.length + B.length + 1 := by simp; omega
  have hl2 : (A ++ B).length = A.length + B.length := by simp
  unfold shA
  by_cases h1 : A.length ≤ k
  · rw [if_pos (by omega), h (k + 1) (by omega), getD_app2 h1, getD_app2 (by omega), show k + 1 - A.length = (k - A.length) + 1 by omega]
    rfl
  · rw [if_neg (by omega), h k (by omega), getD_app1 (by omega), getD_app1 (by omega)]
theorem rL_snoc {a : Nat → Int32} {A : List Nat} {t : Nat} (h : rL a A) : rL (upd a A.length (ii t)) (A ++ [t]) := by
  intro k hk
  simp only [List.length_append, List.length_cons, List.length_nil] at hk
  by_cases h1 : k = A.length
  · rw [h1, upd_same, getD_app2 (Nat.le_refl _), Nat.sub_self]
    rfl
  · rw [upd_ne _ _ h1, h k (by omega), getD_app1 (by omega)]
/-- the reference writes the form -/
theorem lays_L9 {F n N M : Nat} {mk rd : Nat → Nat} {ki kn : Nat → Int32} (hn : okN n mk rd) (hm : netM n mk rd ki kn) (hN3 : N < 1000000) (hNF : N < F) (hM3 : M < 1000000) {bl : Int32} {bf bc : Nat → Int32} :
    ∀ (k : Nat) (V : List (Nat × Nat)) (O : List Nat), FM mk k V O → (∀ x ∈ V, 1 ≤ x.2 ∧ x.1 < 2 * n) → ∀ (g : Nat) (ti fm : Nat → Int32) (D : List Nat), rL ti (flat V) → rL fm D → (flat V).length ≤ N → D.length + (flat V).length ≤ M → (flat V).length < g → ∃ ti' fm', fX12_laysForm_L9 F bl 12 ki 12 kn 96 bf 96 bc N M g (ii (flat V).length) (ii D.length) ti fm = some (ii 0, ii (D ++ O).length, ti', fm') ∧ rL fm' (D ++ O) := by
  intro k
  induction k with
  | zero =>
    rintro V O ⟨rfl, rfl⟩ hV g ti fm D h1 h2 h3 h4 h5
    obtain ⟨g, rfl⟩ : ∃ g', g = g' + 1 := ⟨g - 1, by omega⟩
    rw [sX12_laysForm_L9]
    unfold bX12_laysForm_L9
    have e : (flat []).length = 0 := rfl
    rw [e, if_pos (by decide), List.append_nil]
    exact ⟨_, _, rfl, h2⟩
  | succ k ih =>
    rintro V O ⟨A, t, m, B, O', rfl, hb, rfl, hO⟩ hV
    have hm1 : 1 ≤ m := (hV (t, m) (by simp)).1
    have ht2 : t < 2 * n := (hV (t, m) (by simp)).2
    -- m ties of one bundle, one after another
    have key : ∀ (r : Nat) (g : Nat) (ti fm : Nat → Int32) (D : List Nat), 1 ≤ r → rL ti (flat (A ++ (t, r) :: B)) → rL fm D → (flat (A ++ (t, r) :: B)).length ≤ N → D.length + (flat (A ++ (t, r) :: B)).length ≤ M → (flat (A ++ (t, r) :: B)).length < g → ∃ ti' fm', fX12_laysForm_L9 F bl 12 ki 12 kn 96 bf 96 bc N M g (ii (flat (A ++ (t, r) :: B)).length) (ii D.length) ti fm = some (ii 0, ii (D ++ (List.replicate r t ++ O')).length, ti', fm') ∧ rL fm' (D ++ (List.replicate r t ++ O')) := by
      intro r
      induction r with
      | zero => intro g ti fm D h0; omega
      | succ r ihr =>
        intro g ti fm D h0 h1 h2 h3 h4 h5
        obtain ⟨g, rfl⟩ : ∃ g', g = g' + 1 := ⟨g - 1, by omega⟩
        have hV2 : ∀ x ∈ A ++ (t, r + 1) :: B, 1 ≤ x.2 ∧ x.1 < 2 * n := by
          intro x hx
          rcases List.mem_append.mp hx with h | h
          · exact hV x (List.mem_append_left _ h)
          · rcases List.mem_cons.mp h with h | h
            · rw [h]
              exact ⟨by simp, ht2⟩
            · exact hV x (List.mem_append_right _ (List.mem_cons_of_mem _ h))
        have hT : okL n (flat (A ++ (t, r + 1) :: B)) := by
          intro y hy
          unfold flat at hy
          rw [List.mem_flatMap] at hy
          obtain ⟨x, hx, h6⟩ := hy
          rw [(List.mem_replicate.mp h6).2]
          exact (hV2 x hx).2
        have hfl : flat (A ++ (t, r + 1) :: B) = flat A ++ t :: (List.replicate r t ++ flat B) := by
          rw [flat_app, flat_cons, List.replicate_succ]
          rfl
        have hfr := fl_free (mk := mk) (B := B) (m := r + 1) (by omega) hb.1
        have hlen : (flat (A ++ (t, r + 1) :: B)).length = (flat A).length + (r + (flat B).length) + 1 := by
          rw [hfl]
          simp
          omega
        rw [sX12_laysForm_L9]
        unfold bX12_laysForm_L9
        simp (disch := omega) only [k_0, ii_le]
        rw [if_neg (by omega)]
        rw [lays_L20 hn hm hN3 hNF hM3 hT h1 h3 (p := (flat A).length) (by omega) hfr.2 (fun j hj hf => by
          rw [hfr.1]
          exact fl_best (fun x hx => (hV2 x hx).1) hb hj hf) (by omega) _ F 0 (-1) (by omega) (by omega) (fun _ => Or.inl rfl) (fun h => absurd h (by omega))]
        rw [hfr.1]
        have hsh : rL (shA ti (flat A).length (flat (A ++ (t, r + 1) :: B)).length) (flat A ++ (List.replicate r t ++ flat B)) := by
          rw [hfl] at h1 ⊢
          exact shA_rL h1
        have hD := rL_snoc (t := t) h2
        have el : (flat (A ++ (t, r + 1) :: B)).length - 1 = (flat A ++ (List.replicate r t ++ flat B)).length := by
          rw [hlen]
          simp
        have eD : D.length + 1 = (D ++ [t]).length := by simp
        have eO : D ++ (List.replicate (r + 1) t ++ O') = (D ++ [t]) ++ (List.replicate r t ++ O') := by
          rw [List.replicate_succ]
          simp
        rw [el, eD, eO]
        by_cases hr : r = 0
        · subst hr
          have e3 : flat A ++ (List.replicate 0 t ++ flat B) = flat (A ++ B) := by
            rw [flat_app]
            rfl
          rw [e3] at hsh ⊢
          exact ih (A ++ B) O' hO (fun x hx => hV x (by
            rcases List.mem_append.mp hx with h | h
            · exact List.mem_append_left _ h
            · exact List.mem_append_right _ (List.mem_cons_of_mem _ h))) g _ _ (D ++ [t]) hsh hD (by rw [flat_app]; simp; omega) (by rw [flat_app]; simp; omega) (by rw [flat_app]; simp; omega)
        · have e3 : flat A ++ (List.replicate r t ++ flat B) = flat (A ++ (t, r) :: B) := by
            rw [flat_app, flat_cons]
          rw [e3] at hsh ⊢
          have hl3 : (flat (A ++ (t, r) :: B)).length = (flat A).length + (r + (flat B).length) := by
            rw [← e3]
            simp
          exact ihr g _ _ (D ++ [t]) (by omega) hsh hD (by omega) (by simp only [List.length_append, List.length_cons, List.length_nil]; omega) (by omega)
    intro g ti fm D h1 h2 h3 h4 h5
    exact key m g ti fm D hm1 h1 h2 h3 h4 h5
/-- how many ties a count stands for, with their sign -/
def tv (m : Nat) (c : Int) : Int := if m = 0 then c else if 2 * c ≤ (m : Int) then c else c - m
def bt (rd : Nat → Nat) (x : Nat × Int) : Nat := if 0 < tv (rd x.1) x.2 then 2 * x.1 else 2 * x.1 + 1
def bn (rd : Nat → Nat) (x : Nat × Int) : Nat := (tv (rd x.1) x.2).natAbs
/-- bundles of a pile in the order of its arrays -/
def bu (rd : Nat → Nat) (Q : List (Nat × Int)) : List (Nat × Nat) := Q.reverse.map (fun x => (bt rd x, bn rd x))
def rpA (a : Nat → Int32) (p m : Nat) (x : Int32) : Nat → Int32 := fun k => if p ≤ k ∧ k < p + m then x else a k
theorem rpA_0 (a : Nat → Int32) (p : Nat) (x : Int32) : rpA a p 0 x = a := by
  funext k
  unfold rpA
  rw [if_neg (by omega)]
theorem rpA_s (a : Nat → Int32) (p m : Nat) (x : Int32) : rpA (upd a p x) (p + 1) m x = rpA a p (m + 1) x := by
  funext k
  unfold rpA upd
  by_cases h : p + 1 ≤ k ∧ k < p + 1 + m
  · rw [if_pos h, if_pos (by omega)]
  · rw [if_neg h]
    by_cases h2 : k = p
    · rw [if_pos h2, if_pos (by omega)]
    · rw [if_neg h2, if_neg (by omega)]
theorem rpA_rL {a : Nat → Int32} {A : List Nat} {m t : Nat} (h : rL a A) : rL (rpA a A.length m (ii t)) (A ++ List.replicate m t) := by
  intro k hk
  simp only [List.length_append, List.length_replicate] at hk
  unfold rpA
  by_cases h1 : A.length ≤ k
  · rw [if_pos (by omega), getD_app2 h1, getD_rep (by omega)]
  · rw [if_neg (by omega), h k (by omega), getD_app1 (by omega)]
theorem adds_L {F N : Nat} (hN : N < 1000000) {x : Int32} : ∀ (k i m p : Nat) (a : Nat → Int32), m ≤ N → i ≤ m → m < i + k → p + (m - i) ≤ N → fX12_adds_L2 F N k x (ii m) (ii i) (ii p) a = some (ii (p + (m - i)), rpA a p (m - i) x) := by
  intro k
  induction k with
  | zero => intro i m p a h0 h1 h2; omega
  | succ k ih =>
    intro i m p a h0 h1 h2 h3
    rw [sX12_adds_L2]
    unfold bX12_adds_L2
    simp (disch := omega) only [k_1, ii_nneg, ii_nat, ii_le, ii_add, false_or]
    by_cases h : m ≤ i
    · rw [if_pos h, show m - i = 0 by omega, rpA_0]
      rfl
    · rw [if_neg h, if_neg (by omega), ih (i + 1) m (p + 1) _ h0 (by omega) (by omega) (by omega), show m - i = (m - (i + 1)) + 1 by omega, rpA_s, show p + 1 + (m - (i + 1)) = p + (m - (i + 1) + 1) by omega]
theorem adds_eq {F N : Nat} (hN : N < 1000000) (hF : N < F) {x : Int32} {m p : Nat} {a : Nat → Int32} (h0 : m ≤ N) (h : p + m ≤ N) : fX12_adds F N x (ii m) (ii p) a = some (ii (p + m), rpA a p m x) := by
  unfold fX12_adds
  exact adds_L hN F 0 m p a h0 (by omega) (by omega) (by omega)
theorem tv_bound {m : Nat} {c : Int} (hm : m = 0 ∨ m = 2 ∨ m = 3 ∨ m = 4) (h1 : -100 ≤ c) (h2 : c ≤ 100) : -104 ≤ tv m c ∧ tv m c ≤ 104 := by
  unfold tv
  by_cases h3 : m = 0
  · rw [if_pos h3]
    omega
  · rw [if_neg h3]
    by_cases h4 : 2 * c ≤ (m : Int)
    · rw [if_pos h4]
      omega
    · rw [if_neg h4]
      omega
/-- the ties that a pile stands for, as the reference lays them -/
theorem laysTies_L {F n N : Nat} {mk rd : Nat → Nat} {ki kn : Nat → Int32} (hn : okN n mk rd) (hm : netM n mk rd ki kn) (hN : N < 1000000) (hF : N < F) {Q : List (Nat × Int)} {fo co : Nat → Int32} (hP : okP n 100 Q) (hQ : Q.length ≤ 96) (hr : rP fo co Q) :
    ∀ (Q1 Q2 : List (Nat × Int)) (k : Nat) (D : List Nat) (a : Nat → Int32), Q = Q2.reverse ++ Q1 → rL a D → (D ++ flat (Q2.map (fun x => (bt rd x, bn rd x)))).length ≤ N → Q2.length < k → ∃ a', fX12_laysTies_L7 F (ii Q.length) 12 ki 96 fo 96 co N k (ii Q1.length) (ii D.length) a = some (ii (D ++ flat (Q2.map (fun x => (bt rd x, bn rd x)))).length, a') ∧ rL a' (D ++ flat (Q2.map (fun x => (bt rd x, bn rd x)))) := by
  intro Q1 Q2
  induction Q2 generalizing Q1 with
  | nil =>
    intro k D a e h1 h2 h3
    obtain ⟨k, rfl⟩ : ∃ g', k = g' + 1 := ⟨k - 1, by omega⟩
    rw [sX12_laysTies_L7]
    unfold bX12_laysTies_L7
    have e1 : Q.length = Q1.length := by rw [e]; rfl
    rw [e1, if_pos (by rw [ii_le (by omega) (by omega)]; omega)]
    refine ⟨a, ?_, ?_⟩
    · show some (ii D.length, a) = some (ii (D ++ []).length, a)
      rw [List.append_nil]
    · show rL a (D ++ [])
      rw [List.append_nil]
      exact h1
  | cons x Q2 ih =>
    intro k D a e h1 h2 h3
    obtain ⟨k, rfl⟩ : ∃ g', k = g' + 1 := ⟨k - 1, by omega⟩
    have e0 : Q = Q2.reverse ++ x :: Q1 := by rw [e]; simp
    have hl : Q.length = Q2.length + Q1.length + 1 := by rw [e0]; simp; omega
    rw [e0] at hr
    have hfo : fo Q1.length = ii x.1 := (rP_tail hr).1.1
    have hco : co Q1.length = iz x.2 := (rP_tail hr).1.2
    obtain ⟨hx1, hx2, hx3⟩ := hP x (by rw [e0]; simp)
    obtain ⟨hmk, hrd, -⟩ := hn.2.1 x.1 hx1
    have h6 := hn.1
    have htv := tv_bound hrd hx2 hx3
    have hm0 : ((bt rd x, bn rd x) :: Q2.map (fun x => (bt rd x, bn rd x))) = (x :: Q2).map (fun x => (bt rd x, bn rd x)) := rfl
    rw [← hm0, flat_cons] at h2 ⊢
    simp only [] at h2 ⊢
    have h2' : D.length + (bn rd x + (flat (Q2.map (fun x => (bt rd x, bn rd x)))).length) ≤ N := by
      simpa using h2
    have fin : ∃ a', (fX12_adds F N (ii (bt rd x)) (ii (bn rd x)) (ii D.length) a).bind (fun R80 => fX12_laysTies_L7 F (ii Q.length) 12 ki 96 fo 96 co N k (ii Q1.length + (1 : Int32)) R80.1 R80.2) = some (ii (D ++ (List.replicate (bn rd x) (bt rd x) ++ flat (Q2.map (fun x => (bt rd x, bn rd x))))).length, a') ∧ rL a' (D ++ (List.replicate (bn rd x) (bt rd x) ++ flat (Q2.map (fun x => (bt rd x, bn rd x))))) := by
      rw [adds_eq hN hF (by omega) (by omega)]
      simp only [Option.bind_some]
      have h7 := rpA_rL (m := bn rd x) (t := bt rd x) h1
      have h8 := ih (x :: Q1) k (D ++ List.replicate (bn rd x) (bt rd x)) _ e0 h7 (by simp; omega) (by simp only [List.length_cons] at h3; omega)
      rw [List.append_assoc] at h8
      rw [k_1, ii_add]
      have e9 : (D ++ List.replicate (bn rd x) (bt rd x)).length = D.length + bn rd x := by simp
      rw [e9] at h8
      exact h8
    rw [sX12_laysTies_L7]
    unfold bX12_laysTies_L7
    simp (disch := omega) only [ii_nneg, ii_nat, ii_le, false_or]
    rw [if_neg (by omega), if_neg (by omega), if_neg (by omega), hfo, hco, roundOf_eq hm h6 hx1]
    simp only [Option.bind_some]
    -- one count, its sign
    have low : bX12_laysTies_L54 F (ii Q.length) 12 ki 96 fo 96 co N (fX12_laysTies_L7 F (ii Q.length) 12 ki 96 fo 96 co N k) (ii Q1.length) (ii x.1) (iz (tv (rd x.1) x.2)) (ii D.length) a = (fX12_adds F N (ii (bt rd x)) (ii (bn rd x)) (ii D.length) a).bind (fun R80 => fX12_laysTies_L7 F (ii Q.length) 12 ki 96 fo 96 co N k (ii Q1.length + (1 : Int32)) R80.1 R80.2) := by
      unfold bX12_laysTies_L54 bX12_laysTies_L70 bX12_laysTies_L80
      have e1 : (iz (tv (rd x.1) x.2) ≤ 0) = (tv (rd x.1) x.2 ≤ 0) := iz_le (a := tv (rd x.1) x.2) (b := 0) (by omega) (by omega) (by omega) (by omega)
      by_cases hs : tv (rd x.1) x.2 ≤ 0
      · rw [if_pos (by rw [e1]; exact hs), if_pos (by rw [e1]; exact hs), iz_neg]
        have e2 : bt rd x = 2 * x.1 + 1 := by unfold bt; rw [if_neg (by omega)]
        have e3 : iz (-tv (rd x.1) x.2) = ii (bn rd x) := by
          rw [ii_iz]
          unfold bn
          congr 1
          omega
        rw [e2, e3, k_2, ii_mul, k_1, ii_add]
      · rw [if_neg (by rw [e1]; exact hs), if_neg (by rw [e1]; exact hs)]
        have e2 : bt rd x = 2 * x.1 := by unfold bt; rw [if_pos (by omega)]
        have e3 : iz (tv (rd x.1) x.2) = ii (bn rd x) := by
          rw [ii_iz]
          unfold bn
          congr 1
          omega
        rw [e2, e3, k_2, ii_mul]
    have e4 : (ii (rd x.1) ≤ 0) = (rd x.1 ≤ 0) := ii_le (b := 0) (by omega) (by omega)
    have e5 : ((2 : Int32) * iz x.2 ≤ ii (rd x.1)) = (2 * x.2 ≤ (rd x.1 : Int)) := by
      rw [show (2 : Int32) = iz 2 from rfl, iz_mul, ii_iz, iz_le (by omega) (by omega) (by omega) (by omega)]
    have et : ∀ v, tv (rd x.1) x.2 = v → ∃ a', bX12_laysTies_L54 F (ii Q.length) 12 ki 96 fo 96 co N (fX12_laysTies_L7 F (ii Q.length) 12 ki 96 fo 96 co N k) (ii Q1.length) (ii x.1) (iz v) (ii D.length) a = some (ii (D ++ (List.replicate (bn rd x) (bt rd x) ++ flat (Q2.map (fun x => (bt rd x, bn rd x))))).length, a') ∧ rL a' (D ++ (List.replicate (bn rd x) (bt rd x) ++ flat (Q2.map (fun x => (bt rd x, bn rd x))))) := by
      intro v hv
      rw [← hv, low]
      exact fin
    by_cases h10 : rd x.1 = 0
    · rw [if_pos (by rw [e4]; omega)]
      exact et _ (by unfold tv; rw [if_pos h10])
    · rw [if_neg (by rw [e4]; omega)]
      by_cases h11 : 2 * x.2 ≤ (rd x.1 : Int)
      · rw [if_pos (by rw [e5]; exact h11)]
        exact et _ (by unfold tv; rw [if_neg h10, if_pos h11])
      · rw [if_neg (by rw [e5]; exact h11), ii_iz (rd x.1), iz_sub]
        exact et _ (by unfold tv; rw [if_neg h10, if_neg h11])
theorem tv_ne {m : Nat} {c : Int} (hm : m = 0 ∨ m = 2 ∨ m = 3 ∨ m = 4) (h1 : nrm m c = c) (h2 : c ≠ 0) : tv m c ≠ 0 := by
  unfold nrm at h1
  unfold tv
  by_cases h3 : m = 0
  · rw [if_pos h3]
    exact h2
  · rw [if_neg h3] at h1 ⊢
    by_cases h4 : 2 * c ≤ (m : Int)
    · rw [if_pos h4]
      exact h2
    · rw [if_neg h4]
      have := Int.emod_lt_of_pos c (b := (m : Int)) (by omega)
      omega
theorem bu_ok {n : Nat} {mk rd : Nat → Nat} (hn : okN n mk rd) {B : Int} {Q : List (Nat × Int)} (hP : okP n B Q) (hC : okC rd Q) : ∀ x ∈ bu rd Q, 1 ≤ x.2 ∧ x.1 < 2 * n := by
  intro x hx
  unfold bu at hx
  obtain ⟨y, hy, rfl⟩ := List.mem_map.mp hx
  have hy2 : y ∈ Q := List.mem_reverse.mp hy
  have h1 := (hP y hy2).1
  have h2 := hC y hy2
  have h3 := tv_ne (hn.2.1 y.1 h1).2.1 h2.1 h2.2
  refine ⟨?_, ?_⟩
  · show 1 ≤ bn rd y
    unfold bn
    omega
  · show bt rd y < 2 * n
    unfold bt
    split <;> omega
theorem bu_len (rd : Nat → Nat) (Q : List (Nat × Int)) : (bu rd Q).length = Q.length := by
  unfold bu
  simp
/-- the reference's form of a pile -/
theorem laysForm_eq {F n N M : Nat} {mk rd : Nat → Nat} {ki kn : Nat → Int32} (hn : okN n mk rd) (hm : netM n mk rd ki kn) (hN : N < 1000000) (hF : N < F) (hM : M < 1000000) (hF2 : 97 ≤ F) {Q : List (Nat × Int)} {fo co : Nat → Int32} (hP : okP n 100 Q) (hC : okC rd Q) (hQ : Q.length ≤ 96) (hr : rP fo co Q) {O : List Nat} (hO : FM mk Q.length (bu rd Q) O) (h1 : (flat (bu rd Q)).length ≤ N) (h2 : (flat (bu rd Q)).length ≤ M) (tm fmn : Int32) (ti fm : Nat → Int32) :
    ∃ ti' fm', fX12_laysForm F (ii Q.length) 12 ki 12 kn 96 fo 96 co N M tm fmn ti fm = some (ii 0, ii O.length, ti', fm') ∧ rL fm' O := by
  obtain ⟨a', e1, h3⟩ := laysTies_L hn hm hN hF hP hQ hr [] Q.reverse F [] ti (by simp) (fun k hk => absurd hk (by simp)) h1 (by rw [List.length_reverse]; omega)
  unfold fX12_laysForm fX12_laysTies
  have e2 : fX12_laysTies_L7 F (ii Q.length) 12 ki 96 fo 96 co N F (0 : Int32) (0 : Int32) ti = some (ii (flat (bu rd Q)).length, a') := e1
  rw [e2]
  simp only [Option.bind_some]
  obtain ⟨ti', fm', e3, h4⟩ := lays_L9 (N := N) (M := M) hn hm hN hF hM (bl := ii Q.length) (bf := fo) (bc := co) Q.length (bu rd Q) O hO (bu_ok hn hP hC) F a' fm [] h3 (fun k hk => absurd hk (by simp)) h1 (by simpa using h2) (by omega)
  exact ⟨ti', fm', e3, h4⟩
/-- how many ties a pile stands for -/
def tt (rd : Nat → Nat) : List (Nat × Int) → Nat
  | [] => 0
  | x :: Q => bn rd x + tt rd Q
theorem flat_len (rd : Nat → Nat) : ∀ Q : List (Nat × Int), (flat (bu rd Q)).length = tt rd Q
  | [] => rfl
  | x :: Q => by
    have ih := flat_len rd Q
    unfold bu at ih ⊢
    rw [List.reverse_cons, List.map_append, flat_app, List.length_append, ih]
    simp only [List.map_cons, List.map_nil, tt, flat_cons, List.length_append, List.length_replicate]
    show tt rd Q + (bn rd x + 0) = _
    omega
theorem bn_step {rd : Nat → Nat} {f : Nat} {c d : Int} (hm : rd f = 0 ∨ rd f = 2 ∨ rd f = 3 ∨ rd f = 4) (hc : c = 1 ∨ c = -1) (hd : nrm (rd f) d = d) : bn rd (f, nrm (rd f) (d + c)) ≤ bn rd (f, d) + 1 := by
  unfold bn tv
  unfold nrm at hd ⊢
  simp only []
  rcases hm with h | h | h | h
  · rw [h]
    simp only [if_true]
    omega
  all_goals
    rw [h] at hd ⊢
    have a1 : (0 : Int) ≤ d := by omega
    have a2 : d < 4 := by omega
    rcases (show d = 0 ∨ d = 1 ∨ d = 2 ∨ d = 3 by omega) with rfl | rfl | rfl | rfl <;> rcases hc with rfl | rfl <;> first | decide | (exfalso; revert hd; decide)
