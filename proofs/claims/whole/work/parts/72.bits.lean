/-! PURE: sets of folk as bits: held, fault, at -/
theorem sh1 : ∀ f, f < 6 → (1 : Int32) <<< (ii f &&& 31) = ii (2 ^ f) ∧ 2 ^ f < 64 := by decide +kernel
/-- the folk of a row, as bits -/
def ob (m : Nat) (L : List Nat) : Nat := L.foldl (fun m f => m ||| 2 ^ f) m
theorem ob_cons (m f : Nat) (L : List Nat) : ob m (f :: L) = ob (m ||| 2 ^ f) L := rfl
theorem ob_bit : ∀ (L : List Nat) (m g : Nat), (ob m L).testBit g = (m.testBit g || decide (g ∈ L))
  | [], m, g => by simp [ob]
  | f :: L, m, g => by
    rw [ob_cons, ob_bit L, Nat.testBit_or, Nat.testBit_two_pow]
    by_cases h : f = g
    · simp [h]
    · have h2 : ¬ g = f := fun h3 => h h3.symm
      simp [h, h2]
theorem ob_lt : ∀ {L : List Nat} {m : Nat}, m < 64 → (∀ f ∈ L, f < 6) → ob m L < 64
  | [], m, h, _ => h
  | f :: L, m, h, h2 => by
    rw [ob_cons]
    exact ob_lt (or_lt64 m h f (h2 f List.mem_cons_self)) (fun g hg => h2 g (List.mem_cons_of_mem _ hg))
theorem ob_ext {L M : List Nat} (h : ∀ g, g ∈ L ↔ g ∈ M) : ob 0 L = ob 0 M := by
  apply Nat.eq_of_testBit_eq
  intro i
  rw [ob_bit, ob_bit]
  congr 1
  exact decide_eq_decide.mpr (h i)
theorem step1 {m f : Nat} (hm : m < 64) (hf : f < 6) : ii m ||| (1 : Int32) <<< (ii f &&& 31) = ii (m ||| 2 ^ f) := by
  rw [(sh1 f hf).1]
  exact (ii_or m hm _ (sh1 f hf).2).1
theorem map_drop {L : List Nat} {k : Nat} (hk : k < L.length) : (L.drop k).map (· / 2) = L.getD k 0 / 2 :: (L.drop (k + 1)).map (· / 2) := by
  rw [drop_cons hk]
  rfl
theorem mem_drop {L : List Nat} {k t : Nat} (h : t ∈ L.drop k) : t ∈ L := List.mem_of_mem_drop h
/-- the class: folk of a row -/
theorem folkBits7_L {F n N : Nat} (hn : n ≤ 6) {L : List Nat} {a : Nat → Int32} (hL : okL n L) (ha : rL a L) (hN : L.length ≤ N) (hN3 : N < 1000000) : ∀ (g k m : Nat), k ≤ L.length → L.length < k + g → m < 64 → fX7_folkBits_L4 F (ii L.length) N a g (ii m) (ii k) = some (ii (ob m ((L.drop k).map (· / 2)))) := by
  intro g
  induction g with
  | zero => intro k m h1 h2; omega
  | succ g ih =>
    intro k m h1 h2 h3
    rw [sX7_folkBits_L4]
    unfold bX7_folkBits_L4
    simp (disch := omega) only [ii_nneg, ii_nat, ii_le, false_or]
    by_cases hk : L.length ≤ k
    · rw [if_pos hk, List.drop_of_length_le hk]
      rfl
    · have ht := hL _ (rL_mem (a := a) (L := L) (k := k) (by omega))
      rw [if_neg hk, if_neg (by omega), ha k (by omega), folkOf_eq (by omega)]
      simp only [Option.bind_some]
      rw [step1 h3 (by omega), k_1, ii_add, ih (k + 1) _ (by omega) (by omega) (or_lt64 m h3 _ (by omega)), map_drop (k := k) (by omega), ob_cons]
theorem folkBits7_eq {F n N : Nat} (hn : n ≤ 6) {L : List Nat} {a : Nat → Int32} (hL : okL n L) (ha : rL a L) (hN : L.length ≤ N) (hN3 : N < 1000000) (hF : N < F) : fX7_folkBits F (ii L.length) N a = some (ii (ob 0 (L.map (· / 2)))) := by
  unfold fX7_folkBits
  exact folkBits7_L hn hL ha hN hN3 F 0 0 (by omega) (by omega) (by omega)
/-- the reference: folk of the line -/
theorem folkInLine_L {F n : Nat} (hn : n ≤ 6) {L : List Nat} {s : Nat → Int32} (hL : okL n L) (hs : rS s L) (h24 : L.length ≤ 24) : ∀ (g k m : Nat), k ≤ L.length → L.length < k + g → m < 64 → fX12_folkInLine_L4 F 25 s g (ii m) (ii (k + 1)) = some (ii (ob m ((L.drop k).map (· / 2)))) := by
  intro g
  induction g with
  | zero => intro k m h1 h2; omega
  | succ g ih =>
    intro k m h1 h2 h3
    rw [sX12_folkInLine_L4]
    unfold bX12_folkInLine_L4
    rw [if_neg (by decide)]
    have e0 : s ((0 : Int32).toNatClampNeg) = ii L.length := hs.1
    rw [e0]
    simp (disch := omega) only [ii_nneg, ii_nat, ii_lt, false_or]
    by_cases hk : L.length ≤ k
    · rw [if_pos (by omega), List.drop_of_length_le hk]
      rfl
    · have ht := hL _ (rL_mem (a := s) (L := L) (k := k) (by omega))
      rw [if_neg (by omega), if_neg (by omega), hs.2 k (by omega), tie_half _ (by omega), step1 h3 (by omega), k_1, ii_add, ih (k + 1) _ (by omega) (by omega) (or_lt64 m h3 _ (by omega)), map_drop (k := k) (by omega), ob_cons]
theorem folkInLine_eq {F n : Nat} (hn : n ≤ 6) {L : List Nat} {s : Nat → Int32} (hL : okL n L) (hs : rS s L) (h24 : L.length ≤ 24) (hF : 100 ≤ F) : fX12_folkInLine F 25 s = some (ii (ob 0 (L.map (· / 2)))) := by
  unfold fX12_folkInLine
  exact folkInLine_L hn hL hs h24 F 0 0 (by omega) (by omega) (by omega)
/-- the class: folk of a pile -/
theorem folkBits5_L {F n N : Nat} (hn : n ≤ 6) {Q : List (Nat × Int)} {fo co : Nat → Int32} {B : Int} (hP : okP n B Q) (hr : rP fo co Q) (hN : Q.length ≤ N) (hN3 : N < 1000000) : ∀ (R2 R1 : List (Nat × Int)) (g m : Nat), Q = R2.reverse ++ R1 → R2.length < g → m < 64 → fX5_folkBits_L4 F (ii Q.length) N fo g (ii m) (ii R1.length) = some (ii (ob m (R2.map Prod.fst))) := by
  intro R2
  induction R2 with
  | nil =>
    intro R1 g m e h2 h3
    obtain ⟨g, rfl⟩ : ∃ g', g = g' + 1 := ⟨g - 1, by omega⟩
    have hl : Q.length = R1.length := by rw [e]; rfl
    rw [sX5_folkBits_L4]
    unfold bX5_folkBits_L4
    rw [if_pos (by rw [ii_le (by omega) (by omega)]; omega)]
    rfl
  | cons x R2 ih =>
    intro R1 g m e h2 h3
    obtain ⟨g, rfl⟩ : ∃ g', g = g' + 1 := ⟨g - 1, by omega⟩
    have e0 : Q = R2.reverse ++ x :: R1 := by rw [e]; simp
    have hl : Q.length = R2.length + R1.length + 1 := by rw [e0]; simp; omega
    have hx := (hP x (by rw [e0]; simp)).1
    rw [e0] at hr
    have hfo : fo R1.length = ii x.1 := (rP_tail hr).1.1
    rw [sX5_folkBits_L4]
    unfold bX5_folkBits_L4
    simp (disch := omega) only [ii_nneg, ii_nat, ii_le, false_or]
    rw [if_neg (by omega), if_neg (by omega), hfo, step1 h3 (by omega), k_1, ii_add]
    exact ih (x :: R1) g _ e0 (by simp only [List.length_cons] at h2; omega) (or_lt64 m h3 _ (by omega))
theorem folkBits5_eq {F n N : Nat} (hn : n ≤ 6) {Q : List (Nat × Int)} {fo co : Nat → Int32} {B : Int} (hP : okP n B Q) (hr : rP fo co Q) (hN : Q.length ≤ N) (hN3 : N < 1000000) (hF : N < F) : fX5_folkBits F (ii Q.length) N fo = some (ii (ob 0 (Q.map Prod.fst))) := by
  unfold fX5_folkBits
  have h := folkBits5_L (F := F) hn hP hr hN hN3 Q.reverse [] F 0 (by simp) (by rw [List.length_reverse]; omega) (by omega)
  have e : ob 0 (Q.reverse.map Prod.fst) = ob 0 (Q.map Prod.fst) := ob_ext (fun g => by simp)
  rw [e] at h
  exact h
theorem FM_mem {mk : Nat → Nat} : ∀ {k : Nat} {V : List (Nat × Nat)} {O : List Nat}, FM mk k V O → (∀ x ∈ V, 1 ≤ x.2) → ∀ g, (g ∈ O.map (· / 2) ↔ g ∈ V.map (fun x => x.1 / 2))
  | 0, V, O, ⟨h1, h2⟩, _, g => by rw [h1, h2]; simp
  | k + 1, V, O, ⟨A, t, m, B, O', h1, _, h2, h3⟩, hV, g => by
    have hm : 1 ≤ m := hV (t, m) (by rw [h1]; simp)
    have ih := FM_mem h3 (fun x hx => hV x (by
      rw [h1]
      rcases List.mem_append.mp hx with h | h
      · exact List.mem_append_left _ h
      · exact List.mem_append_right _ (List.mem_cons_of_mem _ h))) g
    rw [h1, h2]
    simp only [List.map_append, List.mem_append, List.map_cons, List.mem_cons, List.map_replicate, List.mem_replicate] at ih ⊢
    rw [ih]
    constructor
    · rintro (⟨_, h⟩ | h | h)
      · exact Or.inr (Or.inl h)
      · exact Or.inl h
      · exact Or.inr (Or.inr h)
    · rintro (h | h | h)
      · exact Or.inr (Or.inl h)
      · exact Or.inl ⟨by omega, h⟩
      · exact Or.inr (Or.inr h)
theorem held_X {F n : Nat} {mk rd : Nat → Nat} {st ro : Nat → Int32} (hn : okN n mk rd) (hr : okR rd) (hx : netX n mk rd st ro) (hF : 1000 ≤ F) {L : List Nat} {a : Nat → Int32} (hL : okL n L) (ha : rL a L) (h24 : L.length ≤ 24) (sz : Int32) (fo co : Nat → Int32) :
    ∃ z fo' co', fX11_held F (ii n) 6 st 6 ro (ii L.length) 24 a 96 96 sz fo co = some (ii (ob 0 ((psL mk rd [] L).map Prod.fst)), z, fo', co') := by
  obtain ⟨fo', co', e1, h2⟩ := lay_eq (F := F) (N := 96) hn hx (by omega) (by omega) hL ha h24 (by omega) (by omega) (by omega) (by omega) sz fo co
  obtain ⟨p1, p2, p3, p4⟩ := pile_facts hn hr hL (by omega)
  unfold fX11_held
  rw [e1]
  simp only [Option.bind_some]
  rw [folkBits5_eq hn.1 p1 h2 (by omega) (by omega) (by omega)]
  exact ⟨_, _, _, rfl⟩
theorem held_M_L {F n : Nat} {ki kn s : Nat → Int32} (hn : n ≤ 6) {O : List Nat} {fm : Nat → Int32} (hL : okL n O) (ha : rL fm O) (hN : O.length ≤ 96) {th b tm : Int32} {fo co ti : Nat → Int32} : ∀ (g k m : Nat), k ≤ O.length → O.length < k + g → m < 64 → fX12_held_L13 F 12 ki 12 kn 25 s 96 96 96 96 g (ii m) (ii k) th b tm (ii O.length) fo co ti fm = some (ii (ob m ((O.drop k).map (· / 2))), th, b, tm, ii O.length, fo, co, ti, fm) := by
  intro g
  induction g with
  | zero => intro k m h1 h2; omega
  | succ g ih =>
    intro k m h1 h2 h3
    rw [sX12_held_L13]
    unfold bX12_held_L13
    simp (disch := omega) only [ii_nneg, ii_nat, ii_le, false_or]
    by_cases hk : O.length ≤ k
    · rw [if_pos hk, List.drop_of_length_le hk]
      rfl
    · have ht := hL _ (rL_mem (a := fm) (L := O) (k := k) (by omega))
      rw [if_neg hk, if_neg (by omega), ha k (by omega), tie_half _ (by omega), step1 h3 (by omega), k_1, ii_add, ih (k + 1) _ (by omega) (by omega) (or_lt64 m h3 _ (by omega)), map_drop (k := k) (by omega), ob_cons]
theorem FM_ok {mk : Nat → Nat} {n : Nat} : ∀ {k : Nat} {V : List (Nat × Nat)} {O : List Nat}, FM mk k V O → (∀ x ∈ V, x.1 < 2 * n) → okL n O
  | 0, V, O, ⟨_, h2⟩, _ => by rw [h2]; exact fun t ht => absurd ht List.not_mem_nil
  | k + 1, V, O, ⟨A, t, m, B, O', h1, _, h2, h3⟩, hV => by
    have ih := FM_ok h3 (fun x hx => hV x (by
      rw [h1]
      rcases List.mem_append.mp hx with h | h
      · exact List.mem_append_left _ h
      · exact List.mem_append_right _ (List.mem_cons_of_mem _ h)))
    rw [h2]
    intro y hy
    rcases List.mem_append.mp hy with h | h
    · rw [(List.mem_replicate.mp h).2]
      exact hV (t, m) (by rw [h1]; simp)
    · exact ih y h
theorem held_M {F n : Nat} {mk rd : Nat → Nat} {ki kn : Nat → Int32} (hn : okN n mk rd) (hr : okR rd) (hm : netM n mk rd ki kn) (hF : 1000 ≤ F) {L : List Nat} {s : Nat → Int32} (hL : okL n L) (hs : rS s L) (h24 : L.length ≤ 24) (th b tm fmn : Int32) (fo co ti fm : Nat → Int32) :
    ∃ b' tm' fmn' fo' co' ti' fm', fX12_held F 12 ki 12 kn 25 s 96 96 96 96 th b tm fmn fo co ti fm = some (ii (ob 0 ((psL mk rd [] L).map Prod.fst)), 0, b', tm', fmn', fo', co', ti', fm') := by
  obtain ⟨O, hO⟩ := FM_ex (mk := mk) _ (bu rd (psL mk rd [] L)) (bu_len rd _)
  obtain ⟨fo', co', ti', fm', e1, h3, -⟩ := form_M (F := F) hn hr hm hF hL hs h24 hO b tm fmn fo co ti fm
  obtain ⟨p1, p2, p3, p4⟩ := pile_facts (mk := mk) hn hr hL (by omega)
  have hOl : O.length ≤ 24 := by rw [FM_len hO]; omega
  have hV := bu_ok hn p1 p2
  unfold fX12_held
  rw [e1]
  simp only [Option.bind_some]
  have h5 := held_M_L (F := F) (ki := ki) (kn := kn) (s := s) (th := 0) (b := ii (psL mk rd [] L).length) (tm := ii 0) (fo := fo') (co := co') (ti := ti') hn.1 (FM_ok hO (fun x hx => (hV x hx).2)) h3 (by omega) F 0 0 (by omega) (by omega) (by omega)
  have e6 : ob 0 ((O.drop 0).map (· / 2)) = ob 0 ((psL mk rd [] L).map Prod.fst) := by
    apply ob_ext
    intro g
    rw [List.drop_zero, FM_mem hO (fun x hx => (hV x hx).1) g]
    unfold bu
    simp only [List.map_map, List.mem_map, List.mem_reverse, Function.comp]
    constructor
    · rintro ⟨x, hx, h⟩
      exact ⟨x, hx, by rw [bt_half] at h; exact h⟩
    · rintro ⟨x, hx, h⟩
      exact ⟨x, hx, by rw [bt_half]; exact h⟩
  rw [e6] at h5
  exact ⟨_, _, _, _, _, _, _, h5⟩
