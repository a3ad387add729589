/-! PURE: the class's form -/
theorem tt_jn {mk rd : Nat → Nat} {f : Nat} {c : Int} (hm : rd f = 0 ∨ rd f = 2 ∨ rd f = 3 ∨ rd f = 4) (hc : c = 1 ∨ c = -1) : ∀ {Q P : List (Nat × Int)}, okC rd Q → jn mk rd f c Q = some P → tt rd P ≤ tt rd Q + 1
  | [], P, _, h => by cases h
  | x :: Q, P, hC, h => by
    rw [jn_cons] at h
    by_cases h1 : x.1 = f
    · rw [if_pos h1] at h
      have h2 := Option.some.inj h
      rw [← h2]
      by_cases h3 : nrm (rd f) (x.2 + c) = 0
      · rw [if_pos h3]
        show tt rd Q ≤ bn rd x + tt rd Q + 1
        omega
      · rw [if_neg h3]
        obtain ⟨g, d⟩ := x
        simp only at h1
        subst h1
        have h4 := bn_step (d := d) hm hc (hC _ List.mem_cons_self).1
        show bn rd (g, nrm (rd g) (d + c)) + tt rd Q ≤ bn rd (g, d) + tt rd Q + 1
        omega
    · rw [if_neg h1] at h
      by_cases h2 : (mk f).testBit x.1 = true
      · rw [if_pos h2] at h
        cases h
      · rw [if_neg h2] at h
        cases e : jn mk rd f c Q with
        | none => rw [e] at h; cases h
        | some R =>
          rw [e] at h
          have h3 := Option.some.inj h
          rw [← h3]
          have h4 := tt_jn hm hc (fun y hy => hC y (List.mem_cons_of_mem _ hy)) e
          show bn rd x + tt rd R ≤ bn rd x + tt rd Q + 1
          omega
theorem tt_psT {mk rd : Nat → Nat} (hr : okR rd) {Q : List (Nat × Int)} (hC : okC rd Q) (t : Nat) : tt rd (psT mk rd Q t) ≤ tt rd Q + 1 := by
  have hc : sg t = 1 ∨ sg t = -1 := sg_ne t
  unfold psT ps
  cases e : jn mk rd (t / 2) (sg t) Q with
  | none =>
    have h0 := bn_step (rd := rd) (f := t / 2) (c := sg t) (d := 0) (hr _) hc (by unfold nrm; split <;> simp)
    have h1 : bn rd (t / 2, (0 : Int)) = 0 := by
      unfold bn tv
      simp
    rw [h1, Int.zero_add] at h0
    show bn rd (t / 2, nrm (rd (t / 2)) (sg t)) + tt rd Q ≤ tt rd Q + 1
    omega
  | some P => exact tt_jn (hr _) hc hC e
theorem tt_psL {mk rd : Nat → Nat} (hr : okR rd) : ∀ {L : List Nat} {Q : List (Nat × Int)}, okC rd Q → tt rd (psL mk rd Q L) ≤ tt rd Q + L.length
  | [], _, _ => Nat.le_refl _
  | t :: L, Q, hC => by
    have h1 := tt_psT (mk := mk) hr hC t
    have h2 := tt_psL (mk := mk) hr (L := L) (Q := psT mk rd Q t) (ps_okC (nrm_sg (hr _) t) hC)
    show tt rd (psL mk rd (psT mk rd Q t) L) ≤ tt rd Q + (L.length + 1)
    omega
/-- or of small masks -/
theorem ii_or : ∀ a, a < 64 → ∀ b, b < 64 → ii a ||| ii b = ii (a ||| b) ∧ a ||| b < 64 := by decide +kernel
/-- what the unwritten ones in front hold back -/
def bm (mk fk : Nat → Nat) (w : Nat → Int32) : Nat → Nat
  | 0 => 0
  | k + 1 => if w k = 0 then bm mk fk w k ||| (mk (fk k) ||| 2 ^ fk k) else bm mk fk w k
def frX (mk fk : Nat → Nat) (w : Nat → Int32) (k : Nat) : Prop := w k = 0 ∧ (bm mk fk w k).testBit (fk k) = false
theorem bm_lt {n : Nat} {mk rd fk : Nat → Nat} (hn : okN n mk rd) {w : Nat → Int32} : ∀ {k : Nat}, (∀ j, j < k → fk j < n) → bm mk fk w k < 64
  | 0, _ => by
    show 0 < 64
    decide
  | k + 1, h => by
    have h1 := bm_lt hn (w := w) (k := k) (fun j hj => h j (by omega))
    have h2 := h k (by omega)
    have h6 := hn.1
    show (if w k = 0 then bm mk fk w k ||| (mk (fk k) ||| 2 ^ fk k) else bm mk fk w k) < 64
    split
    · exact (ii_or _ h1 _ (or_lt64 _ (hn.2.1 _ h2).1 _ (by omega))).2
    · exact h1
theorem bm_bit {n : Nat} {mk rd fk : Nat → Nat} (hn : okN n mk rd) {w : Nat → Int32} {g : Nat} (hg : g < n) : ∀ {k : Nat}, (∀ j, j < k → fk j < n) → ((bm mk fk w k).testBit g = false ↔ ∀ j, j < k → w j = 0 → fk j ≠ g ∧ (mk g).testBit (fk j) = false)
  | 0, _ => by
    refine ⟨fun _ j hj => absurd hj (by omega), fun _ => ?_⟩
    show (0 : Nat).testBit g = false
    exact Nat.zero_testBit g
  | k + 1, h => by
    have h1 := bm_bit hn (w := w) hg (k := k) (fun j hj => h j (by omega))
    have h2 := h k (by omega)
    have h6 := hn.1
    have hsy := hn.2.2
    have e : bm mk fk w (k + 1) = if w k = 0 then bm mk fk w k ||| (mk (fk k) ||| 2 ^ fk k) else bm mk fk w k := rfl
    rw [e]
    by_cases hw : w k = 0
    · rw [if_pos hw, Nat.testBit_or, bit_stop _ (hn.2.1 _ h2).1 _ (by omega) _ (by omega), hsy (fk k) g]
      constructor
      · intro h3 j hj hwj
        simp only [Bool.or_eq_false_iff, decide_eq_false_iff_not] at h3
        by_cases hjk : j = k
        · rw [hjk]
          exact ⟨fun h => h3.2.2 h.symm, h3.2.1⟩
        · exact h1.mp h3.1 j (by omega) hwj
      · intro h3
        simp only [Bool.or_eq_false_iff, decide_eq_false_iff_not]
        refine ⟨h1.mpr (fun j hj => h3 j (by omega)), (h3 k (by omega) hw).2, fun h => (h3 k (by omega) hw).1 h.symm⟩
    · rw [if_neg hw, h1]
      constructor
      · intro h3 j hj hwj
        by_cases hjk : j = k
        · rw [hjk] at hwj
          exact absurd hwj hw
        · exact h3 j (by omega) hwj
      · intro h3 j hj
        exact h3 j (by omega)
/-- the search of the class ends at the place sought -/
theorem least_L {F n N W S len : Nat} {mk rd fk : Nat → Nat} {st ro : Nat → Int32} (hn : okN n mk rd) (hx : netX n mk rd st ro) (hS : n ≤ S) {fo w : Nat → Int32} (hN : len ≤ N) (hW : len ≤ W) (hN3 : N < 1000000) (hfo : ∀ k, k < len → fo k = ii (fk k)) (hfk : ∀ k, k < len → fk k < n) {p : Nat} (hp : p < len) (hfp : frX mk fk w p) (hlp : ∀ j, j < len → frX mk fk w j → j = p ∨ fk p < fk j) :
    ∀ (k j : Nat) (x : Int32), j ≤ len → len < j + k → (j ≤ p → x = -1 ∨ ∃ q, q < j ∧ x = ii q ∧ fk p < fk q) → (p < j → x = ii p) → fX5_leastInFront_L7 F (ii len) N fo W w S st k (ii (bm mk fk w j)) x (ii j) = some (ii p) := by
  intro k
  induction k with
  | zero => intro j x h1 h2; omega
  | succ k ih =>
    intro j x h1 h2 h3 h4
    have h6 := hn.1
    rw [sX5_leastInFront_L7]
    unfold bX5_leastInFront_L7
    simp (disch := omega) only [ii_nneg, ii_nat, ii_le, false_or]
    by_cases hj : len ≤ j
    · rw [if_pos hj, h4 (by omega)]
    · rw [if_neg hj, if_neg (by omega)]
      have hbl := bm_lt (w := w) hn (k := j) (fun i hi => hfk i (by omega))
      have hfj := hfk j (by omega)
      have eb : bm mk fk w (j + 1) = if w j = 0 then bm mk fk w j ||| (mk (fk j) ||| 2 ^ fk j) else bm mk fk w j := rfl
      have keep : ¬ frX mk fk w j → (j + 1 ≤ p → x = -1 ∨ ∃ q, q < j + 1 ∧ x = ii q ∧ fk p < fk q) ∧ (p < j + 1 → x = ii p) := by
        intro hf
        refine ⟨fun h7 => ?_, fun h8 => ?_⟩
        · rcases h3 (by omega) with h | ⟨q, h, h'⟩
          · exact Or.inl h
          · exact Or.inr ⟨q, by omega, h'⟩
        · by_cases h10 : j = p
          · rw [h10] at hf
            exact absurd hfp hf
          · exact h4 (by omega)
      by_cases hw : w j = 0
      · rw [if_pos hw, if_neg (by omega), hfo j (by omega)]
        have hb1 := bit_kin _ hbl (fk j) (by omega)
        have go : ∀ y : Int32, (j + 1 ≤ p → y = -1 ∨ ∃ q, q < j + 1 ∧ y = ii q ∧ fk p < fk q) → (p < j + 1 → y = ii p) → bX5_leastInFront_L76 F (ii len) N fo W w S st (fX5_leastInFront_L7 F (ii len) N fo W w S st k) (ii (bm mk fk w j)) y (ii j) = some (ii p) := by
          intro y h7 h8
          unfold bX5_leastInFront_L76 bX5_leastInFront_L91
          simp (disch := omega) only [ii_nneg, ii_nat, false_or]
          rw [if_neg (by omega), hfo j (by omega)]
          simp (disch := omega) only [ii_nneg, ii_nat, false_or]
          rw [if_neg (by omega), (hx (fk j) hfj).1, (ii_or _ hbl _ (or_lt64 _ (hn.2.1 _ hfj).1 _ (by omega))).1]
          have e9 := ih (j + 1) y (by omega) (by omega) h7 h8
          rw [eb, if_pos hw] at e9
          rw [k_1, ii_add]
          exact e9
        by_cases hf : (bm mk fk w j).testBit (fk j) = false
        · rw [if_pos (by rw [hb1]; exact hf)]
          unfold bX5_leastInFront_L45 bX5_leastInFront_L73
          rw [if_neg (by decide)]
          have hfr : frX mk fk w j := ⟨hw, hf⟩
          have hnew : j ≤ p → (j + 1 ≤ p → ii j = -1 ∨ ∃ q, q < j + 1 ∧ ii j = ii q ∧ fk p < fk q) ∧ (p < j + 1 → ii j = ii p) := by
            intro hjp
            rcases hlp j (by omega) hfr with h | h
            · exact ⟨fun h7 => by omega, fun _ => by rw [h]⟩
            · exact ⟨fun _ => Or.inr ⟨j, by omega, rfl, h⟩, fun h8 => by
                have : j = p := by omega
                rw [this] at h
                omega⟩
          by_cases hxm : x = -1
          · rw [if_pos hxm]
            have hjp : j ≤ p := Nat.le_of_not_lt fun h => by
              have h5 := h4 h
              rw [hxm, kz_m1, ii_iz, iz_inj (by omega) (by omega) (by omega) (by omega)] at h5
              omega
            exact go _ (hnew hjp).1 (hnew hjp).2
          · rw [if_neg hxm]
            obtain ⟨q, hq, hxq⟩ : ∃ q, q < len ∧ x = ii q := by
              by_cases h : p < j
              · exact ⟨p, hp, h4 h⟩
              · rcases h3 (by omega) with h | ⟨q, h, h', _⟩
                · exact absurd h hxm
                · exact ⟨q, by omega, h'⟩
            have hqx : (p < j → q = p) := fun h => by
              have := h4 h
              rw [hxq, ii_inj (by omega) (by omega)] at this
              exact this
            have hfq := hfk q hq
            rw [hxq]
            simp (disch := omega) only [ii_nneg, ii_nat, false_or]
            rw [if_neg (by omega), if_neg (by omega), hfo q hq, hfo j (by omega), ← hxq]
            have e2 : (ii (fk q) ≤ ii (fk j)) = (fk q ≤ fk j) := ii_le (by omega) (by omega)
            by_cases hpj : p < j
            · have hqp := hqx hpj
              rw [if_pos (by
                rw [e2, hqp]
                rcases hlp j (by omega) hfr with h | h <;> omega)]
              exact go _ (fun h7 => by omega) (fun _ => h4 hpj)
            · by_cases hle : fk q ≤ fk j
              · rw [if_pos (by rw [e2]; exact hle)]
                have hjp : j ≠ p := by
                  intro hjp2
                  rcases h3 (by omega) with h | ⟨q', h, h', h''⟩
                  · exact absurd h hxm
                  · rw [hxq, ii_inj (by omega) (by omega)] at h'
                    rw [h', hjp2] at hle
                    omega
                refine go _ (fun h7 => ?_) (fun h8 => by omega)
                rcases h3 (by omega) with h | ⟨q, h, h'⟩
                · exact Or.inl h
                · exact Or.inr ⟨q, by omega, h'⟩
              · rw [if_neg (by rw [e2]; exact hle)]
                exact go _ (hnew (by omega)).1 (hnew (by omega)).2
        · rw [if_neg (by rw [hb1]; exact hf)]
          unfold bX5_leastInFront_L45
          rw [if_pos rfl]
          have hk := keep (fun h => hf h.2)
          exact go _ hk.1 hk.2
      · rw [if_neg hw]
        unfold bX5_leastInFront_L91
        have hk := keep (fun h => hw h.1)
        have e9 := ih (j + 1) x (by omega) (by omega) hk.1 hk.2
        rw [eb, if_neg hw] at e9
        rw [k_1, ii_add]
        exact e9
/-- the bundles not yet written -/
def uu (w : Nat → Int32) : Nat → List (Nat × Nat) → List (Nat × Nat)
  | _, [] => []
  | k, x :: P => if w k = 0 then x :: uu w (k + 1) P else uu w (k + 1) P
theorem uu_app (w : Nat → Int32) : ∀ (A B : List (Nat × Nat)) (k : Nat), uu w k (A ++ B) = uu w k A ++ uu w (k + A.length) B
  | [], B, k => rfl
  | x :: A, B, k => by
    show (if w k = 0 then x :: uu w (k + 1) (A ++ B) else uu w (k + 1) (A ++ B)) = (if w k = 0 then x :: uu w (k + 1) A else uu w (k + 1) A) ++ uu w (k + (A.length + 1)) B
    rw [uu_app w A B (k + 1), show k + 1 + A.length = k + (A.length + 1) by omega]
    split <;> rfl
theorem uu_congr {w w' : Nat → Int32} : ∀ (P : List (Nat × Nat)) (k : Nat), (∀ j, k ≤ j → j < k + P.length → w' j = w j) → uu w' k P = uu w k P
  | [], k, _ => rfl
  | x :: P, k, h => by
    show (if w' k = 0 then x :: uu w' (k + 1) P else uu w' (k + 1) P) = (if w k = 0 then x :: uu w (k + 1) P else uu w (k + 1) P)
    rw [h k (by omega) (by simp), uu_congr P (k + 1) (fun j h1 h2 => h j (by omega) (by simp only [List.length_cons]; omega))]
theorem uu_split {w : Nat → Int32} : ∀ {P A B : List (Nat × Nat)} {x : Nat × Nat} {k : Nat}, uu w k P = A ++ x :: B → ∃ P1 P2, P = P1 ++ x :: P2 ∧ w (k + P1.length) = 0 ∧ uu w k P1 = A ∧ uu w (k + P1.length + 1) P2 = B
  | [], A, B, x, k, h => by
    have h1 := congrArg List.length h
    simp [uu] at h1
  | y :: P, A, B, x, k, h => by
    have e : uu w k (y :: P) = if w k = 0 then y :: uu w (k + 1) P else uu w (k + 1) P := rfl
    rw [e] at h
    by_cases hw : w k = 0
    · rw [if_pos hw] at h
      cases A with
      | nil =>
        simp only [List.nil_append, List.cons.injEq] at h
        refine ⟨[], P, by rw [h.1]; rfl, hw, rfl, h.2⟩
      | cons z A =>
        simp only [List.cons_append, List.cons.injEq] at h
        obtain ⟨P1, P2, e1, e2, e3, e4⟩ := uu_split h.2
        refine ⟨y :: P1, P2, by rw [e1]; rfl, ?_, ?_, ?_⟩
        · rw [List.length_cons, show k + (P1.length + 1) = k + 1 + P1.length by omega]
          exact e2
        · show (if w k = 0 then y :: uu w (k + 1) P1 else uu w (k + 1) P1) = z :: A
          rw [if_pos hw, e3, h.1]
        · rw [List.length_cons, show k + (P1.length + 1) + 1 = k + 1 + P1.length + 1 by omega]
          exact e4
    · rw [if_neg hw] at h
      obtain ⟨P1, P2, e1, e2, e3, e4⟩ := uu_split h
      refine ⟨y :: P1, P2, by rw [e1]; rfl, ?_, ?_, ?_⟩
      · rw [List.length_cons, show k + (P1.length + 1) = k + 1 + P1.length by omega]
        exact e2
      · show (if w k = 0 then y :: uu w (k + 1) P1 else uu w (k + 1) P1) = A
        rw [if_neg hw, e3]
      · rw [List.length_cons, show k + (P1.length + 1) + 1 = k + 1 + P1.length + 1 by omega]
        exact e4
theorem uu_mem {w : Nat → Int32} : ∀ {P : List (Nat × Nat)} {k : Nat} {y : Nat × Nat}, (y ∈ uu w k P ↔ ∃ j, j < P.length ∧ w (k + j) = 0 ∧ P[j]? = some y)
  | [], k, y => by simp [uu]
  | x :: P, k, y => by
    have e : uu w k (x :: P) = if w k = 0 then x :: uu w (k + 1) P else uu w (k + 1) P := rfl
    rw [e]
    have ih := uu_mem (w := w) (P := P) (k := k + 1) (y := y)
    constructor
    · intro h
      have h2 : (w k = 0 ∧ y = x) ∨ y ∈ uu w (k + 1) P := by
        by_cases hw : w k = 0
        · rw [if_pos hw] at h
          rcases List.mem_cons.mp h with h | h
          · exact Or.inl ⟨hw, h⟩
          · exact Or.inr h
        · rw [if_neg hw] at h
          exact Or.inr h
      rcases h2 with ⟨h2, h3⟩ | h2
      · exact ⟨0, by simp, h2, by rw [h3]; rfl⟩
      · obtain ⟨j, h3, h4, h5⟩ := ih.mp h2
        refine ⟨j + 1, by simp only [List.length_cons]; omega, ?_, h5⟩
        rw [show k + (j + 1) = k + 1 + j by omega]
        exact h4
    · rintro ⟨j, h3, h4, h5⟩
      cases j with
      | zero =>
        rw [if_pos (show w k = 0 from h4)]
        have : x = y := Option.some.inj h5
        rw [this]
        exact List.mem_cons_self
      | succ j =>
        have h6 := ih.mpr ⟨j, by simp only [List.length_cons] at h3; omega, by rw [show k + 1 + j = k + (j + 1) by omega]; exact h4, h5⟩
        split
        · exact List.mem_cons_of_mem _ h6
        · exact h6
def fkV (V : List (Nat × Nat)) (k : Nat) : Nat := (V.getD k (0, 0)).1 / 2
theorem fkV_at {V P1 P2 : List (Nat × Nat)} {x : Nat × Nat} (h : V = P1 ++ x :: P2) : fkV V P1.length = x.1 / 2 := by
  unfold fkV
  rw [h, List.getD_eq_getElem?_getD, List.getElem?_append_right (Nat.le_refl _), Nat.sub_self]
  rfl
theorem fkV_in {V P1 P2 : List (Nat × Nat)} {y : Nat × Nat} (h : V = P1 ++ P2) {i : Nat} (h1 : P1[i]? = some y) (h2 : i < P1.length) : fkV V i = y.1 / 2 := by
  unfold fkV
  rw [h, List.getD_eq_getElem?_getD, List.getElem?_append_left h2, h1]
  rfl
theorem fkV_lt {n : Nat} {V : List (Nat × Nat)} (hV : ∀ x ∈ V, x.1 < 2 * n) {k : Nat} (hk : k < V.length) : fkV V k < n := by
  unfold fkV
  rw [List.getD_eq_getElem?_getD, List.getElem?_eq_getElem hk]
  have := hV _ (List.getElem_mem hk)
  show V[k].1 / 2 < n
  omega
theorem frX_fre {n : Nat} {mk rd : Nat → Nat} (hn : okN n mk rd) {w : Nat → Int32} {V P1 P2 : List (Nat × Nat)} {x : Nat × Nat} (h : V = P1 ++ x :: P2) (hV : ∀ x ∈ V, x.1 < 2 * n) (hw : w P1.length = 0) : frX mk (fkV V) w P1.length ↔ fre mk ((uu w 0 P1).map Prod.fst) x.1 := by
  have hx : x.1 < 2 * n := hV x (by rw [h]; simp)
  have hb := bm_bit (fk := fkV V) (w := w) hn (g := x.1 / 2) (by omega) (k := P1.length) (fun j hj => fkV_lt hV (by rw [h]; simp; omega))
  unfold frX
  rw [fkV_at h, hb]
  constructor
  · rintro ⟨-, h1⟩ y hy
    obtain ⟨z, hz, rfl⟩ := List.mem_map.mp hy
    obtain ⟨j, h2, h3, h4⟩ := uu_mem.mp hz
    rw [Nat.zero_add] at h3
    have h5 := h1 j h2 h3
    rw [fkV_in h h4 h2] at h5
    exact h5
  · intro h1
    refine ⟨hw, fun j hj hwj => ?_⟩
    have h4 : P1[j]? = some P1[j] := List.getElem?_eq_getElem hj
    rw [fkV_in h h4 hj]
    exact h1 _ (List.mem_map.mpr ⟨_, uu_mem.mpr ⟨j, hj, by rw [Nat.zero_add]; exact hwj, h4⟩, rfl⟩)
theorem find_X {n : Nat} {mk rd : Nat → Nat} (hn : okN n mk rd) {w : Nat → Int32} {V A B : List (Nat × Nat)} {t m : Nat} (hV : ∀ x ∈ V, x.1 < 2 * n) (hU : uu w 0 V = A ++ (t, m) :: B) (hb : bst mk (A.map Prod.fst) t (B.map Prod.fst)) :
    ∃ P1 P2, V = P1 ++ (t, m) :: P2 ∧ frX mk (fkV V) w P1.length ∧ (∀ j, j < V.length → frX mk (fkV V) w j → j = P1.length ∨ fkV V P1.length < fkV V j) ∧ uu (upd w P1.length 1) 0 V = A ++ B := by
  obtain ⟨P1, P2, e1, e2, e3, e4⟩ := uu_split hU
  rw [Nat.zero_add] at e2 e4
  have hfr : frX mk (fkV V) w P1.length := (frX_fre hn e1 hV e2).mpr (by rw [e3]; exact hb.1)
  have hp : P1.length < V.length := by rw [e1]; simp
  refine ⟨P1, P2, e1, hfr, fun j hj hfj => ?_, ?_⟩
  · have ej : V = V.take j ++ V[j] :: V.drop (j + 1) := by
      rw [← List.drop_eq_getElem_cons hj, List.take_append_drop]
    have hl : (V.take j).length = j := by rw [List.length_take]; omega
    have h1 : frX mk (fkV V) w (V.take j).length := by rw [hl]; exact hfj
    have hwj : w (V.take j).length = 0 := h1.1
    have h2 := (frX_fre hn ej hV hwj).mp h1
    have h3 : uu w 0 V = uu w 0 (V.take j) ++ V[j] :: uu w (j + 1) (V.drop (j + 1)) := by
      have h4 := uu_app w (V.take j) (V[j] :: V.drop (j + 1)) 0
      rw [← ej, Nat.zero_add, hl] at h4
      have h5 : uu w j (V[j] :: V.drop (j + 1)) = V[j] :: uu w (j + 1) (V.drop (j + 1)) := by
        show (if w j = 0 then _ else _) = _
        rw [if_pos hfj.1]
      rw [h4, h5]
    have h4 := congrArg (List.map Prod.fst) (hU.symm.trans h3)
    simp only [List.map_append, List.map_cons] at h4
    have h5 := hb.2 _ _ _ h4 h2
    have h6 : fkV V j = V[j].1 / 2 := by
      have := fkV_at ej
      rw [hl] at this
      exact this
    have h7 : fkV V P1.length = t / 2 := fkV_at e1
    by_cases hjp : j = P1.length
    · exact Or.inl hjp
    · right
      have h8 : fkV V P1.length ≠ fkV V j := by
        by_cases hlt : j < P1.length
        · have h9 := (bm_bit (fk := fkV V) (w := w) hn (g := fkV V P1.length) (fkV_lt hV hp) (k := P1.length) (fun i hi => fkV_lt hV (by omega))).mp hfr.2 j hlt hfj.1
          exact fun h => h9.1 h.symm
        · have h9 := (bm_bit (fk := fkV V) (w := w) hn (g := fkV V j) (fkV_lt hV hj) (k := j) (fun i hi => fkV_lt hV (by omega))).mp hfj.2 P1.length (by omega) hfr.1
          exact h9.1
      omega
  · rw [e1, uu_app, Nat.zero_add]
    have h5 : uu (upd w P1.length 1) P1.length ((t, m) :: P2) = uu (upd w P1.length 1) (P1.length + 1) P2 := by
      show (if upd w P1.length 1 P1.length = 0 then _ else _) = _
      rw [upd_same, if_neg (by decide)]
    rw [h5, uu_congr P1 0 (w := w) (fun j h1 h2 => upd_ne _ _ (by omega)), uu_congr P2 (P1.length + 1) (w := w) (fun j h1 h2 => upd_ne _ _ (by omega)), e3, e4]
theorem tiesIn_eq {F n N N2 R len k : Nat} {mk rd : Nat → Nat} {st ro : Nat → Int32} (hn : okN n mk rd) (hx : netX n mk rd st ro) (hR : n ≤ R) {fo co : Nat → Int32} {x : Nat × Int} (hk : k < len) (hN : len ≤ N) (hN2 : len ≤ N2) (hb : len < 1000000) (hfo : fo k = ii x.1) (hco : co k = iz x.2) (h1 : x.1 < n) (h2 : -100 ≤ x.2) (h3 : x.2 ≤ 100) : fX5_tiesIn F (ii len) N fo N2 co R ro (ii k) = some (iz (tv (rd x.1) x.2)) := by
  have hrd := (hn.2.1 x.1 h1).2.1
  have h6 := hn.1
  unfold fX5_tiesIn bX5_tiesIn_L53 bX5_tiesIn_L55
  simp (disch := omega) only [ii_nneg, ii_nat, ii_lt, false_or, if_false]
  rw [if_pos hk, if_neg (by omega), hfo, hco]
  simp (disch := omega) only [ii_nneg, ii_nat, false_or]
  rw [if_neg (by omega), if_neg (by omega), (hx x.1 h1).2]
  have e4 : (ii (rd x.1) ≤ 0) = (rd x.1 ≤ 0) := ii_le (b := 0) (by omega) (by omega)
  have e5 : ((2 : Int32) * iz x.2 ≤ ii (rd x.1)) = (2 * x.2 ≤ (rd x.1 : Int)) := by
    rw [show (2 : Int32) = iz 2 from rfl, iz_mul, ii_iz, iz_le (by omega) (by omega) (by omega) (by omega)]
  unfold tv
  by_cases h10 : rd x.1 = 0
  · rw [if_pos (by rw [e4]; omega), if_pos h10]
  · rw [if_neg (by rw [e4]; omega), if_neg h10]
    by_cases h11 : 2 * x.2 ≤ (rd x.1 : Int)
    · rw [if_pos (by rw [e5]; exact h11), if_pos h11]
    · rw [if_neg (by rw [e5]; exact h11), if_neg h11, ii_iz (rd x.1), iz_sub]
theorem bundle_L {F M N N2 R : Nat} {sz : Int32} {fo co ro : Nat → Int32} {t : Int32} (hM : M < 1000000) : ∀ (k r s : Nat) (a : Nat → Int32), r < k → s + r ≤ M → fX5_writeBundle_L36 F sz N fo N2 co R ro M k t (ii r) (ii s) a = some (ii (s + r), rpA a s r t) := by
  intro k
  induction k with
  | zero => intro r s a h; omega
  | succ k ih =>
    intro r s a h1 h2
    rw [sX5_writeBundle_L36]
    unfold bX5_writeBundle_L36
    simp (disch := omega) only [k_0, ii_le]
    by_cases h : r ≤ 0
    · rw [if_pos h, show r = 0 by omega, rpA_0]
      rfl
    · rw [if_neg h, row_add (by omega) hM]
      simp only [Option.bind_some]
      rw [ii_m1 (by omega), ih (r - 1) (s + 1) _ (by omega) (by omega), rpA_s, show s + 1 + (r - 1) = s + r by omega, show r - 1 + 1 = r by omega]
theorem bundle_eq {F n M N N2 R len k s : Nat} {mk rd : Nat → Nat} {st ro : Nat → Int32} (hn : okN n mk rd) (hx : netX n mk rd st ro) (hR : n ≤ R) {fo co : Nat → Int32} {x : Nat × Int} (hk : k < len) (hN : len ≤ N) (hN2 : len ≤ N2) (hb : len < 1000000) (hM : M < 1000000) (hMF : M < F) (hfo : fo k = ii x.1) (hco : co k = iz x.2) (h1 : x.1 < n) (h2 : -100 ≤ x.2) (h3 : x.2 ≤ 100) (h4 : tv (rd x.1) x.2 ≠ 0) {a : Nat → Int32} (hs : s + bn rd x ≤ M) : fX5_writeBundle F (ii len) N fo N2 co R ro M (ii k) (ii s) a = some (ii (s + bn rd x), rpA a s (bn rd x) (ii (bt rd x))) := by
  have hrd := (hn.2.1 x.1 h1).2.1
  have htv := tv_bound hrd h2 h3
  unfold fX5_writeBundle bX5_writeBundle_L26
  rw [tiesIn_eq hn hx hR hk hN hN2 hb hfo hco h1 h2 h3]
  simp (disch := omega) only [ii_nneg, ii_nat, false_or, Option.bind_some]
  have e0 : ((0 : Int32) ≤ iz (tv (rd x.1) x.2)) = (0 ≤ tv (rd x.1) x.2) := iz_le (a := 0) (b := tv (rd x.1) x.2) (by omega) (by omega) (by omega) (by omega)
  rw [if_neg (by omega), hfo]
  by_cases h : 0 ≤ tv (rd x.1) x.2
  · rw [if_pos (by rw [e0]; exact h), if_pos (by rw [e0]; exact h)]
    have e2 : bt rd x = 2 * x.1 := by unfold bt; rw [if_pos (by omega)]
    have e3 : iz (tv (rd x.1) x.2) = ii (bn rd x) := by
      rw [ii_iz]
      unfold bn
      congr 1
      omega
    have e5 : (2 : Int32) * ii x.1 + (0 : Int32) = ii (2 * x.1) := by rw [k_2, ii_mul, k_0, ii_add]; rfl
    rw [e3, e5, e2]
    exact bundle_L hM F (bn rd x) s a (by omega) hs
  · rw [if_neg (by rw [e0]; exact h), if_neg (by rw [e0]; exact h)]
    have e2 : bt rd x = 2 * x.1 + 1 := by unfold bt; rw [if_neg (by omega)]
    have e3 : (0 : Int32) - iz (tv (rd x.1) x.2) = ii (bn rd x) := by
      rw [show (0 : Int32) = iz 0 from rfl, iz_sub, ii_iz]
      unfold bn
      congr 1
      omega
    have e5 : (2 : Int32) * ii x.1 + (1 : Int32) = ii (2 * x.1 + 1) := by rw [k_2, ii_mul, k_1, ii_add]
    rw [e3, e5, e2]
    exact bundle_L hM F (bn rd x) s a (by omega) hs
