/-! PURE: the class turns a pile -/
theorem tv_add {m : Nat} (hm : m = 0 ∨ m = 2 ∨ m = 3 ∨ m = 4) {c d : Int} (hc : nrm m c = c) (hd : nrm m d = d) : (tv m (nrm m (d + c))).natAbs ≤ (tv m d).natAbs + (tv m c).natAbs := by
  rcases hm with rfl | rfl | rfl | rfl
  · rw [nrm0, tvm0, tvm0, tvm0]; omega
  · rw [nrm2] at hc hd
    rw [nrm2, tvm2, tvm2, tvm2]
    split <;> split <;> split <;> omega
  · rw [nrm3] at hc hd
    rw [nrm3, tvm3, tvm3, tvm3]
    split <;> split <;> split <;> omega
  · rw [nrm4] at hc hd
    rw [nrm4, tvm4, tvm4, tvm4]
    split <;> split <;> split <;> omega
theorem tt_ap2 (rd : Nat → Nat) : ∀ A B : List (Nat × Int), tt rd (A ++ B) = tt rd A + tt rd B
  | [], B => (Nat.zero_add _).symm
  | x :: A, B => by
    show bn rd x + tt rd (A ++ B) = bn rd x + tt rd A + tt rd B
    rw [tt_ap2 rd A B]
    omega
theorem tt_rev (rd : Nat → Nat) : ∀ A : List (Nat × Int), tt rd A.reverse = tt rd A
  | [] => rfl
  | x :: A => by
    rw [List.reverse_cons, tt_ap2, tt_rev rd A]
    show tt rd A + (bn rd x + 0) = bn rd x + tt rd A
    omega
theorem tt_psb {mk rd : Nat → Nat} (hr : okR rd) {Q : List (Nat × Int)} (hC : okC rd Q) {x : Nat × Int} (hx : nrm (rd x.1) x.2 = x.2) : tt rd (ps mk rd x.1 x.2 Q) ≤ tt rd Q + bn rd x := by
  unfold ps
  cases hj : jn mk rd x.1 x.2 Q with
  | none =>
    show bn rd (x.1, nrm (rd x.1) x.2) + tt rd Q ≤ _
    rw [hx]
    show bn rd x + tt rd Q ≤ _
    omega
  | some P =>
    obtain ⟨A, d, R, e1, _, e3⟩ := jn_split hj
    show tt rd P ≤ _
    have hd : nrm (rd x.1) d = d := (hC (x.1, d) (by rw [e1]; simp)).1
    have h1 := tv_add (hr x.1) hx hd
    rw [e3, e1, tt_ap2, tt_ap2]
    have e4 : tt rd ((x.1, d) :: R) = (tv (rd x.1) d).natAbs + tt rd R := rfl
    have e5 : bn rd x = (tv (rd x.1) x.2).natAbs := rfl
    rw [e4, e5]
    split
    · omega
    · have e6 : tt rd ((x.1, nrm (rd x.1) (d + x.2)) :: R) = (tv (rd x.1) (nrm (rd x.1) (d + x.2))).natAbs + tt rd R := rfl
      rw [e6]
      omega
theorem ps_fo {mk rd : Nat → Nat} {n f : Nat} {c : Int} (hf : f < n) {Q : List (Nat × Int)} (h : ∀ y ∈ Q, y.1 < n) : ∀ y ∈ ps mk rd f c Q, y.1 < n := by
  unfold ps
  cases hj : jn mk rd f c Q with
  | none =>
    intro y hy
    rcases List.mem_cons.mp hy with rfl | hy
    · exact hf
    · exact h y hy
  | some P =>
    obtain ⟨A, d, R, e1, _, e3⟩ := jn_split hj
    intro y hy
    have hy2 : y ∈ P := hy
    rw [e3, List.mem_append] at hy2
    rcases hy2 with h2 | h2
    · exact h y (by rw [e1]; exact List.mem_append_left _ h2)
    · split at h2
      · exact h y (by rw [e1]; exact List.mem_append_right _ (List.mem_cons_of_mem _ h2))
      · rcases List.mem_cons.mp h2 with rfl | h2
        · exact hf
        · exact h y (by rw [e1]; exact List.mem_append_right _ (List.mem_cons_of_mem _ h2))
/-- a small pile -/
def PK (n : Nat) (rd : Nat → Nat) (Q : List (Nat × Int)) : Prop := (∀ x ∈ Q, x.1 < n) ∧ okC rd Q ∧ tt rd Q ≤ 24
theorem bn_pos {rd : Nat → Nat} (hr : okR rd) {Q : List (Nat × Int)} (hC : okC rd Q) {x : Nat × Int} (hx : x ∈ Q) : 1 ≤ bn rd x := by
  have := tv_ne (hr x.1) (hC x hx).1 (hC x hx).2
  unfold bn
  omega
theorem len_tt {rd : Nat → Nat} (hr : okR rd) : ∀ {Q : List (Nat × Int)}, okC rd Q → Q.length ≤ tt rd Q
  | [], _ => Nat.le_refl _
  | x :: Q, h => by
    have h1 := bn_pos hr h (List.mem_cons_self ..)
    have h2 := len_tt hr (Q := Q) (fun y hy => h y (List.mem_cons_of_mem _ hy))
    show Q.length + 1 ≤ bn rd x + tt rd Q
    omega
theorem bn_le_tt {rd : Nat → Nat} : ∀ {Q : List (Nat × Int)} {x : Nat × Int}, x ∈ Q → bn rd x ≤ tt rd Q
  | y :: Q, x, h => by
    show _ ≤ bn rd y + tt rd Q
    rcases List.mem_cons.mp h with rfl | h
    · omega
    · have := bn_le_tt (rd := rd) h
      omega
theorem PK_okP {n : Nat} {rd : Nat → Nat} (hr : okR rd) {Q : List (Nat × Int)} (h : PK n rd Q) : okP n 100 Q := by
  intro x hx
  have h1 := bn_le_tt (rd := rd) hx
  have h2 := (h.2.1 x hx).1
  have h3 := h.2.2
  have e : bn rd x = (tv (rd x.1) x.2).natAbs := rfl
  refine ⟨h.1 x hx, ?_⟩
  rcases hr x.1 with hm | hm | hm | hm
  · rw [hm, tvm0] at e; omega
  · rw [hm, nrm2] at h2; omega
  · rw [hm, nrm3] at h2; omega
  · rw [hm, nrm4] at h2; omega
theorem PK_ps {n : Nat} {mk rd : Nat → Nat} (hr : okR rd) {Q : List (Nat × Int)} (h : PK n rd Q) {x : Nat × Int} (hx : x.1 < n ∧ nrm (rd x.1) x.2 = x.2 ∧ x.2 ≠ 0) (ht : tt rd Q + bn rd x ≤ 24) : PK n rd (ps mk rd x.1 x.2 Q) :=
  ⟨ps_fo hx.1 h.1, ps_okC (by rw [hx.2.1]; exact hx.2.2) h.2.1, Nat.le_trans (tt_psb hr h.2.1 hx.2.1) ht⟩
theorem push_pk {F n : Nat} {mk rd : Nat → Nat} {st ro : Nat → Int32} (hn : okN n mk rd) (hr : okR rd) (hx : netX n mk rd st ro) (hF : 1000 ≤ F) {Q : List (Nat × Int)} (h : PK n rd Q) {x : Nat × Int} (hx2 : x.1 < n ∧ nrm (rd x.1) x.2 = x.2 ∧ x.2 ≠ 0) (ht : tt rd Q + bn rd x ≤ 24) {fo co : Nat → Int32} (hp : rP fo co Q) : ∃ fo' co', fX5_push F 24 24 (ii n) 6 st 6 ro (ii x.1) (iz x.2) (ii Q.length) fo co = some (ii (ps mk rd x.1 x.2 Q).length, fo', co') ∧ rP fo' co' (ps mk rd x.1 x.2 Q) := by
  have h1 : okP n 100 [x] := PK_okP hr ⟨fun y hy => by rw [List.mem_singleton.mp hy]; exact hx2.1, fun y hy => by rw [List.mem_singleton.mp hy]; exact hx2.2, by show bn rd x + 0 ≤ 24; omega⟩
  have h2 := (h1 x (List.mem_cons_self ..)).2
  have h3 : 1 ≤ bn rd x := by
    have := tv_ne (hr x.1) hx2.2.1 hx2.2.2
    unfold bn
    omega
  have h4 := len_tt hr h.2.1
  obtain ⟨fo', co', e, _, e2⟩ := push_eq (F := F) (N := 24) hn hx (by omega) (by omega) hx2.1 h2 (by rw [hx2.2.1]; exact hx2.2.2) (PK_okP hr h) (by omega) hp
  exact ⟨fo', co', e, e2⟩
/-- those whose place is marked (or not) -/
def tkI (T : Nat) (b : Bool) : Nat → List (Nat × Int) → List (Nat × Int)
  | _, [] => []
  | k, x :: w => if T.testBit k = b then x :: tkI T b (k + 1) w else tkI T b (k + 1) w
theorem tkI_t {T k : Nat} {b : Bool} {x : Nat × Int} {w : List (Nat × Int)} (h : T.testBit k = b) : tkI T b k (x :: w) = x :: tkI T b (k + 1) w := if_pos h
theorem tkI_f {T k : Nat} {b : Bool} {x : Nat × Int} {w : List (Nat × Int)} (h : T.testBit k ≠ b) : tkI T b k (x :: w) = tkI T b (k + 1) w := if_neg h
theorem tkI_tt (rd : Nat → Nat) {T : Nat} : ∀ {w : List (Nat × Int)} {k : Nat}, tt rd (tkI T false k w) + tt rd (tkI T true k w) = tt rd w
  | [], _ => rfl
  | x :: w, k => by
    have ih := tkI_tt rd (T := T) (w := w) (k := k + 1)
    cases h : T.testBit k
    · rw [tkI_t h, tkI_f (by rw [h]; decide)]
      show bn rd x + tt rd (tkI T false (k + 1) w) + _ = bn rd x + tt rd w
      omega
    · rw [tkI_f (by rw [h]; decide), tkI_t h]
      show _ + (bn rd x + tt rd (tkI T true (k + 1) w)) = bn rd x + tt rd w
      omega
theorem tkI_mem {T : Nat} {b : Bool} : ∀ {w : List (Nat × Int)} {k : Nat} {x : Nat × Int}, x ∈ tkI T b k w → x ∈ w
  | y :: w, k, x, h => by
    by_cases hb : T.testBit k = b
    · rw [tkI_t hb] at h
      rcases List.mem_cons.mp h with rfl | h
      · exact List.mem_cons_self ..
      · exact List.mem_cons_of_mem _ (tkI_mem h)
    · rw [tkI_f hb] at h
      exact List.mem_cons_of_mem _ (tkI_mem h)
theorem rP_at {fo co : Nat → Int32} {A B : List (Nat × Int)} {x : Nat × Int} (h : rP fo co (A ++ x :: B).reverse) : fo A.length = ii x.1 ∧ co A.length = iz x.2 := by
  rw [List.reverse_append, List.reverse_cons, List.append_assoc] at h
  have h2 := rP_tail (A := B.reverse) h
  have h3 : fo A.reverse.length = ii x.1 ∧ co A.reverse.length = iz x.2 := h2.1
  rw [List.length_reverse] at h3
  exact h3
theorem PK_rev {n : Nat} {rd : Nat → Nat} {w : List (Nat × Int)} (h : PK n rd w.reverse) {x : Nat × Int} (hx : x ∈ w) : x.1 < n ∧ nrm (rd x.1) x.2 = x.2 ∧ x.2 ≠ 0 := ⟨h.1 x (List.mem_reverse.mpr hx), h.2.1 x (List.mem_reverse.mpr hx)⟩
theorem turn_L59 {F n : Nat} {mk rd : Nat → Nat} {st ro : Nat → Int32} (hn : okN n mk rd) (hr : okR rd) (hx : netX n mk rd st ro) (hF : 1000 ≤ F) {w : List (Nat × Int)} (hw : PK n rd w.reverse) {fo co : Nat → Int32} (hp : rP fo co w.reverse) {T : Nat} (hT : T < 2 ^ 31) :
    ∀ (t : Nat) (A B Q : List (Nat × Int)) (f2 c2 : Nat → Int32), w = A ++ B → B.length < t → PK n rd Q → tt rd Q + tt rd (tkI T true A.length B) ≤ 24 → rP f2 c2 Q →
      ∃ f3 c3, fX6_turn_L59 F 24 24 (ii n) 6 st 6 ro (ii w.length) 24 fo 24 co t (ii T) (ii A.length) (ii Q.length) f2 c2 = some (ii (pW mk rd Q (tkI T true A.length B)).length, f3, c3) ∧ rP f3 c3 (pW mk rd Q (tkI T true A.length B)) := by
  have hl := len_tt hr hw.2.1
  have h24 := hw.2.2
  rw [List.length_reverse] at hl
  intro t
  induction t with
  | zero => intro A B Q f2 c2 _ h; omega
  | succ t ih =>
    intro A B Q f2 c2 e hB hQ ht hq
    rw [sX6_turn_L59]
    unfold bX6_turn_L59
    cases B with
    | nil =>
      rw [List.append_nil] at e
      rw [if_pos (by rw [e]; exact Int32.le_refl _)]
      exact ⟨f2, c2, rfl, hq⟩
    | cons x B =>
      have el : A.length + 1 + B.length = w.length := by rw [e, List.length_append, List.length_cons]; omega
      rw [if_neg (by rw [ii_le (by omega) (by omega)]; omega)]
      have e2 : w = (A ++ [x]) ++ B := by rw [e]; simp
      have el2 : (A ++ [x]).length = A.length + 1 := by simp
      have hat := rP_at (e ▸ hp)
      cases hb : T.testBit A.length
      · rw [if_pos (by rw [iBit0 hT (by omega)]; exact hb)]
        unfold bX6_turn_L99
        rw [tkI_f (by rw [hb]; decide)] at ht ⊢
        have := ih (A ++ [x]) B Q f2 c2 e2 (by rw [List.length_cons] at hB; omega) hQ (by rw [el2]; exact ht) hq
        rw [el2] at this
        rw [e1k]
        exact this
      · rw [if_neg (by rw [iBit0 hT (by omega), hb]; decide), if_neg (nidx (by omega) (by omega)), if_neg (nidx (by omega) (by omega)), ii_nat (by omega), hat.1, hat.2]
        rw [tkI_t hb] at ht ⊢
        have ht2 : tt rd Q + (bn rd x + tt rd (tkI T true (A.length + 1) B)) ≤ 24 := ht
        have hxx := PK_rev hw (x := x) (by rw [e]; simp)
        obtain ⟨f3, c3, e3, e4⟩ := push_pk hn hr hx hF hQ hxx (by omega) hq
        rw [e3, Option.bind_some]
        unfold bX6_turn_L99
        have htp := tt_psb (mk := mk) hr hQ.2.1 hxx.2.1
        have := ih (A ++ [x]) B (ps mk rd x.1 x.2 Q) f3 c3 e2 (by rw [List.length_cons] at hB; omega) (PK_ps hr hQ hxx (by omega)) (by rw [el2]; omega) e4
        rw [el2] at this
        rw [e1k]
        exact this
theorem turn_L10 {F n : Nat} {mk rd : Nat → Nat} {st ro : Nat → Int32} (hn : okN n mk rd) (hr : okR rd) (hx : netX n mk rd st ro) (hF : 1000 ≤ F) {w : List (Nat × Int)} (hw : PK n rd w.reverse) {fo co : Nat → Int32} (hp : rP fo co w.reverse) {T : Nat} (hT : T < 2 ^ 31) :
    ∀ (t : Nat) (A B Q : List (Nat × Int)) (f2 c2 : Nat → Int32), w = A ++ B → B.length < t → PK n rd Q → tt rd Q + tt rd (tkI T false A.length B) + tt rd (tkI T true 0 w) ≤ 24 → rP f2 c2 Q →
      ∃ f3 c3, fX6_turn_L10 F 24 24 (ii n) 6 st 6 ro (ii w.length) 24 fo 24 co t (ii T) (ii A.length) (ii Q.length) f2 c2 = some (ii (pW mk rd (pW mk rd Q (tkI T false A.length B)) (tkI T true 0 w)).length, f3, c3) ∧ rP f3 c3 (pW mk rd (pW mk rd Q (tkI T false A.length B)) (tkI T true 0 w)) := by
  have hl := len_tt hr hw.2.1
  have h24 := hw.2.2
  rw [List.length_reverse] at hl
  intro t
  induction t with
  | zero => intro A B Q f2 c2 _ h; omega
  | succ t ih =>
    intro A B Q f2 c2 e hB hQ ht hq
    rw [sX6_turn_L10]
    unfold bX6_turn_L10
    cases B with
    | nil =>
      rw [List.append_nil] at e
      rw [if_pos (by rw [e]; exact Int32.le_refl _)]
      have ht2 : tt rd Q + 0 + tt rd (tkI T true 0 w) ≤ 24 := ht
      exact turn_L59 hn hr hx hF hw hp hT F [] w Q f2 c2 rfl (by omega) hQ (by show tt rd Q + tt rd (tkI T true 0 w) ≤ 24; omega) hq
    | cons x B =>
      have el : A.length + 1 + B.length = w.length := by rw [e, List.length_append, List.length_cons]; omega
      rw [if_neg (by rw [ii_le (by omega) (by omega)]; omega)]
      have e2 : w = (A ++ [x]) ++ B := by rw [e]; simp
      have el2 : (A ++ [x]).length = A.length + 1 := by simp
      have hat := rP_at (e ▸ hp)
      cases hb : T.testBit A.length
      · rw [if_pos (by rw [iBit0 hT (by omega)]; exact hb), if_neg (nidx (by omega) (by omega)), if_neg (nidx (by omega) (by omega)), ii_nat (by omega), hat.1, hat.2]
        rw [tkI_t hb] at ht ⊢
        have ht2 : tt rd Q + (bn rd x + tt rd (tkI T false (A.length + 1) B)) + tt rd (tkI T true 0 w) ≤ 24 := ht
        have hxx := PK_rev hw (x := x) (by rw [e]; simp)
        obtain ⟨f3, c3, e3, e4⟩ := push_pk hn hr hx hF hQ hxx (by omega) hq
        rw [e3, Option.bind_some]
        unfold bX6_turn_L50
        have htp := tt_psb (mk := mk) hr hQ.2.1 hxx.2.1
        have := ih (A ++ [x]) B (ps mk rd x.1 x.2 Q) f3 c3 e2 (by rw [List.length_cons] at hB; omega) (PK_ps hr hQ hxx (by omega)) (by rw [el2]; omega) e4
        rw [el2] at this
        rw [e1k]
        exact this
      · rw [if_neg (by rw [iBit0 hT (by omega), hb]; decide)]
        unfold bX6_turn_L50
        rw [tkI_f (by rw [hb]; decide)] at ht ⊢
        have := ih (A ++ [x]) B Q f2 c2 e2 (by rw [List.length_cons] at hB; omega) hQ (by rw [el2]; exact ht) hq
        rw [el2] at this
        rw [e1k]
        exact this
theorem PK_nil (n : Nat) (rd : Nat → Nat) : PK n rd [] := ⟨fun x hx => (by cases hx), fun x hx => (by cases hx), Nat.zero_le _⟩
theorem turn_X {F n : Nat} {mk rd : Nat → Nat} {st ro : Nat → Int32} (hn : okN n mk rd) (hr : okR rd) (hx : netX n mk rd st ro) (hF : 1000 ≤ F) {w : List (Nat × Int)} (hw : PK n rd w.reverse) {fo co : Nat → Int32} (hp : rP fo co w.reverse) {T : Nat} (hT : T < 2 ^ 31) (z : Int32) (f2 c2 : Nat → Int32) :
    ∃ f3 c3, fX6_turn F 24 24 (ii n) 6 st 6 ro (ii w.length) 24 fo 24 co (ii T) z f2 c2 = some (ii (pW mk rd [] (tkI T false 0 w ++ tkI T true 0 w)).length, f3, c3) ∧ rP f3 c3 (pW mk rd [] (tkI T false 0 w ++ tkI T true 0 w)) := by
  have hl := len_tt hr hw.2.1
  have h24 := hw.2.2
  rw [List.length_reverse] at hl
  unfold fX6_turn fX5_clear
  rw [Option.bind_some, pW_app]
  have htt := tkI_tt rd (T := T) (w := w) (k := 0)
  rw [tt_rev] at h24
  rw [tt_rev] at hl
  exact turn_L10 hn hr hx hF hw hp hT F [] w [] f2 c2 rfl (by omega) (PK_nil n rd) (by show 0 + tt rd (tkI T false 0 w) + tt rd (tkI T true 0 w) ≤ 24; omega) trivial
theorem PK_pW {n : Nat} {mk rd : Nat → Nat} (hr : okR rd) : ∀ {W Q : List (Nat × Int)}, PK n rd Q → (∀ x ∈ W, x.1 < n ∧ nrm (rd x.1) x.2 = x.2 ∧ x.2 ≠ 0) → tt rd Q + tt rd W ≤ 24 → PK n rd (pW mk rd Q W)
  | [], _, h, _, _ => h
  | x :: W, Q, h, hw, ht => by
    have hx := hw x (List.mem_cons_self ..)
    have ht2 : tt rd Q + (bn rd x + tt rd W) ≤ 24 := ht
    have h1 := tt_psb (mk := mk) hr h.2.1 hx.2.1
    have h5 : tt rd (ps mk rd x.1 x.2 Q) + tt rd W ≤ 24 := by omega
    exact PK_pW hr (W := W) (PK_ps hr h hx (by omega)) (fun y hy => hw y (List.mem_cons_of_mem _ hy)) h5
