/-! PURE: the class tightens a ring -/
theorem tk_out {b : Bool} {T : Nat} : ∀ {w : List (Nat × Int)} {k : Nat}, (∀ i, k ≤ i → i < k + w.length → T.testBit i = b) → tkI T b k w = w ∧ tkI T (!b) k w = []
  | [], _, _ => ⟨rfl, rfl⟩
  | x :: w, k, h => by
    have h0 := h k (Nat.le_refl _) (by rw [List.length_cons]; omega)
    have ih := tk_out (b := b) (T := T) (w := w) (k := k + 1) (fun i h1 h2 => h i (by omega) (by rw [List.length_cons]; omega))
    rw [tkI_t h0, tkI_f (b := !b) (by rw [h0]; cases b <;> decide), ih.1, ih.2]
    exact ⟨rfl, rfl⟩
theorem tk_app {b : Bool} {T : Nat} : ∀ {A B : List (Nat × Int)} {k : Nat}, tkI T b k (A ++ B) = tkI T b k A ++ tkI T b (k + A.length) B
  | [], _, _ => rfl
  | x :: A, B, k => by
    have ih := tk_app (b := b) (T := T) (A := A) (B := B) (k := k + 1)
    rw [List.cons_append, List.length_cons, show k + (A.length + 1) = k + 1 + A.length by omega]
    by_cases h : T.testBit k = b
    · rw [tkI_t h, tkI_t h, ih]; rfl
    · rw [tkI_f h, tkI_f h, ih]
theorem tk_one {A B : List (Nat × Int)} {x : Nat × Int} : tkI (2 ^ A.length) true 0 (A ++ x :: B) = [x] ∧ tkI (2 ^ A.length) false 0 (A ++ x :: B) = A ++ B := by
  have hA := tk_out (b := false) (T := 2 ^ A.length) (w := A) (k := 0) (fun i _ h2 => by rw [Nat.testBit_two_pow]; exact decide_eq_false (by omega))
  have hB := tk_out (b := false) (T := 2 ^ A.length) (w := B) (k := A.length + 1) (fun i h1 _ => by rw [Nat.testBit_two_pow]; exact decide_eq_false (by omega))
  have hx : (2 ^ A.length).testBit A.length = true := by rw [Nat.testBit_two_pow]; exact decide_eq_true rfl
  have ha2 : tkI (2 ^ A.length) true 0 A = [] := hA.2
  have hb2 : tkI (2 ^ A.length) true (A.length + 1) B = [] := hB.2
  rw [tk_app, tk_app, Nat.zero_add, tkI_t hx, tkI_f (by rw [hx]; decide), hA.1, hB.1, ha2, hb2]
  exact ⟨rfl, rfl⟩
theorem JO_len {mk rd : Nat → Nat} {f : Nat} {c : Int} {Q : List (Nat × Int)} (h : JO mk f Q) : (ps mk rd f c Q).length ≤ Q.length := by
  unfold ps
  cases hj : jn mk rd f c Q with
  | none => exact absurd h (JO_none hj)
  | some P => exact jn_len hj
/-- one bundle taken to the end -/
theorem out_one {mk rd : Nat → Nat} (hs : symK mk) {A B : List (Nat × Int)} {x : Nat × Int} (hR : Red mk (A ++ x :: B).reverse) (hC : okC rd (A ++ x :: B).reverse) (hc : ∀ b ∈ A, cm mk b.1 x.1) : EQ mk (A ++ x :: B).reverse ((A ++ B).reverse ++ [x]) ∧ Red mk (A ++ B).reverse ∧ okC rd (A ++ B).reverse ∧ pW mk rd [] ((A ++ B) ++ [x]) = ps mk rd x.1 x.2 (A ++ B).reverse := by
  have e1 : EQ mk (A ++ x :: B).reverse ((A ++ B).reverse ++ [x]) := by
    rw [List.reverse_append, List.reverse_cons, List.reverse_append, List.append_assoc]
    exact EQ_mid2 hs (fun b hb => cm_sym hs (hc b (List.mem_reverse.mp hb)))
  have e2 := Red_init (EQ_red hs hR e1)
  have e3 : okC rd (A ++ B).reverse := fun y hy => EQ_okC e1 hC y (List.mem_append_left _ hy)
  refine ⟨e1, e2, e3, ?_⟩
  have := pW_self e2 e3
  rw [List.reverse_reverse] at this
  rw [pW_app, this]
  rfl
theorem tighten1_L {F n : Nat} {mk rd : Nat → Nat} {st ro : Nat → Int32} (hn : okN n mk rd) (hr : okR rd) (hx : netX n mk rd st ro) (hF : 1000 ≤ F) {w : List (Nat × Int)} (hR : Red mk w.reverse) (hP : PK n rd w.reverse) {fo co : Nat → Int32} (hp : rP fo co w.reverse) :
    ∀ (t : Nat) (A B : List (Nat × Int)) (S : Nat) (z : Int32) (tf tc : Nat → Int32), w = A ++ B → B.length < t → S < 64 → (∀ a, S.testBit a = true ↔ ∃ b ∈ A, dpp mk b.1 a) →
      ∃ (z' : Int32) (tf' tc' : Nat → Int32), (∃ (w' : List (Nat × Int)) (fo' co' : Nat → Int32), fX6_tightenOnce_L5 F 24 24 (ii n) 6 st 6 ro 24 24 t (ii S) (ii A.length) z tf tc (ii w.length) fo co = some (1, z', tf', tc', ii w'.length, fo', co') ∧ w'.length < w.length ∧ TS mk rd w.reverse w'.reverse ∧ Red mk w'.reverse ∧ PK n rd w'.reverse ∧ rP fo' co' w'.reverse) ∨ (fX6_tightenOnce_L5 F 24 24 (ii n) 6 st 6 ro 24 24 t (ii S) (ii A.length) z tf tc (ii w.length) fo co = some (0, z', tf', tc', ii w.length, fo, co) ∧ ∀ (C : List (Nat × Int)) (x : Nat × Int) (D : List (Nat × Int)), w = C ++ x :: D → A.length ≤ C.length → (∀ b ∈ C, cm mk b.1 x.1) → w.length ≤ (ps mk rd x.1 x.2 (C ++ D).reverse).length) := by
  have h6 := hn.1
  have hl := len_tt hr hP.2.1
  have h24 := hP.2.2
  rw [List.length_reverse] at hl
  intro t
  induction t with
  | zero => intro A B S z tf tc _ h; omega
  | succ t ih =>
    intro A B S z tf tc e hB hS hSb
    rw [sX6_tightenOnce_L5]
    unfold bX6_tightenOnce_L5
    cases B with
    | nil =>
      rw [List.append_nil] at e
      rw [if_pos (by rw [e]; exact Int32.le_refl _)]
      refine ⟨z, tf, tc, Or.inr ⟨rfl, ?_⟩⟩
      intro C x D e1 e2 _
      rw [e] at e1
      have := congrArg List.length e1
      rw [List.length_append, List.length_cons] at this
      omega
    | cons x B =>
      have el : A.length + 1 + B.length = w.length := by rw [e, List.length_append, List.length_cons]; omega
      have e2 : w = (A ++ [x]) ++ B := by rw [e]; simp
      have el2 : (A ++ [x]).length = A.length + 1 := by simp
      have hat := rP_at (e ▸ hp)
      have hxn := PK_rev hP (x := x) (by rw [e]; simp)
      have hB2 : B.length < t := by rw [List.length_cons] at hB; omega
      rw [if_neg (by rw [ii_le (by omega) (by omega)]; omega), if_neg (nidx (by omega) (by omega)), ii_nat (by omega), hat.1]
      have hor := ii_or S hS (stF mk x.1) (st6 hn hxn.1)
      have hs1 : st x.1 = ii (stF mk x.1) := (hx x.1 hxn.1).1
      have hgo : ∀ (z : Int32) (tf tc : Nat → Int32), ((∀ b ∈ A, cm mk b.1 x.1) → w.length ≤ (ps mk rd x.1 x.2 (A ++ B).reverse).length) → ∃ (z' : Int32) (tf' tc' : Nat → Int32), (∃ (w' : List (Nat × Int)) (fo' co' : Nat → Int32), bX6_tightenOnce_L62 F 24 24 (ii n) 6 st 6 ro 24 24 (fX6_tightenOnce_L5 F 24 24 (ii n) 6 st 6 ro 24 24 t) (ii S) (ii A.length) z tf tc (ii w.length) fo co = some (1, z', tf', tc', ii w'.length, fo', co') ∧ w'.length < w.length ∧ TS mk rd w.reverse w'.reverse ∧ Red mk w'.reverse ∧ PK n rd w'.reverse ∧ rP fo' co' w'.reverse) ∨ (bX6_tightenOnce_L62 F 24 24 (ii n) 6 st 6 ro 24 24 (fX6_tightenOnce_L5 F 24 24 (ii n) 6 st 6 ro 24 24 t) (ii S) (ii A.length) z tf tc (ii w.length) fo co = some (0, z', tf', tc', ii w.length, fo, co) ∧ ∀ (C : List (Nat × Int)) (x : Nat × Int) (D : List (Nat × Int)), w = C ++ x :: D → A.length ≤ C.length → (∀ b ∈ C, cm mk b.1 x.1) → w.length ≤ (ps mk rd x.1 x.2 (C ++ D).reverse).length) := by
        intro z tf tc hno
        unfold bX6_tightenOnce_L62
        rw [if_neg (nidx (by omega) (by omega)), ii_nat (by omega), hat.1, if_neg (nidx (by omega) (by omega)), ii_nat (by omega), hs1, hor.1, e1k]
        obtain ⟨z', tf', tc', h⟩ := ih (A ++ [x]) B (S ||| stF mk x.1) z tf tc e2 hB2 hor.2 (by
          intro a
          rw [Nat.testBit_or, Bool.or_eq_true, hSb, stF_bit]
          simp [or_and_right, exists_or])
        rw [el2] at h
        refine ⟨z', tf', tc', ?_⟩
        rcases h with h | ⟨h1, h2⟩
        · exact Or.inl h
        · refine Or.inr ⟨h1, ?_⟩
          intro C y D c1 c2 c3
          by_cases hc : C.length = A.length
          · have := List.append_inj (e.symm.trans c1) hc.symm
            have h9 := List.cons.inj this.2
            rw [← this.1, ← h9.1, ← h9.2]
            exact hno (by rw [this.1, h9.1]; exact c3)
          · exact h2 C y D c1 (by omega) c3
      cases hb : S.testBit x.1
      · rw [if_pos (by rw [iBit0 (by omega) (by omega)]; exact hb), iSh _ (by omega)]
        have hc : ∀ b ∈ A, cm mk b.1 x.1 := by
          intro b hb2
          refine Classical.byContradiction (fun h9 => ?_)
          rw [(hSb x.1).mpr ⟨b, hb2, not_cm h9⟩] at hb
          cases hb
        obtain ⟨o1, o2, o3, o4⟩ := out_one (rd := rd) hn.2.2 (e ▸ hR) (e ▸ hP.2.1) hc
        obtain ⟨f3, c3, t1, t2⟩ := turn_X hn hr hx hF hP hp (T := 2 ^ A.length) (Nat.pow_lt_pow_right (by decide) (by omega)) z tf tc
        have htk := tk_one (A := A) (B := B) (x := x)
        rw [← e] at htk
        rw [htk.1, htk.2, o4] at t1 t2
        rw [t1, Option.bind_some]
        have hlp : (ps mk rd x.1 x.2 (A ++ B).reverse).length ≤ 24 := by
          have h1 := ps_len (mk := mk) (rd := rd) (f := x.1) (c := x.2) (Q := (A ++ B).reverse)
          rw [List.length_reverse, List.length_append] at h1
          omega
        by_cases hle : w.length ≤ (ps mk rd x.1 x.2 (A ++ B).reverse).length
        · rw [if_pos (by rw [ii_le (by omega) (by omega)]; exact hle)]
          exact hgo _ f3 c3 (fun _ => hle)
        · rw [if_neg (by rw [ii_le (by omega) (by omega)]; exact hle), pile_copy (by omega) (by omega), Option.bind_some]
          refine ⟨ii (ps mk rd x.1 x.2 (A ++ B).reverse).length, f3, c3, Or.inl ⟨(ps mk rd x.1 x.2 (A ++ B).reverse).reverse, cpA f3 fo (ps mk rd x.1 x.2 (A ++ B).reverse).length, cpA c3 co (ps mk rd x.1 x.2 (A ++ B).reverse).length, ?_, ?_, ?_, ?_, ?_, ?_⟩⟩
          · rw [List.length_reverse]
          · rw [List.length_reverse]; omega
          · rw [List.reverse_reverse, e]
            exact Or.inr ⟨x.1, x.2, (A ++ B).reverse, o1, EQ.rfl9⟩
          · rw [List.reverse_reverse]; exact ps_red hn.2.2 o2
          · rw [List.reverse_reverse]
            have ht : tt rd (A ++ B).reverse + bn rd x ≤ 24 := by
              have h9 := h24
              rw [tt_rev, e, tt_ap2] at h9
              rw [tt_rev, tt_ap2]
              have h8 : tt rd A + (bn rd x + tt rd B) ≤ 24 := h9
              omega
            refine PK_ps hr ⟨?_, o3, by omega⟩ hxn ht
            intro y hy
            have hy2 := List.mem_reverse.mp hy
            refine hP.1 y (List.mem_reverse.mpr ?_)
            rw [e]
            rcases List.mem_append.mp hy2 with h | h
            · exact List.mem_append_left _ h
            · exact List.mem_append_right _ (List.mem_cons_of_mem _ h)
          · rw [List.reverse_reverse]
            exact rP_copy t2
      · rw [if_neg (by rw [iBit0 (by omega) (by omega), hb]; decide)]
        refine hgo z tf tc (fun hc => ?_)
        obtain ⟨b, hb2, hd⟩ := (hSb x.1).mp hb
        exact absurd hd (cm_dpp (hc b hb2))
theorem tighten_L {F n : Nat} {mk rd : Nat → Nat} {st ro : Nat → Int32} (hn : okN n mk rd) (hr : okR rd) (hx : netX n mk rd st ro) (hF : 1000 ≤ F) :
    ∀ (t j : Nat) (w : List (Nat × Int)) (z : Int32) (tf tc fo co : Nat → Int32), 24 < j + t → j + w.length ≤ 23 → Red mk w.reverse → PK n rd w.reverse → rP fo co w.reverse →
      ∃ (z' : Int32) (tf' tc' : Nat → Int32) (w' : List (Nat × Int)) (fo' co' : Nat → Int32) (m : Nat), fX6_tighten_L5 F 24 24 (ii n) 6 st 6 ro 24 24 t 1 (ii j) z tf tc (ii w.length) fo co = some (z', tf', tc', ii w'.length, fo', co') ∧ TN mk rd m w.reverse w'.reverse ∧ GR mk rd w'.reverse ∧ PK n rd w'.reverse ∧ rP fo' co' w'.reverse := by
  intro t
  induction t with
  | zero => intro j w z tf tc fo co h h2; omega
  | succ t ih =>
    intro j w z tf tc fo co hjt hj hR hP hp
    rw [sX6_tighten_L5]
    unfold bX6_tighten_L5
    rw [if_neg (by rw [k_24, ii_le (by omega) (by omega)]; omega), if_neg (by decide)]
    unfold fX6_tightenOnce
    obtain ⟨z', tf', tc', h⟩ := tighten1_L hn hr hx hF hR hP hp F [] w 0 z tf tc rfl (by omega) (by decide) (by intro a; simp)
    rcases h with ⟨w', fo', co', h1, h2, h3, h4, h5, h6⟩ | ⟨h1, h2⟩
    · have h1' : fX6_tightenOnce_L5 F 24 24 (ii n) 6 st 6 ro 24 24 F (0 : Int32) (0 : Int32) z tf tc (ii w.length) fo co = some (1, z', tf', tc', ii w'.length, fo', co') := h1
      rw [h1', Option.bind_some, e1k]
      obtain ⟨z2, tf2, tc2, w2, fo2, co2, m, g1, g2, g3⟩ := ih (j + 1) w' z' tf' tc' fo' co' (by omega) (by omega) h4 h5 h6
      exact ⟨z2, tf2, tc2, w2, fo2, co2, m + 1, g1, ⟨_, h3, g2⟩, g3⟩
    · have h1' : fX6_tightenOnce_L5 F 24 24 (ii n) 6 st 6 ro 24 24 F (0 : Int32) (0 : Int32) z tf tc (ii w.length) fo co = some (0, z', tf', tc', ii w.length, fo, co) := h1
      rw [h1', Option.bind_some, e1k]
      cases t with
      | zero => omega
      | succ t =>
        rw [sX6_tighten_L5]
        unfold bX6_tighten_L5 bX6_tighten_L29
        refine ⟨z', tf', tc', w, fo, co, 0, ?_, EQ.rfl9, ⟨hR, hP.2.1, ?_⟩, hP, hp⟩
        · rw [if_pos rfl, ite_self]
        · intro f h Y e hJ
          obtain ⟨B1, B2, b1, b2, b3⟩ := EQ_bot hn.2.2 e.symm9
          have e3 : w = B2.reverse ++ (f, h) :: B1.reverse := by
            have := congrArg List.reverse b1
            rw [List.reverse_reverse, List.reverse_append, List.reverse_cons, List.append_assoc] at this
            exact this
          have h9 := h2 B2.reverse (f, h) B1.reverse e3 (Nat.zero_le _) (fun b hb => cm_sym hn.2.2 (b2 b (List.mem_reverse.mp hb)))
          rw [← List.reverse_append, List.reverse_reverse] at h9
          have h8 := JO_len (rd := rd) (c := h) (JO_EQ b3 hJ)
          have h7 : w.length = B1.length + B2.length + 1 := by
            rw [e3, List.length_append, List.length_cons, List.length_reverse, List.length_reverse]; omega
          have h6 : w.length ≤ (ps mk rd f h (B1 ++ B2)).length := h9
          rw [List.length_append] at h8
          omega
theorem tighten_X {F n : Nat} {mk rd : Nat → Nat} {st ro : Nat → Int32} (hn : okN n mk rd) (hr : okR rd) (hx : netX n mk rd st ro) (hF : 1000 ≤ F) {w : List (Nat × Int)} (hl : w.length ≤ 23) (hR : Red mk w.reverse) (hP : PK n rd w.reverse) {fo co : Nat → Int32} (hp : rP fo co w.reverse) (z : Int32) (tf tc : Nat → Int32) :
    ∃ (z' : Int32) (tf' tc' : Nat → Int32) (w' : List (Nat × Int)) (fo' co' : Nat → Int32) (m : Nat), fX6_tighten F 24 24 (ii n) 6 st 6 ro 24 24 z tf tc (ii w.length) fo co = some (z', tf', tc', ii w'.length, fo', co') ∧ TN mk rd m w.reverse w'.reverse ∧ GR mk rd w'.reverse ∧ PK n rd w'.reverse ∧ rP fo' co' w'.reverse := by
  unfold fX6_tighten
  exact tighten_L hn hr hx hF F 0 w z tf tc fo co (by omega) (by omega) hR hP hp
/-- those of a party, by the class -/
theorem pick_L {F n : Nat} {mk rd : Nat → Nat} {st ro : Nat → Int32} (hn : okN n mk rd) (hr : okR rd) (hx : netX n mk rd st ro) (hF : 1000 ≤ F) {w : List (Nat × Int)} (hP : PK n rd w.reverse) {fo co : Nat → Int32} (hp : rP fo co w.reverse) {M : Nat} (hM : M < 64) :
    ∀ (t : Nat) (A B Q : List (Nat × Int)) (f2 c2 : Nat → Int32), w = A ++ B → B.length < t → PK n rd Q → tt rd Q + tt rd B ≤ 24 → rP f2 c2 Q →
      ∃ f3 c3, fX6_pickParty_L7 F (ii n) 6 st 6 ro (ii w.length) 24 fo 24 co 24 24 t (ii M) (ii A.length) (ii Q.length) f2 c2 = some (ii (pW mk rd Q (fl (fun f => M.testBit f) B)).length, f3, c3) ∧ rP f3 c3 (pW mk rd Q (fl (fun f => M.testBit f) B)) := by
  have h6 := hn.1
  have hl := len_tt hr hP.2.1
  have h24 := hP.2.2
  rw [List.length_reverse] at hl
  intro t
  induction t with
  | zero => intro A B Q f2 c2 _ h; omega
  | succ t ih =>
    intro A B Q f2 c2 e hB hQ ht hq
    rw [sX6_pickParty_L7]
    unfold bX6_pickParty_L7
    cases B with
    | nil =>
      rw [List.append_nil] at e
      rw [if_pos (by rw [e]; exact Int32.le_refl _)]
      exact ⟨f2, c2, rfl, hq⟩
    | cons x B =>
      have el : A.length + 1 + B.length = w.length := by rw [e, List.length_append, List.length_cons]; omega
      have e2 : w = (A ++ [x]) ++ B := by rw [e]; simp
      have el2 : (A ++ [x]).length = A.length + 1 := by simp
      have hat := rP_at (e ▸ hp)
      have hxn := PK_rev hP (x := x) (by rw [e]; simp)
      have hB2 : B.length < t := by rw [List.length_cons] at hB; omega
      have ht2 : tt rd Q + (bn rd x + tt rd B) ≤ 24 := ht
      rw [if_neg (by rw [ii_le (by omega) (by omega)]; omega), if_neg (nidx (by omega) (by omega)), ii_nat (by omega), hat.1]
      cases hb : M.testBit x.1
      · rw [if_pos (by rw [iBit0 (by omega) (by omega)]; exact hb), fl_0 hb]
        unfold bX6_pickParty_L49
        have := ih (A ++ [x]) B Q f2 c2 e2 hB2 hQ (by omega) hq
        rw [el2] at this
        rw [e1k]
        exact this
      · rw [if_neg (by rw [iBit0 (by omega) (by omega), hb]; decide), if_neg (nidn (by omega) (by omega)), if_neg (nidn (by omega) (by omega)), hat.2, fl_1 hb]
        obtain ⟨f3, c3, e3, e4⟩ := push_pk hn hr hx hF hQ hxn (by omega) hq
        rw [e3, Option.bind_some]
        unfold bX6_pickParty_L49
        have htp := tt_psb (mk := mk) hr hQ.2.1 hxn.2.1
        have := ih (A ++ [x]) B (ps mk rd x.1 x.2 Q) f3 c3 e2 hB2 (PK_ps hr hQ hxn (by omega)) (by omega) e4
        rw [el2] at this
        rw [e1k]
        exact this
theorem fl_rev (P : Nat → Bool) (u : List (Nat × Int)) : fl P u.reverse = (fl P u).reverse := List.filter_reverse ..
theorem pick_X {F n : Nat} {mk rd : Nat → Nat} {st ro : Nat → Int32} (hn : okN n mk rd) (hr : okR rd) (hx : netX n mk rd st ro) (hF : 1000 ≤ F) {w : List (Nat × Int)} (hG : GR mk rd w.reverse) (hP : PK n rd w.reverse) {fo co : Nat → Int32} (hp : rP fo co w.reverse) {M : Nat} (hM : M < 64) (hcl : clP mk (fun f => M.testBit f) w.reverse) (z : Int32) (f2 c2 : Nat → Int32) :
    ∃ f3 c3, fX6_pickParty F (ii n) 6 st 6 ro (ii w.length) 24 fo 24 co 24 24 (ii M) z f2 c2 = some (ii (fl (fun f => M.testBit f) w).length, f3, c3) ∧ rP f3 c3 (fl (fun f => M.testBit f) w).reverse := by
  have hl := len_tt hr hP.2.1
  have h24 := hP.2.2
  rw [List.length_reverse] at hl
  have hG2 := fl_GR hn.2.2 hcl hG
  rw [fl_rev] at hG2
  have hself := pW_self hG2.1 hG2.2.1
  rw [List.reverse_reverse] at hself
  unfold fX6_pickParty fX5_clear
  rw [Option.bind_some]
  obtain ⟨f3, c3, e1, e2⟩ := pick_L hn hr hx hF hP hp hM F [] w [] f2 c2 rfl (by omega) (PK_nil n rd) (by rw [tt_rev] at h24; show 0 + tt rd w ≤ 24; omega) trivial
  rw [hself] at e1 e2
  rw [List.length_reverse] at e1
  exact ⟨f3, c3, e1, e2⟩
theorem fbit_L {F : Nat} {w : List (Nat × Int)} {fo co : Nat → Int32} (hp : rP fo co w.reverse) (hl : w.length ≤ 24) (h6 : ∀ x ∈ w, x.1 < 6) : ∀ (t : Nat) (A B : List (Nat × Int)) (m : Nat), w = A ++ B → B.length < t → m < 64 → (∀ a, m.testBit a = true ↔ ∃ x ∈ A, x.1 = a) → ∃ m', fX5_folkBits_L4 F (ii w.length) 24 fo t (ii m) (ii A.length) = some (ii m') ∧ m' < 64 ∧ ∀ a, m'.testBit a = true ↔ ∃ x ∈ w, x.1 = a := by
  intro t
  induction t with
  | zero => intro A B m _ h; omega
  | succ t ih =>
    intro A B m e hB hm hb
    rw [sX5_folkBits_L4]
    unfold bX5_folkBits_L4
    cases B with
    | nil =>
      rw [List.append_nil] at e
      rw [if_pos (by rw [e]; exact Int32.le_refl _)]
      exact ⟨m, rfl, hm, by rw [e]; exact hb⟩
    | cons x B =>
      have el : A.length + 1 + B.length = w.length := by rw [e, List.length_append, List.length_cons]; omega
      have e2 : w = (A ++ [x]) ++ B := by rw [e]; simp
      have el2 : (A ++ [x]).length = A.length + 1 := by simp
      have hat := rP_at (e ▸ hp)
      have hx6 := h6 x (by rw [e]; simp)
      rw [if_neg (by rw [ii_le (by omega) (by omega)]; omega), if_neg (nidx (by omega) (by omega)), ii_nat (by omega), hat.1, step1 hm hx6, e1k]
      have := ih (A ++ [x]) B (m ||| 2 ^ x.1) e2 (by rw [List.length_cons] at hB; omega) (or_lt64 m hm x.1 hx6) (by
        intro a
        rw [tb_or2, Bool.or_eq_true, hb, decide_eq_true_eq]
        simp [or_and_right, exists_or])
      rw [el2] at this
      exact this
theorem fbit_X {F : Nat} (hF : 1000 ≤ F) {w : List (Nat × Int)} {fo co : Nat → Int32} (hp : rP fo co w.reverse) (hl : w.length ≤ 24) (h6 : ∀ x ∈ w, x.1 < 6) : ∃ m', fX5_folkBits F (ii w.length) 24 fo = some (ii m') ∧ m' < 64 ∧ ∀ a, m'.testBit a = true ↔ ∃ x ∈ w, x.1 = a := by
  unfold fX5_folkBits
  exact fbit_L hp hl h6 F [] w 0 rfl (by omega) (by decide) (by intro a; simp)
theorem bund_L {F : Nat} {w : List (Nat × Int)} {fo co : Nat → Int32} (hp : rP fo co w.reverse) (hl : w.length ≤ 24) (h6 : ∀ x ∈ w, x.1 < 6) {f0 : Nat} (hf0 : f0 < 6) : ∀ (t : Nat) (A B : List (Nat × Int)) (m : Nat), w = A ++ B → B.length < t → fX5_bundlesOf_L4 F (ii w.length) 24 fo t (ii f0) (ii m) (ii A.length) = some (ii (m + cnt0 f0 B)) := by
  intro t
  induction t with
  | zero => intro A B m _ h; omega
  | succ t ih =>
    intro A B m e hB
    rw [sX5_bundlesOf_L4]
    unfold bX5_bundlesOf_L4
    cases B with
    | nil =>
      rw [List.append_nil] at e
      rw [if_pos (by rw [e]; exact Int32.le_refl _)]
      rfl
    | cons x B =>
      have el : A.length + 1 + B.length = w.length := by rw [e, List.length_append, List.length_cons]; omega
      have e2 : w = (A ++ [x]) ++ B := by rw [e]; simp
      have el2 : (A ++ [x]).length = A.length + 1 := by simp
      have hat := rP_at (e ▸ hp)
      have hx6 := h6 x (by rw [e]; simp)
      rw [if_neg (by rw [ii_le (by omega) (by omega)]; omega), if_neg (nidx (by omega) (by omega)), ii_nat (by omega), hat.1]
      have ih2 := fun m => ih (A ++ [x]) B m e2 (by rw [List.length_cons] at hB; omega)
      rw [el2] at ih2
      unfold bX5_bundlesOf_L28
      by_cases hx : x.1 = f0
      · rw [if_pos (by rw [hx]), e1k, e1k, ih2]
        have : cnt0 f0 (x :: B) = cnt0 f0 B + 1 := by
          unfold cnt0
          rw [List.filter_cons_of_pos (by simpa using hx)]
          rfl
        rw [this]
        congr 2
        omega
      · rw [if_neg (by rw [ii_inj (by omega) (by omega)]; exact hx), e1k, k_0, ii_add, ih2]
        have : cnt0 f0 (x :: B) = cnt0 f0 B := by
          unfold cnt0
          rw [List.filter_cons_of_neg (by simpa using hx)]
        rw [this]
        rfl
theorem bund_X {F : Nat} (hF : 1000 ≤ F) {w : List (Nat × Int)} {fo co : Nat → Int32} (hp : rP fo co w.reverse) (hl : w.length ≤ 24) (h6 : ∀ x ∈ w, x.1 < 6) {f0 : Nat} (hf0 : f0 < 6) : fX5_bundlesOf F (ii w.length) 24 fo (ii f0) = some (ii (cnt0 f0 w)) := by
  unfold fX5_bundlesOf
  have := bund_L (F := F) hp hl h6 hf0 F [] w 0 rfl (by omega)
  rw [Nat.zero_add] at this
  exact this
