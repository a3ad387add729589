/-! PURE: a form stands for its pile, and for no other -/
def tw (t : Nat) : Nat × Int := (t / 2, sg t)
theorem psL_pW (mk rd : Nat → Nat) : ∀ (L : List Nat) (Q : List (Nat × Int)), psL mk rd Q L = pW mk rd Q (L.map tw)
  | [], _ => rfl
  | t :: L, Q => psL_pW mk rd L (psT mk rd Q t)
theorem tw_ok {rd : Nat → Nat} (hr : okR rd) (L : List Nat) : ∀ x ∈ L.map tw, nrm (rd x.1) x.2 ≠ 0 := by
  intro x hx
  obtain ⟨t, _, rfl⟩ := List.mem_map.mp hx
  exact nrm_sg (hr (t / 2)) t
theorem bt_f (rd : Nat → Nat) (x : Nat × Int) : bt rd x / 2 = x.1 := by
  unfold bt
  split <;> omega
/-- the bundle that is written first -/
theorem bot_first {mk rd : Nat → Nat} {Q : List (Nat × Int)} {A B : List (Nat × Nat)} {t m : Nat} (e : bu rd Q = A ++ (t, m) :: B) (hb : bst mk (A.map Prod.fst) t (B.map Prod.fst)) : ∃ C D x, Q = C ++ x :: D ∧ t = bt rd x ∧ m = bn rd x ∧ (∀ d ∈ D, cm mk x.1 d.1) ∧ bu rd (C ++ D) = A ++ B ∧ ∀ C' y D', Q = C' ++ y :: D' → (∀ d ∈ D', cm mk y.1 d.1) → x.1 ≤ y.1 := by
  unfold bu at e
  obtain ⟨R1, R2, e1, e2, e3⟩ := List.map_eq_append_iff.mp e
  obtain ⟨x, R3, e4, e5, e6⟩ := List.map_eq_cons_iff.mp e3
  have hx1 : t = bt rd x := (congrArg Prod.fst e5).symm
  have hx2 : m = bn rd x := (congrArg Prod.snd e5).symm
  have hQ : Q = R3.reverse ++ x :: R1.reverse := by
    have := congrArg List.reverse e1
    rw [List.reverse_reverse, e4, List.reverse_append, List.reverse_cons, List.append_assoc] at this
    exact this
  refine ⟨R3.reverse, R1.reverse, x, hQ, hx1, hx2, ?_, ?_, ?_⟩
  · intro d hd
    have hd2 := List.mem_reverse.mp hd
    have := hb.1 (bt rd d) (by
      rw [← e2, List.map_map]
      exact List.mem_map.mpr ⟨d, hd2, rfl⟩)
    rw [hx1, bt_f, bt_f] at this
    exact ⟨fun h9 => this.1 h9.symm, this.2⟩
  · unfold bu
    rw [List.reverse_append, List.reverse_reverse, List.reverse_reverse, List.map_append, e2, e6]
  · intro C' y D' hC hD
    have hs2 := hb.2 ((D'.reverse.map (fun x => (bt rd x, bn rd x))).map Prod.fst) (bt rd y) ((C'.reverse.map (fun x => (bt rd x, bn rd x))).map Prod.fst) (by
      have h1 : Q.reverse.map (fun x => (bt rd x, bn rd x)) = D'.reverse.map (fun x => (bt rd x, bn rd x)) ++ (bt rd y, bn rd y) :: C'.reverse.map (fun x => (bt rd x, bn rd x)) := by
        rw [hC, List.reverse_append, List.reverse_cons, List.append_assoc, List.map_append]
        rfl
      rw [e] at h1
      have h2 := congrArg (List.map Prod.fst) h1
      rw [List.map_append, List.map_append] at h2
      exact h2) (by
      intro z hz
      rw [List.map_map] at hz
      obtain ⟨d, hd, rfl⟩ := List.mem_map.mp hz
      have := hD d (List.mem_reverse.mp hd)
      show bt rd d / 2 ≠ bt rd y / 2 ∧ (mk (bt rd y / 2)).testBit (bt rd d / 2) = false
      rw [bt_f, bt_f]
      exact ⟨fun h9 => this.1 h9.symm, this.2⟩)
    rw [hx1, bt_f, bt_f] at hs2
    exact hs2
theorem FM_EQ {mk rd : Nat → Nat} (hs : symK mk) : ∀ (k l : Nat) {Q P : List (Nat × Int)} {O O' : List Nat}, EQ mk Q P → FM mk k (bu rd Q) O → FM mk l (bu rd P) O' → O = O' := by
  intro k
  induction k with
  | zero =>
    intro l Q P O O' h h1 h2
    obtain ⟨e1, e2⟩ := h1
    have hQ : Q = [] := by
      unfold bu at e1
      have := List.map_eq_nil_iff.mp e1
      exact List.reverse_eq_nil_iff.mp this
    rw [hQ] at h
    have hP : P = [] := EQ.nil9 h.symm9
    cases l with
    | zero => rw [e2, h2.2]
    | succ l =>
      obtain ⟨A, t, m, B, O2, e3, _⟩ := h2
      rw [hP] at e3
      have : (bu rd ([] : List (Nat × Int))).length = 0 := rfl
      rw [e3, List.length_append, List.length_cons] at this
      omega
  | succ k ih =>
    intro l Q P O O' h h1 h2
    obtain ⟨A, t, m, B, O1, e1, b1, o1, f1⟩ := h1
    obtain ⟨C, D, x, q1, q2, q3, q4, q5, q6⟩ := bot_first e1 b1
    cases l with
    | zero =>
      obtain ⟨e3, _⟩ := h2
      have hP : P = [] := by
        unfold bu at e3
        exact List.reverse_eq_nil_iff.mp (List.map_eq_nil_iff.mp e3)
      rw [hP] at h
      rw [EQ.nil9 h] at q1
      have := congrArg List.length q1
      rw [List.length_append, List.length_cons, List.length_nil] at this
      omega
    | succ l =>
      obtain ⟨A2, t2, m2, B2, O2, e2, b2, o2, f2⟩ := h2
      obtain ⟨C2, D2, y, p1, p2, p3, p4, p5, p6⟩ := bot_first e2 b2
      have hq : EQ mk Q ((C ++ D) ++ [x]) := by rw [q1]; exact EQ_mid2 hs q4
      have hp : EQ mk P ((C2 ++ D2) ++ [y]) := by rw [p1]; exact EQ_mid2 hs p4
      have hle1 : x.1 ≤ y.1 := by
        obtain ⟨X1, X2, z1, z2, _⟩ := EQ_bot hs (hp.symm9.trans9 h.symm9)
        exact q6 X1 y X2 z1 z2
      have hle2 : y.1 ≤ x.1 := by
        obtain ⟨X1, X2, z1, z2, _⟩ := EQ_bot hs (hq.symm9.trans9 h)
        exact p6 X1 x X2 z1 z2
      rcases EQ_bb hs (hq.symm9.trans9 (h.trans9 hp)) with ⟨exy, er⟩ | ⟨hc, _⟩
      · subst exy
        have eO : O1 = O2 := ih l er (by rw [q5]; exact f1) (by rw [p5]; exact f2)
        rw [o1, o2, q2, q3, p2, p3, eO]
      · exact absurd (Nat.le_antisymm hle1 hle2) hc.1
theorem ps_sing {mk rd : Nat → Nat} {f : Nat} {c d : Int} (h : nrm (rd f) (c + d) ≠ 0) : ps mk rd f d [(f, c)] = [(f, nrm (rd f) (c + d))] := by
  unfold ps
  rw [jn_cons, if_pos rfl]
  show (if nrm (rd f) (c + d) = 0 then [] else [(f, nrm (rd f) (c + d))]) = _
  rw [if_neg h]
theorem ps_sg0 {mk rd : Nat → Nat} {f : Nat} {d : Int} : ps mk rd f d [] = [(f, nrm (rd f) d)] := rfl
theorem rep0 {mk rd : Nat → Nat} {t : Nat} (h0 : rd (t / 2) = 0) : ∀ m, psL mk rd [] (List.replicate (m + 1) t) = [(t / 2, ((m : Int) + 1) * sg t)] := by
  intro m
  induction m with
  | zero =>
    show psT mk rd [] t = _
    unfold psT
    rw [ps_sg0, h0, nrm0]
    congr 2
    omega
  | succ m ih =>
    have e : List.replicate (m + 1 + 1) t = List.replicate (m + 1) t ++ [t] := by rw [List.replicate_succ']
    have hsg := sg_ne t
    have e2 : ((m : Int) + 1) * sg t + sg t = (((m + 1 : Nat) : Int) + 1) * sg t := by
      rcases hsg with h | h <;> rw [h] <;> omega
    rw [e, psL_snoc, ih]
    unfold psT
    rw [ps_sing (by
      rw [h0, nrm0]
      rcases hsg with h | h <;> rw [h] <;> omega), h0, nrm0, e2]
theorem rep_x {mk rd : Nat → Nat} (hr : okR rd) {x : Nat × Int} (h1 : nrm (rd x.1) x.2 = x.2) (h2 : x.2 ≠ 0) : psL mk rd [] (List.replicate (bn rd x) (bt rd x)) = [x] := by
  obtain ⟨f, c⟩ := x
  have h1' : nrm (rd f) c = c := h1
  have h2' : c ≠ 0 := h2
  have eo : (2 * f) / 2 = f := by omega
  have eu : (2 * f + 1) / 2 = f := by omega
  have so : sg (2 * f) = 1 := by unfold sg; rw [if_pos (by omega)]
  have su : sg (2 * f + 1) = -1 := by unfold sg; rw [if_neg (by omega)]
  have pO : ∀ Q, psT mk rd Q (2 * f) = ps mk rd f 1 Q := by intro Q; unfold psT; rw [eo, so]
  have pU : ∀ Q, psT mk rd Q (2 * f + 1) = ps mk rd f (-1) Q := by intro Q; unfold psT; rw [eu, su]
  rcases hr f with h | h | h | h
  · have etv : tv (rd f) c = c := by rw [h, tvm0]
    by_cases hp : 0 < c
    · have eb : bt rd (f, c) = 2 * f := by unfold bt; rw [if_pos (by show 0 < tv (rd f) c; rw [etv]; exact hp)]
      have en : bn rd (f, c) = (c.toNat - 1) + 1 := by show (tv (rd f) c).natAbs = _; rw [etv]; omega
      rw [eb, en, rep0 (by rw [eo]; exact h), eo, so]
      congr 2
      omega
    · have eb : bt rd (f, c) = 2 * f + 1 := by unfold bt; rw [if_neg (by show ¬ 0 < tv (rd f) c; rw [etv]; exact hp)]
      have en : bn rd (f, c) = ((-c).toNat - 1) + 1 := by show (tv (rd f) c).natAbs = _; rw [etv]; omega
      rw [eb, en, rep0 (by rw [eu]; exact h), eu, su]
      congr 2
      omega
  · rw [h, nrm2] at h1'
    have hc : c = 1 := by omega
    subst hc
    have eb : bt rd (f, 1) = 2 * f := by unfold bt; rw [if_pos (by show 0 < tv (rd f) 1; rw [h]; decide)]
    have en : bn rd (f, 1) = 1 := by show (tv (rd f) 1).natAbs = _; rw [h]; decide
    rw [eb, en]
    show psT mk rd [] (2 * f) = _
    rw [pO, ps_sg0, h]
    rfl
  · rw [h, nrm3] at h1'
    have hc : c = 1 ∨ c = 2 := by omega
    rcases hc with rfl | rfl
    · have eb : bt rd (f, 1) = 2 * f := by unfold bt; rw [if_pos (by show 0 < tv (rd f) 1; rw [h]; decide)]
      have en : bn rd (f, 1) = 1 := by show (tv (rd f) 1).natAbs = _; rw [h]; decide
      rw [eb, en]
      show psT mk rd [] (2 * f) = _
      rw [pO, ps_sg0, h]
      rfl
    · have eb : bt rd (f, 2) = 2 * f + 1 := by unfold bt; rw [if_neg (by show ¬ 0 < tv (rd f) 2; rw [h]; decide)]
      have en : bn rd (f, 2) = 1 := by show (tv (rd f) 2).natAbs = _; rw [h]; decide
      rw [eb, en]
      show psT mk rd [] (2 * f + 1) = _
      rw [pU, ps_sg0, h]
      rfl
  · rw [h, nrm4] at h1'
    have hc : c = 1 ∨ c = 2 ∨ c = 3 := by omega
    rcases hc with rfl | rfl | rfl
    · have eb : bt rd (f, 1) = 2 * f := by unfold bt; rw [if_pos (by show 0 < tv (rd f) 1; rw [h]; decide)]
      have en : bn rd (f, 1) = 1 := by show (tv (rd f) 1).natAbs = _; rw [h]; decide
      rw [eb, en]
      show psT mk rd [] (2 * f) = _
      rw [pO, ps_sg0, h]
      rfl
    · have eb : bt rd (f, 2) = 2 * f := by unfold bt; rw [if_pos (by show 0 < tv (rd f) 2; rw [h]; decide)]
      have en : bn rd (f, 2) = 2 := by show (tv (rd f) 2).natAbs = _; rw [h]; decide
      rw [eb, en]
      show psT mk rd (psT mk rd [] (2 * f)) (2 * f) = _
      rw [pO, pO, ps_sg0, h, ps_sing (by rw [h]; decide), h]
      rfl
    · have eb : bt rd (f, 3) = 2 * f + 1 := by unfold bt; rw [if_neg (by show ¬ 0 < tv (rd f) 3; rw [h]; decide)]
      have en : bn rd (f, 3) = 1 := by show (tv (rd f) 3).natAbs = _; rw [h]; decide
      rw [eb, en]
      show psT mk rd [] (2 * f + 1) = _
      rw [pU, ps_sg0, h]
      rfl
theorem FM_back {mk rd : Nat → Nat} (hs : symK mk) (hr : okR rd) : ∀ (k : Nat) {Q : List (Nat × Int)} {O : List Nat}, Red mk Q → okC rd Q → FM mk k (bu rd Q) O → EQ mk (psL mk rd [] O) Q := by
  intro k
  induction k with
  | zero =>
    intro Q O _ _ h1
    obtain ⟨e1, e2⟩ := h1
    have hQ : Q = [] := by
      unfold bu at e1
      exact List.reverse_eq_nil_iff.mp (List.map_eq_nil_iff.mp e1)
    rw [hQ, e2]
    exact EQ.rfl9
  | succ k ih =>
    intro Q O hR hC h1
    obtain ⟨A, t, m, B, O1, e1, b1, o1, f1⟩ := h1
    obtain ⟨C, D, x, q1, q2, q3, q4, q5, q6⟩ := bot_first e1 b1
    have hq : EQ mk Q ((C ++ D) ++ [x]) := by rw [q1]; exact EQ_mid2 hs q4
    have hRx : Red mk ((C ++ D) ++ [x]) := EQ_red hs hR hq
    have hCx : okC rd ((C ++ D) ++ [x]) := EQ_okC hq hC
    have hx := hCx x (by simp)
    have hih := ih (Q := C ++ D) (O := O1) (Red_init hRx) (fun y hy => hCx y (List.mem_append_left _ hy)) (q5 ▸ f1)
    rw [o1, q2, q3, psL_app, rep_x hr hx.1 hx.2]
    have hl : lmR mk rd x.1 x.2 ([] : List (Nat × Int)) [x] := ⟨0, [], nrm_z _, by rw [ap_0]; exact EQ.rfl9, by rw [Int.zero_add, hx.1, ap_n hx.2]; exact EQ.rfl9⟩
    obtain ⟨h, Y, h1, h2, h3⟩ := lm_W hs (tw_ok hr O1) hl
    rw [← psL_pW] at h2 h3
    have h0 : h = 0 := by
      refine Classical.byContradiction (fun hne => ?_)
      rw [ap_n hne] at h2
      have e5 : EQ mk ((C ++ D) ++ [x]) ((Y ++ [(x.1, h)]) ++ [(x.1, x.2)]) := EQ_app (hih.symm9.trans9 h2) EQ.rfl9
      exact no_two (EQ_red hs hRx e5)
    rw [h0, ap_0] at h2
    rw [h0, Int.zero_add, hx.1, ap_n hx.2] at h3
    exact h3.trans9 ((EQ_app (h2.symm9.trans9 hih) EQ.rfl9).trans9 hq.symm9)
