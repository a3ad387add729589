/-! PURE: turning a ring: front bundles taken to the end -/
theorem jn_snoc {mk rd : Nat → Nat} {g : Nat} {d : Int} {x : Nat × Int} (hx : x.1 ≠ g) : ∀ Y : List (Nat × Int), jn mk rd g d (Y ++ [x]) = (jn mk rd g d Y).map (fun z => z ++ [x])
  | [] => by
    rw [List.nil_append, jn_cons, if_neg hx]
    split <;> rfl
  | y :: Y => by
    rw [List.cons_append, jn_cons, jn_cons]
    by_cases hy : y.1 = g
    · rw [if_pos hy, if_pos hy]
      split <;> rfl
    · rw [if_neg hy, if_neg hy]
      by_cases hk : (mk g).testBit y.1 = true
      · rw [if_pos hk, if_pos hk]; rfl
      · rw [if_neg hk, if_neg hk, jn_snoc hx Y]
        cases jn mk rd g d Y <;> rfl
theorem jn_snoc2 {mk rd : Nat → Nat} {g : Nat} {d : Int} {x : Nat × Int} : ∀ Y : List (Nat × Int), (∃ y ∈ Y, dpp mk g y.1) → jn mk rd g d (Y ++ [x]) = (jn mk rd g d Y).map (fun z => z ++ [x])
  | [], h => by obtain ⟨y, hy, _⟩ := h; cases hy
  | y :: Y, h => by
    rw [List.cons_append, jn_cons, jn_cons]
    by_cases hy : y.1 = g
    · rw [if_pos hy, if_pos hy]
      split <;> rfl
    · rw [if_neg hy, if_neg hy]
      by_cases hk : (mk g).testBit y.1 = true
      · rw [if_pos hk, if_pos hk]; rfl
      · rw [if_neg hk, if_neg hk]
        have h2 : ∃ z ∈ Y, dpp mk g z.1 := by
          obtain ⟨z, hz, hd⟩ := h
          rcases List.mem_cons.mp hz with rfl | hz
          · rcases hd with hd | hd
            · exact absurd hd.symm hy
            · exact absurd hd hk
          · exact ⟨z, hz, hd⟩
        rw [jn_snoc2 Y h2]
        cases jn mk rd g d Y <;> rfl
theorem ps_snoc {mk rd : Nat → Nat} {g : Nat} {d : Int} {x : Nat × Int} {Y : List (Nat × Int)} (h : x.1 ≠ g ∨ ∃ y ∈ Y, dpp mk g y.1) : ps mk rd g d (Y ++ [x]) = ps mk rd g d Y ++ [x] := by
  have e : jn mk rd g d (Y ++ [x]) = (jn mk rd g d Y).map (fun z => z ++ [x]) := by
    rcases h with h | h
    · exact jn_snoc h Y
    · exact jn_snoc2 Y h
  unfold ps
  rw [e]
  cases jn mk rd g d Y <;> rfl
theorem ps_cen {mk rd : Nat → Nat} {f : Nat} {d h : Int} {Y : List (Nat × Int)} (hY : ∀ y ∈ Y, cm mk f y.1) : ps mk rd f d (Y ++ [(f, h)]) = if nrm (rd f) (h + d) = 0 then Y else Y ++ [(f, nrm (rd f) (h + d))] := by
  unfold ps
  rw [jn_app (fun x hx => ⟨fun e => (hY x hx).1 e.symm, (hY x hx).2⟩), jn_cons, if_pos rfl]
  show Y ++ (if nrm (rd f) (h + d) = 0 then [] else [(f, nrm (rd f) (h + d))]) = _
  split
  · rw [List.append_nil]
  · rfl
theorem JO_cen {mk : Nat → Nat} {f : Nat} {Y : List (Nat × Int)} (hY : ∀ y ∈ Y, cm mk f y.1) : ¬ JO mk f Y := by
  intro h
  apply h.1
  exact prj_nil (fun y hy => ⟨fun e => (hY y hy).1 e.symm, fun e => (hY y hy).1 e.symm⟩)
theorem JO_apR {mk : Nat → Nat} {f : Nat} {Y Z : List (Nat × Int)} (h : JO mk f Y) : JO mk f (Y ++ Z) := by
  refine ⟨?_, ?_⟩
  · rw [prj_app]
    intro e
    exact h.1 (List.append_eq_nil_iff.mp e).1
  · intro g hg y tl e
    rw [prj_app] at e
    cases hp : prj f g Y with
    | nil =>
      exfalso
      apply h.1
      apply prj_nil
      intro x hx
      have hne : x.1 ≠ f := by
        intro e2
        have : x ∈ prj f g Y := prj_mem.mpr ⟨hx, Or.inl e2⟩
        rw [hp] at this
        cases this
      exact ⟨hne, hne⟩
    | cons z l =>
      rw [hp] at e
      have := (List.cons.inj e).1
      rw [← this]
      exact h.2 g hg z l hp
theorem Red_init {mk : Nat → Nat} : ∀ {Y Z : List (Nat × Int)}, Red mk (Y ++ Z) → Red mk Y
  | [], _, _ => trivial
  | y :: Y, Z, h => ⟨fun hj => h.1 (JO_apR hj), Red_init (Y := Y) h.2⟩
theorem nrm_z (m : Nat) : nrm m 0 = 0 := by
  unfold nrm
  split
  · rfl
  · exact Int.zero_emod _
theorem ps_add {mk rd : Nat → Nat} (hs : symK mk) {f : Nat} {c d : Int} (hc : nrm (rd f) c ≠ 0) {Y : List (Nat × Int)} (hR : Red mk Y) (hC : okC rd Y) : EQ mk (ps mk rd f c (ps mk rd f d Y)) (if nrm (rd f) (c + d) = 0 then Y else ps mk rd f (c + d) Y) := by
  by_cases hJ : JO mk f Y
  · cases hj : jn mk rd f d Y with
    | none => exact absurd hJ (JO_none hj)
    | some P =>
      obtain ⟨A, z, R, e1, e2, e3⟩ := jn_split hj
      have ep : ps mk rd f d Y = P := by unfold ps; rw [hj]; rfl
      have hz : nrm (rd f) z = z ∧ z ≠ 0 := hC (f, z) (by rw [e1]; simp)
      have eg : ∀ k, ps mk rd f k (A ++ (f, z) :: R) = A ++ (if nrm (rd f) (z + k) = 0 then R else (f, nrm (rd f) (z + k)) :: R) := by
        intro k
        unfold ps
        rw [jn_app e2, jn_cons, if_pos rfl]
        rfl
      rw [ep, e3]
      by_cases h0 : nrm (rd f) (z + d) = 0
      · rw [if_pos h0]
        have hRR : Red mk ((f, z) :: R) := Red_tail (A := A) (e1 ▸ hR)
        have hn : ¬ JO mk f (A ++ R) := fun h9 => hRR.1 ((JO_app e2).mp h9)
        have en : nrm (rd f) (z + (c + d)) = nrm (rd f) c := by
          rw [show z + (c + d) = (z + d) + c by omega, ← nrm_add, h0, Int.zero_add]
        rw [ps_N hn]
        have hmv : EQ mk ((f, nrm (rd f) c) :: (A ++ R)) (A ++ (f, nrm (rd f) c) :: R) := (EQ_mid hs (fun b hb => ⟨fun e => (e2 b hb).1 e.symm, (e2 b hb).2⟩)).symm9
        by_cases hcd : nrm (rd f) (c + d) = 0
        · rw [if_pos hcd, e1]
          have : z = nrm (rd f) c := by
            rw [← en, show z + (c + d) = (c + d) + z by omega, ← nrm_add, hcd, Int.zero_add, hz.1]
          rw [this]
          exact hmv
        · rw [if_neg hcd, e1, eg, en, if_neg hc]
          exact hmv
      · rw [if_neg h0]
        have e5 : ps mk rd f c (A ++ (f, nrm (rd f) (z + d)) :: R) = A ++ (if nrm (rd f) (z + (c + d)) = 0 then R else (f, nrm (rd f) (z + (c + d))) :: R) := by
          have e6 : nrm (rd f) (nrm (rd f) (z + d) + c) = nrm (rd f) (z + (c + d)) := by rw [nrm_add, show z + d + c = z + (c + d) by omega]
          unfold ps
          rw [jn_app e2, jn_cons, if_pos rfl]
          show A ++ (if nrm (rd f) (nrm (rd f) (z + d) + c) = 0 then R else (f, nrm (rd f) (nrm (rd f) (z + d) + c)) :: R) = _
          rw [e6]
        rw [e5]
        by_cases hcd : nrm (rd f) (c + d) = 0
        · have e7 : nrm (rd f) (z + (c + d)) = z := by rw [show z + (c + d) = (c + d) + z by omega, ← nrm_add, hcd, Int.zero_add, hz.1]
          rw [if_pos hcd, e7, if_neg hz.2, e1]
          exact EQ.rfl9
        · rw [if_neg hcd, e1, eg]
          exact EQ.rfl9
  · rw [ps_N hJ]
    have e : ps mk rd f c ((f, nrm (rd f) d) :: Y) = if nrm (rd f) (c + d) = 0 then Y else (f, nrm (rd f) (c + d)) :: Y := by
      have e6 : nrm (rd f) (nrm (rd f) d + c) = nrm (rd f) (c + d) := by rw [nrm_add, Int.add_comm]
      unfold ps
      rw [jn_cons, if_pos rfl]
      show (if nrm (rd f) (nrm (rd f) d + c) = 0 then Y else (f, nrm (rd f) (nrm (rd f) d + c)) :: Y) = _
      rw [e6]
    rw [e]
    by_cases hcd : nrm (rd f) (c + d) = 0
    · rw [if_pos hcd, if_pos hcd]; exact EQ.rfl9
    · rw [if_neg hcd, if_neg hcd, ps_N hJ]; exact EQ.rfl9
/-- one turn, or none -/
def TS (mk rd : Nat → Nat) (x T : List (Nat × Int)) : Prop := EQ mk x T ∨ ∃ f h Y, EQ mk x (Y ++ [(f, h)]) ∧ EQ mk T (ps mk rd f h Y)
def TN (mk rd : Nat → Nat) : Nat → List (Nat × Int) → List (Nat × Int) → Prop
  | 0, x, y => EQ mk x y
  | n + 1, x, y => ∃ z, TS mk rd x z ∧ TN mk rd n z y
theorem TS_l {mk rd : Nat → Nat} {x x' T : List (Nat × Int)} (h : EQ mk x x') (h2 : TS mk rd x T) : TS mk rd x' T := by
  rcases h2 with h2 | ⟨f, k, Y, e1, e2⟩
  · exact Or.inl (h.symm9.trans9 h2)
  · exact Or.inr ⟨f, k, Y, h.symm9.trans9 e1, e2⟩
theorem TS_r {mk rd : Nat → Nat} {x T T' : List (Nat × Int)} (h : EQ mk T T') (h2 : TS mk rd x T) : TS mk rd x T' := by
  rcases h2 with h2 | ⟨f, k, Y, e1, e2⟩
  · exact Or.inl (h2.trans9 h)
  · exact Or.inr ⟨f, k, Y, e1, h.symm9.trans9 e2⟩
theorem TN_l {mk rd : Nat → Nat} {n : Nat} {x x' y : List (Nat × Int)} (h : EQ mk x x') (h2 : TN mk rd n x y) : TN mk rd n x' y := by
  cases n with
  | zero => exact h.symm9.trans9 h2
  | succ n =>
    obtain ⟨z, a, b⟩ := h2
    exact ⟨z, TS_l h a, b⟩
theorem TS_dia {mk rd : Nat → Nat} (hs : symK mk) {x a b : List (Nat × Int)} (ha : TS mk rd x a) (hb : TS mk rd x b) : ∃ c, TS mk rd a c ∧ TS mk rd b c := by
  rcases ha with ha | ⟨f, h, Y, a1, a2⟩
  · exact ⟨b, TS_l ha hb, Or.inl EQ.rfl9⟩
  · rcases hb with hb | ⟨g, k, Z, b1, b2⟩
    · exact ⟨a, Or.inl EQ.rfl9, TS_l hb (Or.inr ⟨f, h, Y, a1, a2⟩)⟩
    · rcases EQ_bb hs (a1.symm9.trans9 b1) with ⟨e1, e2⟩ | ⟨hc, V, v1, v2⟩
      · have e3 : f = g := congrArg Prod.fst e1
        have e4 : h = k := congrArg Prod.snd e1
        subst e3 e4
        exact ⟨a, Or.inl EQ.rfl9, Or.inl (b2.trans9 ((ps_EQ hs e2).symm9.trans9 a2.symm9))⟩
      · refine ⟨ps mk rd g k (ps mk rd f h V), Or.inr ⟨g, k, ps mk rd f h V, ?_, EQ.rfl9⟩, Or.inr ⟨f, h, ps mk rd g k V, ?_, ?_⟩⟩
        · rw [← ps_snoc (x := (g, k)) (Or.inl (Ne.symm hc.1))]
          exact a2.trans9 (ps_EQ hs v1)
        · rw [← ps_snoc (x := (f, h)) (Or.inl hc.1)]
          exact b2.trans9 (ps_EQ hs v2)
        · exact ps_comm hs (cm_sym hs hc) k h V
theorem TS_str {mk rd : Nat → Nat} (hs : symK mk) : ∀ (n : Nat) {x a b : List (Nat × Int)}, TN mk rd n x b → TS mk rd x a → ∃ c, TN mk rd n a c ∧ TS mk rd b c := by
  intro n
  induction n with
  | zero => intro x a b h1 h2; exact ⟨a, EQ.rfl9, TS_l h1 h2⟩
  | succ n ih =>
    intro x a b h1 h2
    obtain ⟨z, z1, z2⟩ := h1
    obtain ⟨w, w1, w2⟩ := TS_dia hs z1 h2
    obtain ⟨c, c1, c2⟩ := ih z2 w1
    exact ⟨c, ⟨w, w2, c1⟩, c2⟩
theorem TN_con {mk rd : Nat → Nat} (hs : symK mk) : ∀ (m n : Nat) {x a b : List (Nat × Int)}, TN mk rd n x b → TN mk rd m x a → ∃ c, TN mk rd n a c ∧ TN mk rd m b c := by
  intro m
  induction m with
  | zero => intro n x a b h1 h2; exact ⟨b, TN_l h2 h1, EQ.rfl9⟩
  | succ m ih =>
    intro n x a b h1 h2
    obtain ⟨z, z1, z2⟩ := h2
    obtain ⟨w, w1, w2⟩ := TS_str hs n h1 z1
    obtain ⟨c, c1, c2⟩ := ih n w1 z2
    exact ⟨c, c1, ⟨w, w2, c2⟩⟩
theorem TN_tr {mk rd : Nat → Nat} : ∀ {n m : Nat} {x y z : List (Nat × Int)}, TN mk rd n x y → TN mk rd m y z → TN mk rd (n + m) x z
  | 0, m, x, y, z, h1, h2 => by rw [Nat.zero_add]; exact TN_l h1.symm9 h2
  | n + 1, m, x, y, z, h1, h2 => by
    obtain ⟨w, a, b⟩ := h1
    rw [show n + 1 + m = (n + m) + 1 by omega]
    exact ⟨w, a, TN_tr b h2⟩
/-- they come to one -/
def JN (mk rd : Nat → Nat) (a b : List (Nat × Int)) : Prop := ∃ c n m, TN mk rd n a c ∧ TN mk rd m b c
theorem JN_EQ {mk rd : Nat → Nat} {a b : List (Nat × Int)} (h : EQ mk a b) : JN mk rd a b := ⟨b, 0, 0, h, EQ.rfl9⟩
theorem JN_sy {mk rd : Nat → Nat} {a b : List (Nat × Int)} (h : JN mk rd a b) : JN mk rd b a := by
  obtain ⟨c, n, m, h1, h2⟩ := h
  exact ⟨c, m, n, h2, h1⟩
theorem JN_tr {mk rd : Nat → Nat} (hs : symK mk) {a b c : List (Nat × Int)} (h : JN mk rd a b) (h2 : JN mk rd b c) : JN mk rd a c := by
  obtain ⟨x, n, m, a1, a2⟩ := h
  obtain ⟨y, p, q, b1, b2⟩ := h2
  obtain ⟨z, z1, z2⟩ := TN_con hs m p b1 a2
  exact ⟨z, n + p, q + m, TN_tr a1 z1, TN_tr b2 z2⟩
theorem JN_TN {mk rd : Nat → Nat} {n : Nat} {a b : List (Nat × Int)} (h : TN mk rd n a b) : JN mk rd a b := ⟨b, n, 0, h, EQ.rfl9⟩
theorem JN_TS {mk rd : Nat → Nat} {a b : List (Nat × Int)} (h : TS mk rd a b) : JN mk rd a b := JN_TN (n := 1) ⟨b, h, EQ.rfl9⟩
/-- a bundle (or none) below all others -/
def ap (f : Nat) (h : Int) (Y : List (Nat × Int)) : List (Nat × Int) := if h = 0 then Y else Y ++ [(f, h)]
theorem ap_0 (f : Nat) (Y : List (Nat × Int)) : ap f 0 Y = Y := if_pos rfl
theorem ap_n {f : Nat} {h : Int} (hh : h ≠ 0) (Y : List (Nat × Int)) : ap f h Y = Y ++ [(f, h)] := if_neg hh
theorem ap_EQ {mk : Nat → Nat} {f : Nat} {h : Int} {Y Z : List (Nat × Int)} (e : EQ mk Y Z) : EQ mk (ap f h Y) (ap f h Z) := by
  by_cases hh : h = 0
  · rw [hh, ap_0, ap_0]; exact e
  · rw [ap_n hh, ap_n hh]; exact EQ_app e EQ.rfl9
theorem ps_ap {mk rd : Nat → Nat} {f g : Nat} {d h : Int} {Y : List (Nat × Int)} (hg : f ≠ g ∨ ∃ y ∈ Y, dpp mk g y.1) : ps mk rd g d (ap f h Y) = ap f h (ps mk rd g d Y) := by
  by_cases hh : h = 0
  · rw [hh, ap_0, ap_0]
  · rw [ap_n hh, ap_n hh, ps_snoc (x := (f, h)) hg]
theorem ps_apc {mk rd : Nat → Nat} (hs : symK mk) {f : Nat} {d h : Int} (hd : nrm (rd f) d ≠ 0) {Y : List (Nat × Int)} (hY : ∀ y ∈ Y, cm mk f y.1) : EQ mk (ps mk rd f d (ap f h Y)) (ap f (nrm (rd f) (h + d)) Y) := by
  by_cases hh : h = 0
  · rw [hh, ap_0, Int.zero_add, ap_n hd, ps_N (JO_cen hY)]
    exact EQ_mv hs hY
  · rw [ap_n hh, ps_cen hY]
    unfold ap
    exact EQ.rfl9
/-- a tie laid below -/
def lmR (mk rd : Nat → Nat) (f : Nat) (e : Int) (Q Q' : List (Nat × Int)) : Prop := ∃ h Y, nrm (rd f) h = h ∧ EQ mk Q (ap f h Y) ∧ EQ mk Q' (ap f (nrm (rd f) (h + e)) Y)
theorem lm_st {mk rd : Nat → Nat} (hs : symK mk) {f g : Nat} {e d : Int} {Q Q' : List (Nat × Int)} (hd : nrm (rd g) d ≠ 0) (h : lmR mk rd f e Q Q') : lmR mk rd f e (ps mk rd g d Q) (ps mk rd g d Q') := by
  obtain ⟨h, Y, h1, h2, h3⟩ := h
  by_cases hc : f ≠ g ∨ ∃ y ∈ Y, dpp mk g y.1
  · exact ⟨h, ps mk rd g d Y, h1, by rw [← ps_ap hc]; exact ps_EQ hs h2, by rw [← ps_ap hc]; exact ps_EQ hs h3⟩
  · have hfg : f = g := Classical.byContradiction (fun h9 => hc (Or.inl h9))
    subst hfg
    have hY : ∀ y ∈ Y, cm mk f y.1 := by
      intro y hy
      refine Classical.byContradiction (fun h9 => hc (Or.inr ⟨y, hy, not_cm h9⟩))
    refine ⟨nrm (rd f) (h + d), Y, nrm_idem _ _, (ps_EQ hs h2).trans9 (ps_apc hs hd hY), ?_⟩
    have e1 := (ps_EQ (rd := rd) (f := f) (c := d) hs h3).trans9 (ps_apc hs hd hY)
    rw [nrm_add] at e1
    rw [nrm_add, show h + d + e = h + e + d by omega]
    exact e1
theorem lm_W {mk rd : Nat → Nat} (hs : symK mk) {f : Nat} {e : Int} : ∀ {W Q Q' : List (Nat × Int)}, (∀ x ∈ W, nrm (rd x.1) x.2 ≠ 0) → lmR mk rd f e Q Q' → lmR mk rd f e (pW mk rd Q W) (pW mk rd Q' W)
  | [], _, _, _, h => h
  | x :: W, _, _, hw, h => lm_W hs (W := W) (fun y hy => hw y (List.mem_cons_of_mem _ hy)) (lm_st hs (hw x (List.mem_cons_self ..)) h)
theorem nrm_sub0 {m : Nat} {e : Int} (he : nrm m e ≠ 0) {h : Int} (h1 : nrm m h = h) (h2 : h = 0) : nrm m (h + -e) ≠ 0 := by
  rw [h2, Int.zero_add]
  intro h3
  apply he
  have := nrm_add m (-e) e
  rw [h3, Int.zero_add, show -e + e = 0 by omega, nrm_z] at this
  exact this
/-- a tie taken around: it comes to the same -/
theorem JN_conj {mk rd : Nat → Nat} (hs : symK mk) {f : Nat} {e : Int} (he : nrm (rd f) e ≠ 0) {Q Q' : List (Nat × Int)} (hQ : Red mk Q) (hC : okC rd Q) (hQ' : Red mk Q') (hC' : okC rd Q') (h : lmR mk rd f (-e) Q Q') : JN mk rd Q (ps mk rd f e Q') := by
  obtain ⟨h, Y, h1, h2, h3⟩ := h
  have hYY : Red mk Y ∧ okC rd Y := by
    by_cases hh : h = 0
    · rw [hh, ap_0] at h2
      exact ⟨EQ_red hs hQ h2, EQ_okC h2 hC⟩
    · rw [ap_n hh] at h2
      exact ⟨Red_init (EQ_red hs hQ h2), fun x hx => EQ_okC h2 hC x (List.mem_append_left _ hx)⟩
  have e9 : nrm (rd f) (nrm (rd f) (h + -e) + e) = h := by rw [nrm_add, show h + -e + e = h by omega, h1]
  by_cases hcen : ∀ y ∈ Y, cm mk f y.1
  · refine JN_EQ (h2.trans9 ?_)
    have := (ps_EQ (rd := rd) (f := f) (c := e) hs h3).trans9 (ps_apc hs he hcen)
    rw [e9] at this
    exact this.symm9
  · have hex : ∃ y ∈ Y, dpp mk f y.1 := by
      refine Classical.byContradiction (fun h9 => hcen (fun y hy => Classical.byContradiction (fun h8 => h9 ⟨y, hy, not_cm h8⟩)))
    have h4 : EQ mk (ps mk rd f e Q') (ap f (nrm (rd f) (h + -e)) (ps mk rd f e Y)) := by
      rw [← ps_ap (Or.inr hex)]
      exact ps_EQ hs h3
    -- where both come to
    have hx' : JN mk rd (ps mk rd f e Q') (if h = 0 then Y else ps mk rd f h Y) := by
      by_cases hz : nrm (rd f) (h + -e) = 0
      · rw [hz, ap_0] at h4
        have hh : h ≠ 0 := fun h9 => nrm_sub0 he h1 h9 hz
        have ehe : nrm (rd f) h = nrm (rd f) e := by
          have := nrm_add (rd f) (h + -e) e
          rw [hz, Int.zero_add, show h + -e + e = h by omega] at this
          exact this.symm
        rw [if_neg hh]
        refine JN_EQ (h4.trans9 ?_)
        have : ps mk rd f e Y = ps mk rd f h Y := by
          have ej : ∀ {Z : List (Nat × Int)}, jn mk rd f e Z = jn mk rd f h Z := by
            intro Z
            induction Z with
            | nil => rfl
            | cons z Z ihZ =>
              have en : nrm (rd f) (z.2 + e) = nrm (rd f) (z.2 + h) := by rw [← nrm_add2, ← ehe, nrm_add2]
              rw [jn_cons, jn_cons, ihZ, en]
          unfold ps
          rw [ej, ehe]
        rw [this]
        exact EQ.rfl9
      · rw [ap_n hz] at h4
        have e5 := ps_add (mk := mk) (rd := rd) (f := f) (c := nrm (rd f) (h + -e)) (d := e) hs (by rw [nrm_idem]; exact hz) hYY.1 hYY.2
        rw [e9] at e5
        refine JN_TS (Or.inr ⟨f, _, _, h4, ?_⟩)
        by_cases hh : h = 0
        · rw [if_pos hh]
          rw [if_pos hh] at e5
          exact e5.symm9
        · rw [if_neg hh]
          rw [if_neg hh] at e5
          refine EQ.trans9 ?_ e5.symm9
          have ej : ∀ {Z : List (Nat × Int)}, jn mk rd f (nrm (rd f) (h + -e) + e) Z = jn mk rd f h Z := by
            intro Z
            induction Z with
            | nil => rfl
            | cons z Z ihZ =>
              have en : nrm (rd f) (z.2 + (nrm (rd f) (h + -e) + e)) = nrm (rd f) (z.2 + h) := by rw [← nrm_add2, e9]
              rw [jn_cons, jn_cons, ihZ, en]
          have : ps mk rd f (nrm (rd f) (h + -e) + e) Y = ps mk rd f h Y := by
            unfold ps
            rw [ej, e9, h1]
          rw [this]
          exact EQ.rfl9
    have hx : JN mk rd Q (if h = 0 then Y else ps mk rd f h Y) := by
      by_cases hh : h = 0
      · rw [if_pos hh]
        rw [hh, ap_0] at h2
        exact JN_EQ h2
      · rw [if_neg hh]
        rw [ap_n hh] at h2
        exact JN_TS (Or.inr ⟨f, h, Y, h2, EQ.rfl9⟩)
    exact JN_tr hs hx (JN_sy hx')
