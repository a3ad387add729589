/-! PURE: rings by words: a tie taken around -/
theorem lm_nil {mk rd : Nat → Nat} (hr : okR rd) (t : Nat) : lmR mk rd (t / 2) (sg t) [] (psT mk rd [] t) :=
  ⟨0, [], nrm_z _, by rw [ap_0]; exact EQ.rfl9, by rw [Int.zero_add, ap_n (nrm_sg (hr _) t)]; exact EQ.rfl9⟩
theorem okCn (rd : Nat → Nat) : okC rd [] := fun x hx => by cases hx
theorem gq_left {mk rd : Nat → Nat} (hs : symK mk) (hr : okR rd) (t : Nat) {V W : List Nat} (h : EQ mk (psL mk rd [] V) (psL mk rd [] W)) : EQ mk (psL mk rd [] (t :: V)) (psL mk rd [] (t :: W)) := by
  have h1 : psL mk rd [] (V ++ bk W) = [] := by
    apply EQ.nil9
    rw [psL_app]
    refine (psL_EQ hs h).trans9 ?_
    rw [← psL_app]
    exact psL_bk hs hr (Q := []) trivial (okCn rd)
  obtain ⟨k, Y, k1, k2, k3⟩ := lm_W hs (tw_ok hr (V ++ bk W)) (lm_nil (mk := mk) hr t)
  rw [← psL_pW, h1] at k2
  rw [← psL_pW] at k3
  have hk : ap (t / 2) k Y = [] := EQ.nil9 k2.symm9
  have hk0 : k = 0 := by
    refine Classical.byContradiction (fun h9 => ?_)
    rw [ap_n h9] at hk
    simp at hk
  rw [hk0, ap_0] at hk
  rw [hk, hk0, Int.zero_add] at k3
  have e1 : ap (t / 2) (nrm (rd (t / 2)) (sg t)) [] = psT mk rd [] t := by rw [ap_n (nrm_sg (hr _) t)]; rfl
  rw [e1] at k3
  have hR : Red mk (psL mk rd [] (t :: V)) := psL_red hs (Q := []) trivial
  have hC : okC rd (psL mk rd [] (t :: V)) := psL_okC hr (okCn rd)
  have h5 := psL_bk (L := bk W) hs hr hR hC
  rw [bk_bk, psL_app, ← psL_app, psL_app] at h5
  have h6 : psL mk rd (psL mk rd [] (t :: V)) (bk W) = psL mk rd (psT mk rd [] t) (V ++ bk W) := by rw [psL_app]; rfl
  have h7 : EQ mk (psL mk rd (psL mk rd (psL mk rd [] (t :: V)) (bk W)) W) (psL mk rd [] (t :: V)) := h5
  rw [h6] at h7
  exact h7.symm9.trans9 (psL_EQ hs k3)
def tkW (t : Nat) (V : List Nat) : List Nat := tn t :: (V ++ [t])
theorem gq_tk {mk rd : Nat → Nat} (hs : symK mk) (hr : okR rd) (t : Nat) {V W : List Nat} (h : EQ mk (psL mk rd [] V) (psL mk rd [] W)) : EQ mk (psL mk rd [] (tkW t V)) (psL mk rd [] (tkW t W)) := by
  unfold tkW
  apply gq_left hs hr
  rw [psL_app, psL_app]
  exact psL_EQ hs h
theorem gq_back {mk rd : Nat → Nat} (hs : symK mk) (hr : okR rd) (t : Nat) (V : List Nat) : EQ mk (psL mk rd [] (tkW (tn t) (tkW t V))) (psL mk rd [] V) := by
  have e : tkW (tn t) (tkW t V) = [t, tn t] ++ (V ++ [t, tn t]) := by unfold tkW; rw [tn_tn]; simp
  rw [e, psL_app]
  have h0 : psL mk rd [] [t, tn t] = [] := EQ.nil9 (psT_back (t := t) hs (Q := []) trivial (okCn rd))
  rw [h0, psL_app]
  exact psT_back (t := t) hs (psL_red hs (Q := []) trivial) (psL_okC hr (okCn rd))
theorem JN_tk {mk rd : Nat → Nat} (hs : symK mk) (hr : okR rd) (t : Nat) (V : List Nat) : JN mk rd (psL mk rd [] V) (psL mk rd [] (tkW t V)) := by
  have h1 := lm_W hs (tw_ok hr V) (lm_nil (mk := mk) hr (tn t))
  rw [← psL_pW, ← psL_pW, tn_half, tn_sg] at h1
  have h2 := JN_conj hs (nrm_sg (hr (t / 2)) t) (psL_red hs (Q := []) trivial) (psL_okC hr (okCn rd)) (psL_red hs (ps_red hs (Q := []) trivial)) (psL_okC hr (ps_okC (by rw [tn_half]; exact nrm_sg (hr _) _) (okCn rd))) h1
  have e : psL mk rd [] (tkW t V) = ps mk rd (t / 2) (sg t) (psL mk rd (psT mk rd [] (tn t)) V) := by
    unfold tkW
    show psL mk rd (psT mk rd [] (tn t)) (V ++ [t]) = _
    rw [psL_app]
    rfl
  rw [e]
  exact h2
theorem ps_cong {mk rd : Nat → Nat} {f : Nat} {c d : Int} (h : nrm (rd f) c = nrm (rd f) d) (Q : List (Nat × Int)) : ps mk rd f c Q = ps mk rd f d Q := by
  have ej : ∀ {Z : List (Nat × Int)}, jn mk rd f c Z = jn mk rd f d Z := by
    intro Z
    induction Z with
    | nil => rfl
    | cons z Z ih =>
      have en : nrm (rd f) (z.2 + c) = nrm (rd f) (z.2 + d) := by rw [← nrm_add2, h, nrm_add2]
      rw [jn_cons, jn_cons, ih, en]
  unfold ps
  rw [ej, h]
theorem rep_ap {mk rd : Nat → Nat} (hs : symK mk) (hr : okR rd) (s : Nat) : ∀ j : Nat, EQ mk (psL mk rd [] (List.replicate j s)) (ap (s / 2) (nrm (rd (s / 2)) ((j : Int) * sg s)) [])
  | 0 => by
    rw [show ((0 : Nat) : Int) * sg s = 0 by simp, nrm_z, ap_0]
    exact EQ.rfl9
  | j + 1 => by
    have e : List.replicate (j + 1) s = List.replicate j s ++ [s] := by rw [List.replicate_succ']
    rw [e, psL_snoc]
    refine (ps_EQ hs (rep_ap hs hr s j)).trans9 ?_
    have h := ps_apc (mk := mk) (rd := rd) (f := s / 2) (d := sg s) (h := nrm (rd (s / 2)) ((j : Int) * sg s)) hs (nrm_sg (hr _) s) (Y := []) (fun y hy => by cases hy)
    rw [nrm_add, show (j : Int) * sg s + sg s = ((j + 1 : Nat) : Int) * sg s by rw [Int.natCast_add, Int.add_mul]; simp] at h
    exact h
def pz (mk rd : Nat → Nat) (f : Nat) (c : Int) (Q : List (Nat × Int)) : List (Nat × Int) := if nrm (rd f) c = 0 then Q else ps mk rd f c Q
theorem rep_pz {mk rd : Nat → Nat} (hs : symK mk) (hr : okR rd) (s : Nat) {Q : List (Nat × Int)} (hR : Red mk Q) (hC : okC rd Q) : ∀ j : Nat, EQ mk (psL mk rd Q (List.replicate j s)) (pz mk rd (s / 2) ((j : Int) * sg s) Q)
  | 0 => by
    unfold pz
    rw [show ((0 : Nat) : Int) * sg s = 0 by simp, nrm_z, if_pos rfl]
    exact EQ.rfl9
  | j + 1 => by
    have e : List.replicate (j + 1) s = List.replicate j s ++ [s] := by rw [List.replicate_succ']
    have hj : ((j + 1 : Nat) : Int) * sg s = sg s + (j : Int) * sg s := by rw [Int.natCast_add, Int.add_mul]; simp [Int.add_comm]
    rw [e, psL_snoc, hj]
    refine (ps_EQ hs (rep_pz hs hr s hR hC j)).trans9 ?_
    unfold pz
    by_cases h0 : nrm (rd (s / 2)) ((j : Int) * sg s) = 0
    · have e1 : nrm (rd (s / 2)) (sg s + (j : Int) * sg s) = nrm (rd (s / 2)) (sg s) := by rw [← nrm_add2, h0, Int.add_zero]
      rw [if_pos h0, if_neg (by rw [e1]; exact nrm_sg (hr _) s), ps_cong e1]
      exact EQ.rfl9
    · rw [if_neg h0]
      exact ps_add hs (nrm_sg (hr _) s) hR hC
theorem tt_EQ {mk rd : Nat → Nat} (hs : symK mk) : ∀ (k : Nat) {x y : List (Nat × Int)}, x.length = k → EQ mk x y → tt rd x = tt rd y := by
  intro k
  induction k with
  | zero =>
    intro x y hk h
    rw [List.eq_nil_of_length_eq_zero hk] at h ⊢
    rw [EQ.nil9 h.symm9]
  | succ k ih =>
    intro x y hk h
    cases x with
    | nil => cases hk
    | cons a x =>
      obtain ⟨B1, B2, e1, _, e3⟩ := EQ_top hs h
      have := ih (by rw [List.length_cons] at hk; omega) e3
      rw [e1, tt_ap2]
      rw [tt_ap2] at this
      show bn rd a + tt rd x = tt rd B1 + (bn rd a + tt rd B2)
      omega
theorem bn0 (rd : Nat → Nat) (f : Nat) : bn rd (f, 0) = 0 := by
  show (tv (rd f) 0).natAbs = 0
  unfold tv
  split
  · rfl
  · rw [if_pos (by omega)]; rfl
theorem tt_apz (rd : Nat → Nat) (f : Nat) (a : Int) (Y : List (Nat × Int)) : tt rd (ap f a Y) = tt rd Y + bn rd (f, a) := by
  by_cases h : a = 0
  · rw [h, ap_0, bn0]; rfl
  · rw [ap_n h, tt_ap2]; rfl
theorem tt_pz {mk rd : Nat → Nat} (hr : okR rd) {f : Nat} {c : Int} {Q : List (Nat × Int)} (hC : okC rd Q) : tt rd (pz mk rd f c Q) ≤ tt rd Q + bn rd (f, nrm (rd f) c) := by
  unfold pz
  split
  · omega
  · rw [ps_cong (d := nrm (rd f) c) (nrm_idem _ _).symm]
    exact tt_psb (x := (f, nrm (rd f) c)) hr hC (nrm_idem _ _)
/-- the tie that a bundle is made of -/
theorem bt_sg (rd : Nat → Nat) (x : Nat × Int) : sg (bt rd x) = if 0 < tv (rd x.1) x.2 then 1 else -1 := by
  unfold bt sg
  split
  · rw [if_pos (by omega)]
  · rw [if_neg (by omega)]
theorem bn_parts {rd : Nat → Nat} (hr : okR rd) {f : Nat} {h : Int} (h1 : nrm (rd f) h = h) {j : Nat} (hj : j ≤ bn rd (f, h)) : bn rd (f, nrm (rd f) (h + -((j : Int) * sg (bt rd (f, h))))) + bn rd (f, nrm (rd f) ((j : Int) * sg (bt rd (f, h)))) ≤ bn rd (f, h) ∧ (j = bn rd (f, h) → nrm (rd f) (h + -((j : Int) * sg (bt rd (f, h)))) = 0) := by
  have hb : sg (bt rd (f, h)) = if 0 < tv (rd f) h then 1 else -1 := bt_sg rd (f, h)
  have hbn : ∀ z, bn rd (f, z) = (tv (rd f) z).natAbs := fun z => rfl
  rw [hbn] at hj
  rw [hb, hbn, hbn, hbn]
  rcases hr f with e | e | e | e
  · by_cases hp : 0 < tv (rd f) h
    · rw [if_pos hp]
      rw [e] at h1 hj hp ⊢
      simp only [nrm0, tvm0] at h1 hj hp ⊢
      constructor <;> intros <;> omega
    · rw [if_neg hp]
      rw [e] at h1 hj hp ⊢
      simp only [nrm0, tvm0] at h1 hj hp ⊢
      constructor <;> intros <;> omega
  · rw [e] at h1 hj ⊢
    simp only [nrm2, tvm2] at h1 hj ⊢
    have : h = 0 ∨ h = 1 := by omega
    have hj2 : j = 0 ∨ j = 1 := by
      rcases this with rfl | rfl
      · left; simp at hj; omega
      · simp at hj; omega
    rcases this with rfl | rfl <;> rcases hj2 with rfl | rfl <;> simp at hj ⊢
  · rw [e] at h1 hj ⊢
    simp only [nrm3, tvm3] at h1 hj ⊢
    have : h = 0 ∨ h = 1 ∨ h = 2 := by omega
    have hj2 : j = 0 ∨ j = 1 := by
      rcases this with rfl | rfl | rfl <;> simp at hj <;> omega
    rcases this with rfl | rfl | rfl <;> rcases hj2 with rfl | rfl <;> simp at hj ⊢
  · rw [e] at h1 hj ⊢
    simp only [nrm4, tvm4] at h1 hj ⊢
    have : h = 0 ∨ h = 1 ∨ h = 2 ∨ h = 3 := by omega
    have hj2 : j = 0 ∨ j = 1 ∨ j = 2 := by
      rcases this with rfl | rfl | rfl | rfl <;> simp at hj <;> omega
    rcases this with rfl | rfl | rfl | rfl <;> rcases hj2 with rfl | rfl | rfl <;> simp at hj ⊢

/-! PURE: a search that is closed under single ties is closed under turns -/
def cjW (t j : Nat) (V : List Nat) : List Nat := List.replicate j (tn t) ++ (V ++ List.replicate j t)
theorem cj_0 (t : Nat) (V : List Nat) : cjW t 0 V = V := by simp [cjW]
theorem cj_s (t j : Nat) (V : List Nat) : tkW t (cjW t j V) = cjW t (j + 1) V := by
  unfold tkW cjW
  rw [List.replicate_succ, List.replicate_succ' (n := j) (a := t)]
  simp
theorem bt_f2 (rd : Nat → Nat) (f : Nat) (h : Int) : bt rd (f, h) / 2 = f := bt_f rd (f, h)
theorem cj_ps {mk rd : Nat → Nat} (hs : symK mk) (hr : okR rd) {V : List Nat} {f t j : Nat} {h : Int} {Y : List (Nat × Int)} (ht : t / 2 = f) (h1 : nrm (rd f) h = h) (h2 : h ≠ 0) (hV : EQ mk (psL mk rd [] V) (Y ++ [(f, h)])) : EQ mk (psL mk rd [] (cjW t j V)) (pz mk rd f ((j : Int) * sg t) (ap f (nrm (rd f) (h + -((j : Int) * sg t))) Y)) := by
  subst ht
  have hA := rep_ap (mk := mk) hs hr (tn t) j
  rw [tn_half, tn_sg, show (j : Int) * -sg t = -((j : Int) * sg t) by rw [Int.mul_neg]] at hA
  have hl : lmR mk rd (t / 2) (-((j : Int) * sg t)) [] (psL mk rd [] (List.replicate j (tn t))) := ⟨0, [], nrm_z _, by rw [ap_0]; exact EQ.rfl9, by rw [Int.zero_add]; exact hA⟩
  obtain ⟨h', Y', k1, k2, k3⟩ := lm_W hs (tw_ok hr V) hl
  rw [← psL_pW] at k2 k3
  have hRA : Red mk (psL mk rd (psL mk rd [] (List.replicate j (tn t))) V) := psL_red hs (psL_red hs (Q := []) trivial)
  have hCA : okC rd (psL mk rd (psL mk rd [] (List.replicate j (tn t))) V) := psL_okC hr (psL_okC hr (okCn rd))
  have key : EQ mk (psL mk rd (psL mk rd [] (List.replicate j (tn t))) V) (ap (t / 2) (nrm (rd (t / 2)) (h + -((j : Int) * sg t))) Y) := by
    by_cases h0 : h' = 0
    · rw [h0, ap_0] at k2
      rw [h0, Int.zero_add] at k3
      have e1 : EQ mk Y' (Y ++ [(t / 2, h)]) := k2.symm9.trans9 hV
      by_cases hz : nrm (rd (t / 2)) (-((j : Int) * sg t)) = 0
      · rw [hz, ap_0] at k3
        have e2 : nrm (rd (t / 2)) (h + -((j : Int) * sg t)) = h := by rw [← nrm_add2, hz, Int.add_zero, h1]
        rw [e2, ap_n h2]
        exact k3.trans9 e1
      · rw [ap_n hz] at k3
        exact absurd (EQ_red hs hRA (k3.trans9 (EQ_app e1 EQ.rfl9))) no_two
    · rw [ap_n h0] at k2
      rcases EQ_bb hs (hV.symm9.trans9 k2) with ⟨e1, e2⟩ | ⟨hc, _⟩
      · have e3 : h = h' := congrArg Prod.snd e1
        rw [e3]
        exact k3.trans9 (ap_EQ e2.symm9)
      · exact absurd rfl hc.1
  have e5 : psL mk rd [] (cjW t j V) = psL mk rd (psL mk rd (psL mk rd [] (List.replicate j (tn t))) V) (List.replicate j t) := by
    unfold cjW
    rw [psL_app, psL_app]
  rw [e5]
  refine (rep_pz hs hr t hRA hCA j).trans9 ?_
  unfold pz
  split
  · exact key
  · exact ps_EQ hs key
theorem cj_tt {mk rd : Nat → Nat} (hs : symK mk) (hr : okR rd) {V : List Nat} {f j : Nat} {h : Int} {Y : List (Nat × Int)} (hV : EQ mk (psL mk rd [] V) (Y ++ [(f, h)])) (hj : j ≤ bn rd (f, h)) : tt rd (psL mk rd [] (cjW (bt rd (f, h)) j V)) ≤ tt rd (psL mk rd [] V) ∧ (j = bn rd (f, h) → EQ mk (psL mk rd [] (cjW (bt rd (f, h)) j V)) (ps mk rd f h Y)) := by
  have hCV : okC rd (psL mk rd [] V) := psL_okC hr (okCn rd)
  have hC2 := EQ_okC hV hCV
  have hh : nrm (rd f) h = h ∧ h ≠ 0 := hC2 (f, h) (by simp)
  have hCY : okC rd Y := fun x hx => hC2 x (List.mem_append_left _ hx)
  have e := cj_ps (j := j) hs hr (bt_f2 rd f h) hh.1 hh.2 hV
  obtain ⟨b1, b2⟩ := bn_parts hr (f := f) (h := h) hh.1 hj
  constructor
  · rw [tt_EQ hs _ rfl e, tt_EQ hs _ rfl hV]
    have hCa : okC rd (ap f (nrm (rd f) (h + -((j : Int) * sg (bt rd (f, h))))) Y) := by
      by_cases h0 : nrm (rd f) (h + -((j : Int) * sg (bt rd (f, h)))) = 0
      · rw [h0, ap_0]; exact hCY
      · rw [ap_n h0]
        intro x hx
        rcases List.mem_append.mp hx with hx | hx
        · exact hCY x hx
        · rw [List.mem_singleton.mp hx]; exact ⟨nrm_idem _ _, h0⟩
    have h3 := tt_pz (mk := mk) (f := f) (c := (j : Int) * sg (bt rd (f, h))) hr hCa
    rw [tt_apz] at h3
    rw [tt_ap2]
    have h4 : tt rd [(f, h)] = bn rd (f, h) := rfl
    omega
  · intro hjb
    have hz := b2 hjb
    rw [hz, ap_0] at e
    have hcong : nrm (rd f) ((j : Int) * sg (bt rd (f, h))) = nrm (rd f) h := by
      have := nrm_add (rd f) (h + -((j : Int) * sg (bt rd (f, h)))) ((j : Int) * sg (bt rd (f, h)))
      rw [hz, Int.zero_add] at this
      rw [this]
      congr 1
      omega
    unfold pz at e
    rw [if_neg (by rw [hcong, hh.1]; exact hh.2), ps_cong hcong] at e
    exact e
/-- closed under single ties, none shorter -/
def clR (n : Nat) (mk rd : Nat → Nat) (P : List Nat → Prop) : Prop := (∀ V W, EQ mk (psL mk rd [] V) (psL mk rd [] W) → P V → P W) ∧ ∀ V, P V → ∀ t, t < 2 * n → tt rd (psL mk rd [] V) ≤ tt rd (psL mk rd [] (tkW t V)) ∧ (tt rd (psL mk rd [] (tkW t V)) = tt rd (psL mk rd [] V) → P (tkW t V))
theorem cl_cj {n : Nat} {mk rd : Nat → Nat} (hs : symK mk) (hr : okR rd) {P : List Nat → Prop} (hP : clR n mk rd P) {V : List Nat} {f : Nat} {h : Int} {Y : List (Nat × Int)} (hf : f < n) (hV : EQ mk (psL mk rd [] V) (Y ++ [(f, h)])) (h1 : P V) : ∀ j, j ≤ bn rd (f, h) → P (cjW (bt rd (f, h)) j V) ∧ tt rd (psL mk rd [] (cjW (bt rd (f, h)) j V)) = tt rd (psL mk rd [] V)
  | 0, _ => by rw [cj_0]; exact ⟨h1, rfl⟩
  | j + 1, hj => by
    obtain ⟨i1, i2⟩ := cl_cj hs hr hP hf hV h1 j (by omega)
    have ht : bt rd (f, h) < 2 * n := by have := bt_f2 rd f h; omega
    obtain ⟨a, b⟩ := hP.2 _ i1 _ ht
    rw [cj_s] at a b
    have hle := (cj_tt hs hr hV hj).1
    exact ⟨b (by omega), by omega⟩
theorem cl_TS {n : Nat} {mk rd : Nat → Nat} (hs : symK mk) (hr : okR rd) {P : List Nat → Prop} (hP : clR n mk rd P) {V : List Nat} {T : List (Nat × Int)} (hn : ∀ x ∈ psL mk rd [] V, x.1 < n) (h1 : P V) (h : TS mk rd (psL mk rd [] V) T) : ∃ W, P W ∧ EQ mk (psL mk rd [] W) T := by
  rcases h with h | ⟨f, k, Y, e1, e2⟩
  · exact ⟨V, h1, h⟩
  · have hf : f < n := hn (f, k) (EQ_memi e1.symm9 (by simp))
    exact ⟨_, (cl_cj hs hr hP hf e1 h1 _ (Nat.le_refl _)).1, ((cj_tt hs hr e1 (Nat.le_refl _)).2 rfl).trans9 e2.symm9⟩
theorem cl_TN {n : Nat} {mk rd : Nat → Nat} (hs : symK mk) (hr : okR rd) {P : List Nat → Prop} (hP : clR n mk rd P) (hn : ∀ V, P V → ∀ x ∈ psL mk rd [] V, x.1 < n) : ∀ (m : Nat) {V : List Nat} {T : List (Nat × Int)}, P V → TN mk rd m (psL mk rd [] V) T → ∃ W, P W ∧ EQ mk (psL mk rd [] W) T
  | 0, V, T, h1, h => ⟨V, h1, h⟩
  | m + 1, V, T, h1, h => by
    obtain ⟨z, z1, z2⟩ := h
    obtain ⟨W, w1, w2⟩ := cl_TS hs hr hP (hn V h1) h1 z1
    exact cl_TN hs hr hP hn m w1 (TN_l w2.symm9 z2)
/-- k level steps -/
def LPn (n : Nat) (mk rd : Nat → Nat) (V : List Nat) : Nat → List Nat → Prop
  | 0, W => EQ mk (psL mk rd [] V) (psL mk rd [] W)
  | k + 1, W => ∃ Z t, LPn n mk rd V k Z ∧ t < 2 * n ∧ tt rd (psL mk rd [] (tkW t Z)) = tt rd (psL mk rd [] Z) ∧ EQ mk (psL mk rd [] (tkW t Z)) (psL mk rd [] W)
theorem LP_r {n : Nat} {mk rd : Nat → Nat} {V W W' : List Nat} : ∀ {k : Nat}, EQ mk (psL mk rd [] W) (psL mk rd [] W') → LPn n mk rd V k W → LPn n mk rd V k W'
  | 0, h, h2 => EQ.trans9 h2 h
  | k + 1, h, ⟨Z, t, a, b, c, d⟩ => ⟨Z, t, a, b, c, d.trans9 h⟩
theorem LP_in {n : Nat} {mk rd : Nat → Nat} {P : List Nat → Prop} (hP : clR n mk rd P) {V : List Nat} (hV : P V) : ∀ {k : Nat} {W : List Nat}, LPn n mk rd V k W → P W
  | 0, W, h => hP.1 V W h hV
  | k + 1, W, ⟨Z, t, a, b, c, d⟩ => hP.1 _ _ d ((hP.2 Z (LP_in hP hV a) t b).2 c)
theorem LP_back {n : Nat} {mk rd : Nat → Nat} (hs : symK mk) (hr : okR rd) {P : List Nat → Prop} (hP : clR n mk rd P) {V : List Nat} : ∀ {k : Nat} {W : List Nat}, LPn n mk rd V k W → P W → P V
  | 0, W, h, hW => hP.1 W V (EQ.symm9 h) hW
  | k + 1, W, ⟨Z, t, a, b, c, d⟩, hW => by
    have h1 := hP.1 _ _ d.symm9 hW
    have h2 := hP.2 _ h1 (tn t) (tn_lt b)
    have e := gq_back (mk := mk) (rd := rd) hs hr t Z
    have h3 := h2.2 (by rw [tt_EQ hs _ rfl e]; exact c.symm)
    exact LP_back hs hr hP a (hP.1 _ _ e h3)
theorem LP_cl {n : Nat} {mk rd : Nat → Nat} {P : List Nat → Prop} (hP : clR n mk rd P) {V : List Nat} (hV : P V) : clR n mk rd (fun W => ∃ k, LPn n mk rd V k W) := by
  refine ⟨fun W W' h ⟨k, hk⟩ => ⟨k, LP_r h hk⟩, fun W ⟨k, hk⟩ t ht => ?_⟩
  have h := hP.2 W (LP_in hP hV hk) t ht
  exact ⟨h.1, fun e => ⟨k + 1, W, t, hk, ht, e, EQ.rfl9⟩⟩
/-- what the reference finds -/
theorem cl_JN {n : Nat} {mk rd : Nat → Nat} (hs : symK mk) (hr : okR rd) {P R : List Nat → Prop} (hP : clR n mk rd P) (hR : clR n mk rd R) (hnP : ∀ V, P V → ∀ x ∈ psL mk rd [] V, x.1 < n) (hnR : ∀ V, R V → ∀ x ∈ psL mk rd [] V, x.1 < n) {U V : List Nat} (hU : P U) (hV : R V) (h : JN mk rd (psL mk rd [] U) (psL mk rd [] V)) : P V := by
  obtain ⟨c, a, b, h1, h2⟩ := h
  obtain ⟨W1, w1, w2⟩ := cl_TN hs hr hP hnP a hU h1
  obtain ⟨W2, ⟨k, v1⟩, v2⟩ := cl_TN hs hr (LP_cl hR hV) (fun W ⟨k, hk⟩ => hnR W (LP_in hR hV hk)) b ⟨0, EQ.rfl9⟩ h2
  exact LP_back hs hr hP v1 (hP.1 _ _ (w2.trans9 v2.symm9) w1)
