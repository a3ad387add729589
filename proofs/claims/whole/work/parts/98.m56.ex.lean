/-! PURE: bundles laid out as single ties -/
def exb (rd : Nat → Nat) (x : Nat × Int) : List (Nat × Int) := List.replicate (bn rd x) (x.1, sg (bt rd x))
def exL (rd : Nat → Nat) (W : List (Nat × Int)) : List (Nat × Int) := W.flatMap (exb rd)
def ex (rd : Nat → Nat) (Q : List (Nat × Int)) : List (Nat × Int) := exL rd Q.reverse
theorem exL_app (rd : Nat → Nat) (A B : List (Nat × Int)) : exL rd (A ++ B) = exL rd A ++ exL rd B := by unfold exL; rw [List.flatMap_append]
theorem exL_c (rd : Nat → Nat) (x : Nat × Int) (A : List (Nat × Int)) : exL rd (x :: A) = exb rd x ++ exL rd A := rfl
theorem exb_f {rd : Nat → Nat} {x y : Nat × Int} (h : y ∈ exb rd x) : y.1 = x.1 := by rw [(List.mem_replicate.mp h).2]
theorem exL_f {rd : Nat → Nat} {A : List (Nat × Int)} {y : Nat × Int} (h : y ∈ exL rd A) : ∃ x ∈ A, y.1 = x.1 := by
  obtain ⟨x, h1, h2⟩ := List.mem_flatMap.mp h
  exact ⟨x, h1, exb_f h2⟩
theorem EQ_blk {mk : Nat → Nat} (hs : symK mk) : ∀ (A B : List (Nat × Int)), (∀ a ∈ A, ∀ b ∈ B, cm mk a.1 b.1) → EQ mk (A ++ B) (B ++ A)
  | [], B, _ => by rw [List.append_nil]; exact EQ.rfl9
  | a :: A, B, h => by
    have h1 := EQ_blk hs A B (fun x hx => h x (List.mem_cons_of_mem _ hx))
    exact (EQ_cons a h1).trans9 (EQ_mid hs (h a (List.mem_cons_self ..))).symm9
theorem prj_exb {rd : Nat → Nat} {f g : Nat} {x : Nat × Int} : (x.1 = f ∨ x.1 = g → prj f g (exb rd x) = exb rd x) ∧ (¬ (x.1 = f ∨ x.1 = g) → prj f g (exb rd x) = []) := by
  constructor
  · intro h
    unfold prj
    rw [List.filter_eq_self]
    intro y hy
    rw [exb_f hy]
    simpa using h
  · intro h
    apply prj_nil
    intro y hy
    rw [exb_f hy]
    exact ⟨fun e => h (Or.inl e), fun e => h (Or.inr e)⟩
theorem prj_exL {rd : Nat → Nat} {f g : Nat} : ∀ W : List (Nat × Int), prj f g (exL rd W) = exL rd (prj f g W)
  | [] => rfl
  | x :: W => by
    rw [exL_c, prj_app, prj_exL W]
    by_cases h : x.1 = f ∨ x.1 = g
    · rw [prj_exb.1 h, prj_cons_in h, exL_c]
    · rw [prj_exb.2 h, prj_cons_out (fun e => h (Or.inl e)) (fun e => h (Or.inr e))]; rfl
theorem ex_EQ {mk rd : Nat → Nat} {Q P : List (Nat × Int)} (h : EQ mk Q P) : EQ mk (ex rd Q) (ex rd P) := by
  intro f g hf
  unfold ex
  rw [prj_exL, prj_exL, prj_rev, prj_rev, h f g hf]
theorem ex_FM {mk rd : Nat → Nat} (hs : symK mk) : ∀ (k : Nat) {Q : List (Nat × Int)} {O : List Nat}, FM mk k (bu rd Q) O → EQ mk (O.map tw) (ex rd Q) := by
  intro k
  induction k with
  | zero =>
    intro Q O h1
    obtain ⟨e1, e2⟩ := h1
    have hQ : Q = [] := by
      unfold bu at e1
      exact List.reverse_eq_nil_iff.mp (List.map_eq_nil_iff.mp e1)
    rw [hQ, e2]
    exact EQ.rfl9
  | succ k ih =>
    intro Q O h1
    obtain ⟨A, t, m, B, O1, e1, b1, o1, f1⟩ := h1
    obtain ⟨C, D, x, q1, q2, q3, q4, q5, q6⟩ := bot_first e1 b1
    have hih := ih (Q := C ++ D) (O := O1) (q5 ▸ f1)
    have hx : (List.replicate m t).map tw = exb rd x := by
      rw [List.map_replicate, q2, q3]
      unfold exb tw
      rw [bt_f]
    have hQ : ex rd Q = exL rd D.reverse ++ (exb rd x ++ exL rd C.reverse) := by
      unfold ex
      rw [q1, List.reverse_append, List.reverse_cons, exL_app, exL_app, exL_c, List.append_assoc]
      unfold exL
      simp
    have hQ2 : ex rd (C ++ D) = exL rd D.reverse ++ exL rd C.reverse := by
      unfold ex
      rw [List.reverse_append, exL_app]
    rw [hQ2] at hih
    rw [o1, List.map_append, hx, hQ]
    refine (EQ_app EQ.rfl9 hih).trans9 ?_
    rw [← List.append_assoc, ← List.append_assoc]
    refine EQ_app (EQ_blk hs _ _ ?_) EQ.rfl9
    intro a ha b hb
    obtain ⟨d, hd, ed⟩ := exL_f hb
    rw [exb_f ha, ed]
    exact q4 d (List.mem_reverse.mp hd)
theorem frm_ex {mk rd : Nat → Nat} (hs : symK mk) (V : List Nat) : EQ mk ((frm mk rd V).map tw) (ex rd (psL mk rd [] V)) := ex_FM hs _ (frm_FM mk rd V)
theorem frm_len (mk rd : Nat → Nat) (V : List Nat) : (frm mk rd V).length = tt rd (psL mk rd [] V) := by rw [FM_len (frm_FM mk rd V), flat_len]
theorem frm_gq {mk rd : Nat → Nat} (hs : symK mk) {V W : List Nat} (h : EQ mk (psL mk rd [] V) (psL mk rd [] W)) : frm mk rd V = frm mk rd W := FM_EQ hs _ _ h (frm_FM mk rd V) (frm_FM mk rd W)
theorem frm_back {mk rd : Nat → Nat} (hs : symK mk) (hr : okR rd) (V : List Nat) : EQ mk (psL mk rd [] (frm mk rd V)) (psL mk rd [] V) := FM_back hs hr _ (psL_red hs (Q := []) trivial) (psL_okC hr (okCn rd)) (frm_FM mk rd V)
/-- a bundle (or none) above all others -/
def tp (f : Nat) (k : Int) (Y : List (Nat × Int)) : List (Nat × Int) := if k = 0 then Y else (f, k) :: Y
theorem tp_0 (f : Nat) (Y : List (Nat × Int)) : tp f 0 Y = Y := if_pos rfl
theorem tp_n {f : Nat} {k : Int} (hk : k ≠ 0) (Y : List (Nat × Int)) : tp f k Y = (f, k) :: Y := if_neg hk
theorem exb0 (rd : Nat → Nat) (f : Nat) : exb rd (f, 0) = [] := by unfold exb; rw [bn0]; rfl
theorem ex_ap (rd : Nat → Nat) (f : Nat) (h : Int) (Y : List (Nat × Int)) : ex rd (ap f h Y) = exb rd (f, h) ++ ex rd Y := by
  by_cases h0 : h = 0
  · rw [h0, ap_0, exb0]; rfl
  · rw [ap_n h0]
    unfold ex
    rw [List.reverse_append]
    rfl
theorem ex_tp (rd : Nat → Nat) (f : Nat) (k : Int) (Y : List (Nat × Int)) : ex rd (tp f k Y) = ex rd Y ++ exb rd (f, k) := by
  by_cases h0 : k = 0
  · rw [h0, tp_0, exb0, List.append_nil]
  · rw [tp_n h0]
    unfold ex
    rw [List.reverse_cons, exL_app, exL_c]
    show _ ++ (_ ++ exL rd []) = _
    rw [show exL rd [] = [] from rfl, List.append_nil]
theorem tt_tp (rd : Nat → Nat) (f : Nat) (k : Int) (Y : List (Nat × Int)) : tt rd (tp f k Y) = tt rd Y + bn rd (f, k) := by
  by_cases h0 : k = 0
  · rw [h0, tp_0, bn0]; rfl
  · rw [tp_n h0]; exact Nat.add_comm _ _
theorem JO_tp {mk rd : Nat → Nat} (hs : symK mk) {f : Nat} {Y : List (Nat × Int)} (hR : Red mk Y) (hC : okC rd Y) : ∃ K Y2, nrm (rd f) K = K ∧ EQ mk Y (tp f K Y2) ∧ ¬ JO mk f Y2 ∧ ∀ e, nrm (rd f) e ≠ 0 → EQ mk (ps mk rd f e Y) (tp f (nrm (rd f) (K + e)) Y2) := by
  by_cases hJ : JO mk f Y
  · cases hj : jn mk rd f 0 Y with
    | none => exact absurd hJ (JO_none hj)
    | some P =>
      obtain ⟨A, d, R, e1, e2, _⟩ := jn_split hj
      have hd : nrm (rd f) d = d ∧ d ≠ 0 := hC (f, d) (by rw [e1]; simp)
      have hcA : ∀ b ∈ A, cm mk f b.1 := fun b hb => ⟨fun e => (e2 b hb).1 e.symm, (e2 b hb).2⟩
      have hRR : Red mk ((f, d) :: R) := Red_tail (A := A) (e1 ▸ hR)
      refine ⟨d, A ++ R, hd.1, ?_, fun h9 => hRR.1 ((JO_app e2).mp h9), ?_⟩
      · rw [tp_n hd.2, e1]; exact EQ_mid hs hcA
      · intro e he
        have ep : ps mk rd f e Y = A ++ (if nrm (rd f) (d + e) = 0 then R else (f, nrm (rd f) (d + e)) :: R) := by
          unfold ps
          rw [e1, jn_app e2, jn_cons, if_pos rfl]
          rfl
        rw [ep]
        by_cases h0 : nrm (rd f) (d + e) = 0
        · rw [if_pos h0, h0, tp_0]; exact EQ.rfl9
        · rw [if_neg h0, tp_n h0]; exact EQ_mid hs hcA
  · refine ⟨0, Y, nrm_z _, by rw [tp_0]; exact EQ.rfl9, hJ, ?_⟩
    intro e he
    rw [ps_N hJ, Int.zero_add, tp_n he]
    exact EQ.rfl9
/-- not free at the bottom -/
def NB (mk : Nat → Nat) (f : Nat) (Y : List (Nat × Int)) : Prop := ¬ ∃ l Z, EQ mk Y (Z ++ [(f, l)])
/-- what a tie taken around does -/
theorem tk_str {mk rd : Nat → Nat} (hs : symK mk) (hr : okR rd) (t : Nat) (V : List Nat) : (EQ mk (psL mk rd [] (tkW t V)) (psL mk rd [] V) ∧ ∀ y ∈ psL mk rd [] V, y.1 ≠ t / 2 → (mk (t / 2)).testBit y.1 = false) ∨ ∃ H K Y, nrm (rd (t / 2)) H = H ∧ nrm (rd (t / 2)) K = K ∧ EQ mk (psL mk rd [] V) (ap (t / 2) H (tp (t / 2) K Y)) ∧ (∀ s, s / 2 = t / 2 → EQ mk (psL mk rd [] (tkW s V)) (ap (t / 2) (nrm (rd (t / 2)) (H + -sg s)) (tp (t / 2) (nrm (rd (t / 2)) (K + sg s)) Y))) ∧ ¬ JO mk (t / 2) Y ∧ NB mk (t / 2) Y ∧ (∃ y ∈ Y, (mk (t / 2)).testBit y.1 = true) := by
  have hRV : Red mk (psL mk rd [] V) := psL_red hs (Q := []) trivial
  have hCV : okC rd (psL mk rd [] V) := psL_okC hr (okCn rd)
  have main : ∀ s, s / 2 = t / 2 → ∃ h Y, nrm (rd (t / 2)) h = h ∧ EQ mk (psL mk rd [] V) (ap (t / 2) h Y) ∧ EQ mk (psL mk rd (psT mk rd [] (tn s)) V) (ap (t / 2) (nrm (rd (t / 2)) (h + -sg s)) Y) ∧ Red mk (psL mk rd (psT mk rd [] (tn s)) V) := by
    intro s hst
    have h1 := lm_W hs (tw_ok hr V) (lm_nil (mk := mk) hr (tn s))
    rw [← psL_pW, ← psL_pW, tn_half, tn_sg, hst] at h1
    obtain ⟨h, Y, a, b, c⟩ := h1
    exact ⟨h, Y, a, b, c, psL_red hs (ps_red hs (Q := []) trivial)⟩
  have etk : ∀ s, psL mk rd [] (tkW s V) = ps mk rd (s / 2) (sg s) (psL mk rd (psT mk rd [] (tn s)) V) := by
    intro s
    unfold tkW
    show psL mk rd (psT mk rd [] (tn s)) (V ++ [s]) = _
    rw [psL_app]
    rfl
  obtain ⟨H, Y0, a1, a2, a3, a4⟩ := main t rfl
  have hnb : NB mk (t / 2) Y0 := by
    rintro ⟨l, Z, e⟩
    by_cases h0 : H = 0
    · have hne : nrm (rd (t / 2)) (H + -sg t) ≠ 0 := nrm_sub0 (nrm_sg (hr _) t) a1 h0
      rw [ap_n hne] at a3
      exact no_two (EQ_red hs a4 (a3.trans9 (EQ_app e EQ.rfl9)))
    · rw [ap_n h0] at a2
      exact no_two (EQ_red hs hRV (a2.trans9 (EQ_app e EQ.rfl9)))
  have hRY : Red mk Y0 ∧ okC rd Y0 := by
    by_cases h0 : H = 0
    · rw [h0, ap_0] at a2
      exact ⟨EQ_red hs hRV a2, EQ_okC a2 hCV⟩
    · rw [ap_n h0] at a2
      exact ⟨Red_init (EQ_red hs hRV a2), fun x hx => EQ_okC a2 hCV x (List.mem_append_left _ hx)⟩
  have same : ∀ s, s / 2 = t / 2 → EQ mk (psL mk rd (psT mk rd [] (tn s)) V) (ap (t / 2) (nrm (rd (t / 2)) (H + -sg s)) Y0) := by
    intro s hst
    obtain ⟨h, Y, b1, b2, b3, b4⟩ := main s hst
    by_cases h0 : h = 0
    · by_cases hH : H = 0
      · rw [h0, ap_0] at b2
        rw [hH, ap_0] at a2
        rw [hH]
        rw [h0] at b3
        exact b3.trans9 (ap_EQ (b2.symm9.trans9 a2))
      · exfalso
        rw [h0, ap_0] at b2
        rw [ap_n hH] at a2
        have hne : nrm (rd (t / 2)) (h + -sg s) ≠ 0 := nrm_sub0 (by rw [← hst]; exact nrm_sg (hr _) s) b1 h0
        rw [ap_n hne] at b3
        exact no_two (EQ_red hs b4 (b3.trans9 (EQ_app (b2.symm9.trans9 a2) EQ.rfl9)))
    · by_cases hH : H = 0
      · exfalso
        rw [ap_n h0] at b2
        rw [hH, ap_0] at a2
        exact hnb ⟨h, Y, a2.symm9.trans9 b2⟩
      · rw [ap_n h0] at b2
        rw [ap_n hH] at a2
        rcases EQ_bb hs (b2.symm9.trans9 a2) with ⟨e1, e2⟩ | ⟨hc, _⟩
        · have e3 : h = H := congrArg Prod.snd e1
          rw [e3] at b3
          exact b3.trans9 (ap_EQ e2)
        · exact absurd rfl hc.1
  by_cases hcen : ∀ y ∈ Y0, cm mk (t / 2) y.1
  · left
    rw [etk]
    have := (ps_EQ (rd := rd) (f := t / 2) (c := sg t) hs a3).trans9 (ps_apc hs (nrm_sg (hr _) t) hcen)
    rw [nrm_add, show H + -sg t + sg t = H by omega, a1] at this
    refine ⟨this.trans9 a2.symm9, fun y hy hne => ?_⟩
    have hy2 := EQ_memi a2 hy
    unfold ap at hy2
    split at hy2
    · exact (hcen y hy2).2
    · rcases List.mem_append.mp hy2 with h | h
      · exact (hcen y h).2
      · rw [List.mem_singleton.mp h] at hne
        exact absurd rfl hne
  · right
    have hex : ∃ y ∈ Y0, dpp mk (t / 2) y.1 := Classical.byContradiction (fun h9 => hcen (fun y hy => Classical.byContradiction (fun h8 => h9 ⟨y, hy, not_cm h8⟩)))
    obtain ⟨K, Y, k1, k2, k3, k4⟩ := JO_tp (f := t / 2) hs hRY.1 hRY.2
    have hkin : ∃ y ∈ Y, (mk (t / 2)).testBit y.1 = true := by
      refine Classical.byContradiction (fun hno => ?_)
      have hcY : ∀ y ∈ Y, cm mk (t / 2) y.1 := by
        intro y hy
        have hkf : ∀ z ∈ Y, (mk (t / 2)).testBit z.1 = false := fun z hz => by
          cases hb : (mk (t / 2)).testBit z.1
          · rfl
          · exact absurd ⟨z, hz, hb⟩ hno
        refine ⟨fun e => k3 ⟨fun h9 => ?_, fun g hg z tl h9 => ?_⟩, hkf y hy⟩
        · have : y ∈ prj (t / 2) (t / 2) Y := prj_mem.mpr ⟨hy, Or.inl e.symm⟩
          rw [h9] at this; cases this
        · have hz : z ∈ prj (t / 2) g Y := by rw [h9]; exact List.mem_cons_self ..
          have hz2 := prj_mem.mp hz
          rcases hz2.2 with e2 | e2
          · exact e2
          · have := hkf z hz2.1
            rw [e2, hg] at this; cases this
      by_cases hK : K = 0
      · rw [hK, tp_0] at k2
        obtain ⟨y, hy, hd⟩ := hex
        exact cm_dpp (hcY y (EQ_memi k2 hy)) hd
      · rw [tp_n hK] at k2
        exact hnb ⟨K, Y, k2.trans9 (EQ_mv hs (x := (t / 2, K)) hcY)⟩
    refine ⟨H, K, Y, a1, k1, a2.trans9 (ap_EQ k2), ?_, k3, ?_, hkin⟩
    · intro s hst
      rw [etk, hst]
      refine (ps_EQ hs (same s hst)).trans9 ?_
      rw [ps_ap (Or.inr hex)]
      exact ap_EQ (k4 (sg s) (by rw [← hst]; exact nrm_sg (hr _) s))
    · rintro ⟨l, Z, e⟩
      apply hnb
      by_cases hK : K = 0
      · rw [hK, tp_0] at k2
        exact ⟨l, Z, k2.trans9 e⟩
      · rw [tp_n hK] at k2
        exact ⟨l, (t / 2, K) :: Z, k2.trans9 (EQ_cons _ e)⟩
