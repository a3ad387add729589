/-! PURE: ring of the class -/
theorem tt_fl (rd : Nat → Nat) (P : Nat → Bool) : ∀ u : List (Nat × Int), tt rd (fl P u) ≤ tt rd u
  | [] => Nat.le_refl _
  | x :: u => by
    have ih := tt_fl rd P u
    cases hP : P x.1
    · rw [fl_0 hP]
      show _ ≤ bn rd x + tt rd u
      omega
    · rw [fl_1 hP]
      show bn rd x + tt rd (fl P u) ≤ bn rd x + tt rd u
      omega
theorem PK_fl {n : Nat} {rd : Nat → Nat} {u : List (Nat × Int)} (P : Nat → Bool) (h : PK n rd u) : PK n rd (fl P u) :=
  ⟨fun x hx => h.1 x (fl_mem.mp hx).1, fun x hx => h.2.1 x (fl_mem.mp hx).1, Nat.le_trans (tt_fl rd P u) h.2.2⟩
/-- the folk of a row -/
def fkB (A : Nat) (w : List (Nat × Int)) : Prop := ∀ a, A.testBit a = true ↔ ∃ x ∈ w, x.1 = a
theorem pty_cl {mk : Nat → Nat} {A f0 M : Nat} (h : pty mk A f0 M) {w : List (Nat × Int)} (hA : fkB A w) : clP mk (fun f => M.testBit f) w.reverse := by
  intro x hx y hy h1 h2
  refine Classical.byContradiction (fun h9 => ?_)
  have h1' : M.testBit x.1 = true := h1
  have h2' : M.testBit y.1 = false := h2
  rcases not_cm h9 with e | e
  · rw [e, h2'] at h1'; cases h1'
  · have := h.2.2.2.1 x.1 h1' y.1 e ((hA y.1).mpr ⟨y, List.mem_reverse.mp hy, rfl⟩)
    rw [h2'] at this; cases this
theorem pty_CN {mk : Nat → Nat} {A f0 M : Nat} (h : pty mk A f0 M) {w : List (Nat × Int)} (hA : fkB A w) : CN mk f0 (fl (fun f => M.testBit f) w) := by
  have hin : ∀ j, M.testBit j = true → ∃ x ∈ fl (fun f => M.testBit f) w, x.1 = j := by
    intro j hj
    obtain ⟨x, hx, e⟩ := (hA j).mp (h.2.2.1 j hj)
    exact ⟨x, fl_mem.mpr ⟨hx, by rw [e]; exact hj⟩, e⟩
  refine ⟨hin f0 h.2.1, fun S h0 hc x hx => ?_⟩
  have hm : ∀ j, M.testBit j = true → M.testBit j = true ∧ S j := h.2.2.2.2 (fun j => M.testBit j = true ∧ S j) ⟨h.2.1, h0⟩ (by
    rintro j g ⟨hj, hs⟩ hk hAg
    have hg := h.2.2.2.1 j hj g hk hAg
    obtain ⟨x, hx, e⟩ := hin j hj
    obtain ⟨y, hy, e2⟩ := hin g hg
    refine ⟨hg, ?_⟩
    rw [← e2]
    exact hc x hx y hy (by rw [e]; exact hs) (Or.inr (by rw [e, e2]; exact hk)))
  exact (hm x.1 (fl_mem.mp hx).2).2
theorem cnt_le (f : Nat) (w : List (Nat × Int)) : cnt0 f w ≤ w.length := List.length_filter_le ..
theorem isPartyOne_X {F n : Nat} {mk rd : Nat → Nat} {st ro : Nat → Int32} (hn : okN n mk rd) (hr : okR rd) (hx : netX n mk rd st ro) (hF : 1000 ≤ F) {w1 w2 : List (Nat × Int)} (hG1 : GR mk rd w1.reverse) (hP1 : PK n rd w1.reverse) (hG2 : GR mk rd w2.reverse) (hP2 : PK n rd w2.reverse) {fo1 co1 fo2 co2 : Nat → Int32} (hp1 : rP fo1 co1 w1.reverse) (hp2 : rP fo2 co2 w2.reverse) {A f0 M : Nat} (hA1 : fkB A w1) (hA2 : fkB A w2) (hM : pty mk A f0 M) (ps1 : Int32) (pf1 : Nat → Int32) (pc1 : Nat → Int32) (pw1 : Nat → Int32) (ps2 : Int32) (pf2 : Nat → Int32) (pc2 : Nat → Int32) (pw2 : Nat → Int32) (ts : Int32) (tf : Nat → Int32) (tc : Nat → Int32) (os : Int32) (oa : Nat → Int32) (qs : Int32) (qa : Nat → Int32) :
    ∃ b1 b2 b3 b4 b5 b6 b7 b8 b9 b10 b11 b12 b13 b14 b15, fX6_isPartyOne F (ii w1.length) 24 fo1 24 co1 (ii w2.length) 24 fo2 24 co2 24 24 24 24 24 24 24 24 24 24 (ii n) 6 st 6 ro (ii M) (ii f0) ps1 pf1 pc1 pw1 ps2 pf2 pc2 pw2 ts tf tc os oa qs qa = some (@ite Int32 (JR mk (fl (fun f => M.testBit f) w1.reverse) (fl (fun f => M.testBit f) w2.reverse)) (Classical.propDecidable _) 1 0, b1, b2, b3, b4, b5, b6, b7, b8, b9, b10, b11, b12, b13, b14, b15) := by
  have hf0 : f0 < 6 := bit6 hM.1 hM.2.1
  have hl : ∀ {w : List (Nat × Int)}, PK n rd w.reverse → w.length ≤ 24 := by
    intro w h
    have h1 := len_tt hr h.2.1
    have h2 := h.2.2
    rw [List.length_reverse] at h1
    omega
  have g1 := fl_GR hn.2.2 (pty_cl hM hA1) hG1
  have g2 := fl_GR hn.2.2 (pty_cl hM hA2) hG2
  have k1 := PK_fl (fun f => M.testBit f) hP1
  have k2 := PK_fl (fun f => M.testBit f) hP2
  have c1' := pty_CN hM hA1
  have c2' := pty_CN hM hA2
  rw [fl_rev] at g1 g2 k1 k2
  unfold fX6_isPartyOne
  obtain ⟨fa, ca, e1, e2⟩ := pick_X (F := F) hn hr hx hF hG1 hP1 hp1 hM.1 (pty_cl hM hA1) ps1 pf1 pc1
  rw [e1, Option.bind_some]
  obtain ⟨fb, cb, e3, e4⟩ := pick_X (F := F) hn hr hx hF hG2 hP2 hp2 hM.1 (pty_cl hM hA2) ps2 pf2 pc2
  rw [e3, Option.bind_some]
  obtain ⟨z', tf', tc', fo3, co3, o1, o2⟩ := openAt_X (F := F) hn hr hx hF hf0 g1 k1 c1'.1 e2 ts tf tc
  have o1' : fX6_openAt F 24 24 (ii n) 6 st 6 ro 24 24 (ii f0) ts tf tc (ii (fl (fun f => M.testBit f) w1).length, fa, ca).1 (ii (fl (fun f => M.testBit f) w1).length, fa, ca).2.1 (ii (fl (fun f => M.testBit f) w1).length, fa, ca).2.2 = some (z', tf', tc', ii (fl (fun f => M.testBit f) w1).length, fo3, co3) := o1
  rw [o1', Option.bind_some]
  obtain ⟨z2', tf2, tc2, fo4, co4, o3, o4⟩ := openAt_X (F := F) hn hr hx hF hf0 g2 k2 c2'.1 e4 z' tf' tc'
  have o3' : fX6_openAt F 24 24 (ii n) 6 st 6 ro 24 24 (ii f0) (z', tf', tc', ii (fl (fun f => M.testBit f) w1).length, fo3, co3).1 (z', tf', tc', ii (fl (fun f => M.testBit f) w1).length, fo3, co3).2.1 (z', tf', tc', ii (fl (fun f => M.testBit f) w1).length, fo3, co3).2.2.1 (ii (fl (fun f => M.testBit f) w2).length, fb, cb).1 (ii (fl (fun f => M.testBit f) w2).length, fb, cb).2.1 (ii (fl (fun f => M.testBit f) w2).length, fb, cb).2.2 = some (z2', tf2, tc2, ii (fl (fun f => M.testBit f) w2).length, fo4, co4) := o3
  rw [o3', Option.bind_some]
  obtain ⟨q1, ql1⟩ := opn_w hn.2.2 hr g1 k1 c1'
  obtain ⟨q2, ql2⟩ := opn_w hn.2.2 hr g2 k2 c2'
  obtain ⟨O2, f1, f2, f3⟩ := PK_facts (mk := mk) hn hr q2.2.1
  have hll := hl k2
  have hll1 := hl k1
  have hrl : (opn mk f0 24 (fl (fun f => M.testBit f) w2)).reverse.length = (fl (fun f => M.testBit f) w2).length := by rw [List.length_reverse, ql2]
  obtain ⟨wr', a', r1, r2⟩ := writeForm_eq (F := F) (N := 24) (N2 := 24) (W := 24) (S := 6) (R := 6) (M := 24) hn hx hn.1 hn.1 (PK_okP hr q2.2.1) q2.2.1.2.1 o4 (by omega) (by omega) (by omega) (by omega) (by omega) (by omega) (by omega) f1 f3 pw2 qa qs
  rw [hrl] at r1
  have r1' : fX5_writeForm F (z2', tf2, tc2, ii (fl (fun f => M.testBit f) w2).length, fo4, co4).2.2.2.1 24 (z2', tf2, tc2, ii (fl (fun f => M.testBit f) w2).length, fo4, co4).2.2.2.2.1 24 (z2', tf2, tc2, ii (fl (fun f => M.testBit f) w2).length, fo4, co4).2.2.2.2.2 24 6 st 6 ro 24 pw2 qs qa = some (wr', ii O2.length, a') := r1
  rw [r1', Option.bind_some]
  have u1 := bund_X (F := F) hF o2 (by omega) (fun x hx => by have := q1.2.1.1 x (List.mem_reverse.mpr hx); have := hn.1; omega) hf0
  rw [ql1] at u1
  have u1' : fX5_bundlesOf F (z', tf', tc', ii (fl (fun f => M.testBit f) w1).length, fo3, co3).2.2.2.1 24 (z', tf', tc', ii (fl (fun f => M.testBit f) w1).length, fo3, co3).2.2.2.2.1 (ii f0) = some (ii (cnt0 f0 (opn mk f0 24 (fl (fun f => M.testBit f) w1)))) := u1
  rw [u1', Option.bind_some]
  have hw := cnt_le f0 (opn mk f0 24 (fl (fun f => M.testBit f) w1))
  obtain ⟨b1, b2, b3, b4, b5, b6, b7, b8, b9, b10, b11, b12, b13, b14, b15, g⟩ := one_L (F := F) (z1 := ii w1.length) (y1 := fo1) (y2 := co1) (z2 := ii w2.length) (z3 := 0) (z4 := 0) (y3 := fo2) (y4 := co2) (x1 := ii (fl (fun f => M.testBit f) w2).length) (x2 := fo4) (x3 := co4) (x4 := wr') hn hr hx hF hf0 ⟨q2.1.1, q2.1.2.1⟩ f1 f2 f3 r2 (ways := cnt0 f0 (opn mk f0 24 (fl (fun f => M.testBit f) w1))) (by omega) F 0 (opn mk f0 24 (fl (fun f => M.testBit f) w1)) fo3 co3 pw1 tf2 tc2 z2' os oa (Nat.zero_le _) (by omega) q1 o2
  rw [ql1] at g
  refine ⟨b1, b2, b3, b4, b5, b6, b7, b8, b9, b10, b11, b12, b13, b14, b15, ?_⟩
  refine Eq.trans g ?_
  congr 2
  apply propext_ite
  rw [Nat.sub_zero, fl_rev, fl_rev]
  exact (JR_rtN hn.2.2 (rd := rd) ⟨g1, CN_rev c1'⟩ ⟨g2, CN_rev c2'⟩ hll1 hll).symm
