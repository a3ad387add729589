/-! PURE: ring of the class, the whole -/
theorem JR_mem {mk : Nat → Nat} (hs : symK mk) {a b : List (Nat × Int)} (h : JR mk a b) : (∀ x, x ∈ a ↔ x ∈ b) ∧ a.length = b.length := by
  obtain ⟨z, m, n, h1, h2⟩ := h
  exact ⟨fun x => (RT_mem h1 x).trans (RT_mem h2 x).symm, (RT_len hs h1).trans (RT_len hs h2).symm⟩
theorem fl_fl (P Q : Nat → Bool) (u : List (Nat × Int)) : fl P (fl Q u) = fl (fun f => P f && Q f) u := by
  unfold fl
  rw [List.filter_filter]
theorem fl_congr {P Q : Nat → Bool} {u : List (Nat × Int)} (h : ∀ x ∈ u, P x.1 = Q x.1) : fl P u = fl Q u := List.filter_congr (fun x hx => h x hx)
theorem fl_all {P : Nat → Bool} {u : List (Nat × Int)} (h : ∀ x ∈ u, P x.1 = true) : fl P u = u := List.filter_eq_self.mpr (fun x hx => h x hx)
/-- what of the folk is still to be held side by side -/
def lfA (mk : Nat → Nat) (A S : Nat) : Prop := S < 64 ∧ (∀ g, S.testBit g = true → A.testBit g = true) ∧ ∀ j, S.testBit j = true → ∀ g, (mk j).testBit g = true → A.testBit g = true → S.testBit g = true
theorem fl_two {mk : Nat → Nat} (hs : symK mk) {A S M f0 : Nat} (hS : lfA mk A S) (hM : pty mk A f0 M) (hMS : ∀ g, M.testBit g = true → S.testBit g = true) {w : List (Nat × Int)} (hA : fkB A w) : EQ mk (fl (fun f => !(S &&& (63 ^^^ M)).testBit f) w.reverse) (fl (fun f => !S.testBit f) w.reverse ++ fl (fun f => M.testBit f) w.reverse) ∧ ∀ x ∈ fl (fun f => !S.testBit f) w.reverse, ∀ y ∈ fl (fun f => M.testBit f) w.reverse, cm mk x.1 y.1 := by
  have hxA : ∀ x ∈ w.reverse, A.testBit x.1 = true := fun x hx => (hA x.1).mpr ⟨x, List.mem_reverse.mp hx, rfl⟩
  have hbit : ∀ g, (S &&& (63 ^^^ M)).testBit g = (S.testBit g && !M.testBit g) := by
    intro g
    rw [Nat.testBit_and, Nat.testBit_xor]
    cases hb : S.testBit g
    · rfl
    · rw [wo_bit g (bit6 hS.1 hb)]; cases M.testBit g <;> rfl
  have hcm : ∀ x ∈ w.reverse, ∀ y ∈ w.reverse, S.testBit x.1 = false → S.testBit y.1 = true → cm mk x.1 y.1 := by
    intro x hx y hy h1 h2
    refine Classical.byContradiction (fun h9 => ?_)
    rcases not_cm h9 with e | e
    · rw [e, h2] at h1; cases h1
    · have := hS.2.2 y.1 h2 x.1 (by rw [hs]; exact e) (hxA x hx)
      rw [h1] at this; cases this
  constructor
  · have hcl : clP mk (fun f => !S.testBit f) (fl (fun f => !(S &&& (63 ^^^ M)).testBit f) w.reverse) := by
      intro x hx y hy h1 h2
      have hx2 := (fl_mem.mp hx).1
      have hy2 := (fl_mem.mp hy).1
      exact hcm x hx2 y hy2 (by simpa using h1) (by simpa using h2)
    have h := fl_sp hs hcl
    rw [fl_fl, fl_fl] at h
    have e1 : fl (fun f => !S.testBit f && !(S &&& (63 ^^^ M)).testBit f) w.reverse = fl (fun f => !S.testBit f) w.reverse := fl_congr (fun x _ => by
      show (!S.testBit x.1 && !(S &&& (63 ^^^ M)).testBit x.1) = !S.testBit x.1
      rw [hbit]
      cases S.testBit x.1 <;> simp)
    have e2 : fl (fun f => !(!S.testBit f) && !(S &&& (63 ^^^ M)).testBit f) w.reverse = fl (fun f => M.testBit f) w.reverse := fl_congr (fun x _ => by
      show (!(!S.testBit x.1) && !(S &&& (63 ^^^ M)).testBit x.1) = M.testBit x.1
      rw [hbit]
      cases hb : S.testBit x.1
      · cases hm : M.testBit x.1
        · rfl
        · rw [hMS x.1 hm] at hb; cases hb
      · cases M.testBit x.1 <;> rfl)
    rw [e1, e2] at h
    exact h
  · intro x hx y hy
    have hx2 := fl_mem.mp hx
    have hy2 := fl_mem.mp hy
    exact hcm x hx2.1 y hy2.1 (by simpa using hx2.2) (hMS _ hy2.2)
theorem are_L {F n : Nat} {mk rd : Nat → Nat} {kx st ro : Nat → Int32} (hn : okN n mk rd) (hr : okR rd) (hx : netX n mk rd st ro) (hkx : ∀ f, f < n → kx f = ii (mk f)) (hF : 1000 ≤ F) {w1 w2 : List (Nat × Int)} (hG1 : GR mk rd w1.reverse) (hP1 : PK n rd w1.reverse) (hG2 : GR mk rd w2.reverse) (hP2 : PK n rd w2.reverse) {fo1 co1 fo2 co2 : Nat → Int32} (hp1 : rP fo1 co1 w1.reverse) (hp2 : rP fo2 co2 w2.reverse) {A : Nat} (hA : A < 64) (hA1 : fkB A w1) (hA2 : fkB A w2) {z1 z2 : Int32} {N1 N2 : Nat} {y1 y2 : Nat → Int32} :
    ∀ (t f S : Nat) (ps1 : Int32) (pf1 : Nat → Int32) (pc1 : Nat → Int32) (pw1 : Nat → Int32) (ps2 : Int32) (pf2 : Nat → Int32) (pc2 : Nat → Int32) (pw2 : Nat → Int32) (ts : Int32) (tf : Nat → Int32) (tc : Nat → Int32) (os : Int32) (oa : Nat → Int32) (qs : Int32) (qa : Nat → Int32), f ≤ n → n < f + t → lfA mk A S → (∀ g, g < f → S.testBit g = false) → JR mk (fl (fun f => !S.testBit f) w1.reverse) (fl (fun f => !S.testBit f) w2.reverse) →
      ∃ b1 b2 b3 b4 b5 b6 b7 b8 b9 b10 b11 b12 b13 b14 b15 b16 b17 b18 b19 b20 b21, fX6_areOne_L83 F 24 24 24 24 24 24 24 24 24 24 24 24 24 24 (ii n) 6 kx 6 st 6 ro z1 N1 y1 z2 N2 y2 t (ii A) (ii S) (ii f) (ii w1.length) fo1 co1 (ii w2.length) fo2 co2 ps1 pf1 pc1 pw1 ps2 pf2 pc2 pw2 ts tf tc os oa qs qa = some (@ite Int32 (JR mk w1.reverse w2.reverse) (Classical.propDecidable _) 1 0, b1, b2, b3, b4, b5, b6, b7, b8, b9, b10, b11, b12, b13, b14, b15, b16, b17, b18, b19, b20, b21) := by
  have h6 := hn.1
  have hAn : ∀ g, A.testBit g = true → g < n := by
    intro g hg
    obtain ⟨x, hx2, e⟩ := (hA1 g).mp hg
    rw [← e]
    exact hP1.1 x (List.mem_reverse.mpr hx2)
  intro t
  induction t with
  | zero => intro f S ps1 pf1 pc1 pw1 ps2 pf2 pc2 pw2 ts tf tc os oa qs qa h1 h2; omega
  | succ t ih =>
    intro f S ps1 pf1 pc1 pw1 ps2 pf2 pc2 pw2 ts tf tc os oa qs qa h1 h2 hS hSf hJ
    rw [sX6_areOne_L83]
    unfold bX6_areOne_L83
    by_cases hf : n ≤ f
    · rw [if_pos (by rw [ii_le (by omega) (by omega)]; exact hf)]
      have hS0 : ∀ g, S.testBit g = false := by
        intro g
        cases hb : S.testBit g
        · rfl
        · have := hAn g (hS.2.1 g hb)
          rw [hSf g (by omega)] at hb; cases hb
      have e1 : ∀ u : List (Nat × Int), fl (fun f => !S.testBit f) u = u := fun u => fl_all (fun x _ => by rw [hS0]; rfl)
      rw [e1, e1] at hJ
      rw [if_pos hJ]
      exact ⟨_, _, _, _, _, _, _, _, _, _, _, _, _, _, _, _, _, _, _, _, _, rfl⟩
    · rw [if_neg (by rw [ii_le (by omega) (by omega)]; exact hf)]
      unfold bX6_areOne_L135
      rw [e1k]
      cases hb : S.testBit f
      · rw [if_pos (by rw [iBit0 (by have := hS.1; omega) (by omega)]; exact hb)]
        exact ih (f + 1) S ps1 pf1 pc1 pw1 ps2 pf2 pc2 pw2 ts tf tc os oa qs qa (by omega) (by omega) hS (fun g hg => by
          by_cases e : g = f
          · rw [e]; exact hb
          · exact hSf g (by omega)) hJ
      · rw [if_neg (by rw [iBit0 (by have := hS.1; omega) (by omega), hb]; decide)]
        obtain ⟨M, m1, hM⟩ := party_X (F := F) hn hF hkx hA hAn (hS.2.1 f hb)
        have hMS : ∀ g, M.testBit g = true → S.testBit g = true := hM.2.2.2.2 (fun g => S.testBit g = true) hb (fun j g hj hg hAg => hS.2.2 j hj g hg hAg)
        rw [m1, Option.bind_some]
        obtain ⟨b1, b2, b3, b4, b5, b6, b7, b8, b9, b10, b11, b12, b13, b14, b15, g1⟩ := isPartyOne_X (F := F) hn hr hx hF hG1 hP1 hG2 hP2 hp1 hp2 hA1 hA2 hM ps1 pf1 pc1 pw1 ps2 pf2 pc2 pw2 ts tf tc os oa qs qa
        rw [g1, Option.bind_some]
        obtain ⟨E1, C1⟩ := fl_two hn.2.2 hS hM hMS hA1
        obtain ⟨E2, C2⟩ := fl_two hn.2.2 hS hM hMS hA2
        by_cases hJM : JR mk (fl (fun f => M.testBit f) w1.reverse) (fl (fun f => M.testBit f) w2.reverse)
        · rw [if_pos hJM]
          show ∃ b1 b2 b3 b4 b5 b6 b7 b8 b9 b10 b11 b12 b13 b14 b15 b16 b17 b18 b19 b20 b21, (if (1 : Int32) = 0 then _ else _) = _
          rw [if_neg (by decide), (ii_wo6 S hS.1 M hM.1).1]
          have hbit : ∀ g, (S &&& (63 ^^^ M)).testBit g = (S.testBit g && !M.testBit g) := by
            intro g
            rw [Nat.testBit_and, Nat.testBit_xor]
            cases hb : S.testBit g
            · rfl
            · rw [wo_bit g (bit6 hS.1 hb)]; cases M.testBit g <;> rfl
          refine ih (f + 1) (S &&& (63 ^^^ M)) b1 b2 b3 b4 b5 b6 b7 b8 b9 b10 b11 b12 b13 b14 b15 (by omega) (by omega) ⟨(ii_wo6 S hS.1 M hM.1).2, ?_, ?_⟩ ?_ ?_
          · intro g hg
            rw [hbit, Bool.and_eq_true] at hg
            exact hS.2.1 g hg.1
          · intro j hj g hk hAg
            rw [hbit, Bool.and_eq_true] at hj
            rw [hbit, hS.2.2 j hj.1 g hk hAg, Bool.true_and]
            cases hm : M.testBit g
            · rfl
            · have := hM.2.2.2.1 g hm j (by rw [hn.2.2]; exact hk) (hS.2.1 j hj.1)
              rw [this] at hj
              cases hj.2
          · intro g hg
            rw [hbit]
            by_cases e : g = f
            · rw [e, hM.2.1]; simp
            · rw [hSf g (by omega)]; rfl
          · exact JR_EQ E1.symm9 E2.symm9 (JR_app hn.2.2 C1 C2 hJ hJM)
        · rw [if_neg hJM]
          show ∃ b1 b2 b3 b4 b5 b6 b7 b8 b9 b10 b11 b12 b13 b14 b15 b16 b17 b18 b19 b20 b21, (if (0 : Int32) = 0 then _ else _) = _
          rw [if_pos rfl, if_neg (fun h9 => hJM (fl_JR _ h9))]
          exact ⟨_, _, _, _, _, _, _, _, _, _, _, _, _, _, _, _, _, _, _, _, _, rfl⟩
theorem lay_PK {n : Nat} {mk rd : Nat → Nat} (hn : okN n mk rd) (hr : okR rd) {L : List Nat} (hL : okL n L) (h10 : L.length ≤ 10) : Red mk (psL mk rd [] L) ∧ PK n rd (psL mk rd [] L) := by
  have h1 := tt_psL (mk := mk) hr (L := L) (okCn rd)
  have h2 : tt rd (psL mk rd [] L) ≤ 0 + L.length := h1
  exact ⟨psL_red hn.2.2 (Q := []) trivial, folk_lt hn hL, psL_okC hr (okCn rd), by omega⟩
theorem areOne_X {F n : Nat} {mk rd : Nat → Nat} {kx st ro : Nat → Int32} (hn : okN n mk rd) (hr : okR rd) (hx : netX n mk rd st ro) (hkx : ∀ f, f < n → kx f = ii (mk f)) (hF : 1000 ≤ F) {L M : List Nat} {a c : Nat → Int32} (hL : okL n L) (ha : rL a L) (h10 : L.length ≤ 10) (hM : okL n M) (hc : rL c M) (hM10 : M.length ≤ 10) (s1 : Int32) (f1 c1 : Nat → Int32) (s2 : Int32) (f2 c2 : Nat → Int32) (ps1 : Int32) (pf1 : Nat → Int32) (pc1 : Nat → Int32) (pw1 : Nat → Int32) (ps2 : Int32) (pf2 : Nat → Int32) (pc2 : Nat → Int32) (pw2 : Nat → Int32) (ts : Int32) (tf : Nat → Int32) (tc : Nat → Int32) (os : Int32) (oa : Nat → Int32) (qs : Int32) (qa : Nat → Int32) :
    ∃ b1 b2 b3 b4 b5 b6 b7 b8 b9 b10 b11 b12 b13 b14 b15 b16 b17 b18 b19 b20 b21, fX6_areOne F 24 24 24 24 24 24 24 24 24 24 24 24 24 24 (ii n) 6 kx 6 st 6 ro (ii L.length) 24 a (ii M.length) 24 c s1 f1 c1 s2 f2 c2 ps1 pf1 pc1 pw1 ps2 pf2 pc2 pw2 ts tf tc os oa qs qa = some (@ite Int32 (JN mk rd (psL mk rd [] L) (psL mk rd [] M)) (Classical.propDecidable _) 1 0, b1, b2, b3, b4, b5, b6, b7, b8, b9, b10, b11, b12, b13, b14, b15, b16, b17, b18, b19, b20, b21) := by
  unfold fX6_areOne
  have h6 := hn.1
  obtain ⟨fo1, co1, l1, l2⟩ := lay_eq (F := F) (N := 24) (M := 24) hn hx (by omega) (by omega) hL ha (by omega) (by omega) (by omega) (by omega) (by omega) s1 f1 c1
  rw [l1, Option.bind_some]
  obtain ⟨fo2, co2, l3, l4⟩ := lay_eq (F := F) (N := 24) (M := 24) hn hx (by omega) (by omega) hM hc (by omega) (by omega) (by omega) (by omega) (by omega) s2 f2 c2
  rw [l3, Option.bind_some]
  obtain ⟨r1, k1⟩ := lay_PK (mk := mk) hn hr hL h10
  obtain ⟨r2, k2⟩ := lay_PK (mk := mk) hn hr hM hM10
  have n1 := psL_len (mk := mk) (rd := rd) (L := L) (Q := [])
  have n2 := psL_len (mk := mk) (rd := rd) (L := M) (Q := [])
  have n1' : (psL mk rd [] L).length ≤ 0 + L.length := n1
  have n2' : (psL mk rd [] M).length ≤ 0 + M.length := n2
  obtain ⟨za, tfa, tca, w1, foa, coa, ma, t1, t2, t3, t4, t5⟩ := tighten_X (F := F) (w := (psL mk rd [] L).reverse) hn hr hx hF (by rw [List.length_reverse]; omega) (by rw [List.reverse_reverse]; exact r1) (by rw [List.reverse_reverse]; exact k1) (by rw [List.reverse_reverse]; exact l2) ts tf tc
  rw [List.length_reverse] at t1
  rw [List.reverse_reverse] at t2
  have t1' : fX6_tighten F 24 24 (ii n) 6 st 6 ro 24 24 ts tf tc (ii (psL mk rd [] L).length, fo1, co1).1 (ii (psL mk rd [] L).length, fo1, co1).2.1 (ii (psL mk rd [] L).length, fo1, co1).2.2 = some (za, tfa, tca, ii w1.length, foa, coa) := t1
  rw [t1', Option.bind_some]
  obtain ⟨zb, tfb, tcb, w2, fob, cob, mb, u1, u2, u3, u4, u5⟩ := tighten_X (F := F) (w := (psL mk rd [] M).reverse) hn hr hx hF (by rw [List.length_reverse]; omega) (by rw [List.reverse_reverse]; exact r2) (by rw [List.reverse_reverse]; exact k2) (by rw [List.reverse_reverse]; exact l4) za tfa tca
  rw [List.length_reverse] at u1
  rw [List.reverse_reverse] at u2
  have u1' : fX6_tighten F 24 24 (ii n) 6 st 6 ro 24 24 (za, tfa, tca, ii w1.length, foa, coa).1 (za, tfa, tca, ii w1.length, foa, coa).2.1 (za, tfa, tca, ii w1.length, foa, coa).2.2.1 (ii (psL mk rd [] M).length, fo2, co2).1 (ii (psL mk rd [] M).length, fo2, co2).2.1 (ii (psL mk rd [] M).length, fo2, co2).2.2 = some (zb, tfb, tcb, ii w2.length, fob, cob) := u1
  rw [u1', Option.bind_some]
  have hl : ∀ {w : List (Nat × Int)}, PK n rd w.reverse → w.length ≤ 24 := by
    intro w h
    have h1 := len_tt hr h.2.1
    have h2 := h.2.2
    rw [List.length_reverse] at h1
    omega
  have hl1 := hl t4
  have hl2 := hl u4
  have hf1 : ∀ x ∈ w1, x.1 < 6 := fun x hx2 => by have := t4.1 x (List.mem_reverse.mpr hx2); omega
  have hf2 : ∀ x ∈ w2, x.1 < 6 := fun x hx2 => by have := u4.1 x (List.mem_reverse.mpr hx2); omega
  obtain ⟨A1, a1, a2, a3⟩ := fbit_X (F := F) hF t5 hl1 hf1
  obtain ⟨A2, b1', b2', b3'⟩ := fbit_X (F := F) hF u5 hl2 hf2
  have a1' : fX5_folkBits F (za, tfa, tca, ii w1.length, foa, coa).2.2.2.1 24 (za, tfa, tca, ii w1.length, foa, coa).2.2.2.2.1 = some (ii A1) := a1
  have b1'' : fX5_folkBits F (zb, tfb, tcb, ii w2.length, fob, cob).2.2.2.1 24 (zb, tfb, tcb, ii w2.length, fob, cob).2.2.2.2.1 = some (ii A2) := b1'
  rw [a1', Option.bind_some, b1'', Option.bind_some]
  have hJN : JN mk rd (psL mk rd [] L) (psL mk rd [] M) ↔ JR mk w1.reverse w2.reverse := by
    rw [← JN_JR hn.2.2 t3 u3]
    have q1 := JN_TN (rd := rd) t2
    have q2 := JN_TN (rd := rd) u2
    exact ⟨fun h => JN_tr hn.2.2 (JN_sy q1) (JN_tr hn.2.2 h q2), fun h => JN_tr hn.2.2 q1 (JN_tr hn.2.2 h (JN_sy q2))⟩
  rw [propext_ite hJN]
  by_cases hA : A1 = A2
  · rw [if_pos (by rw [hA])]
    by_cases hw : w1.length = w2.length
    · show ∃ b1 b2 b3 b4 b5 b6 b7 b8 b9 b10 b11 b12 b13 b14 b15 b16 b17 b18 b19 b20 b21, (if ii w1.length = ii w2.length then _ else _) = _
      rw [if_pos (by rw [hw])]
      have hA2 : fkB A1 w2 := by rw [hA]; exact b3'
      exact are_L (F := F) hn hr hx hkx hF t3 t4 u3 u4 t5 u5 a2 a3 hA2 F 0 A1 ps1 pf1 pc1 pw1 ps2 pf2 pc2 pw2 zb tfb tcb os oa qs qa (Nat.zero_le _) (by omega) ⟨a2, fun g h => h, fun j _ g _ h => h⟩ (fun g hg => by omega) (by
        have e1 : ∀ u : List (Nat × Int), (∀ x ∈ u, A1.testBit x.1 = true) → fl (fun f => !A1.testBit f) u = [] := by
          intro u hu
          exact List.filter_eq_nil_iff.mpr (fun x hx2 => by
            show ¬ (!A1.testBit x.1) = true
            rw [hu x hx2]; decide)
        rw [e1 _ (fun x hx2 => (a3 x.1).mpr ⟨x, List.mem_reverse.mp hx2, rfl⟩), e1 _ (fun x hx2 => (hA2 x.1).mpr ⟨x, List.mem_reverse.mp hx2, rfl⟩)]
        exact ⟨[], 0, 0, EQ.rfl9, EQ.rfl9⟩)
    · show ∃ b1 b2 b3 b4 b5 b6 b7 b8 b9 b10 b11 b12 b13 b14 b15 b16 b17 b18 b19 b20 b21, (if ii w1.length = ii w2.length then _ else _) = _
      unfold bX6_areOne_L74
      rw [if_neg (by rw [ii_inj (by omega) (by omega)]; exact hw), if_neg (fun h9 => hw (by
        have := (JR_mem hn.2.2 h9).2
        rw [List.length_reverse, List.length_reverse] at this
        exact this))]
      exact ⟨_, _, _, _, _, _, _, _, _, _, _, _, _, _, _, _, _, _, _, _, _, rfl⟩
  · unfold bX6_areOne_L74
    rw [if_neg (by rw [ii_inj (by omega) (by omega)]; exact hA), if_neg (fun h9 => hA (by
      apply Nat.eq_of_testBit_eq
      intro i
      have hm := (JR_mem hn.2.2 h9).1
      have e : A1.testBit i = true ↔ A2.testBit i = true := by
        rw [a3, b3']
        constructor
        · rintro ⟨x, h1, h2⟩
          exact ⟨x, List.mem_reverse.mp ((hm x).mp (List.mem_reverse.mpr h1)), h2⟩
        · rintro ⟨x, h1, h2⟩
          exact ⟨x, List.mem_reverse.mp ((hm x).mpr (List.mem_reverse.mpr h1)), h2⟩
      cases q1 : A1.testBit i <;> cases q2 : A2.testBit i <;> simp [q1, q2] at e ⊢))]
    exact ⟨_, _, _, _, _, _, _, _, _, _, _, _, _, _, _, _, _, _, _, _, _, rfl⟩
theorem ring_X {F n : Nat} {mk rd : Nat → Nat} {kx st ro : Nat → Int32} (hn : okN n mk rd) (hr : okR rd) (hx : netX n mk rd st ro) (hkx : ∀ f, f < n → kx f = ii (mk f)) (hF : 1000 ≤ F) {L M : List Nat} {a c : Nat → Int32} (hL : okL n L) (ha : rL a L) (h24 : L.length ≤ 24) (hM : okL n M) (hc : rL c M) (hM24 : M.length ≤ 24) (sz : Int32) (fo co w : Nat → Int32) (ks : Int32) (kt : Nat → Int32) (es : Int32) (et : Nat → Int32) (s1 : Int32) (f1 c1 : Nat → Int32) (s2 : Int32) (f2 c2 : Nat → Int32) (ps1 : Int32) (pf1 : Nat → Int32) (pc1 : Nat → Int32) (pw1 : Nat → Int32) (ps2 : Int32) (pf2 : Nat → Int32) (pc2 : Nat → Int32) (pw2 : Nat → Int32) (ts : Int32) (tf : Nat → Int32) (tc : Nat → Int32) (os : Int32) (oa : Nat → Int32) (qs : Int32) (qa : Nat → Int32) :
    ∃ b1 b2 b3 b4 b5 b6 b7 b8 b9 b10 b11 b12 b13 b14 b15 b16 b17 b18 b19 b20 b21 b22 b23 b24 b25 b26 b27 b28 b29, fX11_ring F (ii n) 6 kx 6 st 6 ro (ii L.length) 24 a (ii M.length) 24 c 96 96 96 24 24 24 24 24 24 24 24 24 24 24 24 24 24 24 24 sz fo co w ks kt es et s1 f1 c1 s2 f2 c2 ps1 pf1 pc1 pw1 ps2 pf2 pc2 pw2 ts tf tc os oa qs qa = some (rgA mk rd L M, b1, b2, b3, b4, b5, b6, b7, b8, b9, b10, b11, b12, b13, b14, b15, b16, b17, b18, b19, b20, b21, b22, b23, b24, b25, b26, b27, b28, b29) := by
  unfold fX11_ring rgA
  obtain ⟨g1, g2⟩ := frm_ok (mk := mk) hn hr hL (by omega)
  obtain ⟨g3, g4⟩ := frm_ok (mk := mk) hn hr hM (by omega)
  obtain ⟨z1, fo1, co1, w1, kt1, e1, e2⟩ := layForm_eq (F := F) hn hr hx hF hL ha h24 (frm_FM mk rd L) sz fo co w ks kt
  rw [e1, Option.bind_some]
  obtain ⟨z2, fo2, co2, w2, kt2, e3, e4⟩ := layForm_eq (F := F) hn hr hx hF hM hc hM24 (frm_FM mk rd M) z1 fo1 co1 w1 es et
  have e3' : fX5_layForm F 96 96 96 (ii n) 6 st 6 ro (ii M.length) 24 c 24 (z1, fo1, co1, w1, ii (frm mk rd L).length, kt1).1 (z1, fo1, co1, w1, ii (frm mk rd L).length, kt1).2.1 (z1, fo1, co1, w1, ii (frm mk rd L).length, kt1).2.2.1 (z1, fo1, co1, w1, ii (frm mk rd L).length, kt1).2.2.2.1 es et = some (z2, fo2, co2, w2, ii (frm mk rd M).length, kt2) := e3
  rw [e3', Option.bind_some]
  show ∃ b1 b2 b3 b4 b5 b6 b7 b8 b9 b10 b11 b12 b13 b14 b15 b16 b17 b18 b19 b20 b21 b22 b23 b24 b25 b26 b27 b28 b29, (if (10 : Int32) < ii (frm mk rd L).length then _ else (if ii (frm mk rd M).length ≤ (10 : Int32) then _ else _)) = _
  by_cases h1 : 10 < (frm mk rd L).length
  · unfold bX11_ring_L68
    rw [if_pos (by rw [k_10, ii_lt (by omega) (by omega)]; exact h1), if_pos (Or.inl h1)]
    exact ⟨_, _, _, _, _, _, _, _, _, _, _, _, _, _, _, _, _, _, _, _, _, _, _, _, _, _, _, _, _, rfl⟩
  · rw [if_neg (by rw [k_10, ii_lt (by omega) (by omega)]; exact h1)]
    by_cases h2 : 10 < (frm mk rd M).length
    · unfold bX11_ring_L68
      rw [if_neg (by rw [k_10, ii_le (by omega) (by omega)]; omega), if_pos (Or.inr h2)]
      exact ⟨_, _, _, _, _, _, _, _, _, _, _, _, _, _, _, _, _, _, _, _, _, _, _, _, _, _, _, _, _, rfl⟩
    · rw [if_pos (by rw [k_10, ii_le (by omega) (by omega)]; omega), if_neg (show ¬ (10 < (frm mk rd L).length ∨ 10 < (frm mk rd M).length) by omega)]
      obtain ⟨b1, b2, b3, b4, b5, b6, b7, b8, b9, b10, b11, b12, b13, b14, b15, b16, b17, b18, b19, b20, b21, g⟩ := areOne_X (F := F) hn hr hx hkx hF g1 e2 (by omega) g3 e4 (by omega) s1 f1 c1 s2 f2 c2 ps1 pf1 pc1 pw1 ps2 pf2 pc2 pw2 ts tf tc os oa qs qa
      have g' : fX6_areOne F 24 24 24 24 24 24 24 24 24 24 24 24 24 24 (ii n) 6 kx 6 st 6 ro (z1, fo1, co1, w1, ii (frm mk rd L).length, kt1).2.2.2.2.1 24 (z1, fo1, co1, w1, ii (frm mk rd L).length, kt1).2.2.2.2.2 (z2, fo2, co2, w2, ii (frm mk rd M).length, kt2).2.2.2.2.1 24 (z2, fo2, co2, w2, ii (frm mk rd M).length, kt2).2.2.2.2.2 s1 f1 c1 s2 f2 c2 ps1 pf1 pc1 pw1 ps2 pf2 pc2 pw2 ts tf tc os oa qs qa = some (@ite Int32 (JN mk rd (psL mk rd [] (frm mk rd L)) (psL mk rd [] (frm mk rd M))) (Classical.propDecidable _) 1 0, b1, b2, b3, b4, b5, b6, b7, b8, b9, b10, b11, b12, b13, b14, b15, b16, b17, b18, b19, b20, b21) := g
      have hJ : JN mk rd (psL mk rd [] (frm mk rd L)) (psL mk rd [] (frm mk rd M)) ↔ JN mk rd (psL mk rd [] L) (psL mk rd [] M) := by
        have bL := JN_EQ (rd := rd) (frm_back (mk := mk) hn.2.2 hr L)
        have bM := JN_EQ (rd := rd) (frm_back (mk := mk) hn.2.2 hr M)
        exact ⟨fun h => JN_tr hn.2.2 (JN_sy bL) (JN_tr hn.2.2 h bM), fun h => JN_tr hn.2.2 bL (JN_tr hn.2.2 h (JN_sy bM))⟩
      rw [propext_ite hJ] at g'
      rw [g', Option.bind_some]
      unfold bX11_ring_L97
      by_cases hj : JN mk rd (psL mk rd [] L) (psL mk rd [] M)
      · rw [if_pos hj]
        show ∃ b1 b2 b3 b4 b5 b6 b7 b8 b9 b10 b11 b12 b13 b14 b15 b16 b17 b18 b19 b20 b21 b22 b23 b24 b25 b26 b27 b28 b29, (if (1 : Int32) = 0 then _ else _) = _
        rw [if_neg (by decide)]
        exact ⟨_, _, _, _, _, _, _, _, _, _, _, _, _, _, _, _, _, _, _, _, _, _, _, _, _, _, _, _, _, rfl⟩
      · rw [if_neg hj]
        show ∃ b1 b2 b3 b4 b5 b6 b7 b8 b9 b10 b11 b12 b13 b14 b15 b16 b17 b18 b19 b20 b21 b22 b23 b24 b25 b26 b27 b28 b29, (if (0 : Int32) = 0 then _ else _) = _
        rw [if_pos rfl]
        exact ⟨_, _, _, _, _, _, _, _, _, _, _, _, _, _, _, _, _, _, _, _, _, _, _, _, _, _, _, _, _, rfl⟩
