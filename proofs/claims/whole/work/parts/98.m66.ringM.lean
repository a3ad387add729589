/-! PURE: the reference's answer of ring -/
/-- closed, none shorter -/
def clF (n : Nat) (mk rd : Nat → Nat) (B : List Nat) (L : List (List Nat)) : Prop := rF n mk rd B B ∧ B.length ≤ 10 ∧ L.length ≤ 2000 ∧ B ∈ L ∧ ∀ O ∈ L, rF n mk rd B O ∧ O.length = B.length ∧ c1 n mk rd B.length (2 * n) L O
theorem short_scan {F n : Nat} {mk rd : Nat → Nat} {ki kn nt : Nat → Int32} (hn : okN n mk rd) (hF : 20000 ≤ F) {V : List Nat} (hV : okL n V) (hV10 : V.length ≤ 10) {L : List (List Nat)} (hl : L.length ≤ 2000) (hL : ∀ O ∈ L, okL n O ∧ O.length ≤ V.length) {rg : Nat → Int64} (hrg : rR rg L) {b tm fmn : Int32} {fo co ti fm : Nat → Int32}
    (k5 : Int64 → Int32 → Int32 → Int32 → Int32 → Int32 → (Nat → Int32) → (Nat → Int32) → (Nat → Int32) → (Nat → Int32) → (Nat → Int64) → Option (Int64 × Int32 × Int32 × Int32 × Int32 × (Nat → Int32) × (Nat → Int32) × (Nat → Int32) × (Nat → Int32) × (Nat → Int64))) :
    ∀ (u i : Nat), i ≤ L.length → L.length + 1 < i + u → (∀ j, j < i → ¬ (L.getD j []).length < V.length) →
      (∃ O ∈ L, O.length < V.length ∧ fX12_shortened_L21 F 8 nt 12 ki 12 kn 96 96 96 96 2000 k5 u (il (pkN V)) (0 : Int32) (ii i) b tm fmn (ii L.length) fo co ti fm rg = k5 (il (pkN O)) 1 b tm fmn (ii L.length) fo co ti fm rg) ∨
      ((∀ O ∈ L, ¬ O.length < V.length) ∧ fX12_shortened_L21 F 8 nt 12 ki 12 kn 96 96 96 96 2000 k5 u (il (pkN V)) (0 : Int32) (ii i) b tm fmn (ii L.length) fo co ti fm rg = k5 (il (pkN V)) 0 b tm fmn (ii L.length) fo co ti fm rg) := by
  intro u
  induction u with
  | zero => intro i h1 h2; omega
  | succ u ih =>
    intro i h1 h2 hj
    by_cases h : L.length ≤ i
    · right
      constructor
      · intro O hO
        obtain ⟨j, hj2, e⟩ := List.getElem_of_mem hO
        have := hj j (by omega)
        rw [List.getD_eq_getElem?_getD, List.getElem?_eq_getElem hj2] at this
        rw [← e]
        exact this
      · rw [sX12_shortened_L21]
        unfold bX12_shortened_L21 bX12_shortened_L72
        rw [if_pos (by rw [ii_le (by omega) (by omega)]; exact h)]
    · have hmi := getD_in (L := L) (k := i) (by omega)
      have hOi := hL _ hmi
      have e0 : fX12_shortened_L21 F 8 nt 12 ki 12 kn 96 96 96 96 2000 k5 (u + 1) (il (pkN V)) (0 : Int32) (ii i) b tm fmn (ii L.length) fo co ti fm rg = if ii (L.getD i []).length < ii V.length then fX12_shortened_L21 F 8 nt 12 ki 12 kn 96 96 96 96 2000 k5 u (il (pkN (L.getD i []))) (1 : Int32) (ii (i + 1)) b tm fmn (ii L.length) fo co ti fm rg else fX12_shortened_L21 F 8 nt 12 ki 12 kn 96 96 96 96 2000 k5 u (il (pkN V)) (0 : Int32) (ii (i + 1)) b tm fmn (ii L.length) fo co ti fm rg := by
        rw [sX12_shortened_L21]
        unfold bX12_shortened_L21 bX12_shortened_L66
        rw [if_neg (by rw [ii_le (by omega) (by omega)]; exact h), if_pos rfl, if_neg (nidx (by omega) (by omega)), ii_nat (by omega), hrg i (by omega), longOf_eq (by omega) (by omega) (okL12 hn hOi.1), Option.bind_some, longOf_eq (by omega) (by omega) (okL12 hn hV), Option.bind_some, if_neg (nidn (by omega) (by omega)), e1k]
      rw [e0]
      by_cases hs : (L.getD i []).length < V.length
      · left
        refine ⟨_, hmi, hs, ?_⟩
        rw [if_pos (by rw [ii_lt (by omega) (by omega)]; exact hs)]
        cases u with
        | zero => omega
        | succ u =>
          rw [sX12_shortened_L21]
          unfold bX12_shortened_L21 bX12_shortened_L72
          rw [if_neg (show ¬ (1 : Int32) = 0 by decide), ite_self]
      · rw [if_neg (by rw [ii_lt (by omega) (by omega)]; exact hs)]
        refine ih (i + 1) (by omega) (by omega) (fun j hj2 => ?_)
        by_cases hji : j = i
        · rw [hji]; exact hs
        · exact hj j (by omega)
theorem short_L {F n : Nat} {mk rd : Nat → Nat} {ki kn nt : Nat → Int32} (hn : okN n mk rd) (hr : okR rd) (hm : netM n mk rd ki kn) (hnt : nt 0 = ii n) (hF : 20000 ≤ F) :
    ∀ (u : Nat) (V : List Nat) (b tm fmn rm : Int32) (fo co ti fm : Nat → Int32) (rg : Nat → Int64), okL n V → frm mk rd V = V → V.length ≤ 10 → V.length + 1 < u →
      ∃ B L b' tm' fmn' fo' co' ti' fm' rg', fX12_shortened_L5 F 8 nt 12 ki 12 kn 96 96 96 96 2000 u (il (pkN V)) (1 : Int32) b tm fmn rm fo co ti fm rg = some (il (pkN B), b', tm', fmn', ii L.length, fo', co', ti', fm', rg') ∧ rR rg' L ∧ clF n mk rd B L ∧ JN mk rd (psL mk rd [] V) (psL mk rd [] B) := by
  intro u
  induction u with
  | zero => intro V b tm fmn rm fo co ti fm rg _ _ _ h; omega
  | succ u ih =>
    intro V b tm fmn rm fo co ti fm rg hV1 hV2 hV3 hu
    have hV : rF n mk rd V V := ⟨hV1, hV2, Nat.le_refl _, JN_EQ EQ.rfl9⟩
    rw [sX12_shortened_L5]
    unfold bX12_shortened_L5
    rw [if_neg (by decide)]
    obtain ⟨b1, tm1, fmn1, L, fo1, co1, ti1, fm1, rg1, e1, h1, h2, h3, h4, h5⟩ := finds_eq (F := F) hn hr hm hnt hF hV hV3 b tm fmn rm fo co ti fm rg
    rw [e1, Option.bind_some]
    rcases short_scan (F := F) (nt := nt) (ki := ki) (kn := kn) (b := b1) (tm := tm1) (fmn := fmn1) (fo := fo1) (co := co1) (ti := ti1) (fm := fm1) hn hF hV1 hV3 h2 (fun O hO => ⟨(h4 O hO).1, (h4 O hO).2.2.1⟩) h1 (fX12_shortened_L5 F 8 nt 12 ki 12 kn 96 96 96 96 2000 u) F 0 (Nat.zero_le _) (by omega) (fun j hj => by omega) with ⟨O, hO1, hO2, e2⟩ | ⟨hno, e2⟩
    · have hOF := h4 O hO1
      obtain ⟨B, L', b', tm', fmn', fo', co', ti', fm', rg', g1, g2, g3, g4⟩ := ih O b1 tm1 fmn1 (ii L.length) fo1 co1 ti1 fm1 rg1 hOF.1 hOF.2.1 (by omega) (by omega)
      refine ⟨B, L', b', tm', fmn', fo', co', ti', fm', rg', ?_, g2, g3, JN_tr hn.2.2 hOF.2.2.2 g4⟩
      rw [← g1]
      exact e2
    · have hcl : ∀ O ∈ L, O.length = V.length ∧ c1 n mk rd V.length (2 * n) L O := by
        rcases h5 with ⟨O, hO1, hO2⟩ | h5
        · exact absurd hO2 (hno O hO1)
        · exact h5
      cases u with
      | zero => omega
      | succ u =>
        refine ⟨V, L, b1, tm1, fmn1, fo1, co1, ti1, fm1, rg1, ?_, h1, ⟨hV, hV3, h2, h3, fun O hO => ⟨h4 O hO, hcl O hO⟩⟩, JN_EQ EQ.rfl9⟩
        have e3 : fX12_shortened_L5 F 8 nt 12 ki 12 kn 96 96 96 96 2000 (u + 1) (il (pkN V)) (0 : Int32) b1 tm1 fmn1 (ii L.length) fo1 co1 ti1 fm1 rg1 = some (il (pkN V), b1, tm1, fmn1, ii L.length, fo1, co1, ti1, fm1, rg1) := by
          rw [sX12_shortened_L5]
          unfold bX12_shortened_L5
          rw [if_pos rfl]
        rw [← e3]
        exact e2
theorem clF_cl {n : Nat} {mk rd : Nat → Nat} (hn : okN n mk rd) (hr : okR rd) {B : List Nat} {L : List (List Nat)} (h : clF n mk rd B L) : clR n mk rd (fun W => frm mk rd W ∈ L) ∧ (∀ W, frm mk rd W ∈ L → ∀ x ∈ psL mk rd [] W, x.1 < n) ∧ frm mk rd B ∈ L := by
  obtain ⟨h1, h2, h3, h4, h5⟩ := h
  have hb := fun W => frm_back (mk := mk) (rd := rd) hn.2.2 hr W
  refine ⟨⟨fun V W e hV => ?_, fun V hV t ht => ?_⟩, fun W hW x hx => ?_, by rw [h1.2.1]; exact h4⟩
  · show frm mk rd W ∈ L
    rw [← frm_gq hn.2.2 e]; exact hV
  · obtain ⟨a1, a2, a3⟩ := h5 _ hV
    have e : frm mk rd (tkW t V) = frm mk rd (tkW t (frm mk rd V)) := frm_gq hn.2.2 (gq_tk hn.2.2 hr t (hb V).symm9)
    have a4 := a3 t ht ht
    have l1 := frm_len mk rd V
    have l2 := frm_len mk rd (tkW t V)
    rw [← e] at a4
    refine ⟨by omega, fun h9 => a4.2 (by omega)⟩
  · exact folk_lt hn (h5 _ hW).1.1 x (EQ_memi (hb W).symm9 hx)
theorem clF_iff {n : Nat} {mk rd : Nat → Nat} (hn : okN n mk rd) (hr : okR rd) {B C : List Nat} {L M : List (List Nat)} (h : clF n mk rd B L) (h' : clF n mk rd C M) : C ∈ L ↔ JN mk rd (psL mk rd [] B) (psL mk rd [] C) := by
  constructor
  · intro hC
    exact (h.2.2.2.2 C hC).1.2.2.2
  · intro hJ
    obtain ⟨a1, a2, a3⟩ := clF_cl hn hr h
    obtain ⟨b1, b2, b3⟩ := clF_cl hn hr h'
    have := cl_JN hn.2.2 hr a1 b1 a2 b2 a3 b3 hJ
    have this2 : frm mk rd C ∈ L := this
    rw [h'.1.2.1] at this2
    exact this2
/-- whether both are one, closed to rings -/
noncomputable def rgA (mk rd : Nat → Nat) (L M : List Nat) : Int32 := if 10 < (frm mk rd L).length ∨ 10 < (frm mk rd M).length then -1 else @ite Int32 (JN mk rd (psL mk rd [] L) (psL mk rd [] M)) (Classical.propDecidable _) 1 0
theorem ring_M {F n : Nat} {mk rd : Nat → Nat} {ki kn nt : Nat → Int32} (hn : okN n mk rd) (hr : okR rd) (hm : netM n mk rd ki kn) (hnt : nt 0 = ii n) (hF : 20000 ≤ F) {L M : List Nat} {s os ot : Nat → Int32} (hL : okL n L) (hs : rS s L) (h24 : L.length ≤ 24) (hM : okL n M) (hos : os 0 = ii M.length) (hot : rL ot M) (hM24 : M.length ≤ 24) (th b tm fmn rm : Int32) (fo co ti fm : Nat → Int32) (rg : Nat → Int64) :
    ∃ b' tm' fmn' rm' fo' co' ti' fm' rg', fX12_ring F 8 nt 12 ki 12 kn 25 s 6 os 144 ot 96 96 96 96 2000 th b tm fmn rm fo co ti fm rg = some (rgA mk rd L M, 0, b', tm', fmn', rm', fo', co', ti', fm', rg') := by
  unfold fX12_ring rgA
  obtain ⟨g1, g2⟩ := frm_ok (mk := mk) hn hr hL (by omega)
  obtain ⟨g3, g4⟩ := frm_ok (mk := mk) hn hr hM (by omega)
  obtain ⟨fo1, co1, ti1, fm1, e1, e2, e3⟩ := form_M (F := F) hn hr hm (by omega) hL hs h24 (frm_FM mk rd L) b tm fmn fo co ti fm
  rw [e1, Option.bind_some]
  show ∃ b' tm' fmn' rm' fo' co' ti' fm' rg', (if ii (frm mk rd L).length ≤ (10 : Int32) then _ else _) = _
  by_cases h1 : 10 < (frm mk rd L).length
  · rw [if_neg (by rw [k_10, ii_le (by omega) (by omega)]; omega), if_pos (Or.inl h1)]
    exact ⟨_, _, _, _, _, _, _, _, _, rfl⟩
  · rw [if_pos (by rw [k_10, ii_le (by omega) (by omega)]; omega)]
    have ep := packed_eq (F := F) (N := 96) (okL12 hn g1) e2 (by omega) (by omega) (by omega)
    have ep' : fX12_packed F (ii (psL mk rd [] L).length, ii 0, ii (frm mk rd L).length, fo1, co1, ti1, fm1).2.2.1 96 (ii (psL mk rd [] L).length, ii 0, ii (frm mk rd L).length, fo1, co1, ti1, fm1).2.2.2.2.2.2 = some (il (pkN (frm mk rd L))) := ep
    rw [ep', Option.bind_some]
    obtain ⟨fo2, co2, j1, j2, j3⟩ := joinsOther_eq (F := F) (Q := []) (fo := fo1) (co := co1) (B := 3) hn hm (by omega) hM hos hot hM24 (by decide) (by omega) okP_nil (by show 0 + M.length ≤ 96; omega) trivial
    have j1' : fX12_joinsOther F 12 ki 12 kn 6 os 144 ot 96 96 (0 : Int32) (ii (psL mk rd [] L).length, ii 0, ii (frm mk rd L).length, fo1, co1, ti1, fm1).2.2.2.1 (ii (psL mk rd [] L).length, ii 0, ii (frm mk rd L).length, fo1, co1, ti1, fm1).2.2.2.2.1 = some (ii (psL mk rd [] M).length, fo2, co2) := j1
    rw [j1', Option.bind_some]
    obtain ⟨q1, q2, q3, q4⟩ := pile_facts (mk := mk) hn hr hM (by omega)
    obtain ⟨ti2, fm2, f1, f2⟩ := laysForm_eq (F := F) (N := 96) (M := 96) hn hm (by omega) (by omega) (by omega) (by omega) q1 q2 (by omega) j3 (frm_FM mk rd M) (by omega) (by omega) (ii 0) (ii (frm mk rd L).length) ti1 fm1
    have f1' : fX12_laysForm F (ii (psL mk rd [] M).length, fo2, co2).1 12 ki 12 kn 96 (ii (psL mk rd [] M).length, fo2, co2).2.1 96 (ii (psL mk rd [] M).length, fo2, co2).2.2 96 96 (ii (psL mk rd [] L).length, ii 0, ii (frm mk rd L).length, fo1, co1, ti1, fm1).2.1 (ii (psL mk rd [] L).length, ii 0, ii (frm mk rd L).length, fo1, co1, ti1, fm1).2.2.1 (ii (psL mk rd [] L).length, ii 0, ii (frm mk rd L).length, fo1, co1, ti1, fm1).2.2.2.2.2.1 (ii (psL mk rd [] L).length, ii 0, ii (frm mk rd L).length, fo1, co1, ti1, fm1).2.2.2.2.2.2 = some (ii 0, ii (frm mk rd M).length, ti2, fm2) := f1
    rw [f1', Option.bind_some]
    show ∃ b' tm' fmn' rm' fo' co' ti' fm' rg', (if ii (frm mk rd M).length ≤ (10 : Int32) then _ else _) = _
    by_cases h2 : 10 < (frm mk rd M).length
    · rw [if_neg (by rw [k_10, ii_le (by omega) (by omega)]; omega), if_pos (Or.inr h2)]
      exact ⟨_, _, _, _, _, _, _, _, _, rfl⟩
    · rw [if_pos (by rw [k_10, ii_le (by omega) (by omega)]; omega), if_neg (by omega)]
      have ep2 := packed_eq (F := F) (N := 96) (okL12 hn g3) f2 (by omega) (by omega) (by omega)
      have ep2' : fX12_packed F (ii 0, ii (frm mk rd M).length, ti2, fm2).2.1 96 (ii 0, ii (frm mk rd M).length, ti2, fm2).2.2.2 = some (il (pkN (frm mk rd M))) := ep2
      rw [ep2', Option.bind_some]
      have ff := fun W => frm_gq (mk := mk) (rd := rd) hn.2.2 (frm_back hn.2.2 hr W)
      obtain ⟨C, LC, c1', c2, c3, c4, c5, c6, c7, c8, d1, d2, d3, d4⟩ := short_L (F := F) hn hr hm hnt hF F (frm mk rd M) (ii (psL mk rd [] M).length) (ii 0) (ii (frm mk rd M).length) rm fo2 co2 ti2 fm2 rg g3 (ff M) (by omega) (by omega)
      have d1' : fX12_shortened F 8 nt 12 ki 12 kn 96 96 96 96 2000 (il (pkN (frm mk rd M))) (ii (psL mk rd [] M).length, fo2, co2).1 (ii 0, ii (frm mk rd M).length, ti2, fm2).1 (ii 0, ii (frm mk rd M).length, ti2, fm2).2.1 rm (ii (psL mk rd [] M).length, fo2, co2).2.1 (ii (psL mk rd [] M).length, fo2, co2).2.2 (ii 0, ii (frm mk rd M).length, ti2, fm2).2.2.1 (ii 0, ii (frm mk rd M).length, ti2, fm2).2.2.2 rg = some (il (pkN C), c1', c2, c3, ii LC.length, c4, c5, c6, c7, c8) := d1
      rw [d1', Option.bind_some]
      obtain ⟨B, LB, x1, x2, x3, x4, x5, x6, x7, x8, y1, y2, y3, y4⟩ := short_L (F := F) hn hr hm hnt hF F (frm mk rd L) c1' c2 c3 (ii LC.length) c4 c5 c6 c7 c8 g1 (ff L) (by omega) (by omega)
      have y1' : fX12_shortened F 8 nt 12 ki 12 kn 96 96 96 96 2000 (il (pkN (frm mk rd L))) (il (pkN C), c1', c2, c3, ii LC.length, c4, c5, c6, c7, c8).2.1 (il (pkN C), c1', c2, c3, ii LC.length, c4, c5, c6, c7, c8).2.2.1 (il (pkN C), c1', c2, c3, ii LC.length, c4, c5, c6, c7, c8).2.2.2.1 (il (pkN C), c1', c2, c3, ii LC.length, c4, c5, c6, c7, c8).2.2.2.2.1 (il (pkN C), c1', c2, c3, ii LC.length, c4, c5, c6, c7, c8).2.2.2.2.2.1 (il (pkN C), c1', c2, c3, ii LC.length, c4, c5, c6, c7, c8).2.2.2.2.2.2.1 (il (pkN C), c1', c2, c3, ii LC.length, c4, c5, c6, c7, c8).2.2.2.2.2.2.2.1 (il (pkN C), c1', c2, c3, ii LC.length, c4, c5, c6, c7, c8).2.2.2.2.2.2.2.2.1 (il (pkN C), c1', c2, c3, ii LC.length, c4, c5, c6, c7, c8).2.2.2.2.2.2.2.2.2 = some (il (pkN B), x1, x2, x3, ii LB.length, x4, x5, x6, x7, x8) := y1
      rw [y1', Option.bind_some]
      have hfd := found_eq (F := F) (O := C) hn (by omega) (fun P hP => ⟨(y3.2.2.2.2 P hP).1.1, by have := (y3.2.2.2.2 P hP).2.1; have := y3.2.1; omega⟩) y3.2.2.1 y2 ⟨d3.1.1, by have := d3.2.1; omega⟩
      have hJ : C ∈ LB ↔ JN mk rd (psL mk rd [] L) (psL mk rd [] M) := by
        rw [clF_iff hn hr y3 d3]
        have bL := JN_EQ (rd := rd) (frm_back (mk := mk) hn.2.2 hr L)
        have bM := JN_EQ (rd := rd) (frm_back (mk := mk) hn.2.2 hr M)
        constructor
        · intro h
          exact JN_tr hn.2.2 (JN_tr hn.2.2 (JN_sy bL) y4) (JN_tr hn.2.2 h (JN_tr hn.2.2 (JN_sy d4) bM))
        · intro h
          exact JN_tr hn.2.2 (JN_tr hn.2.2 (JN_sy y4) bL) (JN_tr hn.2.2 h (JN_tr hn.2.2 (JN_sy bM) d4))
      by_cases hC : C ∈ LB
      · have z1 : fX12_isFound F (il (pkN B), x1, x2, x3, ii LB.length, x4, x5, x6, x7, x8).2.2.2.2.1 2000 (il (pkN B), x1, x2, x3, ii LB.length, x4, x5, x6, x7, x8).2.2.2.2.2.2.2.2.2 (il (pkN C), c1', c2, c3, ii LC.length, c4, c5, c6, c7, c8).1 = some 1 := hfd.1 hC
        rw [z1, Option.bind_some, if_neg (by decide), if_pos (hJ.mp hC)]
        exact ⟨_, _, _, _, _, _, _, _, _, rfl⟩
      · have z1 : fX12_isFound F (il (pkN B), x1, x2, x3, ii LB.length, x4, x5, x6, x7, x8).2.2.2.2.1 2000 (il (pkN B), x1, x2, x3, ii LB.length, x4, x5, x6, x7, x8).2.2.2.2.2.2.2.2.2 (il (pkN C), c1', c2, c3, ii LC.length, c4, c5, c6, c7, c8).1 = some 0 := hfd.2 hC
        rw [z1, Option.bind_some, if_pos rfl, if_neg (fun h9 => hC (hJ.mpr h9))]
        exact ⟨_, _, _, _, _, _, _, _, _, rfl⟩
