/-! PURE: pull of the reference -/
theorem pulls_L {F : Nat} {ki kn : Nat → Int32} {O : List Nat} {o : Nat → Int32} (ho : rL o O) (hO24 : O.length ≤ 24) {b tm : Int32} {fo co ti : Nat → Int32} :
    ∀ (t k : Nat) (s : Nat → Int32), k ≤ O.length → O.length < k + t → s 0 = ii O.length → (∀ i, i < k → s (i + 1) = ii (O.getD i 0)) → ∃ s', fX12_pulls_L25 F 12 ki 12 kn 25 96 96 96 96 t (ii k) b tm (ii O.length) s fo co ti o = some (1, b, tm, ii O.length, s', fo, co, ti, o) ∧ rS s' O := by
  intro t
  induction t with
  | zero => intro k s h1 h2; omega
  | succ t ih =>
    intro k s h1 h2 h3 h4
    rw [sX12_pulls_L25]
    unfold bX12_pulls_L25
    have e1 : (ii O.length ≤ ii k) = (O.length ≤ k) := ii_le (by omega) (by omega)
    by_cases hk : O.length ≤ k
    · rw [if_pos (by rw [e1]; exact hk)]
      exact ⟨s, rfl, h3, fun i hi => h4 i (by omega)⟩
    · have ek : ii k + (1 : Int32) = ii (k + 1) := by rw [k_1, ii_add]
      rw [if_neg (by rw [e1]; exact hk), ek]
      simp (disch := omega) only [ii_nneg, ii_nat, false_or]
      rw [if_neg (by omega), if_neg (by omega), ho k (by omega)]
      refine ih (k + 1) _ (by omega) (by omega) ?_ (fun i hi => ?_)
      · rw [upd_ne _ _ (by omega)]
        exact h3
      · by_cases h5 : i = k
        · rw [h5, upd_same]
        · rw [upd_ne _ _ (by omega)]
          exact h4 i (by omega)
theorem pull_M0 {F n : Nat} {mk rd : Nat → Nat} {ki kn : Nat → Int32} (hn : okN n mk rd) (hr : okR rd) (hm : netM n mk rd ki kn) (hF : 1000 ≤ F) {L : List Nat} {s : Nat → Int32} (hL : okL n L) (hs : rS s L) (h24 : L.length ≤ 24) {O : List Nat} (hO : FM mk (psL mk rd [] L).length (bu rd (psL mk rd [] L)) O) (hOL : O = L) (th d b tm fmn : Int32) (un ah fo co ti fm : Nat → Int32) :
    ∃ b' tm' fmn' fo' co' ti' fm', fX12_pull F 12 ki 12 kn 25 400 5 96 96 96 96 th d b tm fmn s un ah fo co ti fm = some (-1, 0, d, b', tm', fmn', s, un, ah, fo', co', ti', fm') := by
  obtain ⟨fo', co', ti', fm', e1, h3, -⟩ := form_M (F := F) hn hr hm hF hL hs h24 hO b tm fmn fo co ti fm
  obtain ⟨p1, p2, p3, p4⟩ := pile_facts (mk := mk) hn hr hL (by omega)
  have hOl : O.length ≤ 24 := by rw [FM_len hO]; omega
  have hOo := FM_ok hO (fun x hx => (bu_ok hn p1 p2 x hx).2)
  unfold fX12_pull
  rw [e1]
  simp only [Option.bind_some]
  rw [(isForm_eq (F := F) hn.1 hF hOo hL h3 hs hOl h24).1 hOL]
  simp only [Option.bind_some]
  rw [if_neg (by decide)]
  exact ⟨_, _, _, _, _, _, _, rfl⟩
theorem pull_M1 {F n : Nat} {mk rd : Nat → Nat} {ki kn : Nat → Int32} (hn : okN n mk rd) (hr : okR rd) (hm : netM n mk rd ki kn) (hF : 1000 ≤ F) {L : List Nat} {s : Nat → Int32} (hL : okL n L) (hs : rS s L) (h24 : L.length ≤ 24) {O : List Nat} (hO : FM mk (psL mk rd [] L).length (bu rd (psL mk rd [] L)) O) (hOL : O ≠ L) {un : Nat → Int32} {P : List (List Nat)} (hp : rPM un P) (hP : ∀ k, k < P.length → (P.getD k []).length ≤ 24) (th b tm fmn : Int32) (ah fo co ti fm : Nat → Int32) :
    ∃ b' tm' fmn' s' un' fo' co' ti' fm', fX12_pull F 12 ki 12 kn 25 400 5 96 96 96 96 th (ii P.length) b tm fmn s un ah fo co ti fm = some (ii O.length, 0, ii (kp P L).length, b', tm', fmn', s', un', upd ah 0 0, fo', co', ti', fm') ∧ rS s' O ∧ rPM un' (kp P L) := by
  obtain ⟨fo', co', ti', fm', e1, h3, -⟩ := form_M (F := F) hn hr hm hF hL hs h24 hO b tm fmn fo co ti fm
  obtain ⟨p1, p2, p3, p4⟩ := pile_facts (mk := mk) hn hr hL (by omega)
  have hOl : O.length ≤ 24 := by rw [FM_len hO]; omega
  have hOo := FM_ok hO (fun x hx => (bu_ok hn p1 p2 x hx).2)
  obtain ⟨un', e2, h5⟩ := keeps_M hF hp hs h24 hP
  obtain ⟨fo2, co2, ti2, fm2, e3, h6, -⟩ := form_M (F := F) hn hr hm hF hL hs h24 hO (ii (psL mk rd [] L).length) (ii 0) (ii O.length) fo' co' ti' fm'
  obtain ⟨s', e4, h7⟩ := pulls_L (F := F) (ki := ki) (kn := kn) (b := ii (psL mk rd [] L).length) (tm := ii 0) (fo := fo2) (co := co2) (ti := ti2) h6 hOl F 0 (upd s 0 (ii O.length)) (by omega) (by omega) (upd_same _ _ _) (fun i hi => absurd hi (by omega))
  unfold fX12_pull fX12_pulls
  rw [e1]
  simp only [Option.bind_some]
  rw [(isForm_eq (F := F) hn.1 hF hOo hL h3 hs hOl h24).2 hOL]
  simp only [Option.bind_some]
  rw [if_pos trivial, e2]
  simp only [Option.bind_some]
  rw [e3]
  simp only [Option.bind_some]
  rw [(isForm_eq (F := F) hn.1 hF hOo hL h6 hs hOl h24).2 hOL]
  simp only [Option.bind_some]
  rw [if_pos trivial, if_neg (by decide)]
  have e5 : fX12_pulls_L25 F 12 ki 12 kn 25 96 96 96 96 F (0 : Int32) (ii (psL mk rd [] L).length) (ii 0) (ii O.length) (upd s (0 : Int32).toNatClampNeg (ii O.length)) fo2 co2 ti2 fm2 = some (1, ii (psL mk rd [] L).length, ii 0, ii O.length, s', fo2, co2, ti2, fm2) := e4
  rw [e5]
  simp only [Option.bind_some]
  rw [if_neg (by decide), if_neg (by decide)]
  have e6 : s' (0 : Int32).toNatClampNeg = ii O.length := h7.1
  rw [e6]
  exact ⟨_, _, _, s', un', _, _, _, _, rfl, h7, h5⟩
