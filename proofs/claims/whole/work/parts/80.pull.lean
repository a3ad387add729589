/-! PURE: pull of both sides -/
theorem getD_ext {O L : List Nat} (hl : O.length = L.length) (h : ∀ i, i < O.length → O.getD i 0 = L.getD i 0) : O = L := by
  apply List.ext_getElem hl
  intro i h1 h2
  have h3 := h i h1
  rw [List.getD_eq_getElem?_getD, List.getD_eq_getElem?_getD, List.getElem?_eq_getElem h1, List.getElem?_eq_getElem h2] at h3
  exact h3
theorem isLike_L {F n : Nat} (hn : n ≤ 6) {O L : List Nat} {o a : Nat → Int32} (hO : okL n O) (hL : okL n L) (ho : rL o O) (ha : rL a L) (hl : O.length = L.length) (h24 : L.length ≤ 24) {z : Int32} :
    ∀ (t k : Nat), k ≤ O.length → O.length < k + t → (∀ i, i < k → O.getD i 0 = L.getD i 0) → (O = L → fX7_isLike_L15 F (ii O.length) 24 o z 24 a t (ii k) = some 1) ∧ (O ≠ L → fX7_isLike_L15 F (ii O.length) 24 o z 24 a t (ii k) = some 0) := by
  intro t
  induction t with
  | zero => intro k h1 h2; omega
  | succ t ih =>
    intro k h1 h2 h3
    rw [sX7_isLike_L15]
    unfold bX7_isLike_L15
    have e1 : (ii O.length ≤ ii k) = (O.length ≤ k) := ii_le (by omega) (by omega)
    by_cases hk : O.length ≤ k
    · rw [if_pos (by rw [e1]; exact hk)]
      exact ⟨fun _ => rfl, fun h => absurd (getD_ext hl (fun i hi => h3 i (by omega))) h⟩
    · rw [if_neg (by rw [e1]; exact hk)]
      have t1 := hO _ (rL_mem (a := o) (L := O) (k := k) (by omega))
      have t2 := hL _ (rL_mem (a := a) (L := L) (k := k) (by omega))
      simp (disch := omega) only [ii_nneg, ii_nat, false_or]
      rw [if_neg (by omega), if_neg (by omega), ho k (by omega), ha k (by omega)]
      have e2 : (ii (O.getD k 0) = ii (L.getD k 0)) = (O.getD k 0 = L.getD k 0) := ii_inj (by omega) (by omega)
      by_cases he : O.getD k 0 = L.getD k 0
      · rw [if_pos (by rw [e2]; exact he), k_1, ii_add]
        exact ih (k + 1) (by omega) (by omega) (fun i hi => by
          by_cases h5 : i = k
          · rw [h5]
            exact he
          · exact h3 i (by omega))
      · rw [if_neg (by rw [e2]; exact he)]
        exact ⟨fun h => absurd (by rw [h]) he, fun _ => rfl⟩
theorem isLike_eq {F n : Nat} (hn : n ≤ 6) (hF : 1000 ≤ F) {O L : List Nat} {o a : Nat → Int32} (hO : okL n O) (hL : okL n L) (ho : rL o O) (ha : rL a L) (hO24 : O.length ≤ 24) (h24 : L.length ≤ 24) :
    (O = L → fX7_isLike F (ii O.length) 24 o (ii L.length) 24 a = some 1) ∧ (O ≠ L → fX7_isLike F (ii O.length) 24 o (ii L.length) 24 a = some 0) := by
  unfold fX7_isLike
  have e1 : (ii O.length = ii L.length) = (O.length = L.length) := ii_inj (by omega) (by omega)
  by_cases hl : O.length = L.length
  · rw [if_pos (by rw [e1]; exact hl)]
    exact isLike_L hn hO hL ho ha hl h24 F 0 (by omega) (by omega) (fun i hi => absurd hi (by omega))
  · rw [if_neg (by rw [e1]; exact hl)]
    exact ⟨fun h => absurd (by rw [h]) hl, fun _ => rfl⟩
theorem isForm_L {F n : Nat} (hn : n ≤ 6) {O L : List Nat} {o s : Nat → Int32} (hO : okL n O) (hL : okL n L) (ho : rL o O) (hs : rS s L) (hl : O.length = L.length) (h24 : L.length ≤ 24) :
    ∀ (t k : Nat), k ≤ O.length → O.length < k + t → (∀ i, i < k → O.getD i 0 = L.getD i 0) → (O = L → fX12_isForm_L17 F (ii O.length) 25 s 96 o t (ii k) = some 1) ∧ (O ≠ L → fX12_isForm_L17 F (ii O.length) 25 s 96 o t (ii k) = some 0) := by
  intro t
  induction t with
  | zero => intro k h1 h2; omega
  | succ t ih =>
    intro k h1 h2 h3
    rw [sX12_isForm_L17]
    unfold bX12_isForm_L17
    have e1 : (ii O.length ≤ ii k) = (O.length ≤ k) := ii_le (by omega) (by omega)
    by_cases hk : O.length ≤ k
    · rw [if_pos (by rw [e1]; exact hk)]
      exact ⟨fun _ => rfl, fun h => absurd (getD_ext hl (fun i hi => h3 i (by omega))) h⟩
    · rw [if_neg (by rw [e1]; exact hk)]
      have t1 := hO _ (rL_mem (a := o) (L := O) (k := k) (by omega))
      have t2 := hL _ (rL_mem (a := o) (L := L) (k := k) (by omega))
      have ek : ii k + (1 : Int32) = ii (k + 1) := by rw [k_1, ii_add]
      rw [ek]
      simp (disch := omega) only [ii_nneg, ii_nat, false_or]
      rw [if_neg (by omega), if_neg (by omega), ho k (by omega), hs.2 k (by omega)]
      have e2 : (ii (O.getD k 0) = ii (L.getD k 0)) = (O.getD k 0 = L.getD k 0) := ii_inj (by omega) (by omega)
      by_cases he : O.getD k 0 = L.getD k 0
      · rw [if_pos (by rw [e2]; exact he)]
        exact ih (k + 1) (by omega) (by omega) (fun i hi => by
          by_cases h5 : i = k
          · rw [h5]
            exact he
          · exact h3 i (by omega))
      · rw [if_neg (by rw [e2]; exact he)]
        exact ⟨fun h => absurd (by rw [h]) he, fun _ => rfl⟩
theorem isForm_eq {F n : Nat} (hn : n ≤ 6) (hF : 1000 ≤ F) {O L : List Nat} {o s : Nat → Int32} (hO : okL n O) (hL : okL n L) (ho : rL o O) (hs : rS s L) (hO24 : O.length ≤ 24) (h24 : L.length ≤ 24) :
    (O = L → fX12_isForm F (ii O.length) 25 s 96 o = some 1) ∧ (O ≠ L → fX12_isForm F (ii O.length) 25 s 96 o = some 0) := by
  unfold fX12_isForm
  have e0 : s ((0 : Int32).toNatClampNeg) = ii L.length := hs.1
  rw [if_neg (by decide), e0]
  have e1 : (ii O.length = ii L.length) = (O.length = L.length) := ii_inj (by omega) (by omega)
  by_cases hl : O.length = L.length
  · rw [if_pos (by rw [e1]; exact hl)]
    exact isForm_L hn hO hL ho hs hl h24 F 0 (by omega) (by omega) (fun i hi => absurd hi (by omega))
  · rw [if_neg (by rw [e1]; exact hl)]
    exact ⟨fun h => absurd (by rw [h]) hl, fun _ => rfl⟩
theorem layForm_eq {F n : Nat} {mk rd : Nat → Nat} {st ro : Nat → Int32} (hn : okN n mk rd) (hr : okR rd) (hx : netX n mk rd st ro) (hF : 1000 ≤ F) {L : List Nat} {a : Nat → Int32} (hL : okL n L) (ha : rL a L) (h24 : L.length ≤ 24) {O : List Nat} (hO : FM mk (psL mk rd [] L).length (bu rd (psL mk rd [] L)) O) (sz : Int32) (fo co w : Nat → Int32) (ks : Int32) (kt : Nat → Int32) :
    ∃ z fo' co' w' kt', fX5_layForm F 96 96 96 (ii n) 6 st 6 ro (ii L.length) 24 a 24 sz fo co w ks kt = some (z, fo', co', w', ii O.length, kt') ∧ rL kt' O := by
  obtain ⟨fo', co', e1, h2⟩ := push0_eq (F := F) (N := 96) hn hx (by omega) (by omega) hL ha h24 (by omega) (by omega) (by omega) (by omega) fo co
  obtain ⟨p1, p2, p3, p4⟩ := pile_facts hn hr hL (by omega)
  have hOl : O.length ≤ 24 := by rw [FM_len hO]; omega
  obtain ⟨w', kt', e2, h3⟩ := writeForm_eq (F := F) (S := 6) (R := 6) (N := 96) (N2 := 96) (W := 96) (M := 24) hn hx (by have := hn.1; omega) (by have := hn.1; omega) p1 p2 h2 (by omega) (by omega) (by omega) (by omega) (by omega) (by omega) (by omega) hO hOl w kt ks
  unfold fX5_layForm fX5_clear
  simp only [Option.bind_some]
  rw [e1]
  simp only [Option.bind_some]
  rw [e2]
  exact ⟨_, _, _, _, _, rfl, h3⟩
theorem pull_X0 {F n : Nat} {mk rd : Nat → Nat} {st ro : Nat → Int32} (hn : okN n mk rd) (hr : okR rd) (hx : netX n mk rd st ro) (hF : 1000 ≤ F) {L : List Nat} {a : Nat → Int32} (hL : okL n L) (ha : rL a L) (h24 : L.length ≤ 24) {O : List Nat} (hO : FM mk (psL mk rd [] L).length (bu rd (psL mk rd [] L)) O) (hOL : O = L) (ah po pz sz : Int32) (fo co w : Nat → Int32) (ks : Int32) (kt rs : Nat → Int32) (rt : Nat → Nat → Int32) :
    ∃ z fo' co' w' z2 kt', fX11_pull F (ii n) 6 st 6 ro 24 16 96 96 96 24 24 ah (ii L.length) a po pz sz fo co w ks kt rs rt = some (-1, ah, ii L.length, a, po, pz, z, fo', co', w', z2, kt', rs, rt) := by
  obtain ⟨z, fo', co', w', kt', e1, h3⟩ := layForm_eq (F := F) hn hr hx hF hL ha h24 hO sz fo co w ks kt
  obtain ⟨p1, p2, p3, p4⟩ := pile_facts (mk := mk) hn hr hL (by omega)
  have hOl : O.length ≤ 24 := by rw [FM_len hO]; omega
  have hOo := FM_ok hO (fun x hx => (bu_ok hn p1 p2 x hx).2)
  unfold fX11_pull
  rw [e1]
  simp only [Option.bind_some]
  rw [(isLike_eq (F := F) hn.1 hF hOo hL h3 ha hOl h24).1 hOL]
  simp only [Option.bind_some]
  rw [if_neg (by decide)]
  exact ⟨_, _, _, _, _, _, rfl⟩
theorem pull_X1 {F n o : Nat} {mk rd : Nat → Nat} {st ro : Nat → Int32} (hn : okN n mk rd) (hr : okR rd) (hx : netX n mk rd st ro) (hF : 1000 ≤ F) {L : List Nat} {a : Nat → Int32} (hL : okL n L) (ha : rL a L) (h24 : L.length ≤ 24) {O : List Nat} (hO : FM mk (psL mk rd [] L).length (bu rd (psL mk rd [] L)) O) (hOL : O ≠ L) {P : List (List Nat)} {rs : Nat → Int32} {rt : Nat → Nat → Int32} (hp : rPX o rs rt P) (ah sz : Int32) (fo co w : Nat → Int32) (ks : Int32) (kt : Nat → Int32) :
    ∃ a' o' z fo' co' w' z2 kt' rs' rt', fX11_pull F (ii n) 6 st 6 ro 24 16 96 96 96 24 24 ah (ii L.length) a (ii o) (ii P.length) sz fo co w ks kt rs rt = some (ii O.length, 0, ii O.length, a', ii o', ii (kp P L).length, z, fo', co', w', z2, kt', rs', rt') ∧ rL a' O ∧ rPX o' rs' rt' (kp P L) := by
  obtain ⟨z, fo', co', w', kt', e1, h3⟩ := layForm_eq (F := F) hn hr hx hF hL ha h24 hO sz fo co w ks kt
  obtain ⟨p1, p2, p3, p4⟩ := pile_facts (mk := mk) hn hr hL (by omega)
  have hOl : O.length ≤ 24 := by rw [FM_len hO]; omega
  have hOo := FM_ok hO (fun x hx => (bu_ok hn p1 p2 x hx).2)
  obtain ⟨o', rs', rt', e2, h5⟩ := keep_X (F := F) hp ha h24
  unfold fX11_pull
  rw [e1]
  simp only [Option.bind_some]
  rw [(isLike_eq (F := F) hn.1 hF hOo hL h3 ha hOl h24).2 hOL]
  simp only [Option.bind_some]
  rw [if_pos trivial, e2]
  simp only [Option.bind_some]
  rw [row_copy2 hOl hOl (by omega) (by omega)]
  exact ⟨_, _, _, _, _, _, _, _, _, _, rfl, cpA_rL h3, h5⟩
