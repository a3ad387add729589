/-! PURE: what both sides ask of a token -/
def kR (R : List Tk) : Nat := (R.headD dT).1
def wR (R : List Tk) : List Nat := (R.headD dT).2.1
def sR (R : List Tk) : Nat := (R.headD dT).2.2
theorem R_eta {R : List Tk} (h : R ≠ []) : R = (kR R, wR R, sR R) :: R.tail := by
  cases R with
  | nil => exact absurd rfl h
  | cons x R => rfl
theorem tpX_c {T : List Nat} {TK R : List Tk} {sz cn he : Int32} {tk sta : Nat → Int32} {vl : Nat → Int64} (h : tpX T TK R sz cn he tk sta vl) : tpX T TK ((kR R, wR R, sR R) :: R.tail) sz cn he tk sta vl := by
  have hne := h.2.2.2.2.1
  rw [← R_eta hne]
  exact h
theorem tpX_k {T : List Nat} {TK R : List Tk} {sz cn he : Int32} {tk sta : Nat → Int32} {vl : Nat → Int64} (h : tpX T TK R sz cn he tk sta vl) : kR R ≤ 61 ∧ sR R ≤ 1000 ∧ okTk T (kR R, wR R, sR R) := by
  obtain ⟨a, h1, h2, h3, h4, h5, h6, h7, h8, h9, h10, h11⟩ := tpX_at (tpX_c h)
  exact ⟨h10, h11, h9⟩
theorem tokX {F : Nat} {T : List Nat} {TK R : List Tk} {sz cn he : Int32} {tk sta : Nat → Int32} {vl : Nat → Int64} (h : tpX T TK R sz cn he tk sta vl) : fX9_token F cn he 1001 tk = some (ii (kR R)) := tok_X (tpX_c h)
theorem wrongX {F k : Nat} {T : List Nat} {TK R : List Tk} {sz cn he : Int32} {tk sta : Nat → Int32} {vl : Nat → Int64} (h : tpX T TK R sz cn he tk sta vl) (fa : Int32) : fX9_wrong F sz cn he 1001 sta (ii k) fa = some (0, ii (k + 16 * sR R)) := wrong_X (tpX_c h) fa
theorem expectX1 {F c : Nat} {T : List Nat} {TK R : List Tk} {sz cn he : Int32} {tk sta : Nat → Int32} {vl : Nat → Int64} (h : tpX T TK R sz cn he tk sta vl) (hc : kR R = c) (fa : Int32) : ∃ he', fX9_expect F sz cn 1001 tk 1001 sta (ii c) he fa = some (1, he', fa) ∧ tpX T TK (stp R) sz cn he' tk sta vl := by
  have := expect_X1 (F := F) (tpX_c h) hc fa
  rw [← R_eta h.2.2.2.2.1] at this
  exact this
theorem expectX0 {F c : Nat} (hc9 : c < 1000) {T : List Nat} {TK R : List Tk} {sz cn he : Int32} {tk sta : Nat → Int32} {vl : Nat → Int64} (h : tpX T TK R sz cn he tk sta vl) (hc : kR R ≠ c) (fa : Int32) : fX9_expect F sz cn 1001 tk 1001 sta (ii c) he fa = some (0, he, ii (1 + 16 * sR R)) := expect_X0 hc9 (tpX_c h) hc fa
/-- names of folk -/
def okNM (NM : List (List Nat)) : Prop := ∀ w ∈ NM, okW w ∧ w.length ≤ 8
def ixF (NM : List (List Nat)) (w : List Nat) : Nat → Nat → Int
  | 0, _ => -1
  | r + 1, k => if NM.getD k [] = w then (k : Int) else ixF NM w r (k + 1)
def ixN (NM : List (List Nat)) (w : List Nat) : Int := ixF NM w NM.length 0
theorem ixF_b (NM : List (List Nat)) (w : List Nat) : ∀ r k, k + r = NM.length → -1 ≤ ixF NM w r k ∧ ixF NM w r k < NM.length
  | 0, k, _ => by
    show -1 ≤ (-1 : Int) ∧ (-1 : Int) < NM.length
    omega
  | r + 1, k, h => by
    unfold ixF
    by_cases h1 : NM.getD k [] = w
    · rw [if_pos h1]
      omega
    · rw [if_neg h1]
      exact ixF_b NM w r (k + 1) (by omega)
theorem ixN_b (NM : List (List Nat)) (w : List Nat) : -1 ≤ ixN NM w ∧ ixN NM w < NM.length := ixF_b NM w NM.length 0 (by omega)
def nmX (NM : List (List Nat)) (nm : Nat → Int64) : Prop := ∀ k, k < NM.length → nm k = il (bv 32 (NM.getD k []))
def nmM (r : Nat) (NM : List (List Nat)) (fn : Nat → Int64) : Prop := ∀ k, k < NM.length → fn (6 * r + k) = il (bv 27 (NM.getD k []))
theorem getN_mem {NM : List (List Nat)} {k : Nat} (h : k < NM.length) : NM.getD k [] ∈ NM := by
  rw [List.getD_eq_getElem?_getD, List.getElem?_eq_getElem h]
  exact List.getElem_mem h
theorem folkNamed_L {F : Nat} {NM : List (List Nat)} (h6 : NM.length ≤ 6) (hok : okNM NM) {nm : Nat → Int64} (hnm : nmX NM nm) {w : List Nat} (hw : okW w) (hl : w.length ≤ 8) :
    ∀ (t k : Nat), k ≤ NM.length → NM.length < k + t → fX2_folkNamed_L2 F (ii NM.length) 6 nm t (il (bv 32 w)) (ii k) = some (iz (ixF NM w (NM.length - k) k)) := by
  intro t
  induction t with
  | zero => intro k h1 h2; omega
  | succ t ih =>
    intro k h1 h2
    rw [sX2_folkNamed_L2]
    unfold bX2_folkNamed_L2
    by_cases h : NM.length ≤ k
    · rw [if_pos (by rw [ii_le (by omega) (by omega)]; exact h), show NM.length - k = 0 from by omega]
      rfl
    · have hm := hok _ (getN_mem (show k < NM.length by omega))
      rw [if_neg (by rw [ii_le (by omega) (by omega)]; exact h), if_neg (nidx (by omega) (by omega)), ii_nat (by omega), hnm k (by omega), show NM.length - k = (NM.length - (k + 1)) + 1 from by omega]
      have e := cmp_w (b := 32) (Or.inr rfl) hm.1 hw hm.2 hl
      unfold ixF
      by_cases h3 : NM.getD k [] = w
      · rw [if_pos (by rw [e]; exact h3), if_pos h3, ii_iz]
      · rw [if_neg (by rw [e]; exact h3), if_neg h3, k_1, ii_add]
        exact ih (k + 1) (by omega) (by omega)
theorem folkNamed_X {F : Nat} (hF : 1000 ≤ F) {NM : List (List Nat)} (h6 : NM.length ≤ 6) (hok : okNM NM) {nm : Nat → Int64} (hnm : nmX NM nm) {w : List Nat} (hw : okW w) (hl : w.length ≤ 8) : fX2_folkNamed F (ii NM.length) 6 nm (il (bv 32 w)) = some (iz (ixN NM w)) := by
  unfold fX2_folkNamed
  exact folkNamed_L h6 hok hnm hw hl F 0 (by omega) (by omega)
theorem folkNamedM_L {F r : Nat} (hr : r < 2) {NM : List (List Nat)} (h6 : NM.length ≤ 6) (hok : okNM NM) {nt : Nat → Int32} (hnt : nt (4 * r) = ii NM.length) {fn : Nat → Int64} (hnm : nmM r NM fn) {w : List Nat} (hw : okW w) (hl : w.length ≤ 8) :
    ∀ (t k : Nat), k ≤ NM.length → NM.length < k + t → fX12_folkNamed_L2 F (il (bv 27 w)) 8 nt 12 fn t (ii r) (ii k) = some (iz (ixF NM w (NM.length - k) k)) := by
  intro t
  induction t with
  | zero => intro k h1 h2; omega
  | succ t ih =>
    intro k h1 h2
    rw [sX12_folkNamed_L2]
    unfold bX12_folkNamed_L2
    have e0 : (4 : Int32) * ii r + (0 : Int32) = ii (4 * r) := by rw [k_4, ii_mul, k_0, ii_add]; rfl
    have e6 : (6 : Int32) * ii r + ii k = ii (6 * r + k) := by rw [k_6, ii_mul, ii_add]
    rw [e0, e6, if_neg (nidx (by omega) (by omega)), ii_nat (show 4 * r < 2147483648 by omega), hnt]
    by_cases h : NM.length ≤ k
    · rw [if_pos (by rw [ii_le (by omega) (by omega)]; exact h), show NM.length - k = 0 from by omega]
      rfl
    · have hm := hok _ (getN_mem (show k < NM.length by omega))
      rw [if_neg (by rw [ii_le (by omega) (by omega)]; exact h), if_neg (nidx (by omega) (by omega)), ii_nat (by omega), hnm k (by omega), show NM.length - k = (NM.length - (k + 1)) + 1 from by omega]
      have e := cmp_w (b := 27) (Or.inl rfl) hm.1 hw hm.2 hl
      unfold ixF
      by_cases h3 : NM.getD k [] = w
      · rw [if_pos (by rw [e]; exact h3), if_pos h3, ii_iz]
      · rw [if_neg (by rw [e]; exact h3), if_neg h3, k_1, ii_add]
        exact ih (k + 1) (by omega) (by omega)
theorem folkNamed_M {F r : Nat} (hF : 1000 ≤ F) (hr : r < 2) {NM : List (List Nat)} (h6 : NM.length ≤ 6) (hok : okNM NM) {nt : Nat → Int32} (hnt : nt (4 * r) = ii NM.length) {fn : Nat → Int64} (hnm : nmM r NM fn) {w : List Nat} (hw : okW w) (hl : w.length ≤ 8) : fX12_folkNamed F (il (bv 27 w)) 8 nt 12 fn (ii r) = some (iz (ixN NM w)) := by
  unfold fX12_folkNamed
  exact folkNamedM_L hr h6 hok hnt hnm hw hl F 0 (by omega) (by omega)
theorem iz_m1 {z : Int} (h1 : -1 ≤ z) (h2 : z < 1000) : (iz z = (-1 : Int32)) = (z = -1) := by rw [kz_m1, iz_inj (by omega) (by omega) (by omega) (by omega)]
/-- a folk is named -/
theorem nameHere_X0 {F : Nat} {NM : List (List Nat)} {nm : Nat → Int64} {T : List Nat} {TK R : List Tk} {sz cn he : Int32} {tk sta : Nat → Int32} {vl : Nat → Int64} (h : tpX T TK R sz cn he tk sta vl) (hk : ¬ (16 ≤ kR R ∧ kR R ≤ 20)) (fa : Int32) : fX2_nameHere F (ii NM.length) 6 nm sz cn he 1001 tk 1001 sta 1001 vl fa = some (-1, ii (1 + 16 * sR R)) := by
  unfold fX2_nameHere
  rw [isName_X (tpX_c h), Option.bind_some, if_neg hk, if_pos rfl, k_1, wrongX h, Option.bind_some]
theorem nameHere_X1 {F : Nat} (hF : 1000 ≤ F) {NM : List (List Nat)} (h6 : NM.length ≤ 6) (hok : okNM NM) {nm : Nat → Int64} (hnm : nmX NM nm) {T : List Nat} {TK R : List Tk} {sz cn he : Int32} {tk sta : Nat → Int32} {vl : Nat → Int64} (h : tpX T TK R sz cn he tk sta vl) (hk : 16 ≤ kR R ∧ kR R ≤ 20) (fa : Int32) : (ixN NM (wR R) = -1 → fX2_nameHere F (ii NM.length) 6 nm sz cn he 1001 tk 1001 sta 1001 vl fa = some (-1, ii (2 + 16 * sR R))) ∧ (ixN NM (wR R) ≠ -1 → fX2_nameHere F (ii NM.length) 6 nm sz cn he 1001 tk 1001 sta 1001 vl fa = some (iz (ixN NM (wR R)), fa)) := by
  obtain ⟨t1, t2, t3⟩ := tpX_k h
  obtain ⟨w1, w2, w3⟩ := t3.2.1 hk.2
  have hb := ixN_b NM (wR R)
  have em := iz_m1 hb.1 (show ixN NM (wR R) < 1000 by omega)
  unfold fX2_nameHere bX2_nameHere_L35
  rw [isName_X (tpX_c h), Option.bind_some, if_pos hk, if_neg (by decide), name_X (tpX_c h) hk.2, Option.bind_some, folkNamed_X hF h6 hok hnm w1 w2, Option.bind_some]
  refine ⟨fun hx => ?_, fun hx => ?_⟩
  · rw [if_pos (by rw [em]; exact hx), k_2, wrongX h, Option.bind_some, hx]
    rfl
  · rw [if_neg (by rw [em]; exact hx)]
theorem nsM_ne {T : List Nat} {R : List Tk} {pl bg tkn : Int32} {wd : Int64} {td : Int32} (h : nsM T R pl bg tkn wd td) : okTk T (kR R, wR R, sR R) ∧ bg = ii (sR R) ∧ tkn = ii (tMk (kR R)) ∧ (kR R ≤ 20 → wd = il (bv 27 (wR R))) ∧ (kR R = 21 → td = ii (dv (wR R))) ∧ kR R ≤ 61 := by
  obtain ⟨κ, w, σ, R', h1, h2, h3, h4, h5, h6, h7⟩ := h
  subst h1
  refine ⟨h2, h3, h4, h5, h6, ?_⟩
  show κ ≤ 61
  by_cases hc : 24 ≤ κ
  · have := (h2.2.2.2 hc).2.2
    simp only at this
    omega
  · omega
theorem tMk_eq {κ : Nat} (h : κ ≤ 61) : (ii (tMk κ) = (1 : Int32)) = (κ ≤ 20) ∧ (ii (tMk κ) = (2 : Int32)) = (κ = 21) ∧ (ii (tMk κ) = 0) = (κ = 22) ∧ (ii (tMk κ) = (3 : Int32)) = (24 ≤ κ) := by
  have hb : tMk κ ≤ 4 := by
    unfold tMk
    split
    · omega
    · split
      · omega
      · split
        · omega
        · split <;> omega
  have e1 : (ii (tMk κ) = (1 : Int32)) = (tMk κ = 1) := ii_inj (b := 1) (by omega) (by omega)
  have e2 : (ii (tMk κ) = (2 : Int32)) = (tMk κ = 2) := ii_inj (b := 2) (by omega) (by omega)
  have e0 : (ii (tMk κ) = (0 : Int32)) = (tMk κ = 0) := ii_inj (b := 0) (by omega) (by omega)
  have e3 : (ii (tMk κ) = (3 : Int32)) = (tMk κ = 3) := ii_inj (b := 3) (by omega) (by omega)
  rw [e1, e2, e0, e3]
  unfold tMk
  by_cases c1 : κ ≤ 20
  · rw [if_pos c1]
    refine ⟨propext ?_, propext ?_, propext ?_, propext ?_⟩ <;> omega
  · rw [if_neg c1]
    by_cases c2 : κ = 21
    · rw [if_pos c2]
      refine ⟨propext ?_, propext ?_, propext ?_, propext ?_⟩ <;> omega
    · rw [if_neg c2]
      by_cases c3 : κ = 22
      · rw [if_pos c3]
        refine ⟨propext ?_, propext ?_, propext ?_, propext ?_⟩ <;> omega
      · rw [if_neg c3]
        by_cases c4 : κ = 23
        · rw [if_pos c4]
          refine ⟨propext ?_, propext ?_, propext ?_, propext ?_⟩ <;> omega
        · rw [if_neg c4]
          refine ⟨propext ?_, propext ?_, propext ?_, propext ?_⟩ <;> omega
theorem isWordM {F k : Nat} (hk : k < 20) {c : Int64} (hc : c = il (WC k)) {T : List Nat} {R : List Tk} {pl bg tkn : Int32} {wd : Int64} {td : Int32} (h : nsM T R pl bg tkn wd td) : fX12_isWord F tkn wd c = some (if kR R = k then 1 else 0) := by
  obtain ⟨h1, h2, h3, h4, h5, h6⟩ := nsM_ne h
  obtain ⟨t1, t2, t3, t4⟩ := tMk_eq h6
  unfold fX12_isWord bX12_isWord_L21 bX12_isWord_L22
  rw [h3]
  by_cases c1 : kR R ≤ 20
  · obtain ⟨w1, w2, w3⟩ := h1.2.1 c1
    simp only at w1 w2 w3
    have e := cmp_k (k := k) w1 w2 hk
    rw [w3] at e
    rw [if_pos (by rw [t1]; exact c1), h4 c1, hc]
    by_cases c2 : kR R = k
    · rw [if_pos (by rw [e]; exact c2), if_pos (Or.inr rfl), if_pos c2]
    · rw [if_neg (by rw [e]; exact c2), if_pos (Or.inl rfl), if_neg c2]
  · rw [if_neg (by rw [t1]; exact c1), if_pos (Or.inl rfl), if_neg (by omega)]
theorem isSignM {F c : Nat} (hc : 24 ≤ c) (hc2 : c < 1000) {T : List Nat} (hT : okT T) {tp : Nat → Int32} (ht : rL tp T) {R : List Tk} {pl bg tkn : Int32} {wd : Int64} {td : Int32} (h : nsM T R pl bg tkn wd td) : fX12_isSign F bg tkn 1000 tp (ii c) = some (if kR R = c then 1 else 0) := by
  obtain ⟨h1, h2, h3, h4, h5, h6⟩ := nsM_ne h
  obtain ⟨t1, t2, t3, t4⟩ := tMk_eq h6
  have hT1 := hT.1
  unfold fX12_isSign bX12_isSign_L25 bX12_isSign_L26
  rw [h3]
  by_cases c1 : 24 ≤ kR R
  · obtain ⟨s1, s2, -⟩ := h1.2.2.2 c1
    simp only at s1 s2
    rw [if_pos (by rw [t4]; exact c1), h2, if_neg (nidx (by omega) (by omega)), ii_nat (by omega), ht _ s2, s1]
    have e : (ii (kR R) = ii c) = (kR R = c) := ii_inj (by omega) (by omega)
    by_cases c2 : kR R = c
    · rw [if_pos (by rw [e]; exact c2), if_pos (Or.inr rfl), if_pos c2]
    · rw [if_neg (by rw [e]; exact c2), if_pos (Or.inl rfl), if_neg c2]
  · rw [if_neg (by rw [t4]; exact c1), if_pos (Or.inl rfl), if_neg (by omega)]
theorem failsM {F k : Nat} {T : List Nat} {R : List Tk} {pl bg tkn : Int32} {wd : Int64} {td : Int32} (h : nsM T R pl bg tkn wd td) (wr : Int32) : fX12_fails F bg (ii k) wr = some (0, ii (k + 16 * sR R)) := by
  obtain ⟨h1, h2, h3, h4, h5, h6⟩ := nsM_ne h
  unfold fX12_fails
  rw [h2, k_16, ii_mul, ii_add]
theorem isKeptM {F : Nat} {T : List Nat} {R : List Tk} {pl bg tkn : Int32} {wd : Int64} {td : Int32} (h : nsM T R pl bg tkn wd td) : fX12_isKept F tkn wd = some (if 16 ≤ kR R ∧ kR R ≤ 20 then 0 else 1) := by
  obtain ⟨h1, h2, h3, h4, h5, h6⟩ := nsM_ne h
  obtain ⟨t1, t2, t3, t4⟩ := tMk_eq h6
  unfold fX12_isKept bX12_isKept_L186 bX12_isKept_L191
  rw [h3, if_pos (show (1 : Int32) = 0 ∨ (1 : Int32) = 1 from Or.inr rfl), if_pos (show (0 : Int32) = 0 ∨ (0 : Int32) = 1 from Or.inl rfl)]
  by_cases c1 : kR R ≤ 20
  · obtain ⟨w1, w2, w3⟩ := h1.2.1 c1
    simp only at w1 w2 w3
    have e : ∀ k, k < 20 → (lg_cmp (il (bv 27 (wR R))) (il (WC k)) = 0) = (kR R = k) := by
      intro k hk
      rw [← w3]
      exact cmp_k w1 w2 hk
    rw [if_pos (by rw [t1]; exact c1), h4 c1]
    have key : ∀ (k : Nat) (x : Int64) (y : Option Int32), k < 20 → x = il (WC k) → (if lg_cmp (il (bv 27 (wR R))) x = 0 then some (1 : Int32) else y) = if kR R = k then some 1 else y := by
      intro k x y hk hx
      rw [hx]
      by_cases c2 : kR R = k
      · rw [if_pos (by rw [e k hk]; exact c2), if_pos c2]
      · rw [if_neg (by rw [e k hk]; exact c2), if_neg c2]
    rw [key 0 (129368 : Int64) _ (by omega) rfl, key 1 (8276 : Int64) _ (by omega) rfl, key 2 (243140 : Int64) _ (by omega) rfl, key 3 (365666 : Int64) _ (by omega) rfl, key 4 (10656676 : Int64) _ (by omega) rfl, key 5 (311436 : Int64) _ (by omega) rfl, key 6 (11438892 : Int64) _ (by omega) rfl, key 7 (2774 : Int64) _ (by omega) rfl, key 8 (330573 : Int64) _ (by omega) rfl, key 9 (43393 : Int64) _ (by omega) rfl, key 10 (382984 : Int64) _ (by omega) rfl, key 11 (4443344 : Int64) _ (by omega) rfl, key 12 (16812 : Int64) _ (by omega) rfl, key 13 (10631 : Int64) _ (by omega) rfl, key 14 (1111 : Int64) _ (by omega) rfl, key 15 (423 : Int64) _ (by omega) rfl]
    by_cases c2 : 16 ≤ kR R
    · rw [if_neg (by omega), if_neg (by omega), if_neg (by omega), if_neg (by omega), if_neg (by omega), if_neg (by omega), if_neg (by omega), if_neg (by omega), if_neg (by omega), if_neg (by omega), if_neg (by omega), if_neg (by omega), if_neg (by omega), if_neg (by omega), if_neg (by omega), if_neg (by omega), if_pos ⟨c2, c1⟩]
    · rw [if_neg (show ¬ (16 ≤ kR R ∧ kR R ≤ 20) by omega)]
      have : kR R = 0 ∨ kR R = 1 ∨ kR R = 2 ∨ kR R = 3 ∨ kR R = 4 ∨ kR R = 5 ∨ kR R = 6 ∨ kR R = 7 ∨ kR R = 8 ∨ kR R = 9 ∨ kR R = 10 ∨ kR R = 11 ∨ kR R = 12 ∨ kR R = 13 ∨ kR R = 14 ∨ kR R = 15 := by omega
      rcases this with h | h | h | h | h | h | h | h | h | h | h | h | h | h | h | h <;> rw [h] <;> rfl
  · rw [if_neg (by rw [t1]; exact c1), if_neg (by omega)]
theorem factM {F : Nat} {T : List Nat} {R : List Tk} {pl bg tkn : Int32} {wd : Int64} {td : Int32} (h : nsM T R pl bg tkn wd td) : fX12_fact F tkn wd = some (ii (if 16 ≤ kR R ∧ kR R ≤ 19 then kR R - 15 else 0)) := by
  obtain ⟨h1, h2, h3, h4, h5, h6⟩ := nsM_ne h
  obtain ⟨t1, t2, t3, t4⟩ := tMk_eq h6
  unfold fX12_fact bX12_fact_L69
  rw [h3]
  by_cases c1 : kR R ≤ 20
  · obtain ⟨w1, w2, w3⟩ := h1.2.1 c1
    simp only at w1 w2 w3
    have e : ∀ k, k < 20 → (lg_cmp (il (bv 27 (wR R))) (il (WC k)) = 0) = (kR R = k) := by
      intro k hk
      rw [← w3]
      exact cmp_k w1 w2 hk
    rw [if_pos (by rw [t1]; exact c1), h4 c1]
    have key : ∀ (k : Nat) (x : Int64) (z y : Option Int32), k < 20 → x = il (WC k) → (if lg_cmp (il (bv 27 (wR R))) x = 0 then z else y) = if kR R = k then z else y := by
      intro k x z y hk hx
      rw [hx]
      by_cases c2 : kR R = k
      · rw [if_pos (by rw [e k hk]; exact c2), if_pos c2]
      · rw [if_neg (by rw [e k hk]; exact c2), if_neg c2]
    rw [key 16 (8740067 : Int64) _ _ (by omega) rfl, key 17 (385418 : Int64) _ _ (by omega) rfl, key 18 (223471 : Int64) _ _ (by omega) rfl, key 19 (1170473 : Int64) _ _ (by omega) rfl]
    by_cases d1 : kR R = 16
    · rw [d1]; rfl
    · rw [if_neg d1]
      by_cases d2 : kR R = 17
      · rw [d2]; rfl
      · rw [if_neg d2]
        by_cases d3 : kR R = 18
        · rw [d3]; rfl
        · rw [if_neg d3]
          by_cases d4 : kR R = 19
          · rw [d4]; rfl
          · rw [if_neg d4, if_neg (by omega)]
            rfl
  · rw [if_neg (by rw [t1]; exact c1), if_neg (by omega)]
    rfl
theorem needsFolk_M {F r : Nat} (hF : 1000 ≤ F) (hr : r < 2) {NM : List (List Nat)} (h6 : NM.length ≤ 6) (hok : okNM NM) {nt : Nat → Int32} (hnt : nt (4 * r) = ii NM.length) {fn : Nat → Int64} (hnm : nmM r NM fn) {T : List Nat} {R : List Tk} {pl bg tkn : Int32} {wd : Int64} {td : Int32} (h : nsM T R pl bg tkn wd td) (wr gv : Int32) : (¬ (16 ≤ kR R ∧ kR R ≤ 20) → fX12_needsFolk F bg tkn wd 8 nt 12 fn (ii r) wr gv = some (0, ii (1 + 16 * sR R), gv)) ∧ (16 ≤ kR R ∧ kR R ≤ 20 → ixN NM (wR R) = -1 → fX12_needsFolk F bg tkn wd 8 nt 12 fn (ii r) wr gv = some (0, ii (2 + 16 * sR R), iz (ixN NM (wR R)))) ∧ (16 ≤ kR R ∧ kR R ≤ 20 → ixN NM (wR R) ≠ -1 → fX12_needsFolk F bg tkn wd 8 nt 12 fn (ii r) wr gv = some (1, wr, iz (ixN NM (wR R)))) := by
  obtain ⟨h1, h2, h3, h4, h5, h7⟩ := nsM_ne h
  have hb := ixN_b NM (wR R)
  have e0 : ((0 : Int32) ≤ iz (ixN NM (wR R))) = (0 ≤ ixN NM (wR R)) := by
    rw [k_0, ii_iz, iz_le (by omega) (by omega) (by omega) (by omega)]
    rfl
  unfold fX12_needsFolk bX12_needsFolk_L37 bX12_needsFolk_L42
  rw [isKeptM h, Option.bind_some]
  refine ⟨fun hk => ?_, fun hk hx => ?_, fun hk hx => ?_⟩
  · rw [if_neg hk, if_neg (by decide), k_1, failsM h, Option.bind_some, if_pos (Or.inl rfl)]
  · obtain ⟨w1, w2, w3⟩ := h1.2.1 hk.2
    rw [if_pos hk, if_pos rfl, h4 hk.2, folkNamed_M hF hr h6 hok hnt hnm w1 w2, Option.bind_some, if_neg (by rw [e0]; omega), k_2, failsM h, Option.bind_some, if_pos rfl, if_pos (Or.inl rfl)]
  · obtain ⟨w1, w2, w3⟩ := h1.2.1 hk.2
    rw [if_pos hk, if_pos rfl, h4 hk.2, folkNamed_M hF hr h6 hok hnt hnm w1 w2, Option.bind_some, if_pos (by rw [e0]; omega), if_pos (Or.inr rfl)]
