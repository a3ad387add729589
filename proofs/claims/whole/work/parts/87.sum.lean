/-! PURE: sum and rests of both sides -/
def smL (f : Nat) (z : Int) (L : List Nat) : Int := L.foldl (fun z t => if t / 2 = f then z + sg t else z) z
theorem smL_cons (f : Nat) (z : Int) (t : Nat) (L : List Nat) : smL f z (t :: L) = smL f (if t / 2 = f then z + sg t else z) L := rfl
theorem rounded_eq {F n f : Nat} {mk rd : Nat → Nat} {st ro : Nat → Int32} (hn : okN n mk rd) (hx : netX n mk rd st ro) (hf : f < n) {z : Int} (h1 : -200 ≤ z) (h2 : z ≤ 200) : fX2_rounded F (ii n) 6 ro (ii f) (iz z) = some (iz (nrm (rd f) z)) := by
  have h6 := hn.1
  have hrd := (hn.2.1 f hf).2.1
  unfold fX2_rounded bX2_rounded_L18 bX2_rounded_L32
  rw [hasFolk_eq (by omega) (by omega), if_pos hf]
  simp only [Option.bind_some]
  rw [if_neg (by decide), if_neg (by
    intro h
    rcases h with h | h
    · rw [ii_nneg (by omega)] at h
      exact h
    · rw [ii_nat (by omega)] at h
      omega), ii_nat (by omega), (hx f hf).2]
  have e : (ii (rd f) ≤ (0 : Int32)) = (rd f = 0) := by
    rw [k_0, ii_le (by omega) (by omega)]
    apply propext
    omega
  unfold nrm
  by_cases h0 : rd f = 0
  · rw [if_pos (by rw [e]; exact h0), if_pos h0]
  · rw [if_neg (by rw [e]; exact h0), if_neg h0, fmod_eq h1 h2 (by omega)]
    rfl
theorem sumX_L {F n f : Nat} {mk rd : Nat → Nat} {st ro : Nat → Int32} (hn : okN n mk rd) (hx : netX n mk rd st ro) (hf : f < n) {L : List Nat} {a : Nat → Int32} (hL : okL n L) (ha : rL a L) (h24 : L.length ≤ 24) :
    ∀ (t k : Nat) (z : Int), k ≤ L.length → L.length < k + t → -(k : Int) ≤ z → z ≤ k → fX11_sumT_L23 F (ii n) 6 ro (ii L.length) 24 a t (ii f) (iz z) (ii k) = some (some (iz (nrm (rd f) (smL f z (L.drop k))))) := by
  intro t
  induction t with
  | zero => intro k z h1 h2; omega
  | succ t ih =>
    intro k z h1 h2 h3 h4
    have h6 := hn.1
    show bX11_sumT_L23 F (ii n) 6 ro (ii L.length) 24 a (fX11_sumT_L23 F (ii n) 6 ro (ii L.length) 24 a t) (ii f) (iz z) (ii k) = _
    unfold bX11_sumT_L23 bX11_sumT_L68
    simp (disch := omega) only [ii_le, ii_nneg, ii_nat, false_or, k_1, ii_add]
    by_cases h : L.length ≤ k
    · rw [if_pos h, List.drop_of_length_le h, rounded_eq hn hx hf (by omega) (by omega)]
      rfl
    · have hk : k < L.length := by omega
      have ht := hL _ (rL_mem (a := a) hk)
      rw [if_neg h, if_neg (by omega), ha k hk, folkOf_eq (by omega), drop_cons hk, smL_cons]
      simp only [Option.bind_some]
      have e : (ii (L.getD k 0 / 2) = ii f) = (L.getD k 0 / 2 = f) := ii_inj (by omega) (by omega)
      by_cases h5 : L.getD k 0 / 2 = f
      · rw [if_pos (by rw [e]; exact h5), if_pos h5, countOf_eq (by omega)]
        simp only [Option.bind_some, iz_add]
        rcases sg_ne (L.getD k 0) with h7 | h7
        · exact ih _ _ (by omega) (by omega) (by omega) (by omega)
        · exact ih _ _ (by omega) (by omega) (by omega) (by omega)
      · rw [if_neg (by rw [e]; exact h5), if_neg h5]
        exact ih _ _ (by omega) (by omega) (by omega) (by omega)
def smA (n : Nat) (rd : Nat → Nat) (L : List Nat) (a : Int32) : Option Int32 := if a < 0 then none else if ii n ≤ a then none else some (iz (nrm (rd a.toNatClampNeg) (smL a.toNatClampNeg 0 L)))
theorem sum_X {F n : Nat} {mk rd : Nat → Nat} {st ro : Nat → Int32} (hn : okN n mk rd) (hx : netX n mk rd st ro) (hF : 1000 ≤ F) {L : List Nat} {a : Nat → Int32} (hL : okL n L) (ha : rL a L) (h24 : L.length ≤ 24) (k : Int32) : fX11_sumT F (ii n) 6 ro (ii L.length) 24 a k = some (smA n rd L k) := by
  have h6 := hn.1
  unfold fX11_sumT smA fX2_hasFolk bX2_hasFolk_L16 bX2_hasFolk_L17
  by_cases h1 : k < 0
  · rw [if_pos h1, if_pos h1, if_pos (Or.inl rfl)]
    rfl
  · obtain ⟨e6, e7⟩ := i_nat h1
    by_cases h2 : ii n ≤ k
    · rw [if_neg h1, if_pos h2, if_pos (Or.inl rfl), if_neg h1, if_pos h2]
      rfl
    · have h3 := h2
      rw [e6, ii_le (by omega) (by omega)] at h3
      rw [if_neg h1, if_neg h2, if_pos (Or.inr rfl), if_neg h1, if_neg h2]
      simp only [Option.bind_some]
      rw [if_neg (by decide)]
      have e8 := sumX_L (F := F) (f := k.toNatClampNeg) hn hx (by omega) hL ha h24 F 0 0 (by omega) (by omega) (by omega) (by omega)
      rw [← e6] at e8
      exact e8
theorem sumM_L {F n f : Nat} {mk rd : Nat → Nat} {ki kn nt : Nat → Int32} (hn : okN n mk rd) (hm : netM n mk rd ki kn) (hf : f < n) {L : List Nat} {s : Nat → Int32} (hL : okL n L) (hs : rS s L) (h24 : L.length ≤ 24) :
    ∀ (t k : Nat) (z : Int), k ≤ L.length → L.length < k + t → -(k : Int) ≤ z → z ≤ k → fX12_sum_L31 F 8 nt 12 ki 25 s t (ii f) (iz z) (ii (k + 1)) 0 = some (iz (nrm (rd f) (smL f z (L.drop k))), 0) := by
  intro t
  induction t with
  | zero => intro k z h1 h2; omega
  | succ t ih =>
    intro k z h1 h2 h3 h4
    have h6 := hn.1
    rw [sX12_sum_L31]
    unfold bX12_sum_L31 bX12_sum_L74
    have e0 : s ((0 : Int32).toNatClampNeg) = ii L.length := hs.1
    rw [if_neg (by decide), e0]
    simp (disch := omega) only [ii_lt, ii_nneg, ii_nat, false_or, k_1, ii_add]
    by_cases h : L.length < k + 1
    · rw [if_pos h, List.drop_of_length_le (by omega), counted_eq hm hn hf (by omega) (by omega)]
      rfl
    · have hk : k < L.length := by omega
      have ht := hL _ (rL_mem (a := s) hk)
      rw [if_neg h, if_neg (by omega), hs.2 k hk, drop_cons hk, smL_cons]
      have eh : ii (L.getD k 0) / (2 : Int32) = ii (L.getD k 0 / 2) := tie_half _ (by omega)
      have ev := tie_even (L.getD k 0) (by omega)
      have e : (ii (L.getD k 0) / (2 : Int32) = ii f) = (L.getD k 0 / 2 = f) := by
        rw [eh]
        exact ii_inj (by omega) (by omega)
      by_cases h5 : L.getD k 0 / 2 = f
      · rw [if_pos (by rw [e]; exact h5), if_pos h5, if_neg (by omega)]
        by_cases h7 : L.getD k 0 % 2 = 0
        · have e9 : sg (L.getD k 0) = 1 := by unfold sg; rw [if_pos h7]
          rw [if_pos (by
            rw [decide_eq_decide] at ev
            exact ev.mpr h7), e9]
          have e10 : iz z + ii 1 = iz (z + 1) := by rw [ii_iz, iz_add]; rfl
          rw [e10]
          exact ih _ _ (by omega) (by omega) (by omega) (by omega)
        · have e9 : sg (L.getD k 0) = -1 := by unfold sg; rw [if_neg h7]
          rw [if_neg (by
            intro h8
            rw [decide_eq_decide] at ev
            exact h7 (ev.mp h8)), e9]
          have e10 : iz z + -ii 1 = iz (z + -1) := by rw [ii_iz, iz_neg, iz_add]; rfl
          rw [e10]
          exact ih _ _ (by omega) (by omega) (by omega) (by omega)
      · rw [if_neg (by rw [e]; exact h5), if_neg h5]
        have e10 : iz z + (0 : Int32) = iz z := by rw [k_0, ii_iz, iz_add]; congr 1; omega
        rw [e10]
        exact ih _ _ (by omega) (by omega) (by omega) (by omega)
theorem sum_M {F n : Nat} {mk rd : Nat → Nat} {ki kn nt : Nat → Int32} (hn : okN n mk rd) (hm : netM n mk rd ki kn) (hnt : nt 0 = ii n) (hF : 1000 ≤ F) {L : List Nat} {s : Nat → Int32} (hL : okL n L) (hs : rS s L) (h24 : L.length ≤ 24) (k th : Int32) : fX12_sum F 8 nt 12 ki 25 s k th = some ((smA n rd L k).getD 0, if smA n rd L k = none then 1 else 0) := by
  have h6 := hn.1
  unfold fX12_sum smA fX12_isFolk bX12_isFolk_L18 bX12_isFolk_L19 bX12_sum_L14
  have e0 : nt ((0 : Int32).toNatClampNeg) = ii n := hnt
  by_cases h1 : k < 0
  · rw [if_pos h1, if_pos h1, if_pos (Or.inl rfl)]
    rfl
  · obtain ⟨e6, e7⟩ := i_nat h1
    rw [if_neg h1, if_neg (by decide), e0]
    by_cases h2 : ii n ≤ k
    · rw [if_pos h2, if_pos (Or.inl rfl), if_neg h1, if_pos h2]
      rfl
    · have h3 := h2
      rw [e6, ii_le (by omega) (by omega)] at h3
      rw [if_neg h2, if_pos (Or.inr rfl), if_neg h1, if_neg h2]
      simp only [Option.bind_some]
      rw [if_neg (by decide), if_neg (by decide)]
      have e8 := sumM_L (F := F) (f := k.toNatClampNeg) (nt := nt) hn hm (by omega) hL hs h24 F 0 0 (by omega) (by omega) (by omega) (by omega)
      rw [← e6] at e8
      exact e8
/-- the rests: from the place k on, m found so far -/
def rsC (K : Nat → Option Int32) (w : Int32) (P : Nat → Bool) : Nat → Nat → Nat → Option Int32
  | 0, _, m => K m
  | r + 1, k, m => if P k = true then (if ii m = w then some (ii (10 * (k / 6) + k % 6)) else rsC K w P r (k + 1) (m + 1)) else rsC K w P r (k + 1) m
theorem rsC_add (K : Nat → Option Int32) (w : Int32) (P : Nat → Bool) : ∀ (a b k m : Nat), rsC K w P (a + b) k m = rsC (fun m' => rsC K w P b (k + a) m') w P a k m := by
  intro a
  induction a with
  | zero => intro b k m; rw [Nat.zero_add]; rfl
  | succ a ih =>
    intro b k m
    rw [show a + 1 + b = (a + b) + 1 from by omega]
    show (if P k = true then (if ii m = w then _ else rsC K w P (a + b) (k + 1) (m + 1)) else rsC K w P (a + b) (k + 1) m) = (if P k = true then (if ii m = w then _ else rsC _ w P a (k + 1) (m + 1)) else rsC _ w P a (k + 1) m)
    rw [ih, ih, show k + 1 + a = k + (a + 1) from by omega]
/-- both best -/
def rsP (a b c : Int32) (k : Nat) : Bool := vBest (ii (k / 6)) (ii (k % 6)) a b c && vBest (ii (k % 6)) (ii (k / 6)) a b c
def rsE (w : Int32) (m : Nat) : Option Int32 := if w = -1 then some (ii m) else none
theorem restX_in {F : Nat} {k62 : Int32 → Int32 → Int32 → Int32 → Int32 → Int32 → Option (Option Int32)} {a b c w : Int32} {one : Nat} (h1 : one < 6) {K : Nat → Option Int32} (hK : ∀ m, m ≤ 6 * one + 6 → k62 a b c w (ii m) (ii (one + 1)) = some (K m)) :
    ∀ (t two m : Nat), two ≤ 6 → 6 < two + t → m ≤ 6 * one + two → fX11_restsT_L71 (F + 7) k62 t a b c w (ii m) (ii one) (ii two) = some (rsC K w (rsP a b c) (6 - two) (6 * one + two) m) := by
  intro t
  induction t with
  | zero => intro two m h2 h3; omega
  | succ t ih =>
    intro two m h2 h3 h4
    show bX11_restsT_L71 (F + 7) k62 (fX11_restsT_L71 (F + 7) k62 t) a b c w (ii m) (ii one) (ii two) = _
    unfold bX11_restsT_L71 bX11_restsT_L107 bX11_restsT_L108 bX11_restsT_L131 bX11_restsT_L143
    rw [isBest_eq, isBest_eq]
    simp (disch := omega) only [ii_lt, k_5, k_1, ii_add]
    by_cases h : 5 < two
    · rw [if_pos h, hK m (by omega), show 6 - two = 0 from by omega]
      rfl
    · obtain ⟨r, hr⟩ : ∃ r, 6 - two = r + 1 := ⟨5 - two, by omega⟩
      have e1 : (6 * one + two) / 6 = one := by omega
      have e2 : (6 * one + two) % 6 = two := by omega
      have ihA := ih (two + 1) (m + 1) (by omega) (by omega) (by omega)
      have ihB := ih (two + 1) m (by omega) (by omega) (by omega)
      rw [show 6 - (two + 1) = r from by omega] at ihA ihB
      rw [if_neg h, hr]
      show _ = some (if rsP a b c (6 * one + two) = true then (if ii m = w then some (ii (10 * ((6 * one + two) / 6) + (6 * one + two) % 6)) else rsC K w (rsP a b c) r (6 * one + two + 1) (m + 1)) else rsC K w (rsP a b c) r (6 * one + two + 1) m)
      have e3 : ii m + (0 : Int32) = ii m := by rw [k_0, ii_add]; rfl
      rw [e1, e2]
      simp only [Option.bind_some]
      by_cases v1 : vBest (ii one) (ii two) a b c = true
      · by_cases v2 : vBest (ii two) (ii one) a b c = true
        · have hP : rsP a b c (6 * one + two) = true := by
            unfold rsP
            rw [e1, e2, v1, v2]
            rfl
          rw [if_pos v1, if_neg (by decide), if_pos v2, if_neg (by decide), if_neg (by decide), if_pos hP]
          by_cases h5 : ii m = w
          · rw [if_pos h5, if_pos h5, k_10, ii_mul, ii_add]
          · rw [if_neg h5, if_neg h5, if_neg (by decide)]
            exact ihA
        · have hP : ¬ rsP a b c (6 * one + two) = true := by
            unfold rsP
            rw [e1, e2]
            simp [v2]
          rw [if_pos v1, if_neg (by decide), if_neg v2, if_pos rfl, if_neg hP]
          simp only [if_true, e3]
          exact ihB
      · have hP : ¬ rsP a b c (6 * one + two) = true := by
          unfold rsP
          rw [e1, e2]
          simp [v1]
        rw [if_neg v1, if_pos rfl, if_neg hP]
        simp only [if_true, e3]
        exact ihB
theorem restX_L {F : Nat} {a b c w : Int32} : ∀ (t one m : Nat), one ≤ 6 → 6 < one + t → m ≤ 6 * one → fX11_restsT_L62 (F + 7) t a b c w (ii m) (ii one) = some (rsC (rsE w) w (rsP a b c) (36 - 6 * one) (6 * one) m) := by
  intro t
  induction t with
  | zero => intro one m h1 h2; omega
  | succ t ih =>
    intro one m h1 h2 h3
    show bX11_restsT_L62 (F + 7) (fX11_restsT_L62 (F + 7) t) a b c w (ii m) (ii one) = _
    unfold bX11_restsT_L62
    simp (disch := omega) only [ii_lt, k_5]
    by_cases h : 5 < one
    · rw [if_pos h, show 36 - 6 * one = 0 from by omega]
      show _ = some (if w = -1 then some (ii m) else none)
      by_cases h5 : w = -1
      · rw [if_pos h5, if_pos h5]
      · rw [if_neg h5, if_neg h5]
    · rw [if_neg h]
      have e1 := restX_in (F := F) (k62 := fX11_restsT_L62 (F + 7) t) (a := a) (b := b) (c := c) (w := w) (one := one) (by omega) (K := fun m' => rsC (rsE w) w (rsP a b c) (36 - 6 * (one + 1)) (6 * (one + 1)) m') (fun m' hm' => ih (one + 1) m' (by omega) (by omega) (by omega)) (F + 7) 0 m (by omega) (by omega) (by omega)
      rw [k_0, e1, show 36 - 6 * one = 6 + (36 - 6 * (one + 1)) from by omega, rsC_add]
      rfl
def rsA (a b c w : Int32) : Option Int32 := if (¬ a < 0 ∧ ¬ (10 : Int32) < a ∧ ¬ b < 0 ∧ ¬ (9 : Int32) < b ∧ ¬ c < 0 ∧ ¬ (9 : Int32) < c ∧ (-1 : Int32) ≤ w) then rsC (rsE w) w (rsP a b c) 36 0 0 else none
theorem rests_X {F : Nat} (hF : 1000 ≤ F) (a b c w : Int32) : fX11_restsT F a b c w = some (rsA a b c w) := by
  obtain ⟨G, rfl⟩ : ∃ G, F = G + 7 := ⟨F - 7, by omega⟩
  unfold fX11_restsT bX11_restsT_L34 bX11_restsT_L35 bX11_restsT_L48 rsA
  by_cases h1 : a < 0
  · rw [if_pos h1, if_pos rfl, if_neg (fun h => h.1 h1)]
  · rw [if_neg h1]
    by_cases h2 : (10 : Int32) < a
    · rw [if_pos h2, if_pos rfl, if_neg (fun h => h.2.1 h2)]
    · rw [if_neg h2]
      by_cases h3 : b < 0
      · rw [if_pos h3, if_pos rfl, if_neg (fun h => h.2.2.1 h3)]
      · rw [if_neg h3]
        by_cases h4 : (9 : Int32) < b
        · rw [if_pos h4, if_pos rfl, if_neg (fun h => h.2.2.2.1 h4)]
        · rw [if_neg h4]
          by_cases h5 : c < 0
          · rw [if_pos h5, if_pos rfl, if_neg (fun h => h.2.2.2.2.1 h5)]
          · rw [if_neg h5]
            by_cases h6 : (9 : Int32) < c
            · rw [if_pos h6, if_pos rfl, if_neg (fun h => h.2.2.2.2.2.1 h6)]
            · rw [if_neg h6, if_neg (by decide)]
              by_cases h7 : (-1 : Int32) ≤ w
              · rw [if_pos h7, if_pos ⟨h1, h2, h3, h4, h5, h6, h7⟩]
                exact restX_L (F := G) (a := a) (b := b) (c := c) (w := w) (G + 7) 0 0 (by omega) (by omega) (by omega)
              · rw [if_neg h7, if_neg (fun h => h7 h.2.2.2.2.2.2)]
theorem six_dm : ∀ k, k < 36 → ii k / (6 : Int32) = ii (k / 6) ∧ ii k - ii k / (6 : Int32) * (6 : Int32) = ii (k % 6) := by decide +kernel
theorem restM_L {F : Nat} {a b c w : Int32} : ∀ (t k m : Nat), k ≤ 36 → 36 < k + t → m ≤ k → fX12_rests_L61 (F + 7) t a b c w (ii m) (ii k) 0 = some ((rsC (rsE w) w (rsP a b c) (36 - k) k m).getD 0, if rsC (rsE w) w (rsP a b c) (36 - k) k m = none then 1 else 0) := by
  intro t
  induction t with
  | zero => intro k m h1 h2; omega
  | succ t ih =>
    intro k m h1 h2 h3
    rw [sX12_rests_L61]
    unfold bX12_rests_L61 bX12_rests_L115 bX12_rests_L133 bX12_rests_L148
    have e36 : ((36 : Int32) ≤ ii k) = (36 ≤ k) := by rw [k_36, ii_le (by omega) (by omega)]
    by_cases h : 36 ≤ k
    · rw [if_pos (by rw [e36]; exact h), show 36 - k = 0 from by omega]
      show _ = some ((rsE w m).getD 0, if rsE w m = none then 1 else 0)
      unfold rsE
      by_cases h5 : w = -1
      · simp only [h5, if_true]
        rfl
      · simp only [h5, if_false]
        rfl
    · obtain ⟨r, hr⟩ : ∃ r, 36 - k = r + 1 := ⟨35 - k, by omega⟩
      have ihA := ih (k + 1) (m + 1) (by omega) (by omega) (by omega)
      have ihB := ih (k + 1) m (by omega) (by omega) (by omega)
      rw [show 36 - (k + 1) = r from by omega] at ihA ihB
      obtain ⟨d1, d2⟩ := six_dm k (by omega)
      rw [if_neg (by rw [e36]; exact h), d2, d1, isRest_eq, hr]
      simp only [Option.bind_some]
      have e4 : rsC (rsE w) w (rsP a b c) (r + 1) k m = (if rsP a b c k = true then (if ii m = w then some (ii (10 * (k / 6) + k % 6)) else rsC (rsE w) w (rsP a b c) r (k + 1) (m + 1)) else rsC (rsE w) w (rsP a b c) r (k + 1) m) := rfl
      rw [e4]
      have e5 : (vBest (ii (k / 6)) (ii (k % 6)) a b c = true ∧ vBest (ii (k % 6)) (ii (k / 6)) a b c = true) ↔ rsP a b c k = true := by
        unfold rsP
        rw [Bool.and_eq_true]
      by_cases h5 : rsP a b c k = true
      · rw [if_pos (e5.mpr h5), if_neg (by decide), if_pos h5]
        by_cases h7 : ii m = w
        · rw [if_pos h7, if_pos h7, k_10, ii_mul, ii_add]
          rfl
        · rw [if_neg h7, if_neg h7, k_1, ii_add, ii_add]
          exact ihA
      · rw [if_neg (fun h => h5 (e5.mp h)), if_pos rfl, if_neg h5, k_1, ii_add]
        exact ihB
theorem within_eq {F : Nat} (v lo hi : Int32) : fX12_within F v lo hi = some (if v < lo ∨ hi < v then 0 else 1) := by
  unfold fX12_within bX12_within_L14 bX12_within_L15
  by_cases h1 : v < lo
  · rw [if_pos h1, if_pos (Or.inl rfl), if_pos (Or.inl h1)]
  · rw [if_neg h1]
    by_cases h2 : hi < v
    · rw [if_pos h2, if_pos (Or.inl rfl), if_pos (Or.inr h2)]
    · rw [if_neg h2, if_pos (Or.inr rfl), if_neg (by
        intro h
        rcases h with h | h
        · exact h1 h
        · exact h2 h)]
theorem rests_M {F : Nat} (hF : 1000 ≤ F) (a b c w th : Int32) : fX12_rests F a b c w th = some ((rsA a b c w).getD 0, if rsA a b c w = none then 1 else 0) := by
  obtain ⟨G, rfl⟩ : ∃ G, F = G + 7 := ⟨F - 7, by omega⟩
  unfold fX12_rests bX12_rests_L41 bX12_rests_L42 rsA
  rw [within_eq, within_eq, within_eq]
  simp only [Option.bind_some]
  by_cases h1 : a < 0 ∨ (10 : Int32) < a
  · rw [if_pos h1, if_pos rfl, if_pos trivial, if_neg (by
      intro h
      rcases h1 with h1 | h1
      · exact h.1 h1
      · exact h.2.1 h1)]
    rfl
  · rw [if_neg h1, if_neg (by decide)]
    by_cases h2 : b < 0 ∨ (9 : Int32) < b
    · rw [if_pos h2, if_pos rfl, if_pos trivial, if_neg (by
        intro h
        rcases h2 with h1 | h1
        · exact h.2.2.1 h1
        · exact h.2.2.2.1 h1)]
      rfl
    · rw [if_neg h2, if_neg (by decide)]
      by_cases h3 : c < 0 ∨ (9 : Int32) < c
      · rw [if_pos h3, if_pos rfl, if_pos trivial, if_neg (by
          intro h
          rcases h3 with h1 | h1
          · exact h.2.2.2.2.1 h1
          · exact h.2.2.2.2.2.1 h1)]
        rfl
      · rw [if_neg h3, if_neg (by decide)]
        by_cases h4 : w < (-1 : Int32)
        · rw [if_pos h4, if_pos trivial, if_neg (fun h => Int32.not_lt.mpr h.2.2.2.2.2.2 h4)]
          rfl
        · rw [if_neg h4, if_neg (by decide), if_pos (show ¬ a < 0 ∧ ¬ (10 : Int32) < a ∧ ¬ b < 0 ∧ ¬ (9 : Int32) < b ∧ ¬ c < 0 ∧ ¬ (9 : Int32) < c ∧ (-1 : Int32) ≤ w from ⟨fun h => h1 (Or.inl h), fun h => h1 (Or.inr h), fun h => h2 (Or.inl h), fun h => h2 (Or.inr h), fun h => h3 (Or.inl h), fun h => h3 (Or.inr h), Int32.not_lt.mp h4⟩)]
          exact restM_L (F := G) (a := a) (b := b) (c := c) (w := w) (G + 7) 0 0 (by omega) (by omega) (by omega)
