/-! PURE: tie of both sides -/
def tkX (n ln : Nat) (τ : Nat → Nat → Nat) (tk : Nat → Int32) : Prop := ∀ p, p < ln → ∀ t, t < 2 * n → tk (p * 12 + t) = ii (τ p t)
theorem takenBy_X {F n ln p t : Nat} (hn : n ≤ 6) (hl : ln ≤ 24) {τ : Nat → Nat → Nat} {tk : Nat → Int32} (h : tkX n ln τ tk) (hp : p < ln) (ht : t < 2 * n) : fX2_takenBy F 288 tk (ii p) (ii t) = some (ii (τ p t)) := by
  unfold fX2_takenBy bX2_takenBy_L30
  rw [k_12, ii_mul, ii_add, if_neg (by rw [ii_nneg (by omega)]; exact id), if_neg (by
    rw [ofNat_ii, ii_le (by omega) (by omega)]
    omega), if_neg (nidx (by omega) (by omega)), ii_nat (by omega), h p hp t ht]
theorem usedBy_L {F n ln : Nat} (hn : n ≤ 6) (hl : ln ≤ 24) {τ : Nat → Nat → Nat} (hτ : ∀ p t, τ p t ≤ 99) {tk : Nat → Int32} (h : tkX n ln τ tk) {L : List Nat} {a : Nat → Int32} (hL : okL n L) (ha : rL a L) (hln : L.length ≤ ln) :
    ∀ (t k u : Nat), k ≤ L.length → L.length < k + t → u ≤ 99 * k → fX2_usedBy_L4 F 288 tk (ii L.length) 24 a t (ii u) (ii k) = some (ii (u + usd τ k (L.drop k))) := by
  intro t
  induction t with
  | zero => intro k u h1 h2; omega
  | succ t ih =>
    intro k u h1 h2 hu
    rw [sX2_usedBy_L4]
    unfold bX2_usedBy_L4
    by_cases h9 : L.length ≤ k
    · rw [if_pos (by rw [ii_le (by omega) (by omega)]; exact h9), List.drop_of_length_le h9]
      rfl
    · have hk : k < L.length := by omega
      have ht := hL _ (rL_mem (a := a) hk)
      rw [if_neg (by rw [ii_le (by omega) (by omega)]; exact h9), if_neg (nidx (by omega) (by omega)), ii_nat (show k < 2147483648 by omega), ha k hk, takenBy_X hn hl h (by omega) ht]
      simp only [Option.bind_some]
      have := hτ k (L.getD k 0)
      rw [k_1, ii_add, ii_add, ih _ _ (by omega) (by omega) (by omega), drop_cons hk]
      show _ = some (ii (u + (τ k (L.getD k 0) + usd τ (k + 1) (L.drop (k + 1)))))
      rw [Nat.add_assoc]
theorem usedBy_X {F n ln : Nat} (hF : 1000 ≤ F) (hn : n ≤ 6) (hl : ln ≤ 24) {τ : Nat → Nat → Nat} (hτ : ∀ p t, τ p t ≤ 99) {tk : Nat → Int32} (h : tkX n ln τ tk) {L : List Nat} {a : Nat → Int32} (hL : okL n L) (ha : rL a L) (hln : L.length ≤ ln) : fX2_usedBy F 288 tk (ii L.length) 24 a = some (ii (usd τ 0 L)) := by
  unfold fX2_usedBy
  have := usedBy_L (F := F) hn hl hτ h hL ha hln F 0 0 (by omega) (by omega) (by omega)
  rw [Nat.zero_add] at this
  exact this
theorem canTie_X {F n ln rp : Nat} (hF : 1000 ≤ F) (hn : n ≤ 6) (hl : ln ≤ 24) (hrp : rp ≤ 999) {τ : Nat → Nat → Nat} (hτ : ∀ p t, τ p t ≤ 99) {tk : Nat → Int32} (h : tkX n ln τ tk) {L : List Nat} {a : Nat → Int32} (hL : okL n L) (ha : rL a L) (hln : L.length ≤ ln) {t : Nat} (ht : t < 2 * n) : (canT τ ln rp L t → fX2_canTie F (ii ln) (ii rp) 288 tk (ii L.length) 24 a (ii t) = some 1) ∧ (¬ canT τ ln rp L t → fX2_canTie F (ii ln) (ii rp) 288 tk (ii L.length) 24 a (ii t) = some 0) := by
  unfold fX2_canTie bX2_canTie_L37 bX2_canTie_L38
  by_cases h9 : ln ≤ L.length
  · rw [if_pos (by rw [ii_le (by omega) (by omega)]; exact h9), if_pos (Or.inl rfl)]
    exact ⟨fun hc => absurd hc.1 (by omega), fun _ => rfl⟩
  · rw [if_neg (by rw [ii_le (by omega) (by omega)]; exact h9), usedBy_X hF hn hl hτ h hL ha hln, takenBy_X hn hl h (by omega) ht]
    simp only [Option.bind_some]
    rw [ii_add]
    have hu := usd_le hτ L 0
    have hu2 := hτ L.length t
    have e6 : (ii rp < ii (usd τ 0 L + τ L.length t)) = (rp < usd τ 0 L + τ L.length t) := ii_lt (by omega) (by omega)
    refine ⟨fun hc => ?_, fun hc => ?_⟩
    · rw [if_neg (by rw [e6]; have := hc.2; omega), if_pos (Or.inr trivial)]
    · rw [if_pos (by
        rw [e6]
        unfold canT at hc
        omega), if_pos (Or.inl trivial)]
/-- the tie that is asked for -/
def tiN (a b : Int32) : Nat := 2 * a.toNatClampNeg + (if b = 0 then 1 else 0)
def tiOk (n : Nat) (τ : Nat → Nat → Nat) (ln rp : Nat) (L : List Nat) (a b : Int32) : Prop := ¬ a < 0 ∧ ¬ ii n ≤ a ∧ canT τ ln rp L (tiN a b)
theorem ti_lt {n : Nat} {a b : Int32} (hn : n ≤ 6) (h1 : ¬ a < 0) (h2 : ¬ ii n ≤ a) : tiN a b < 2 * n ∧ a = ii a.toNatClampNeg ∧ a.toNatClampNeg < n := by
  obtain ⟨e6, e7⟩ := i_nat h1
  have h3 := h2
  rw [e6, ii_le (by omega) (by omega)] at h3
  refine ⟨?_, e6, by omega⟩
  unfold tiN
  split <;> omega
theorem tie_X0 {F n ln rp : Nat} (hF : 1000 ≤ F) (hn : n ≤ 6) (hl : ln ≤ 24) (hrp : rp ≤ 999) {τ : Nat → Nat → Nat} (hτ : ∀ p t, τ p t ≤ 99) {tk : Nat → Int32} (h : tkX n ln τ tk) {L : List Nat} {x : Nat → Int32} (hL : okL n L) (ha : rL x L) (hln : L.length ≤ ln) {a b : Int32} (hno : ¬ tiOk n τ ln rp L a b) (po pz : Int32) (rs : Nat → Int32) (rt : Nat → Nat → Int32) : fX11_tie F (ii n) (ii ln) (ii rp) 288 tk 24 16 24 a b (ii L.length) x po pz rs rt = some (-1, ii L.length, x, po, pz, rs, rt) := by
  unfold fX11_tie fX2_hasFolk bX2_hasFolk_L16 bX2_hasFolk_L17
  by_cases h1 : a < 0
  · rw [if_pos h1, if_pos (Or.inl rfl)]
    rfl
  · by_cases h2 : ii n ≤ a
    · rw [if_neg h1, if_pos h2, if_pos (Or.inl rfl)]
      rfl
    · rw [if_neg h1, if_neg h2, if_pos (Or.inr rfl)]
      simp only [Option.bind_some]
      rw [if_neg (by decide)]
      obtain ⟨g1, g2, g3⟩ := ti_lt (b := b) hn h1 h2
      have hc : ¬ canT τ ln rp L (tiN a b) := fun hc => hno ⟨h1, h2, hc⟩
      have e1 := (canTie_X hF hn hl hrp hτ h hL ha hln g1).2 hc
      unfold bX11_tie_L25
      by_cases hb : b = 0
      · have e2 : (2 : Int32) * a + (1 : Int32) = ii (tiN a b) := by
          rw [g2, k_2, ii_mul, k_1, ii_add]
          unfold tiN
          rw [if_pos hb, ii_nat (by omega)]
        rw [if_pos hb, e2, e1]
        rfl
      · have e2 : (2 : Int32) * a + (0 : Int32) = ii (tiN a b) := by
          rw [g2, k_2, ii_mul, k_0, ii_add]
          unfold tiN
          rw [if_neg hb, ii_nat (by omega)]
        rw [if_neg hb, e2, e1]
        rfl
theorem tie_X1 {F n ln rp o : Nat} (hF : 1000 ≤ F) (hn : n ≤ 6) (hl : ln ≤ 24) (hrp : rp ≤ 999) {τ : Nat → Nat → Nat} (hτ : ∀ p t, τ p t ≤ 99) {tk : Nat → Int32} (h : tkX n ln τ tk) {L : List Nat} {x : Nat → Int32} (hL : okL n L) (ha : rL x L) (hln : L.length ≤ ln) {a b : Int32} (hok : tiOk n τ ln rp L a b) {P : List (List Nat)} {rs : Nat → Int32} {rt : Nat → Nat → Int32} (hp : rPX o rs rt P) :
    ∃ x' o' rs' rt', fX11_tie F (ii n) (ii ln) (ii rp) 288 tk 24 16 24 a b (ii L.length) x (ii o) (ii P.length) rs rt = some (ii (L.length + 1), ii (L ++ [tiN a b]).length, x', ii o', ii (kp P L).length, rs', rt') ∧ rL x' (L ++ [tiN a b]) ∧ rPX o' rs' rt' (kp P L) := by
  obtain ⟨h1, h2, hc⟩ := hok
  obtain ⟨g1, g2, g3⟩ := ti_lt (b := b) hn h1 h2
  have e1 := (canTie_X hF hn hl hrp hτ h hL ha hln g1).1 hc
  have hlt : L.length < 24 := by have := hc.1; omega
  obtain ⟨o', rs', rt', e3, h5⟩ := keep_X (F := F) hp ha (by omega)
  unfold fX11_tie fX2_hasFolk bX2_hasFolk_L16 bX2_hasFolk_L17
  rw [if_neg h1, if_neg h2, if_pos (Or.inr rfl)]
  simp only [Option.bind_some]
  rw [if_neg (by decide)]
  have key : bX11_tie_L25 F (ii n) (ii ln) (ii rp) 288 tk 24 16 24 (ii (tiN a b)) 0 (ii L.length) x (ii o) (ii P.length) rs rt = bX11_tie_L25 F (ii n) (ii ln) (ii rp) 288 tk 24 16 24 (ii (tiN a b)) 0 (ii L.length) x (ii o) (ii P.length) rs rt := rfl
  refine ⟨upd x L.length (ii (tiN a b)), o', rs', rt', ?_, rL_snoc ha, h5⟩
  unfold bX11_tie_L25
  by_cases hb : b = 0
  · have e2 : (2 : Int32) * a + (1 : Int32) = ii (tiN a b) := by
      rw [g2, k_2, ii_mul, k_1, ii_add]
      unfold tiN
      rw [if_pos hb, ii_nat (by omega)]
    rw [if_pos hb, e2, e1, e3]
    simp only [Option.bind_some]
    rw [if_neg (by decide), row_add hlt (by omega)]
    simp only [Option.bind_some]
    rw [List.length_append, List.length_singleton]
  · have e2 : (2 : Int32) * a + (0 : Int32) = ii (tiN a b) := by
      rw [g2, k_2, ii_mul, k_0, ii_add]
      unfold tiN
      rw [if_neg hb, ii_nat (by omega)]
    rw [if_neg hb, e2, e1, e3]
    simp only [Option.bind_some]
    rw [if_neg (by decide), row_add hlt (by omega)]
    simp only [Option.bind_some]
    rw [List.length_append, List.length_singleton]
theorem laysTie_M {F t : Nat} {L : List Nat} {s : Nat → Int32} (hs : rS s L) (h24 : L.length < 24) : ∃ s', fX12_laysTie F 25 (ii t) s = some s' ∧ rS s' (L ++ [t]) := by
  unfold fX12_laysTie
  have e0 : s ((0 : Int32).toNatClampNeg) = ii L.length := hs.1
  have i0 : (0 : Int32).toNatClampNeg = 0 := by decide
  rw [if_neg (by decide), if_neg (by decide), if_neg (by decide), e0, i0, k_1, ii_add]
  simp only [upd_same]
  rw [if_neg (nidx (by omega) (by omega)), ii_nat (by omega)]
  refine ⟨_, rfl, ?_, ?_⟩
  · rw [upd_ne _ _ (by omega), upd_same, List.length_append, List.length_singleton]
  · intro k hk
    rw [List.length_append, List.length_singleton] at hk
    by_cases h : k < L.length
    · rw [upd_ne _ _ (by omega), upd_ne _ _ (by omega), hs.2 k h, getD_app1 h]
    · have : k = L.length := by omega
      subst this
      rw [upd_same, getD_app2 (Nat.le_refl _), Nat.sub_self]
      rfl
theorem tie_M0 {F n ln rp : Nat} {mk rd kd : Nat → Nat} {ki kn nt : Nat → Int32} (hF : 2000 ≤ F) (hn : okN n mk rd) (hm : netM n mk rd ki kn) (hk : kdM n kd ki) (hnt : nt 0 = ii n) (hln : nt 2 = ii ln) (hrp : nt 3 = ii rp) (h999 : rp ≤ 999) (hl24 : ln ≤ 24) {C : List Nat} {lf lt cs : Nat → Int32} (hl : lwM C lf lt cs) {L : List Nat} {s : Nat → Int32} (hL : okL n L) (hs : rS s L) (h24 : L.length ≤ 24) {a b : Int32} (hno : ¬ tiOk n (tau C kd mk) ln rp L a b) (th d : Int32) (a1 a2 a3 a4 a5 a6 a7 a8 a9 vo un : Nat → Int32) :
    ∃ r1 r2 r3 r4 r5 r6 r7 r8 r9 r10, fX12_tie F 8 nt 12 ki 12 kn 2 lf 2 lt 2000 cs 7 7 7 7 7 7 7 7 7 20 25 400 a b th d a1 a2 a3 a4 a5 a6 a7 a8 a9 vo s un = some (-1, 0, d, r1, r2, r3, r4, r5, r6, r7, r8, r9, r10, s, un) := by
  have e0 : nt ((0 : Int32).toNatClampNeg) = ii n := hnt
  unfold fX12_tie bX12_tie_L20 bX12_tie_L37 fX12_isFolk bX12_isFolk_L18 bX12_isFolk_L19
  by_cases h1 : a < 0
  · refine ⟨a1, a2, a3, a4, a5, a6, a7, a8, a9, vo, ?_⟩
    by_cases hb : b = 0
    · rw [if_pos hb, if_pos h1, if_pos (Or.inl rfl)]
      rfl
    · rw [if_neg hb, if_pos h1, if_pos (Or.inl rfl)]
      rfl
  · rw [e0]
    by_cases h2 : ii n ≤ a
    · refine ⟨a1, a2, a3, a4, a5, a6, a7, a8, a9, vo, ?_⟩
      by_cases hb : b = 0
      · rw [if_pos hb, if_neg h1, if_neg (by decide), if_pos h2, if_pos (Or.inl rfl)]
        rfl
      · rw [if_neg hb, if_neg h1, if_neg (by decide), if_pos h2, if_pos (Or.inl rfl)]
        rfl
    · obtain ⟨g1, g2, g3⟩ := ti_lt (b := b) hn.1 h1 h2
      have hc : ¬ canT (tau C kd mk) ln rp L (tiN a b) := fun hc => hno ⟨h1, h2, hc⟩
      obtain ⟨r1, r2, r3, r4, r5, r6, r7, r8, r9, r10, -, e1⟩ := canTie_M (F := F) hF hn hm hk hln hrp h999 hl24 hl hL hs h24 g1 a1 a2 a3 a4 a5 a6 a7 a8 a9 vo
      have e1 := e1 hc
      have h6 := hn.1
      by_cases hb : b = 0
      · have e2 : (2 : Int32) * a + (1 : Int32) = ii (tiN a b) := by
          rw [g2, k_2, ii_mul, k_1, ii_add]
          unfold tiN
          rw [if_pos hb, ii_nat (by omega)]
        rw [if_pos hb, if_neg h1, if_neg (by decide), if_neg h2, if_pos (Or.inr rfl), e2]
        simp only [Option.bind_some]
        rw [if_neg (by decide), e1]
        exact ⟨_, _, _, _, _, _, _, _, _, _, rfl⟩
      · have e2 : (2 : Int32) * a = ii (tiN a b) := by
          rw [g2, k_2, ii_mul]
          unfold tiN
          rw [if_neg hb, ii_nat (by omega)]
          rfl
        rw [if_neg hb, if_neg h1, if_neg (by decide), if_neg h2, if_pos (Or.inr rfl), e2]
        simp only [Option.bind_some]
        rw [if_neg (by decide), e1]
        exact ⟨_, _, _, _, _, _, _, _, _, _, rfl⟩
theorem tie_M1 {F n ln rp : Nat} {mk rd kd : Nat → Nat} {ki kn nt : Nat → Int32} (hF : 2000 ≤ F) (hn : okN n mk rd) (hm : netM n mk rd ki kn) (hk : kdM n kd ki) (hnt : nt 0 = ii n) (hln : nt 2 = ii ln) (hrp : nt 3 = ii rp) (h999 : rp ≤ 999) (hl24 : ln ≤ 24) {C : List Nat} {lf lt cs : Nat → Int32} (hl : lwM C lf lt cs) {L : List Nat} {s : Nat → Int32} (hL : okL n L) (hs : rS s L) {a b : Int32} (hok : tiOk n (tau C kd mk) ln rp L a b) {un : Nat → Int32} {P : List (List Nat)} (hp : rPM un P) (hP : ∀ k, k < P.length → (P.getD k []).length ≤ 24) (th : Int32) (a1 a2 a3 a4 a5 a6 a7 a8 a9 vo : Nat → Int32) :
    ∃ r1 r2 r3 r4 r5 r6 r7 r8 r9 r10 s' un', fX12_tie F 8 nt 12 ki 12 kn 2 lf 2 lt 2000 cs 7 7 7 7 7 7 7 7 7 20 25 400 a b th (ii P.length) a1 a2 a3 a4 a5 a6 a7 a8 a9 vo s un = some (ii (L.length + 1), 0, ii (kp P L).length, r1, r2, r3, r4, r5, r6, r7, r8, r9, r10, s', un') ∧ rS s' (L ++ [tiN a b]) ∧ rPM un' (kp P L) := by
  have e0 : nt ((0 : Int32).toNatClampNeg) = ii n := hnt
  obtain ⟨h1, h2, hc⟩ := hok
  obtain ⟨g1, g2, g3⟩ := ti_lt (b := b) hn.1 h1 h2
  have hlt : L.length < 24 := by have := hc.1; omega
  obtain ⟨r1, r2, r3, r4, r5, r6, r7, r8, r9, r10, e1, -⟩ := canTie_M (F := F) hF hn hm hk hln hrp h999 hl24 hl hL hs (by omega) g1 a1 a2 a3 a4 a5 a6 a7 a8 a9 vo
  have e1 := e1 hc
  have h6 := hn.1
  obtain ⟨un', e3, h5⟩ := keeps_M (F := F) (by omega) hp hs (by omega) hP
  obtain ⟨s', e4, h7⟩ := laysTie_M (F := F) (t := tiN a b) hs hlt
  have e5 : s' ((0 : Int32).toNatClampNeg) = ii (L.length + 1) := by
    have := h7.1
    rw [List.length_append, List.length_singleton] at this
    exact this
  unfold fX12_tie bX12_tie_L20 bX12_tie_L37 fX12_isFolk bX12_isFolk_L18 bX12_isFolk_L19
  rw [e0]
  refine ⟨r1, r2, r3, r4, r5, r6, r7, r8, r9, r10, s', un', ?_, h7, h5⟩
  by_cases hb : b = 0
  · have e2 : (2 : Int32) * a + (1 : Int32) = ii (tiN a b) := by
      rw [g2, k_2, ii_mul, k_1, ii_add]
      unfold tiN
      rw [if_pos hb, ii_nat (by omega)]
    rw [if_pos hb, if_neg h1, if_neg (by decide), if_neg h2, if_pos (Or.inr rfl), e2]
    simp only [Option.bind_some]
    rw [if_neg (by decide), e1]
    simp only [Option.bind_some]
    rw [if_neg (by decide), e3]
    simp only [Option.bind_some]
    rw [e4]
    simp only [Option.bind_some]
    rw [if_neg (by decide), e5]
  · have e2 : (2 : Int32) * a = ii (tiN a b) := by
      rw [g2, k_2, ii_mul]
      unfold tiN
      rw [if_neg hb, ii_nat (by omega)]
      rfl
    rw [if_neg hb, if_neg h1, if_neg (by decide), if_neg h2, if_pos (Or.inr rfl), e2]
    simp only [Option.bind_some]
    rw [if_neg (by decide), e1]
    simp only [Option.bind_some]
    rw [if_neg (by decide), e3]
    simp only [Option.bind_some]
    rw [e4]
    simp only [Option.bind_some]
    rw [if_neg (by decide), e5]
