/-! PURE: centuries of both sides -/
def il (n : Nat) : Int64 := Int64.ofNat n
theorem il_add (a b : Nat) : il a + il b = il (a + b) := (Int64.ofNat_add a b).symm
theorem il_mul (a b : Nat) : il a * il b = il (a * b) := (Int64.ofNat_mul a b).symm
theorem il_sub {a b : Nat} (h : b ≤ a) : il a - il b = il (a - b) := (Int64.ofNat_sub a b h).symm
theorem il_div {a b : Nat} (ha : a < 2 ^ 63) (hb : b < 2 ^ 63) : il a / il b = il (a / b) := (Int64.ofNat_div ha hb).symm
theorem ii_div {a b : Nat} (ha : a < 2 ^ 31) (hb : b < 2 ^ 31) : ii a / ii b = ii (a / b) := (Int32.ofNat_div ha hb).symm
theorem il_and (a : Nat) : il a &&& (2147483647 : Int64) = il (a % 2147483648) := by
  refine Int64.toBitVec.inj ?_
  show BitVec.ofNat 64 a &&& 2147483647#64 = BitVec.ofNat 64 (a % 2147483648)
  apply BitVec.eq_of_toNat_eq
  rw [BitVec.toNat_and, BitVec.toNat_ofNat, BitVec.toNat_ofNat, BitVec.toNat_ofNat]
  have e1 : 2147483647 % 2 ^ 64 = 2 ^ 31 - 1 := by decide
  rw [e1, Nat.and_two_pow_sub_one_eq_mod]
  omega
theorem il_int {m : Nat} (h : m < 1000) : (ii m).toInt64 = il m := Int32.toInt64_ofNat' (by
  have : Int32.maxValue.toInt = 2147483647 := by decide
  rw [this]
  omega)
theorem il_eq0 {m : Nat} (h : m < 1000) : (il m = 0) = (m = 0) := by
  apply propext
  constructor
  · intro h1
    have h2 := congrArg Int64.toInt h1
    have h3 : (il m).toInt = m := Int64.toInt_ofNat_of_lt (by omega)
    rw [h3] at h2
    have h4 : (0 : Int64).toInt = 0 := by decide
    rw [h4] at h2
    omega
  · intro h1
    rw [h1]
    rfl
def nx (G : Nat) : Nat := (G * 1103515245 + 12345) % 2147483648
theorem nx_lt (G : Nat) : nx G < 2147483648 := Nat.mod_lt _ (by decide)
theorem mod_ii {x m : Nat} (hx : x < 1000000) (hm : 0 < m) (hm2 : m < 1000) : ii x - ii x / ii m * ii m = ii (x % m) := by
  rw [ii_div (by omega) (by omega), ii_mul, ii_sub (Nat.div_mul_le_self x m)]
  congr 1
  have := Nat.div_add_mod x m
  rw [Nat.mul_comm] at this
  omega
theorem mod_il {x m : Nat} (hx : x < 2 ^ 63) (hm : 0 < m) (hm2 : m < 2 ^ 63) : il x - il x / il m * il m = il (x % m) := by
  rw [il_div hx hm2, il_mul, il_sub (Nat.div_mul_le_self x m)]
  congr 1
  have := Nat.div_add_mod x m
  rw [Nat.mul_comm] at this
  omega
theorem nx_bound (G : Nat) : nx G / 65536 < 32768 := by
  have := nx_lt G
  omega
theorem drawBelow_eq {F G m : Nat} (hm : 0 < m) (hm2 : m < 1000) : fX10_drawBelow F (ii m) (il G) = some (ii (nx G / 65536 % m), il (nx G)) := by
  have hb := nx_bound G
  have hlt := nx_lt G
  unfold fX10_drawBelow bX10_drawBelow_L39
  have e0 : (1103515245 : Int64) = il 1103515245 := rfl
  have e1 : (12345 : Int64) = il 12345 := rfl
  have e2 : (65536 : Int64) = il 65536 := rfl
  rw [e0, e1, e2, il_mul, il_add, il_and]
  have e3 : (G * 1103515245 + 12345) % 2147483648 = nx G := rfl
  rw [e3, il_div (by omega) (by omega)]
  have e4 : (il (nx G / 65536)).toInt32 = ii (nx G / 65536) := Int64.toInt32_ofNat'
  rw [e4, mod_ii (by omega) hm hm2, if_neg (by
    rw [k_0, ii_le (by omega) (by omega)]
    omega), if_neg (by
    rw [k_0, ii_inj (by omega) (by omega)]
    omega)]
theorem draws_eq {F G m : Nat} (hG : G < 2147483648) (hm : 0 < m) (hm2 : m < 1000) : fX12_draws F (ii m) (il G) = some (ii (nx G / 65536 % m), il (nx G)) := by
  have hb := nx_bound G
  have hlt := nx_lt G
  unfold fX12_draws
  have e0 : (1103515245 : Int64) = il 1103515245 := rfl
  have e1 : (12345 : Int64) = il 12345 := rfl
  have e2 : (65536 : Int64) = il 65536 := rfl
  have e5 : (2147483648 : Int64) = il 2147483648 := rfl
  rw [e0, e1, e2, e5, il_mul, il_add, mod_il (by omega) (by omega) (by omega)]
  have e3 : (G * 1103515245 + 12345) % 2147483648 = nx G := rfl
  rw [e3, il_div (by omega) (by omega), il_int hm2, mod_il (by omega) hm (by omega), if_neg (by rw [il_eq0 hm2]; omega)]
  have e4 : (il (nx G / 65536 % m)).toInt32 = ii (nx G / 65536 % m) := Int64.toInt32_ofNat'
  rw [e4]
/-- a year drawn -/
def dyT (ν : Nat → Nat) (δ : Nat → Nat → Nat) (n G : Nat) : Nat := 2 * δ G n + δ (ν G) 2
def dyL (τ : Nat → Nat → Nat) (ln rp : Nat) (L : List Nat) (t : Nat) : List Nat := if L.length < ln ∧ usd τ 0 L + τ L.length t ≤ rp then L ++ [t] else L
def dyY (ν : Nat → Nat) (δ : Nat → Nat → Nat) (τ : Nat → Nat → Nat) (ln rp n : Nat) : Nat → Nat → List Nat → Nat × List Nat
  | 0, G, L => (G, L)
  | r + 1, G, L => if n = 0 then (G, L) else dyY ν δ τ ln rp n r (ν (ν G)) (dyL τ ln rp L (dyT ν δ n G))
theorem dyY_0 (ν : Nat → Nat) (δ : Nat → Nat → Nat) (τ : Nat → Nat → Nat) (ln rp n G : Nat) (L : List Nat) : dyY ν δ τ ln rp n 0 G L = (G, L) := rfl
theorem dyY_s (ν : Nat → Nat) (δ : Nat → Nat → Nat) (τ : Nat → Nat → Nat) (ln rp n r G : Nat) (L : List Nat) : dyY ν δ τ ln rp n (r + 1) G L = if n = 0 then (G, L) else dyY ν δ τ ln rp n r (ν (ν G)) (dyL τ ln rp L (dyT ν δ n G)) := rfl
theorem dyT_lt {ν : Nat → Nat} {δ : Nat → Nat → Nat} (hδ : ∀ G m, 0 < m → δ G m < m) {n G : Nat} (h : 0 < n) : dyT ν δ n G < 2 * n := by
  unfold dyT
  have := hδ G n h
  have := hδ (ν G) 2 (by omega)
  omega
theorem dyL_ok {τ : Nat → Nat → Nat} {ln rp n t : Nat} {L : List Nat} (hL : okL n L) (hl : L.length ≤ ln) (ht : t < 2 * n) : okL n (dyL τ ln rp L t) ∧ (dyL τ ln rp L t).length ≤ ln := by
  unfold dyL
  by_cases h : L.length < ln ∧ usd τ 0 L + τ L.length t ≤ rp
  · rw [if_pos h]
    refine ⟨fun u hu => ?_, ?_⟩
    · rcases List.mem_append.mp hu with hu | hu
      · exact hL u hu
      · rw [List.mem_singleton.mp hu]
        exact ht
    · rw [List.length_append, List.length_singleton]
      omega
  · rw [if_neg h]
    exact ⟨hL, hl⟩
theorem dyY_ok {ν : Nat → Nat} {δ : Nat → Nat → Nat} (hν : ∀ G, ν G < 2147483648) (hδ : ∀ G m, 0 < m → δ G m < m) {τ : Nat → Nat → Nat} {ln rp n : Nat} : ∀ (r G : Nat) (L : List Nat), okL n L → L.length ≤ ln → G < 2147483648 → okL n (dyY ν δ τ ln rp n r G L).2 ∧ (dyY ν δ τ ln rp n r G L).2.length ≤ ln ∧ (dyY ν δ τ ln rp n r G L).1 < 2147483648 := by
  intro r
  induction r with
  | zero => intro G L h1 h2 h3; exact ⟨h1, h2, h3⟩
  | succ r ih =>
    intro G L h1 h2 h3
    unfold dyY
    by_cases h : n = 0
    · rw [if_pos h]
      exact ⟨h1, h2, h3⟩
    · rw [if_neg h]
      obtain ⟨g1, g2⟩ := dyL_ok (τ := τ) (rp := rp) h1 h2 (dyT_lt (ν := ν) hδ (G := G) (by omega))
      exact ih _ _ g1 g2 (hν _)
theorem drawYear_L {F n ln rp : Nat} {ν : Nat → Nat} {δ : Nat → Nat → Nat} (hδ : ∀ G m, 0 < m → δ G m < m) (hd : ∀ (G m : Nat) (x : Int32), x = ii m → 0 < m → m < 1000 → fX10_drawBelow F x (il G) = some (ii (δ G m), il (ν G))) (hF : 1000 ≤ F) (hn : n ≤ 6) (hl : ln ≤ 24) (hrp : rp ≤ 999) {τ : Nat → Nat → Nat} (hτ : ∀ p t, τ p t ≤ 99) {tk : Nat → Int32} (htk : tkX n ln τ tk) :
    ∀ (t k G : Nat) (L : List Nat) (a : Nat → Int32), k ≤ 8 → 8 < k + t → okL n L → rL a L → L.length ≤ ln → ∃ a', fX10_drawYear_L9 F 24 (ii n) (ii ln) (ii rp) 288 tk t (ii k) (il G) (ii L.length) a = some (il (dyY ν δ τ ln rp n (8 - k) G L).1, ii (dyY ν δ τ ln rp n (8 - k) G L).2.length, a') ∧ rL a' (dyY ν δ τ ln rp n (8 - k) G L).2 := by
  intro t
  induction t with
  | zero => intro k G L a h1 h2; omega
  | succ t ih =>
    intro k G L a h1 h2 hL ha hLl
    rw [sX10_drawYear_L9]
    unfold bX10_drawYear_L9 bX10_drawYear_L52
    by_cases h8 : k = 8
    · subst h8
      rw [if_pos (by decide), Nat.sub_self, dyY_0]
      exact ⟨a, rfl, ha⟩
    · rw [if_neg (show ¬ (8 : Int32) ≤ ii k by rw [k_8, ii_le (by omega) (by omega)]; omega), show 8 - k = (8 - (k + 1)) + 1 from by omega, dyY_s]
      by_cases h0 : n = 0
      · rw [if_pos (by rw [k_0, ii_le (by omega) (by omega)]; omega), if_pos h0]
        exact ⟨a, rfl, ha⟩
      · rw [if_neg (by rw [k_0, ii_le (by omega) (by omega)]; omega), if_neg h0, hd G n (ii n) rfl (by omega) (by omega), Option.bind_some]
        dsimp only
        rw [hd (ν G) 2 2 rfl (by omega) (by omega), Option.bind_some]
        dsimp only
        have eT : (2 : Int32) * ii (δ G n) + ii (δ (ν G) 2) = ii (dyT ν δ n G) := by
          rw [k_2, ii_mul, ii_add]
          rfl
        rw [eT]
        have ht := dyT_lt (ν := ν) hδ (G := G) (show 0 < n by omega)
        obtain ⟨g1, g2⟩ := dyL_ok (τ := τ) (rp := rp) hL hLl ht
        obtain ⟨e1, e2⟩ := followTie_X (F := F) (rp := rp) hF hn hl hrp hτ htk hL ha hLl ht
        have e1k : ii k + (1 : Int32) = ii (k + 1) := by rw [k_1, ii_add]
        by_cases hc : canT τ ln rp L (dyT ν δ n G)
        · obtain ⟨a', e3, h3⟩ := e1 hc
          have eL : dyL τ ln rp L (dyT ν δ n G) = L ++ [dyT ν δ n G] := if_pos hc
          rw [e3]
          simp only [Option.bind_some]
          rw [e1k]
          rw [eL] at g1 g2 ⊢
          exact ih (k + 1) _ _ a' (by omega) (by omega) g1 h3 g2
        · have eL : dyL τ ln rp L (dyT ν δ n G) = L := if_neg hc
          rw [e2 hc]
          simp only [Option.bind_some]
          rw [e1k, eL]
          exact ih (k + 1) _ _ a (by omega) (by omega) hL ha hLl
/-- years drawn: seed, how many come out, what is left, the most -/
noncomputable def cyY (ν : Nat → Nat) (δ : Nat → Nat → Nat) (mk rd : Nat → Nat) (τ : Nat → Nat → Nat) (ln rp n : Nat) : Nat → Nat → Nat → Nat → Nat → Nat × Nat × Nat
  | 0, _, o, l, m => (o, l, m)
  | r + 1, G, o, l, m => cyY ν δ mk rd τ ln rp n r (dyY ν δ τ ln rp n 8 G []).1 (o + (if (frm mk rd (dyY ν δ τ ln rp n 8 G []).2).length = 0 then 1 else 0)) (l + (frm mk rd (dyY ν δ τ ln rp n 8 G []).2).length) (max m (frm mk rd (dyY ν δ τ ln rp n 8 G []).2).length)
theorem cyY_s (ν : Nat → Nat) (δ : Nat → Nat → Nat) (mk rd : Nat → Nat) (τ : Nat → Nat → Nat) (ln rp n r G o l m : Nat) : cyY ν δ mk rd τ ln rp n (r + 1) G o l m = cyY ν δ mk rd τ ln rp n r (dyY ν δ τ ln rp n 8 G []).1 (o + (if (frm mk rd (dyY ν δ τ ln rp n 8 G []).2).length = 0 then 1 else 0)) (l + (frm mk rd (dyY ν δ τ ln rp n 8 G []).2).length) (max m (frm mk rd (dyY ν δ τ ln rp n 8 G []).2).length) := rfl
theorem centX_L {F n ln rp : Nat} {ν : Nat → Nat} {δ : Nat → Nat → Nat} (hν : ∀ G, ν G < 2147483648) (hδ : ∀ G m, 0 < m → δ G m < m) (hd : ∀ (G m : Nat) (x : Int32), x = ii m → 0 < m → m < 1000 → fX10_drawBelow F x (il G) = some (ii (δ G m), il (ν G))) {mk rd : Nat → Nat} {st ro : Nat → Int32} (hn : okN n mk rd) (hr : okR rd) (hx : netX n mk rd st ro) (hF : 1000 ≤ F) (hl : ln ≤ 24) (hrp : rp ≤ 999) {τ : Nat → Nat → Nat} (hτ : ∀ p t, τ p t ≤ 99) {tk : Nat → Int32} (htk : tkX n ln τ tk) {yr : Nat} (hyr : yr ≤ 40) :
    ∀ (t k G o l m : Nat) (rz : Int32) (a : Nat → Int32) (ps : Int32) (pt : Nat → Int32) (z : Int32) (fo co w an : Nat → Int32), k ≤ yr → yr < k + t → G < 2147483648 → o ≤ k → l ≤ 24 * k → m ≤ 24 → an 0 = ii o → an 1 = ii l → an 2 = ii m → ∃ g' a0 a' ps' pt' z' fo' co' w' an', fX10_drawYears_L17 F 24 24 24 24 24 3 (ii n) (ii ln) (ii rp) 6 st 6 ro 288 tk t (ii yr) (ii k) (il G) rz a ps pt z fo co w an = some (g', a0, a', ps', pt', z', fo', co', w', an') ∧ an' 0 = ii (cyY ν δ mk rd τ ln rp n (yr - k) G o l m).1 ∧ an' 1 = ii (cyY ν δ mk rd τ ln rp n (yr - k) G o l m).2.1 ∧ an' 2 = ii (cyY ν δ mk rd τ ln rp n (yr - k) G o l m).2.2 := by
  intro t
  induction t with
  | zero => intro k G o l m rz a ps pt z fo co w an h1 h2; omega
  | succ t ih =>
    intro k G o l m rz a ps pt z fo co w an h1 h2 hG ho hl9 hm n0 n1 n2
    rw [sX10_drawYears_L17]
    unfold bX10_drawYears_L17 bX10_drawYears_L66
    by_cases h : yr ≤ k
    · rw [if_pos (by rw [ii_le (by omega) (by omega)]; exact h), show yr - k = 0 from by omega]
      exact ⟨_, _, _, _, _, _, _, _, _, _, rfl, n0, n1, n2⟩
    · rw [if_neg (by rw [ii_le (by omega) (by omega)]; exact h), show yr - k = (yr - (k + 1)) + 1 from by omega, cyY_s]
      unfold fX10_drawYear fX7_clear
      simp only [Option.bind_some]
      obtain ⟨a', e1, h3⟩ := drawYear_L (F := F) (rp := rp) hδ hd hF hn.1 hl hrp hτ htk F 0 G [] a (by omega) (by omega) (fun t ht => by cases ht) (fun k hk => absurd hk (by simp)) (by simp)
      obtain ⟨g1, g2, g3⟩ := dyY_ok (ν := ν) hν hδ (τ := τ) (ln := ln) (rp := rp) (n := n) 8 G [] (fun t ht => by cases ht) (by simp) hG
      have e1' : fX10_drawYear_L9 F 24 (ii n) (ii ln) (ii rp) 288 tk F (0 : Int32) (il G) (0 : Int32) a = some (il (dyY ν δ τ ln rp n 8 G []).1, ii (dyY ν δ τ ln rp n 8 G []).2.length, a') := e1
      have h3' : rL a' (dyY ν δ τ ln rp n 8 G []).2 := h3
      rw [e1']
      simp only [Option.bind_some]
      generalize (dyY ν δ τ ln rp n 8 G []).2 = L2 at g1 g2 h3'
      generalize (dyY ν δ τ ln rp n 8 G []).1 = G2 at g3
      obtain ⟨z', fo', co', w', pt', e2, h4⟩ := layForm24 (F := F) hn hr hx hF g1 h3' (by omega) (frm_FM mk rd L2) z fo co w ps pt
      obtain ⟨q1, q2⟩ := frm_ok (mk := mk) hn hr g1 (by omega)
      rw [e2]
      simp only [Option.bind_some]
      generalize (frm mk rd L2).length = c at q2
      have i0 : (0 : Int32).toNatClampNeg = 0 := by decide
      have i1 : (1 : Int32).toNatClampNeg = 1 := by decide
      have i2 : (2 : Int32).toNatClampNeg = 2 := by decide
      have c0 : ¬ ((0 : Int32) < 0 ∨ 3 ≤ (0 : Int32).toNatClampNeg) := by decide
      have c1 : ¬ ((1 : Int32) < 0 ∨ 3 ≤ (1 : Int32).toNatClampNeg) := by decide
      have c2 : ¬ ((2 : Int32) < 0 ∨ 3 ≤ (2 : Int32).toNatClampNeg) := by decide
      simp only [if_neg c0, if_neg c1, if_neg c2]
      simp only [i0, i1, i2, n0]
      have e1k : ii k + (1 : Int32) = ii (k + 1) := by rw [k_1, ii_add]
      have u1 : ∀ y, upd an 0 y 1 = ii l := fun y => by rw [upd_ne _ _ (by decide)]; exact n1
      have u2 : ∀ y y', upd (upd an 0 y) 1 y' 2 = ii m := fun y y' => by rw [upd_ne _ _ (by decide), upd_ne _ _ (by decide)]; exact n2
      simp only [u1, u2, e1k]
      have emx : (if ii m < ii c then ii c else ii m) = ii (max m c) := by
        by_cases hmc : m < c
        · rw [if_pos (by rw [ii_lt (by omega) (by omega)]; exact hmc), Nat.max_eq_right (by omega)]
        · rw [if_neg (by rw [ii_lt (by omega) (by omega)]; exact hmc), Nat.max_eq_left (by omega)]
      rw [emx, ii_add]
      have hmx : max m c ≤ 24 := Nat.max_le.mpr ⟨hm, by omega⟩
      by_cases hc0 : c = 0
      · rw [if_pos (by rw [len0 (by omega)]; exact hc0), if_pos hc0, k_1, ii_add]
        exact ih (k + 1) G2 (o + 1) (l + c) (max m c) _ _ _ _ _ _ _ _ _ (by omega) (by omega) g3 (by omega) (by omega) hmx (by rw [upd_ne _ _ (by decide), upd_ne _ _ (by decide), upd_same]) (by rw [upd_ne _ _ (by decide), upd_same]) (upd_same _ _ _)
      · rw [if_neg (by rw [len0 (by omega)]; exact hc0), if_neg hc0, k_0, ii_add]
        exact ih (k + 1) G2 (o + 0) (l + c) (max m c) _ _ _ _ _ _ _ _ _ (by omega) (by omega) g3 (by omega) (by omega) hmx (by rw [upd_ne _ _ (by decide), upd_ne _ _ (by decide), upd_same]) (by rw [upd_ne _ _ (by decide), upd_same]) (upd_same _ _ _)
def ceOk (a b c : Int32) : Prop := ¬ a < 0 ∧ ¬ (9999 : Int32) < a ∧ ¬ b < (1 : Int32) ∧ ¬ (40 : Int32) < b ∧ ¬ c < 0 ∧ ¬ (2 : Int32) < c
noncomputable def ceA (ν : Nat → Nat) (δ : Nat → Nat → Nat) (mk rd : Nat → Nat) (τ : Nat → Nat → Nat) (ln rp n : Nat) (a b c : Int32) : Int32 := if (¬ a < 0 ∧ ¬ (9999 : Int32) < a ∧ ¬ b < (1 : Int32) ∧ ¬ (40 : Int32) < b ∧ ¬ c < 0 ∧ ¬ (2 : Int32) < c) then (if c = 0 then ii (cyY ν δ mk rd τ ln rp n b.toNatClampNeg a.toNatClampNeg 0 0 0).1 else if c = 1 then ii (cyY ν δ mk rd τ ln rp n b.toNatClampNeg a.toNatClampNeg 0 0 0).2.1 else ii (cyY ν δ mk rd τ ln rp n b.toNatClampNeg a.toNatClampNeg 0 0 0).2.2) else -1
theorem ce_nums {a b c : Int32} (h : ceOk a b c) : a = ii a.toNatClampNeg ∧ a.toNatClampNeg ≤ 9999 ∧ b = ii b.toNatClampNeg ∧ b.toNatClampNeg ≤ 40 := by
  obtain ⟨h1, h2, h3, h4, h5, h6⟩ := h
  obtain ⟨e6, e7⟩ := i_nat h1
  have hb : ¬ b < 0 := fun h9 => h3 (by
    rw [Int32.lt_iff_toInt_lt] at h9 ⊢
    have e0 : (0 : Int32).toInt = 0 := by decide
    have e1 : (1 : Int32).toInt = 1 := by decide
    rw [e0] at h9
    rw [e1]
    omega)
  obtain ⟨e8, e9⟩ := i_nat hb
  refine ⟨e6, ?_, e8, ?_⟩
  · rw [e6, k_9999, ii_lt (by omega) (by omega)] at h2
    omega
  · rw [e8, k_40, ii_lt (by omega) (by omega)] at h4
    omega
theorem il_int2 {m : Nat} (h : m ≤ 9999) : (ii m).toInt64 = il m := Int32.toInt64_ofNat' (by
  have : Int32.maxValue.toInt = 2147483647 := by decide
  rw [this]
  omega)
theorem fill3 {F : Nat} (hF : 1000 ≤ F) (an : Nat → Int32) : ∃ an', fJ7_fill_53178 F 3 0 an = some an' ∧ an' 0 = ii 0 ∧ an' 1 = ii 0 ∧ an' 2 = ii 0 := by
  obtain ⟨G, rfl⟩ : ∃ G, F = G + 4 := ⟨F - 4, by omega⟩
  exact ⟨upd (upd (upd an 0 0) 1 0) 2 0, rfl, rfl, rfl, rfl⟩
theorem centuries_X {F n ln rp : Nat} {ν : Nat → Nat} {δ : Nat → Nat → Nat} (hν : ∀ G, ν G < 2147483648) (hδ : ∀ G m, 0 < m → δ G m < m) (hd : ∀ (G m : Nat) (x : Int32), x = ii m → 0 < m → m < 1000 → fX10_drawBelow F x (il G) = some (ii (δ G m), il (ν G))) {mk rd : Nat → Nat} {st ro : Nat → Int32} (hn : okN n mk rd) (hr : okR rd) (hx : netX n mk rd st ro) (hF : 1000 ≤ F) (hl : ln ≤ 24) (hrp : rp ≤ 999) {τ : Nat → Nat → Nat} (hτ : ∀ p t, τ p t ≤ 99) {tk : Nat → Int32} (htk : tkX n ln τ tk) (b c d : Int32) (g : Int64) (rz : Int32) (a : Nat → Int32) (ps : Int32) (pt : Nat → Int32) (z : Int32) (fo co w an : Nat → Int32) :
    ∃ g' a0 a' ps' pt' z' fo' co' w' an', fX11_centuries F (ii n) (ii ln) (ii rp) 6 st 6 ro 288 tk 24 24 24 24 24 3 b c d g rz a ps pt z fo co w an = some (ceA ν δ mk rd τ ln rp n b c d, g', a0, a', ps', pt', z', fo', co', w', an') := by
  unfold fX11_centuries bX11_centuries_L31 ceA
  by_cases h : ceOk b c d
  · obtain ⟨q1, q2, q3, q4⟩ := ce_nums h
    obtain ⟨h1, h2, h3, h4, h5, h6⟩ := h
    rw [if_neg h1, if_neg h2, if_neg h3, if_neg h4, if_neg h5, if_pos (Int32.not_lt.mp h6), if_pos ⟨h1, h2, h3, h4, h5, h6⟩]
    unfold fX10_drawYears
    obtain ⟨an0, e0, n0, n1, n2⟩ := fill3 (F := F) hF an
    rw [e0]
    simp only [Option.bind_some]
    obtain ⟨g', a0, a', ps', pt', z', fo', co', w', an', e1, m0, m1, m2⟩ := centX_L (F := F) hν hδ hd hn hr hx hF hl hrp hτ htk q4 F 0 b.toNatClampNeg 0 0 0 rz a ps pt z fo co w an0 (by omega) (by omega) (by omega) (by omega) (by omega) (by omega) n0 n1 n2
    have eb : b.toInt64 = il b.toNatClampNeg := by
      rw [← il_int2 q2, ← q1]
    rw [eb, k_0]
    rw [← q3] at e1
    rw [e1]
    simp only [Option.bind_some]
    rw [answer_eq h5 (Int32.not_lt.mp h6), m0, m1, m2]
    exact ⟨_, _, _, _, _, _, _, _, _, _, rfl⟩
  · rw [if_neg (show ¬ (¬ b < 0 ∧ ¬ (9999 : Int32) < b ∧ ¬ c < (1 : Int32) ∧ ¬ (40 : Int32) < c ∧ ¬ d < 0 ∧ ¬ (2 : Int32) < d) from h)]
    by_cases h1 : b < 0
    · rw [if_pos h1]; exact ⟨_, _, _, _, _, _, _, _, _, _, rfl⟩
    · rw [if_neg h1]
      by_cases h2 : (9999 : Int32) < b
      · rw [if_pos h2]; exact ⟨_, _, _, _, _, _, _, _, _, _, rfl⟩
      · rw [if_neg h2]
        by_cases h3 : c < (1 : Int32)
        · rw [if_pos h3]; exact ⟨_, _, _, _, _, _, _, _, _, _, rfl⟩
        · rw [if_neg h3]
          by_cases h4 : (40 : Int32) < c
          · rw [if_pos h4]; exact ⟨_, _, _, _, _, _, _, _, _, _, rfl⟩
          · rw [if_neg h4]
            by_cases h5 : d < 0
            · rw [if_pos h5]; exact ⟨_, _, _, _, _, _, _, _, _, _, rfl⟩
            · rw [if_neg h5]
              by_cases h6 : d ≤ (2 : Int32)
              · exact absurd ⟨h1, h2, h3, h4, h5, Int32.not_lt.mpr h6⟩ h
              · rw [if_neg h6]; exact ⟨_, _, _, _, _, _, _, _, _, _, rfl⟩
