/-! PURE: stages, the sets that they stand for -/
def stP (r : Nat → Nat) : Nat → Nat
  | 0 => 1
  | f + 1 => stP r f * r f
theorem stP_s (r : Nat → Nat) (f : Nat) : stP r (f + 1) = stP r f * r f := rfl
def dg (r : Nat → Nat) (s f : Nat) : Nat := s / stP r f % r f
theorem stP_pos {r : Nat → Nat} (h : ∀ f, 0 < r f) (f : Nat) : 0 < stP r f := by
  induction f with
  | zero => exact Nat.one_pos
  | succ f ih => rw [stP_s]; exact Nat.mul_pos ih (h f)
theorem dg_lt {r : Nat → Nat} (h : ∀ f, 0 < r f) (s f : Nat) : dg r s f < r f := Nat.mod_lt _ (h f)
theorem dg_sum (r : Nat → Nat) (s k : Nat) : sN k (fun f => stP r f * dg r s f) = s % stP r k := by
  induction k with
  | zero => rw [sN_0]; show 0 = s % 1; omega
  | succ k ih =>
    rw [sN_s, ih, stP_s, Nat.mod_mul]
    rfl
theorem stP_split (r : Nat → Nat) (f d : Nat) : ∃ K, stP r (f + 1 + d) = stP r f * (r f * K) ∧ stP r (f + 1 + d) = stP r f * r f * K := by
  induction d with
  | zero => exact ⟨1, by rw [Nat.add_zero, stP_s, Nat.mul_one], by rw [Nat.add_zero, stP_s, Nat.mul_one]⟩
  | succ d ih =>
    obtain ⟨K, e1, e2⟩ := ih
    refine ⟨K * r (f + 1 + d), ?_, ?_⟩
    · rw [← Nat.add_assoc, stP_s, e1]
      ac_rfl
    · rw [← Nat.add_assoc, stP_s, e1]
      ac_rfl
theorem dg_hi {r : Nat → Nat} (h : ∀ f, 0 < r f) {s f g : Nat} (hfg : f < g) (hd : dg r s f + 1 < r f) : (s + stP r f) / stP r g = s / stP r g := by
  obtain ⟨d, rfl⟩ : ∃ d, g = f + 1 + d := ⟨g - (f + 1), by omega⟩
  obtain ⟨K, e, _⟩ := stP_split r f d
  have hp := stP_pos h f
  rw [e, ← Nat.div_div_eq_div_mul, ← Nat.div_div_eq_div_mul, ← Nat.div_div_eq_div_mul, ← Nat.div_div_eq_div_mul, Nat.add_div_right _ hp]
  congr 1
  unfold dg at hd
  have a1 := Nat.div_add_mod (s / stP r f) (r f)
  have a2 : s / stP r f + 1 = r f * (s / stP r f / r f) + ((s / stP r f) % r f + 1) := by omega
  rw [a2, Nat.mul_add_div (h f), Nat.div_eq_of_lt hd, Nat.add_zero]
theorem dg_up {r : Nat → Nat} (h : ∀ f, 0 < r f) {s f : Nat} (hd : dg r s f + 1 < r f) : dg r (s + stP r f) f = dg r s f + 1 := by
  unfold dg at *
  rw [Nat.add_div_right _ (stP_pos h f)]
  have a1 := Nat.div_add_mod (s / stP r f) (r f)
  have a2 : s / stP r f + 1 = r f * (s / stP r f / r f) + ((s / stP r f) % r f + 1) := by omega
  rw [a2, Nat.mul_add_mod, Nat.mod_eq_of_lt hd]
theorem dg_ne {r : Nat → Nat} (h : ∀ f, 0 < r f) {s f g : Nat} (hfg : g ≠ f) (hd : dg r s f + 1 < r f) : dg r (s + stP r f) g = dg r s g := by
  by_cases hlt : f < g
  · unfold dg
    rw [dg_hi h hlt hd]
  · obtain ⟨d, rfl⟩ : ∃ d, f = g + 1 + d := ⟨f - (g + 1), by omega⟩
    obtain ⟨K, e, _⟩ := stP_split r g d
    unfold dg
    rw [e, Nat.add_mul_div_left _ _ (stP_pos h g), Nat.add_mul_mod_self_left]
theorem dg_in {r : Nat → Nat} (h : ∀ f, 0 < r f) {s f k : Nat} (hf : f < k) (hs : s < stP r k) (hd : dg r s f + 1 < r f) : s + stP r f < stP r k := by
  have e := dg_hi h hf hd
  rw [Nat.div_eq_of_lt hs] at e
  exact (Nat.div_eq_zero_iff_lt (stP_pos h k)).mp e
theorem dg_0 {r : Nat → Nat} {s k : Nat} (hs : s < stP r k) (h0 : ∀ f, f < k → dg r s f = 0) : s = 0 := by
  have := dg_sum r s k
  rw [sN_z (fun f hf => by rw [h0 f hf, Nat.mul_zero]), Nat.mod_eq_of_lt hs] at this
  exact this.symm
theorem dg_top {r : Nat → Nat} (h : ∀ f, 0 < r f) {s k : Nat} (hs : s < stP r k) (h0 : ∀ f, f < k → dg r s f + 1 = r f) : s = stP r k - 1 := by
  have e1 : ∀ k, sN k (fun f => stP r f * (r f - 1)) + 1 = stP r k := by
    intro k
    induction k with
    | zero => rfl
    | succ k ih =>
      rw [sN_s, stP_s]
      have hp := stP_pos h k
      have hq : stP r k * r k = stP r k * (r k - 1) + stP r k := by
        rw [← Nat.mul_succ]
        congr 1
        have := h k
        omega
      omega
  have := dg_sum r s k
  rw [sN_c (g := fun f => stP r f * (r f - 1)) (fun f hf => by
    have := h0 f hf
    congr 1
    omega), Nat.mod_eq_of_lt hs] at this
  have := e1 k
  omega
theorem dg_top2 {r : Nat → Nat} (h : ∀ f, 0 < r f) {k f : Nat} (hf : f < k) : dg r (stP r k - 1) f + 1 = r f := by
  obtain ⟨d, rfl⟩ : ∃ d, k = f + 1 + d := ⟨k - (f + 1), by omega⟩
  obtain ⟨K, e, _⟩ := stP_split r f d
  have hp := stP_pos h f
  have hk := stP_pos h (f + 1 + d)
  have hr := h f
  have hK : 0 < K := by
    rcases Nat.eq_zero_or_pos K with h0 | h0
    · rw [h0, Nat.mul_zero, Nat.mul_zero] at e; omega
    · exact h0
  unfold dg
  rw [e]
  have e1 : (stP r f * (r f * K) - 1) / stP r f = r f * K - 1 := by
    have hrk : 0 < r f * K := Nat.mul_pos hr hK
    have e2 : stP r f * (r f * K) - 1 = stP r f * (r f * K - 1) + (stP r f - 1) := by
      have : stP r f * (r f * K) = stP r f * (r f * K - 1) + stP r f := by
        rw [← Nat.mul_succ]
        congr 1
        omega
      omega
    rw [e2, Nat.mul_add_div hp, Nat.div_eq_of_lt (by omega), Nat.add_zero]
  rw [e1]
  have e3 : r f * K - 1 = r f * (K - 1) + (r f - 1) := by
    have : r f * K = r f * (K - 1) + r f := by
      rw [← Nat.mul_succ]
      congr 1
      omega
    omega
  rw [e3, Nat.mul_add_mod, Nat.mod_eq_of_lt (by omega)]
  omega
/-- 14 ties of 6 folk have at most 1296 stages -/
theorem rx_b (a : Nat) : 16 * 3 ^ a * (a + 1) ≤ 27 * 4 ^ a := by
  have base : 16 * 3 ^ 0 * (0 + 1) ≤ 27 * 4 ^ 0 ∧ 16 * 3 ^ 1 * (1 + 1) ≤ 27 * 4 ^ 1 ∧ 16 * 3 ^ 2 * (2 + 1) ≤ 27 * 4 ^ 2 := by decide
  have step : ∀ a, 2 ≤ a → 16 * 3 ^ a * (a + 1) ≤ 27 * 4 ^ a → 16 * 3 ^ (a + 1) * (a + 1 + 1) ≤ 27 * 4 ^ (a + 1) := by
    intro a ha h
    rw [Nat.pow_succ, Nat.pow_succ]
    have e1 : 16 * (3 ^ a * 3) * (a + 1 + 1) = 16 * 3 ^ a * (3 * (a + 2)) := by ac_rfl
    have e2 : 27 * (4 ^ a * 4) = 27 * 4 ^ a * 4 := by ac_rfl
    rw [e1, e2]
    have h2 : 16 * 3 ^ a * (3 * (a + 2)) ≤ 16 * 3 ^ a * (4 * (a + 1)) := Nat.mul_le_mul_left _ (by omega)
    have h3 : 16 * 3 ^ a * (4 * (a + 1)) = 16 * 3 ^ a * (a + 1) * 4 := by ac_rfl
    omega
  have all : ∀ d, 16 * 3 ^ (2 + d) * (2 + d + 1) ≤ 27 * 4 ^ (2 + d) := by
    intro d
    induction d with
    | zero => exact base.2.2
    | succ d ih => exact step (2 + d) (by omega) ih
  by_cases h : 2 ≤ a
  · obtain ⟨d, rfl⟩ : ∃ d, a = 2 + d := ⟨a - 2, by omega⟩
    exact all d
  · by_cases h0 : a = 0
    · subst h0; exact base.1
    · have : a = 1 := by omega
      subst this; exact base.2.1
theorem rx_prod (t : Nat → Nat) (k : Nat) : 16 ^ k * 3 ^ sN k t * stP (fun f => t f + 1) k ≤ 27 ^ k * 4 ^ sN k t := by
  induction k with
  | zero => exact Nat.le_refl _
  | succ k ih =>
    rw [sN_s, stP_s, Nat.pow_succ, Nat.pow_succ, Nat.pow_add, Nat.pow_add]
    have e1 : 16 ^ k * 16 * (3 ^ sN k t * 3 ^ t k) * (stP (fun f => t f + 1) k * (t k + 1)) = (16 ^ k * 3 ^ sN k t * stP (fun f => t f + 1) k) * (16 * 3 ^ t k * (t k + 1)) := by ac_rfl
    have e2 : 27 ^ k * 27 * (4 ^ sN k t * 4 ^ t k) = (27 ^ k * 4 ^ sN k t) * (27 * 4 ^ t k) := by ac_rfl
    rw [e1, e2]
    exact Nat.mul_le_mul ih (rx_b (t k))
theorem rx_1296 {t : Nat → Nat} (h : sN 6 t ≤ 14) : stP (fun f => t f + 1) 6 ≤ 1296 := by
  have h1 := rx_prod t 6
  obtain ⟨d, hd⟩ : ∃ d, sN 6 t + d = 14 := ⟨14 - sN 6 t, by omega⟩
  have h2 : 3 ^ d ≤ 4 ^ d := Nat.pow_le_pow_left (by decide) d
  have h3 := Nat.mul_le_mul h1 h2
  have e1 : 16 ^ 6 * 3 ^ sN 6 t * stP (fun f => t f + 1) 6 * 3 ^ d = 16 ^ 6 * 3 ^ (sN 6 t + d) * stP (fun f => t f + 1) 6 := by
    rw [Nat.pow_add]
    ac_rfl
  have e2 : 27 ^ 6 * 4 ^ sN 6 t * 4 ^ d = 27 ^ 6 * 4 ^ (sN 6 t + d) := by
    rw [Nat.pow_add]
    ac_rfl
  rw [e1, e2, hd] at h3
  have e3 : 27 ^ 6 * 4 ^ 14 = 16 ^ 6 * 3 ^ 14 * 1296 := by decide
  rw [e3] at h3
  exact Nat.le_of_mul_le_mul_left h3 (by decide)
/-- how many ties of a folk stand before a place -/
abbrev fkA (L : List Nat) (y : Nat) : Nat := L.getD y 0 / 2
def cnF (L : List Nat) (f y : Nat) : Nat := sN y (fun z => ind (fkA L z = f))
theorem cnF_s (L : List Nat) (f y : Nat) : cnF L f (y + 1) = cnF L f y + ind (fkA L y = f) := rfl
theorem cnF_mono {L : List Nat} {f y z : Nat} (h : y ≤ z) : cnF L f y ≤ cnF L f z := by
  induction z with
  | zero => rw [show y = 0 from by omega]; exact Nat.le_refl _
  | succ z ih =>
    by_cases hyz : y = z + 1
    · rw [hyz]; exact Nat.le_refl _
    · rw [cnF_s]
      have := ih (by omega)
      omega
theorem cnF_lt {L : List Nat} {y z : Nat} (h : y < z) : cnF L (fkA L y) y < cnF L (fkA L y) z := by
  have := cnF_mono (L := L) (f := fkA L y) (show y + 1 ≤ z by omega)
  rw [cnF_s, ind_t rfl] at this
  omega
theorem cnF_inj {L : List Nat} {y z : Nat} (h1 : fkA L y = fkA L z) (h2 : cnF L (fkA L y) y = cnF L (fkA L z) z) : y = z := by
  rcases Nat.lt_trichotomy y z with h | h | h
  · have := cnF_lt (L := L) h
    rw [h1] at h2 this
    omega
  · exact h
  · have := cnF_lt (L := L) h
    rw [h1] at h2
    omega
theorem cnF_ex {L : List Nat} {f z n : Nat} (h : n < cnF L f z) : ∃ y, y < z ∧ fkA L y = f ∧ cnF L f y = n := by
  induction z with
  | zero => rw [show cnF L f 0 = 0 from rfl] at h; omega
  | succ z ih =>
    by_cases hn : n < cnF L f z
    · obtain ⟨y, h1, h2⟩ := ih hn
      exact ⟨y, by omega, h2⟩
    · rw [cnF_s] at h
      by_cases hf : fkA L z = f
      · rw [ind_t hf] at h
        exact ⟨z, by omega, hf, by omega⟩
      · rw [ind_f hf] at h
        omega
theorem cnF_le (L : List Nat) (f y : Nat) : cnF L f y ≤ y := by
  induction y with
  | zero => exact Nat.le_refl _
  | succ y ih =>
    rw [cnF_s]
    have : ind (fkA L y = f) ≤ 1 := by unfold ind; split <;> omega
    omega
theorem cnF_tot {L : List Nat} (h : ∀ y, y < L.length → fkA L y < 6) (z : Nat) (hz : z ≤ L.length) : sN 6 (fun f => cnF L f z) = z := by
  unfold cnF
  rw [sN_sw, sN_c (g := fun _ => 1) (fun k hk => by
    rw [sN_c (g := fun f => ind (fkA L k = f) * 1) (fun f _ => by rw [Nat.mul_one])]
    exact sN_1 (h k (by omega)) (fun _ => 1))]
  clear h hz
  induction z with
  | zero => rfl
  | succ z ih => rw [sN_s, ih]
/-- what is tied at a stage -/
abbrev rxL (L : List Nat) : Nat → Nat := fun f => cnF L f L.length + 1
theorem rxL_pos (L : List Nat) : ∀ f, 0 < rxL L f := fun f => Nat.succ_pos _
def biN (m : Nat) (p : Nat → Prop) [DecidablePred p] : Nat := orN m (fun y => if p y then 2 ^ y else 0)
theorem biN_b {m : Nat} {p : Nat → Prop} [DecidablePred p] {i : Nat} : (biN m p).testBit i = true ↔ i < m ∧ p i := by
  unfold biN
  rw [orN_b]
  constructor
  · rintro ⟨k, hk, h⟩
    by_cases hp : p k
    · rw [if_pos hp, Nat.testBit_two_pow] at h
      have : k = i := of_decide_eq_true h
      subst this
      exact ⟨hk, hp⟩
    · rw [if_neg hp, Nat.zero_testBit] at h
      cases h
  · rintro ⟨hi, hp⟩
    exact ⟨i, hi, by rw [if_pos hp, Nat.testBit_two_pow]; exact decide_eq_true rfl⟩
theorem biN_lt {m : Nat} {p : Nat → Prop} [DecidablePred p] : biN m p < 2 ^ m := orN_lt (fun k hk => by
  split
  · exact Nat.pow_lt_pow_right (by decide) hk
  · exact Nat.two_pow_pos m)
theorem tb_ext {a b : Nat} (h : ∀ i, a.testBit i = true ↔ b.testBit i = true) : a = b := by
  apply Nat.eq_of_testBit_eq
  intro i
  have := h i
  cases ha : a.testBit i <;> cases hb : b.testBit i
  · rfl
  · rw [ha, hb] at this; exact absurd (this.mpr rfl) (by decide)
  · rw [ha, hb] at this; exact absurd (this.mp rfl) (by decide)
  · rfl
theorem tb_or2' {S x i : Nat} : (S ||| 2 ^ x).testBit i = true ↔ S.testBit i = true ∨ x = i := by
  rw [tb_or2, Bool.or_eq_true, decide_eq_true_iff]
abbrev cnA (L : List Nat) (y : Nat) : Nat := cnF L (fkA L y) y
def dnS (L : List Nat) (s : Nat) : Nat := biN L.length (fun y => cnA L y < dg (rxL L) s (fkA L y))
theorem dnS_b {L : List Nat} {s i : Nat} : (dnS L s).testBit i = true ↔ i < L.length ∧ cnA L i < dg (rxL L) s (fkA L i) := biN_b
theorem dnS_lt {L : List Nat} {s : Nat} : dnS L s < 2 ^ L.length := biN_lt
theorem dnS_00 (L : List Nat) : dnS L 0 = 0 := by
  apply tb_ext
  intro i
  rw [dnS_b, Nat.zero_testBit]
  constructor
  · intro h
    have h2 := h.2
    unfold dg at h2
    rw [Nat.zero_div, Nat.zero_mod] at h2
    omega
  · intro h; cases h
theorem dnS_full {L : List Nat} {s : Nat} (h6 : ∀ y, y < L.length → fkA L y < 6) (hs : s < stP (rxL L) 6) : dnS L s = 2 ^ L.length - 1 ↔ s = stP (rxL L) 6 - 1 := by
  constructor
  · intro h
    apply dg_top (rxL_pos L) hs
    intro f hf
    have hlt := dg_lt (rxL_pos L) s f
    by_cases hc : cnF L f L.length = 0
    · show dg (rxL L) s f + 1 = cnF L f L.length + 1
      have : dg (rxL L) s f < cnF L f L.length + 1 := hlt
      omega
    · obtain ⟨y, h1, h2, h3⟩ := cnF_ex (L := L) (f := f) (z := L.length) (n := cnF L f L.length - 1) (by omega)
      have hb := full_b (m := L.length) h1
      rw [← h, dnS_b] at hb
      have hb2 := hb.2
      rw [h2] at hb2
      show dg (rxL L) s f + 1 = cnF L f L.length + 1
      have : dg (rxL L) s f < cnF L f L.length + 1 := hlt
      have h4 : cnA L y = cnF L f y := by show cnF L (fkA L y) y = _; rw [h2]
      omega
  · intro h
    apply tb_ext
    intro i
    rw [dnS_b, Nat.testBit_two_pow_sub_one, decide_eq_true_iff]
    constructor
    · exact fun h => h.1
    · intro hi
      refine ⟨hi, ?_⟩
      have := dg_top2 (rxL_pos L) (h6 i hi)
      rw [← h] at this
      have h2 := cnF_lt (L := L) hi
      have h3 : rxL L (fkA L i) = cnF L (fkA L i) L.length + 1 := rfl
      have h4 : cnA L i = cnF L (fkA L i) i := rfl
      omega
/-- the place that a folk ties next -/
abbrev NX (L : List Nat) (MU : Nat → Nat) (s f x : Nat) : Prop := x < L.length ∧ fkA L x = f ∧ cnF L f x = dg (rxL L) s f ∧ mF MU (dnS L s) x
theorem NX_1 {L : List Nat} {MU : Nat → Nat} {s f x y : Nat} (h1 : NX L MU s f x) (h2 : NX L MU s f y) : x = y := by
  obtain ⟨_, a2, a3, _⟩ := h1
  obtain ⟨_, b2, b3, _⟩ := h2
  apply cnF_inj (L := L) (by rw [a2, b2])
  rw [a2, b2, a3, b3]
theorem NX_dg {L : List Nat} {MU : Nat → Nat} {s f x : Nat} (h : NX L MU s f x) : dg (rxL L) s f + 1 < rxL L f := by
  have := cnF_lt (L := L) h.1
  rw [h.2.1, h.2.2.1] at this
  show dg (rxL L) s f + 1 < cnF L f L.length + 1
  omega
theorem NX_in {L : List Nat} {MU : Nat → Nat} {s f x : Nat} (hs : s < stP (rxL L) 6) (hf : f < 6) (h : NX L MU s f x) : s + stP (rxL L) f < stP (rxL L) 6 := dg_in (rxL_pos L) hf hs (NX_dg h)
theorem NX_dn {L : List Nat} {MU : Nat → Nat} {s f x : Nat} (h : NX L MU s f x) : dnS L (s + stP (rxL L) f) = dnS L s ||| 2 ^ x := by
  have hd := NX_dg h
  apply tb_ext
  intro i
  rw [tb_or2', dnS_b, dnS_b]
  by_cases hf : fkA L i = f
  · have e1 : dg (rxL L) (s + stP (rxL L) f) (fkA L i) = dg (rxL L) s f + 1 := by rw [hf]; exact dg_up (rxL_pos L) hd
    have e2 : cnA L i = cnF L f i := by show cnF L (fkA L i) i = _; rw [hf]
    rw [e1, hf, e2]
    constructor
    · rintro ⟨h1, h2⟩
      by_cases hx : cnF L f i = dg (rxL L) s f
      · right
        apply cnF_inj (L := L) (by rw [h.2.1, hf])
        rw [h.2.1, hf, h.2.2.1, hx]
      · exact Or.inl ⟨h1, by omega⟩
    · rintro (⟨h1, h2⟩ | h1)
      · exact ⟨h1, by omega⟩
      · subst h1
        exact ⟨h.1, by rw [h.2.2.1]; omega⟩
  · rw [dg_ne (rxL_pos L) hf hd]
    constructor
    · exact Or.inl
    · rintro (h1 | h1)
      · exact h1
      · subst h1
        exact absurd h.2.1 hf
/-- what may follow is what its folk ties next -/
theorem mF_NX {L : List Nat} {MU : Nat → Nat} (hMU : ∀ x y, x < L.length → y < x → fkA L y = fkA L x → (MU x).testBit y = true) {s x : Nat} (hx : x < L.length) (h : mF MU (dnS L s) x) : NX L MU s (fkA L x) x := by
  refine ⟨hx, rfl, ?_, h⟩
  have h1 : ¬ (cnA L x < dg (rxL L) s (fkA L x)) := by
    intro h9
    have := dnS_b.mpr ⟨hx, h9⟩
    rw [h.1] at this
    cases this
  have e0 : cnA L x = cnF L (fkA L x) x := rfl
  by_cases h2 : dg (rxL L) s (fkA L x) < cnF L (fkA L x) x
  · exfalso
    obtain ⟨y, y1, y2, y3⟩ := cnF_ex h2
    have h3 := subM_b.mp h.2 y (hMU x y hx y1 y2)
    rw [dnS_b] at h3
    have h4 := h3.2
    have e1 : cnA L y = cnF L (fkA L x) y := by show cnF L (fkA L y) y = _; rw [y2]
    rw [y2, e1, y3] at h4
    omega
  · omega
