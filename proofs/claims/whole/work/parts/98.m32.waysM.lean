/-! PURE: the reference counts ways to and from each set -/
theorem il_le {a b : Nat} (ha : a < 2 ^ 63) (hb : b < 2 ^ 63) : (il a ≤ il b) = (a ≤ b) := propext (Int64.ofNat_le_iff_le ha hb)
theorem il_lt {a b : Nat} (ha : a < 2 ^ 63) (hb : b < 2 ^ 63) : (il a < il b) = (a < b) := propext (Int64.ofNat_lt_iff_lt ha hb)
theorem il_0 : (0 : Int64) = il 0 := rfl
theorem il_1 : (1 : Int64) = il 1 := rfl
theorem il_in2 {a b : Nat} (ha : a < 2 ^ 63) (hb : b < 2 ^ 63) (h : il a = il b) : a = b := by
  have h1 : il a ≤ il b := by rw [h]; exact Int64.le_refl _
  have h2 : il b ≤ il a := by rw [h]; exact Int64.le_refl _
  rw [il_le ha hb] at h1
  rw [il_le hb ha] at h2
  omega
theorem p2_le {m : Nat} (hm : m ≤ 14) : 2 ^ m ≤ 16384 := by
  have : 2 ^ m ≤ 2 ^ 14 := Nat.pow_le_pow_right (by decide) hm
  omega
theorem ii_or2 {S x : Nat} (hx : x < 31) : ii S ||| ((1 : Int32) <<< (ii x &&& 31)) = ii (S ||| 2 ^ x) := by
  rw [iSh x hx, iOr]
theorem cfS_s (x : Nat) (MU : Nat → Nat) (S j : Nat) : cfS (x + 1) MU S j = cfS x MU S j + ind (mF MU S x ∧ S ||| 2 ^ x = j) := rfl
theorem to_L52 {F m S : Nat} {s mu : Nat → Int32} {MU : Nat → Nat} (hm : m ≤ 14) (hs : s 0 = ii m) (hmu : ∀ k, k < m → mu k = ii (MU k)) (hMU : ∀ k, k < m → MU k < 2 ^ m) (hS : S < 2 ^ m) (kn ah on tw : Nat → Int32) (k45 : Int32 → Int32 → (Nat → Int32) → (Nat → Int64) → (Nat → Int64) → Option (Int64 × (Nat → Int32) × (Nat → Int64) × (Nat → Int64))) (al : Int32) (v : Nat → Int64) :
    ∀ (t x : Nat) (w : Nat → Int64), m < x + t → x ≤ m → (∀ j, j < 2 ^ m → w j = il (tabP (cfS m MU) S j + cfS x MU S j * tabP (cfS m MU) S S)) → ∃ w', fX12_laysOrders_L52 F 12 kn 25 s 5 ah 40 on 40 tw 14 16384 16384 k45 t al (ii S) (ii x) mu w v = k45 al (ii (S + 1)) mu w' v ∧ ∀ j, j < 2 ^ m → w' j = il (tabP (cfS m MU) (S + 1) j) := by
  have hp := p2_le hm
  have hW : tabP (cfS m MU) S S ≤ 11112006825558016 := nW_le hm hS
  intro t
  induction t with
  | zero => intro x w h1 h2; omega
  | succ t ih =>
    intro x w h1 h2 h3
    rw [sX12_laysOrders_L52]
    unfold bX12_laysOrders_L52 bX12_laysOrders_L101 bX12_laysOrders_L107
    have z0 : ((0 : Int32)).toNatClampNeg = 0 := rfl
    rw [z0, hs, if_neg (show ¬ ((0 : Int32) < 0 ∨ 25 ≤ 0) by decide)]
    have e1 : ii S + (1 : Int32) = ii (S + 1) := by rw [k_1, ii_add]
    have e2 : ii x + (1 : Int32) = ii (x + 1) := by rw [k_1, ii_add]
    have hw : w S = il (tabP (cfS m MU) S S) := by
      rw [h3 S hS, cfS_0 x MU S S (Nat.le_refl _), Nat.zero_mul, Nat.add_zero]
    by_cases h : m ≤ x
    · have : x = m := by omega
      subst this
      rw [if_pos (by rw [ii_le (by omega) (by omega)]; exact h), e1]
      exact ⟨w, rfl, h3⟩
    · have hor := or2_lt hS (show x < m by omega)
      rw [if_neg (by rw [ii_le (by omega) (by omega)]; exact h), if_neg (by rw [ii_nneg (by omega), ii_nat (by omega)]; simp; omega), ii_nat (by omega), hw]
      by_cases hz : tabP (cfS m MU) S S = 0
      · rw [if_pos (by rw [lg_cmp_le, il_0, il_le (by omega) (by omega)]; omega), e1]
        refine ⟨w, rfl, ?_⟩
        intro j hj
        rw [h3 j hj, tabP_s, hz, Nat.mul_zero, Nat.mul_zero]
      · rw [if_neg (by rw [lg_cmp_le, il_0, il_le (by omega) (by omega)]; omega)]
        have fo := follow_M (F := F) hm hS (show x < m by omega) (hmu x (by omega)) (hMU x (by omega))
        by_cases hf : mF MU S x
        · rw [fo.1 hf]
          simp only [Option.bind_some]
          rw [if_neg (by decide), ii_or2 (by omega), if_neg (by rw [ii_nneg (by omega), ii_nat (by omega)]; simp; omega), if_neg (by rw [ii_nneg (by omega)]; simp; omega), if_neg (by rw [ii_nneg (by omega), ii_nat (by omega)]; simp; omega), ii_nat (by omega), e2]
          refine ih (x + 1) _ (by omega) (by omega) ?_
          intro j hj
          rw [cfS_s]
          by_cases hj2 : j = S ||| 2 ^ x
          · subst hj2
            rw [pk_uLs, h3 _ hj, il_add, ind_t ⟨hf, rfl⟩, Nat.add_mul, Nat.one_mul, Nat.add_assoc]
          · rw [pk_uLn hj2, h3 j hj, ind_f (fun h9 => hj2 h9.2.symm), Nat.add_zero]
        · rw [fo.2 hf]
          simp only [Option.bind_some]
          rw [if_pos trivial, e2]
          refine ih (x + 1) w (by omega) (by omega) ?_
          intro j hj
          rw [cfS_s, h3 j hj, ind_f (fun h9 => hf h9.1), Nat.add_zero]
theorem to_L45 {F m : Nat} {s mu : Nat → Int32} {MU : Nat → Nat} (hF : 20000 ≤ F) (hm : m ≤ 14) (hs : s 0 = ii m) (hmu : ∀ k, k < m → mu k = ii (MU k)) (hMU : ∀ k, k < m → MU k < 2 ^ m) (kn ah on tw : Nat → Int32) (v : Nat → Int64) :
    ∀ (t S : Nat) (w : Nat → Int64), 2 ^ m < S + t → S ≤ 2 ^ m → (∀ j, j < 2 ^ m → w j = il (tabP (cfS m MU) S j)) → ∃ w', fX12_laysOrders_L45 F 12 kn 25 s 5 ah 40 on 40 tw 14 16384 16384 t (ii (2 ^ m - 1)) (ii S) mu w v = fX12_laysOrders_L115 F 12 kn 25 s 5 ah 40 on 40 tw 14 16384 16384 F (ii (2 ^ m - 1)) (ii (2 ^ m - 1)) mu w' v ∧ ∀ j, j < 2 ^ m → w' j = il (nW m MU j) := by
  have hp := p2_le hm
  have hp0 := Nat.two_pow_pos m
  intro t
  induction t with
  | zero => intro S w h1 h2; omega
  | succ t ih =>
    intro S w h1 h2 h3
    rw [sX12_laysOrders_L45]
    unfold bX12_laysOrders_L45
    by_cases h : 2 ^ m - 1 < S
    · have : S = 2 ^ m := by omega
      subst this
      rw [if_pos (by rw [ii_lt (by omega) (by omega)]; exact h)]
      refine ⟨w, rfl, ?_⟩
      intro j hj
      rw [h3 j hj]
      obtain ⟨d, hd⟩ : ∃ d, 2 ^ m = j + d := ⟨2 ^ m - j, by omega⟩
      rw [show tabP (cfS m MU) (2 ^ m) j = tabP (cfS m MU) (j + d) j from by rw [← hd], tabP_fin (cfS_0 m MU)]
      rfl
    · rw [if_neg (by rw [ii_lt (by omega) (by omega)]; exact h)]
      obtain ⟨w', e, g⟩ := to_L52 (F := F) (S := S) hm hs hmu hMU (by omega) kn ah on tw (fX12_laysOrders_L45 F 12 kn 25 s 5 ah 40 on 40 tw 14 16384 16384 t) (ii (2 ^ m - 1)) v F 0 w (by omega) (by omega) (by
        intro j hj
        rw [h3 j hj, show cfS 0 MU S j = 0 from rfl, Nat.zero_mul, Nat.add_zero])
      rw [k_0, e]
      exact ih (S + 1) w' (by omega) (by omega) g
theorem from_L137 {F m S : Nat} {s mu : Nat → Int32} {MU : Nat → Nat} (hm : m ≤ 14) (hs : s 0 = ii m) (hmu : ∀ k, k < m → mu k = ii (MU k)) (hMU : ∀ k, k < m → MU k < 2 ^ m) (hS : S < 2 ^ m) (kn ah on tw : Nat → Int32) (k115 : Int32 → Int32 → (Nat → Int32) → (Nat → Int64) → (Nat → Int64) → Option (Int64 × (Nat → Int32) × (Nat → Int64) × (Nat → Int64))) (al : Int32) (w : Nat → Int64) :
    ∀ (t x : Nat) (v : Nat → Int64), m < x + t → x ≤ m → v S = il (ind (S = 2 ^ m - 1) + sN x (fun y => ind (mF MU S y) * mW m MU (S ||| 2 ^ y))) → (∀ j, S < j → j < 2 ^ m → v j = il (mW m MU j)) → ∃ v', fX12_laysOrders_L137 F 12 kn 25 s 5 ah 40 on 40 tw 14 16384 16384 k115 t al (ii S) (ii x) mu w v = k115 al (ii S + (-1 : Int32)) mu w v' ∧ ∀ j, S ≤ j → j < 2 ^ m → v' j = il (mW m MU j) := by
  have hp := p2_le hm
  intro t
  induction t with
  | zero => intro x v h1 h2; omega
  | succ t ih =>
    intro x v h1 h2 h3 h4
    rw [sX12_laysOrders_L137]
    unfold bX12_laysOrders_L137 bX12_laysOrders_L175
    have z0 : ((0 : Int32)).toNatClampNeg = 0 := rfl
    rw [z0, hs, if_neg (show ¬ ((0 : Int32) < 0 ∨ 25 ≤ 0) by decide)]
    have e2 : ii x + (1 : Int32) = ii (x + 1) := by rw [k_1, ii_add]
    by_cases h : m ≤ x
    · have : x = m := by omega
      subst this
      rw [if_pos (by rw [ii_le (by omega) (by omega)]; exact h)]
      refine ⟨v, rfl, ?_⟩
      intro j hj1 hj2
      by_cases hj : j = S
      · rw [hj, h3, ← mW_fix hS]
      · exact h4 j (by omega) hj2
    · have hor := or2_lt hS (show x < m by omega)
      rw [if_neg (by rw [ii_le (by omega) (by omega)]; exact h)]
      have fo := follow_M (F := F) hm hS (show x < m by omega) (hmu x (by omega)) (hMU x (by omega))
      by_cases hf : mF MU S x
      · have hgt := or2_gt hf.1
        rw [fo.1 hf]
        simp only [Option.bind_some]
        rw [if_neg (by decide), ii_or2 (by omega), if_neg (by rw [ii_nneg (by omega), ii_nat (by omega)]; simp; omega), if_neg (by rw [ii_nneg (by omega), ii_nat (by omega)]; simp; omega), if_neg (by rw [ii_nneg (by omega), ii_nat (by omega)]; simp; omega), ii_nat (by omega), ii_nat (by omega), e2]
        refine ih (x + 1) _ (by omega) (by omega) ?_ ?_
        · rw [pk_uLs, h3, h4 _ hgt hor, il_add, sN_s, ind_t hf, Nat.one_mul, Nat.add_assoc]
        · intro j hj1 hj2
          rw [pk_uLn (by omega)]
          exact h4 j hj1 hj2
      · rw [fo.2 hf]
        simp only [Option.bind_some]
        rw [if_pos trivial, e2]
        refine ih (x + 1) v (by omega) (by omega) ?_ h4
        rw [h3, sN_s, ind_f hf, Nat.zero_mul, Nat.add_zero]
theorem from_L115 {F m : Nat} {s mu : Nat → Int32} {MU : Nat → Nat} (hF : 20000 ≤ F) (hm : m ≤ 14) (hs : s 0 = ii m) (hmu : ∀ k, k < m → mu k = ii (MU k)) (hMU : ∀ k, k < m → MU k < 2 ^ m) (kn ah on tw : Nat → Int32) (w : Nat → Int64) :
    ∀ (t r : Nat) (v : Nat → Int64), r < t → r ≤ 2 ^ m → (∀ j, r ≤ j → j < 2 ^ m → v j = il (mW m MU j)) → ∃ v', fX12_laysOrders_L115 F 12 kn 25 s 5 ah 40 on 40 tw 14 16384 16384 t (ii (2 ^ m - 1)) (iz ((r : Int) - 1)) mu w v = some (w (2 ^ m - 1), mu, w, v') ∧ ∀ j, j < 2 ^ m → v' j = il (mW m MU j) := by
  have hp := p2_le hm
  have hp0 := Nat.two_pow_pos m
  intro t
  induction t with
  | zero => intro r v h1 h2; omega
  | succ t ih =>
    intro r v h1 h2 h3
    rw [sX12_laysOrders_L115]
    unfold bX12_laysOrders_L115 bX12_laysOrders_L134
    cases r with
    | zero =>
      rw [if_pos (by decide), if_neg (by rw [ii_nneg (by omega), ii_nat (by omega)]; simp; omega), ii_nat (by omega)]
      exact ⟨v, rfl, fun j hj => h3 j (by omega) hj⟩
    | succ r =>
      have e0 : iz (((r + 1 : Nat) : Int) - 1) = ii r := by
        rw [ii_iz]
        congr 1
        omega
      rw [e0, if_neg (by rw [ii_nneg (by omega)]; simp), if_neg (show ¬ (ii r < 0 ∨ 16384 ≤ (ii r).toNatClampNeg) by rw [ii_nneg (by omega), ii_nat (by omega)]; simp; omega), ii_nat (by omega)]
      have e3 : ii r + (-1 : Int32) = iz ((r : Int) - 1) := by
        rw [ii_iz, kz_m1, iz_add]
        rfl
      have go : ∀ z : Int64, z = il (ind (r = 2 ^ m - 1)) → ∃ v', fX12_laysOrders_L137 F 12 kn 25 s 5 ah 40 on 40 tw 14 16384 16384 (fX12_laysOrders_L115 F 12 kn 25 s 5 ah 40 on 40 tw 14 16384 16384 t) F (ii (2 ^ m - 1)) (ii r) 0 mu w (vp_updL v r z) = some (w (2 ^ m - 1), mu, w, v') ∧ ∀ j, j < 2 ^ m → v' j = il (mW m MU j) := by
        intro z hz
        obtain ⟨v', e, g⟩ := from_L137 (F := F) (S := r) hm hs hmu hMU (by omega) kn ah on tw (fX12_laysOrders_L115 F 12 kn 25 s 5 ah 40 on 40 tw 14 16384 16384 t) (ii (2 ^ m - 1)) w F 0 (vp_updL v r z) (by omega) (by omega) (by rw [pk_uLs, hz, sN_0, Nat.add_zero]) (by
          intro j hj1 hj2
          rw [pk_uLn (by omega)]
          exact h3 j (by omega) hj2)
        rw [k_0, e, e3]
        exact ih r v' (by omega) (by omega) g
      by_cases hr : r = 2 ^ m - 1
      · rw [if_pos (by rw [ii_inj (by omega) (by omega)]; exact hr)]
        exact go 1 (by rw [ind_t hr]; rfl)
      · rw [if_neg (by rw [ii_inj (by omega) (by omega)]; exact hr)]
        rw [if_neg (show ¬ (ii r < 0 ∨ 16384 ≤ r) by rw [ii_nneg (by omega)]; simp; omega)]
        exact go 0 (by rw [ind_f hr]; rfl)
theorem init_L17 {F m : Nat} (hm : m ≤ 14) (kn s ah on tw mu : Nat → Int32) (v : Nat → Int64) :
    ∀ (t S : Nat) (w : Nat → Int64), 2 ^ m < S + t → S ≤ 2 ^ m → (∀ j, j < S → w j = il (ind (j = 0))) → ∃ w', fX12_laysOrders_L17 F 12 kn 25 s 5 ah 40 on 40 tw 14 16384 16384 t (ii (2 ^ m - 1)) (ii S) mu w v = fX12_laysOrders_L45 F 12 kn 25 s 5 ah 40 on 40 tw 14 16384 16384 F (ii (2 ^ m - 1)) 0 mu w' v ∧ ∀ j, j < 2 ^ m → w' j = il (ind (j = 0)) := by
  have hp := p2_le hm
  have hp0 := Nat.two_pow_pos m
  intro t
  induction t with
  | zero => intro S w h1 h2; omega
  | succ t ih =>
    intro S w h1 h2 h3
    rw [sX12_laysOrders_L17]
    unfold bX12_laysOrders_L17 bX12_laysOrders_L36
    by_cases h : 2 ^ m - 1 < S
    · have : S = 2 ^ m := by omega
      subst this
      rw [if_pos (by rw [ii_lt (by omega) (by omega)]; exact h)]
      exact ⟨w, rfl, h3⟩
    · have e1 : ii S + (1 : Int32) = ii (S + 1) := by rw [k_1, ii_add]
      rw [if_neg (by rw [ii_lt (by omega) (by omega)]; exact h), if_neg (show ¬ (ii S < 0 ∨ 16384 ≤ (ii S).toNatClampNeg) by rw [ii_nneg (by omega), ii_nat (by omega)]; simp; omega), ii_nat (by omega), e1]
      have go : ∀ z : Int64, z = il (ind (S = 0)) → ∃ w', fX12_laysOrders_L17 F 12 kn 25 s 5 ah 40 on 40 tw 14 16384 16384 t (ii (2 ^ m - 1)) (ii (S + 1)) mu (vp_updL w S z) v = fX12_laysOrders_L45 F 12 kn 25 s 5 ah 40 on 40 tw 14 16384 16384 F (ii (2 ^ m - 1)) 0 mu w' v ∧ ∀ j, j < 2 ^ m → w' j = il (ind (j = 0)) := by
        intro z hz
        refine ih (S + 1) _ (by omega) (by omega) ?_
        intro j hj
        by_cases hj2 : j = S
        · rw [hj2, pk_uLs, hz]
        · rw [pk_uLn hj2]
          exact h3 j (by omega)
      by_cases hS : S = 0
      · rw [if_pos (by rw [k_0, ii_inj (by omega) (by omega)]; exact hS)]
        exact go 1 (by rw [ind_t hS]; rfl)
      · rw [if_neg (by rw [k_0, ii_inj (by omega) (by omega)]; exact hS)]
        rw [if_neg (show ¬ (ii S < 0 ∨ 16384 ≤ S) by rw [ii_nneg (by omega)]; simp; omega)]
        exact go 0 (by rw [ind_f hS]; rfl)
theorem laysOrders_M {F n : Nat} {mk rd : Nat → Nat} {ki kn : Nat → Int32} (hn : okN n mk rd) (hm : netM n mk rd ki kn) (hF : 20000 ≤ F) {L E G : List Nat} {s ah on tw : Nat → Int32} (hL : okL n L) (hs : rS s L) (h14 : L.length ≤ 14) (hA : ahM ah on tw 0 E G) (hG : G.length = E.length) (h8 : E.length ≤ 8) (hE1 : ∀ e ∈ E, e < L.length) (hG1 : ∀ g ∈ G, g < L.length) (mu : Nat → Int32) (w v : Nat → Int64) :
    ∃ mu' w' v', fX12_laysOrders F 12 kn 25 s 5 ah 40 on 40 tw 14 16384 16384 mu w v = some (il (nW L.length (muA mk L E G) (2 ^ L.length - 1)), mu', w', v') ∧ (∀ k, k < L.length → mu' k = ii (muA mk L E G k)) ∧ (∀ j, j < 2 ^ L.length → w' j = il (nW L.length (muA mk L E G) j)) ∧ ∀ j, j < 2 ^ L.length → v' j = il (mW L.length (muA mk L E G) j) := by
  have hp := p2_le h14
  have hp0 := Nat.two_pow_pos L.length
  obtain ⟨mu', e1, hmu⟩ := must_M (F := F) hn hm (by omega) hL hs h14 hA hG h8 hE1 hG1 mu
  have hMU : ∀ k, k < L.length → muA mk L E G k < 2 ^ L.length := fun k hk => muE_lt (by omega) (Nat.le_refl _) hE1
  unfold fX12_laysOrders
  rw [e1]
  simp only [Option.bind_some]
  have z0 : ((0 : Int32)).toNatClampNeg = 0 := rfl
  have e9 : ii (2 ^ L.length) - (1 : Int32) = ii (2 ^ L.length - 1) := by rw [k_1, ii_sub (by omega)]
  rw [z0, hs.1, if_neg (by decide), iSh _ (by omega), e9]
  obtain ⟨w1, e2, g2⟩ := init_L17 (F := F) h14 kn s ah on tw mu' v F 0 w (by omega) (by omega) (fun j hj => by omega)
  rw [show ii 0 = (0 : Int32) from rfl] at e2
  rw [e2]
  obtain ⟨w2, e3, g3⟩ := to_L45 (F := F) hF h14 hs.1 hmu hMU kn ah on tw v F 0 w1 (by omega) (by omega) g2
  rw [show ii 0 = (0 : Int32) from rfl] at e3
  rw [e3]
  obtain ⟨v2, e4, g4⟩ := from_L115 (F := F) hF h14 hs.1 hmu hMU kn ah on tw w2 F (2 ^ L.length) v (by omega) (by omega) (fun j h1 h2 => by omega)
  have e5 : iz (((2 ^ L.length : Nat) : Int) - 1) = ii (2 ^ L.length - 1) := by
    rw [ii_iz]
    congr 1
    omega
  rw [e5] at e4
  rw [e4]
  exact ⟨mu', w2, v2, by rw [g3 _ (by omega)], hmu, g3, g4⟩
theorem orders_M {F n : Nat} {mk rd : Nat → Nat} {ki kn : Nat → Int32} (hn : okN n mk rd) (hm : netM n mk rd ki kn) (hF : 20000 ≤ F) {L E G : List Nat} {s ah on tw : Nat → Int32} (hL : okL n L) (hs : rS s L) (h14 : L.length ≤ 14) (hA : ahM ah on tw 0 E G) (hG : G.length = E.length) (h8 : E.length ≤ 8) (hE1 : ∀ e ∈ E, e < L.length) (hG1 : ∀ g ∈ G, g < L.length) (th : Int32) (mu : Nat → Int32) (w v : Nat → Int64) :
    ∃ mu' w' v', fX12_orders F 12 kn 25 s 5 ah 40 on 40 tw 14 16384 16384 th mu w v = some (il (nW L.length (muA mk L E G) (2 ^ L.length - 1)), 0, mu', w', v') := by
  obtain ⟨mu', w', v', e, _⟩ := laysOrders_M (F := F) hn hm hF hL hs h14 hA hG h8 hE1 hG1 mu w v
  unfold fX12_orders bX12_orders_L26
  have z0 : ((0 : Int32)).toNatClampNeg = 0 := rfl
  rw [z0, hs.1, if_neg (by decide), if_pos (by rw [k_14, ii_le (by omega) (by omega)]; exact h14), e]
  exact ⟨mu', w', v', rfl⟩
theorem orders_M0 {F : Nat} {L : List Nat} {s : Nat → Int32} (hs : rS s L) (h14 : 14 < L.length) (h24 : L.length ≤ 24) (kn ah on tw : Nat → Int32) (th : Int32) (mu : Nat → Int32) (w v : Nat → Int64) : fX12_orders F 12 kn 25 s 5 ah 40 on 40 tw 14 16384 16384 th mu w v = some (-1, 0, mu, w, v) := by
  unfold fX12_orders bX12_orders_L26
  have z0 : ((0 : Int32)).toNatClampNeg = 0 := rfl
  rw [z0, hs.1, if_neg (by decide), if_neg (by rw [k_14, ii_le (by omega) (by omega)]; omega)]
