/-! PURE: stages count as sets do -/
theorem NX_s1 {L : List Nat} {MU : Nat → Nat} {s f x : Nat} (h : NX L MU s f x) (g : Nat → Nat) : sN L.length (fun y => ind (NX L MU s f y) * g y) = g x := by
  rw [sN_c (g := fun y => ind (x = y) * g y) (fun y hy => by
    rw [ind_c (show NX L MU s f y ↔ x = y from ⟨fun h2 => NX_1 h h2, fun h2 => by subst h2; exact h⟩)])]
  exact sN_1 h.1 g
theorem NX_s0 {L : List Nat} {MU : Nat → Nat} {s f : Nat} (h : ∀ x, ¬ NX L MU s f x) (g : Nat → Nat) : sN L.length (fun y => ind (NX L MU s f y) * g y) = 0 := sN_z (fun y hy => by rw [ind_f (h y), Nat.zero_mul])
/-- ties of one folk in order -/
abbrev okM (L : List Nat) (MU : Nat → Nat) : Prop := (∀ y, y < L.length → fkA L y < 6) ∧ ∀ x y, x < L.length → y < x → fkA L y = fkA L x → (MU x).testBit y = true
theorem NX_re {L : List Nat} {MU : Nat → Nat} (hM : okM L MU) (s : Nat) (h : Nat → Nat) : sN 6 (fun f => sN L.length (fun x => ind (NX L MU s f x) * h x)) = sN L.length (fun x => ind (mF MU (dnS L s) x) * h x) := by
  rw [sN_sw]
  apply sN_c
  intro x hx
  by_cases hf : mF MU (dnS L s) x
  · have hN := mF_NX hM.2 hx hf
    rw [sN_c (g := fun f => ind (fkA L x = f) * h x) (fun f _ => by
      rw [ind_c (show NX L MU s f x ↔ fkA L x = f from ⟨fun h2 => h2.2.1, fun h2 => by subst h2; exact hN⟩)]), sN_1 (hM.1 x hx) (fun _ => h x), ind_t hf, Nat.one_mul]
  · rw [sN_z (fun f _ => by rw [ind_f (fun h2 => hf h2.2.2.2), Nat.zero_mul]), ind_f hf, Nat.zero_mul]
def cfC (L : List Nat) (MU : Nat → Nat) (k s s' : Nat) : Nat := sN k (fun f => sN L.length (fun x => ind (NX L MU s f x) * ind (s + stP (rxL L) f = s')))
theorem cfC_s (L : List Nat) (MU : Nat → Nat) (k s s' : Nat) : cfC L MU (k + 1) s s' = cfC L MU k s s' + sN L.length (fun x => ind (NX L MU s k x) * ind (s + stP (rxL L) k = s')) := rfl
theorem cfC_0 (L : List Nat) (MU : Nat → Nat) (k s j : Nat) (h : j ≤ s) : cfC L MU k s j = 0 := by
  apply sN_z
  intro f hf
  apply sN_z
  intro x hx
  have := stP_pos (rxL_pos L) f
  rw [ind_f (p := s + stP (rxL L) f = j) (by omega), Nat.mul_zero]
def wyC (L : List Nat) (MU : Nat → Nat) : Nat → Nat := tabW (cfC L MU 6)
theorem wyC_tr {L : List Nat} {MU : Nat → Nat} (g : Nat → Nat) : sN (stP (rxL L) 6) (fun s' => g s' * wyC L MU s') = g 0 + sN (stP (rxL L) 6) (fun s => sN 6 (fun f => sN L.length (fun x => ind (NX L MU s f x) * (g (s + stP (rxL L) f) * wyC L MU s)))) := by
  have h0 : 0 < stP (rxL L) 6 := stP_pos (rxL_pos L) 6
  rw [sN_c (g := fun s' => ind (0 = s') * g s' + sN (stP (rxL L) 6) (fun s => g s' * (cfC L MU 6 s s' * wyC L MU s))) (by
    intro s' hs'
    rw [show wyC L MU s' = ind (s' = 0) + sN (stP (rxL L) 6) (fun s => cfC L MU 6 s s' * wyC L MU s) from tabW_fix (cfC_0 L MU 6) hs', Nat.mul_add, sN_mul]
    congr 1
    rw [ind_c (show s' = 0 ↔ 0 = s' from eq_comm), Nat.mul_comm]), sN_add, sN_1 h0]
  congr 1
  rw [sN_sw]
  apply sN_c
  intro s hs
  rw [sN_c (g := fun s' => sN 6 (fun f => sN L.length (fun x => ind (s + stP (rxL L) f = s') * (ind (NX L MU s f x) * (g s' * wyC L MU s))))) (by
    intro s' hs'
    rw [show g s' * (cfC L MU 6 s s' * wyC L MU s) = (g s' * wyC L MU s) * cfC L MU 6 s s' by rw [Nat.mul_comm (cfC L MU 6 s s'), Nat.mul_assoc]]
    unfold cfC
    rw [← sN_mul]
    apply sN_c
    intro f hf
    rw [← sN_mul]
    apply sN_c
    intro x hx
    ac_rfl)]
  rw [sN_sw]
  apply sN_c
  intro f hf
  rw [sN_sw]
  apply sN_c
  intro x hx
  by_cases hN : NX L MU s f x
  · exact sN_1 (NX_in hs hf hN) (fun s' => ind (NX L MU s f x) * (g s' * wyC L MU s))
  · rw [ind_f hN, Nat.zero_mul]
    apply sN_z
    intro k hk
    rw [Nat.zero_mul, Nat.mul_zero]
theorem lev_eq {L : List Nat} {MU : Nat → Nat} (hM : okM L MU) : ∀ (j : Nat) (g : Nat → Nat), sN (stP (rxL L) 6) (fun s => (ind (pcS L.length (dnS L s) = j) * g (dnS L s)) * wyC L MU s) = sN (2 ^ L.length) (fun S => (ind (pcS L.length S = j) * g S) * nW L.length MU S) := by
  intro j
  induction j with
  | zero =>
    intro g
    rw [wyC_tr, nW_tr, dnS_00]
    congr 1
    rw [sN_z (fun s hs => sN_z (fun f hf => sN_z (fun x hx => ?_))), sN_z (fun S hS => sN_z (fun x hx => ?_))]
    · by_cases h : mF MU S x
      · rw [ind_f (p := pcS L.length (S ||| 2 ^ x) = 0) (by rw [pcS_or hx h.1]; omega), Nat.zero_mul, Nat.zero_mul, Nat.mul_zero]
      · rw [ind_f h, Nat.zero_mul]
    · by_cases h : NX L MU s f x
      · rw [NX_dn h, ind_f (p := pcS L.length (dnS L s ||| 2 ^ x) = 0) (by rw [pcS_or hx h.2.2.2.1]; omega), Nat.zero_mul, Nat.zero_mul, Nat.mul_zero]
      · rw [ind_f h, Nat.zero_mul]
  | succ j ih =>
    intro g
    rw [wyC_tr, nW_tr, dnS_00]
    congr 1
    have ih2 := ih (fun S => sN L.length (fun x => ind (mF MU S x) * g (S ||| 2 ^ x)))
    rw [sN_c (g := fun s => (ind (pcS L.length (dnS L s) = j) * (fun S => sN L.length (fun x => ind (mF MU S x) * g (S ||| 2 ^ x))) (dnS L s)) * wyC L MU s) (by
      intro s hs
      rw [show (fun S => sN L.length (fun x => ind (mF MU S x) * g (S ||| 2 ^ x))) (dnS L s) = sN L.length (fun x => ind (mF MU (dnS L s) x) * g (dnS L s ||| 2 ^ x)) from rfl, ← NX_re hM s (fun x => g (dnS L s ||| 2 ^ x)), Nat.mul_right_comm, ← sN_mul]
      apply sN_c
      intro f hf
      rw [← sN_mul]
      apply sN_c
      intro x hx
      by_cases h : NX L MU s f x
      · rw [NX_dn h, ind_c (show pcS L.length (dnS L s ||| 2 ^ x) = j + 1 ↔ pcS L.length (dnS L s) = j by rw [pcS_or hx h.2.2.2.1]; omega)]
        ac_rfl
      · rw [ind_f h]
        simp only [Nat.zero_mul, Nat.mul_zero]), ih2]
    apply sN_c
    intro S hS
    rw [Nat.mul_right_comm, ← sN_mul]
    apply sN_c
    intro x hx
    by_cases h : mF MU S x
    · rw [ind_c (show pcS L.length (S ||| 2 ^ x) = j + 1 ↔ pcS L.length S = j by rw [pcS_or hx h.1]; omega)]
      ac_rfl
    · rw [ind_f h]
      simp only [Nat.zero_mul, Nat.mul_zero]
theorem all_eq {L : List Nat} {MU : Nat → Nat} (hM : okM L MU) (g : Nat → Nat) : sN (stP (rxL L) 6) (fun s => g (dnS L s) * wyC L MU s) = sN (2 ^ L.length) (fun S => g S * nW L.length MU S) := by
  have e : ∀ (S c : Nat), sN (L.length + 1) (fun j => (ind (pcS L.length S = j) * g S) * c) = g S * c := by
    intro S c
    rw [sN_c (g := fun j => ind (pcS L.length S = j) * (g S * c)) (fun j _ => by rw [Nat.mul_assoc])]
    exact sN_1 (by have := pcS_le L.length S; omega) (fun _ => g S * c)
  rw [sN_c (g := fun s => sN (L.length + 1) (fun j => (ind (pcS L.length (dnS L s) = j) * g (dnS L s)) * wyC L MU s)) (fun s _ => (e (dnS L s) (wyC L MU s)).symm), sN_sw, sN_c (g := fun j => sN (2 ^ L.length) (fun S => (ind (pcS L.length S = j) * g S) * nW L.length MU S)) (fun j _ => lev_eq hM j g), sN_sw]
  apply sN_c
  intro S _
  exact e S (nW L.length MU S)
theorem wyC_full {L : List Nat} {MU : Nat → Nat} (hM : okM L MU) : wyC L MU (stP (rxL L) 6 - 1) = nW L.length MU (2 ^ L.length - 1) := by
  have h0 : 0 < stP (rxL L) 6 := stP_pos (rxL_pos L) 6
  have hp := Nat.two_pow_pos L.length
  have := all_eq hM (fun S => ind (2 ^ L.length - 1 = S))
  rw [sN_1 (by omega)] at this
  rw [← this, sN_c (g := fun s => ind (stP (rxL L) 6 - 1 = s) * wyC L MU s) (fun s hs => by
    rw [ind_c (show 2 ^ L.length - 1 = dnS L s ↔ stP (rxL L) 6 - 1 = s from ⟨fun h => ((dnS_full hM.1 hs).mp h.symm).symm, fun h => ((dnS_full hM.1 hs).mpr h.symm).symm⟩)]), sN_1 (by omega)]
theorem wyC_le {L : List Nat} {MU : Nat → Nat} (hM : okM L MU) (h14 : L.length ≤ 14) {s : Nat} (hs : s < stP (rxL L) 6) : wyC L MU s ≤ 11112006825558016 := by
  have h1 := all_eq hM (fun S => ind (dnS L s = S))
  rw [sN_1 dnS_lt] at h1
  have h2 := nW_le (mu := MU) h14 (dnS_lt (L := L) (s := s))
  have h3 := sN_mem (f := fun s9 => ind (dnS L s = dnS L s9) * wyC L MU s9) hs
  rw [ind_t rfl, Nat.one_mul] at h3
  omega
/-- what a class's stage adds -/
def tmC (L : List Nat) (MU : Nat → Nat) (q i k s : Nat) : Nat := sN q (fun f => sN L.length (fun x => ind (NX L MU s f x) * (ind (x = k) * (ind ((dnS L s).testBit i = true) * (wyC L MU s * mW L.length MU (dnS L s ||| 2 ^ x))))))
theorem tmC_s (L : List Nat) (MU : Nat → Nat) (q i k s : Nat) : tmC L MU (q + 1) i k s = tmC L MU q i k s + sN L.length (fun x => ind (NX L MU s q x) * (ind (x = k) * (ind ((dnS L s).testBit i = true) * (wyC L MU s * mW L.length MU (dnS L s ||| 2 ^ x))))) := rfl
theorem aW_C {L : List Nat} {MU : Nat → Nat} (hM : okM L MU) {i k : Nat} (hk : k < L.length) : sN (stP (rxL L) 6) (tmC L MU 6 i k) = aW L.length MU i k := by
  have h1 := all_eq hM (fun S => ind (mF MU S k) * (ind (S.testBit i = true) * mW L.length MU (S ||| 2 ^ k)))
  have e2 : aW L.length MU i k = sN (2 ^ L.length) (fun S => ind (mF MU S k) * (ind (S.testBit i = true) * mW L.length MU (S ||| 2 ^ k)) * nW L.length MU S) := by
    unfold aW
    apply sN_c
    intro S _
    ac_rfl
  rw [e2, ← h1]
  apply sN_c
  intro s hs
  unfold tmC
  rw [NX_re hM s, sN_c (g := fun x => ind (k = x) * (ind (mF MU (dnS L s) x) * (ind ((dnS L s).testBit i = true) * (wyC L MU s * mW L.length MU (dnS L s ||| 2 ^ x))))) (fun x _ => by
    rw [ind_c (show x = k ↔ k = x from eq_comm)]
    ac_rfl), sN_1 hk (fun x => ind (mF MU (dnS L s) x) * (ind ((dnS L s).testBit i = true) * (wyC L MU s * mW L.length MU (dnS L s ||| 2 ^ x))))]
  ac_rfl
/-- from a stage on -/
theorem mW_C {L : List Nat} {MU : Nat → Nat} (hM : okM L MU) {s : Nat} (hs : s < stP (rxL L) 6) : mW L.length MU (dnS L s) = ind (s = stP (rxL L) 6 - 1) + sN 6 (fun f => sN L.length (fun x => ind (NX L MU s f x) * mW L.length MU (dnS L s ||| 2 ^ x))) := by
  rw [mW_fix dnS_lt, NX_re hM s, ind_c (dnS_full hM.1 hs)]
theorem muA_ok {n : Nat} {mk rd : Nat → Nat} (hn : okN n mk rd) {L E G : List Nat} (hL : okL n L) : okM L (muA mk L E G) := by
  refine ⟨?_, ?_⟩
  · intro y hy
    have := hL _ (getD_mem hy)
    have := hn.1
    show L.getD y 0 / 2 < 6
    omega
  · intro x y hx hy hf
    unfold muA muE
    rw [Nat.testBit_or, Bool.or_eq_true]
    left
    rw [orN_b]
    refine ⟨y, hy, ?_⟩
    unfold dI
    rw [if_pos (Or.inl hf), Nat.testBit_two_pow]
    exact decide_eq_true rfl
