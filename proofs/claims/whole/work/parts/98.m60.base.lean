/-! PURE: the first row's own heights -/
theorem RL_W {mk : Nat → Nat} (hs : symK mk) (X : List (Nat × Int)) : RW mk (fun f => cnt0 f X) (RLr (fun f => cnt0 f X) (fun f g i j => rc f g X i j)) := by
  have emod : ∀ (a : Int) (c : Nat), 1 ≤ c → a % (c : Int) + (c : Int) * (a / (c : Int)) = a ∧ 0 ≤ a % (c : Int) ∧ a % (c : Int) < c := by
    intro a c hc
    exact ⟨Int.emod_add_mul_ediv a c, Int.emod_nonneg _ (by omega), Int.emod_lt_of_pos _ (by omega)⟩
  refine ⟨fun f g a b a' b' hk kf kg ha hb h => ?_, fun f g a b hk kf kg => ?_, fun f g a b hk kf kg => ?_⟩
  · have kf : 1 ≤ cnt0 f X := kf
    have kg : 1 ≤ cnt0 g X := kg
    have q1 : a' / (cnt0 f X : Int) ≤ a / (cnt0 f X : Int) := Int.ediv_le_ediv (by omega) ha
    have q2 : b / (cnt0 g X : Int) ≤ b' / (cnt0 g X : Int) := Int.ediv_le_ediv (by omega) hb
    rcases h with h | ⟨h1, h2⟩
    · exact Or.inl (Int.lt_of_le_of_lt q1 (Int.lt_of_lt_of_le h q2))
    · by_cases hq : a' / (cnt0 f X : Int) < b' / (cnt0 g X : Int)
      · exact Or.inl hq
      · have h1' : a / (cnt0 f X : Int) = b / (cnt0 g X : Int) := h1
        have e1 : a' / (cnt0 f X : Int) = a / (cnt0 f X : Int) := by omega
        have e2 : b' / (cnt0 g X : Int) = b / (cnt0 g X : Int) := by omega
        refine Or.inr ⟨?_, ?_⟩
        · show a' / (cnt0 f X : Int) = b' / (cnt0 g X : Int)
          omega
        · have m1 := emod a' _ kf
          have m2 := emod a _ kf
          have m3 := emod b' _ kg
          have m4 := emod b _ kg
          rw [e1] at m1
          rw [e2] at m3
          have c1 : (a' % (cnt0 f X : Int)).toNat ≤ (a % (cnt0 f X : Int)).toNat := by omega
          have c2 : (b % (cnt0 g X : Int)).toNat ≤ (b' % (cnt0 g X : Int)).toNat := by omega
          exact rc_mono hk.1 X _ _ _ _ c1 c2 h2
  · have kf : 1 ≤ cnt0 f X := kf
    have kg : 1 ≤ cnt0 g X := kg
    have p : ∀ (a : Int) (c : Nat), 1 ≤ c → (a + (c : Int)) / (c : Int) = a / (c : Int) + 1 ∧ (a + (c : Int)) % (c : Int) = a % (c : Int) := by
      intro a c hc
      have h1 : (a + (c : Int)) / (c : Int) = a / (c : Int) + 1 := by
        have := Int.add_mul_ediv_right a 1 (c := (c : Int)) (by omega)
        rw [Int.one_mul] at this
        exact this
      refine ⟨h1, ?_⟩
      have m1 := Int.emod_add_mul_ediv (a + c) c
      have m2 := Int.emod_add_mul_ediv a c
      rw [h1, Int.mul_add, Int.mul_one] at m1
      omega
    unfold RLr
    have pf := p a _ kf
    have pg := p b _ kg
    show ((a + (cnt0 f X : Int)) / (cnt0 f X : Int) < (b + (cnt0 g X : Int)) / (cnt0 g X : Int) ∨ ((a + (cnt0 f X : Int)) / (cnt0 f X : Int) = (b + (cnt0 g X : Int)) / (cnt0 g X : Int) ∧ rc f g X ((a + (cnt0 f X : Int)) % (cnt0 f X : Int)).toNat ((b + (cnt0 g X : Int)) % (cnt0 g X : Int)).toNat = true)) ↔ (a / (cnt0 f X : Int) < b / (cnt0 g X : Int) ∨ (a / (cnt0 f X : Int) = b / (cnt0 g X : Int) ∧ rc f g X (a % (cnt0 f X : Int)).toNat (b % (cnt0 g X : Int)).toNat = true))
    rw [pf.1, pf.2, pg.1, pg.2]
    constructor
    · rintro (h | ⟨h1, h2⟩)
      · exact Or.inl (by omega)
      · exact Or.inr ⟨by omega, h2⟩
    · rintro (h | ⟨h1, h2⟩)
      · exact Or.inl (by omega)
      · exact Or.inr ⟨by omega, h2⟩
  · have kf : 1 ≤ cnt0 f X := kf
    have kg : 1 ≤ cnt0 g X := kg
    have m1 := emod a _ kf
    have m2 := emod b _ kg
    unfold RLr
    have ha := rc_anti hk.1 X (a % (cnt0 f X : Int)).toNat (b % (cnt0 g X : Int)).toNat (by omega) (by omega)
    show (b / (cnt0 g X : Int) < a / (cnt0 f X : Int) ∨ (b / (cnt0 g X : Int) = a / (cnt0 f X : Int) ∧ rc g f X (b % (cnt0 g X : Int)).toNat (a % (cnt0 f X : Int)).toNat = true)) ↔ ¬ (a / (cnt0 f X : Int) < b / (cnt0 g X : Int) ∨ (a / (cnt0 f X : Int) = b / (cnt0 g X : Int) ∧ rc f g X (a % (cnt0 f X : Int)).toNat (b % (cnt0 g X : Int)).toNat = true))
    rw [ha]
    cases rc f g X (a % (cnt0 f X : Int)).toNat (b % (cnt0 g X : Int)).toNat <;> simp <;> omega
noncomputable def sgr (mk rd : Nat → Nat) (X : List (Nat × Int)) (f : Nat) (a : Int) : Int := cs mk rd X f (a % (cnt0 f X : Int)).toNat
theorem sgm_p (mk rd : Nat → Nat) (X : List (Nat × Int)) (f : Nat) (a : Int) (h : 1 ≤ cnt0 f X) : sgr mk rd X f (a + (cnt0 f X : Int)) = sgr mk rd X f a := by
  unfold sgr
  have h1 : (a + (cnt0 f X : Int)) / (cnt0 f X : Int) = a / (cnt0 f X : Int) + 1 := by
    have := Int.add_mul_ediv_right a 1 (c := (cnt0 f X : Int)) (by omega)
    rw [Int.one_mul] at this
    exact this
  have m1 := Int.emod_add_mul_ediv (a + (cnt0 f X : Int)) (cnt0 f X)
  have m2 := Int.emod_add_mul_ediv a (cnt0 f X)
  rw [h1, Int.mul_add, Int.mul_one] at m1
  rw [show (a + (cnt0 f X : Int)) % (cnt0 f X : Int) = a % (cnt0 f X : Int) by omega]
theorem HT_0 {mk rd : Nat → Nat} (hs : symK mk) {X : List (Nat × Int)} (h : ∀ f, FLP mk rd X f → sn X f (cnt0 f X - 1) = -1) : HT mk rd (fun f => cnt0 f X) (RLr (fun f => cnt0 f X) (fun f g i j => rc f g X i j)) (sgr mk rd X) (fun _ => 0) X := by
  have q : ∀ (i c : Nat), i < c → ((0 : Int) + (i : Int)) / (c : Int) = 0 ∧ ((0 : Int) + (i : Int)) % (c : Int) = i := by
    intro i c hi
    rw [Int.zero_add]
    exact ⟨Int.ediv_eq_zero_of_lt (by omega) (by omega), Int.emod_eq_of_lt (by omega) (by omega)⟩
  refine ⟨fun f => rfl, fun f g hk kf kg => ⟨fun i j hi hj => ?_, ?_⟩, fun f i hi => ?_, h⟩
  · unfold RLr
    have q1 := q i _ hi
    have q2 := q j _ hj
    simp only [q1.1, q1.2, q2.1, q2.2, Int.toNat_natCast]
    constructor
    · intro h9; exact Or.inr ⟨trivial, h9⟩
    · rintro (h9 | ⟨_, h9⟩)
      · omega
      · exact h9
  · left
    have q2 := (q 0 _ (show 0 < cnt0 g X from kg)).1
    have : (0 : Int) - 1 = -1 := rfl
    show ((0 : Int) - 1) / (cnt0 f X : Int) < 0 / (cnt0 g X : Int)
    have h1 : ((0 : Int) - 1) / (cnt0 f X : Int) < 0 := Int.ediv_neg_of_neg_of_pos (by omega) (by have : 1 ≤ cnt0 f X := kf; omega)
    rw [Int.zero_ediv]
    exact h1
  · unfold sgr
    show _ = cs mk rd X f (((0 : Int) + (i : Int)) % (cnt0 f X : Int)).toNat
    rw [(q i _ hi).2, Int.toNat_natCast]
theorem base_last {mk rd : Nat → Nat} (hs : symK mk) (hr : okR rd) {V : List Nat} {f : Nat} (hirr : (mk f).testBit f = false) (htt : ∀ s, s / 2 = f → tt rd (psL mk rd [] V) ≤ tt rd (psL mk rd [] (tkW s V))) (hF : FLP mk rd (ex rd (psL mk rd [] V)) f) : sn (ex rd (psL mk rd [] V)) f (cnt0 f (ex rd (psL mk rd [] V)) - 1) = -1 := by
  have ef : 2 * f / 2 = f := by omega
  have hCV : okC rd (psL mk rd [] V) := psL_okC hr (okCn rd)
  rcases tk_str (mk := mk) hs hr (2 * f) V with ⟨_, e⟩ | ⟨H, K, Y, e1, e2, e3, e4, e5, e6, e7⟩
  · exfalso
    rw [ef] at e
    obtain ⟨_, _, _, ⟨g, hk, hg⟩, _⟩ := hF
    have : ∃ y ∈ psL mk rd [] V, y.1 = g := by
      refine Classical.byContradiction (fun h9 => ?_)
      have := (ct_exL hr (g := g) (A := (psL mk rd [] V).reverse) (fun x hx => hCV x (List.mem_reverse.mp hx))).2 (fun y hy e => h9 ⟨y, List.mem_reverse.mp hy, e⟩)
      unfold ex at hg
      omega
    obtain ⟨y, hy, ey⟩ := this
    have := e y hy (by rw [ey]; exact fun h => hk.1 h.symm)
    rw [ey, hk.2] at this
    cases this
  · rw [ef] at e1 e2 e3 e4 e5 e6 e7
    have hCY : okC rd Y := by
      have h1 := EQ_okC e3 hCV
      intro x hx
      apply h1
      have h2 : x ∈ tp f K Y := by
        unfold tp
        split
        · exact hx
        · exact List.mem_cons_of_mem _ hx
      unfold ap
      split
      · exact h2
      · exact List.mem_append_left _ h2
    have hNF := NF_of hs hr hirr hCY e6 e7
    have hNE := NE_of hs hr hirr hCY e5 e7
    have ttv : ∀ H K, tt rd (ap f H (tp f K Y)) = tt rd Y + bn rd (f, K) + bn rd (f, H) := by
      intro H K
      rw [tt_apz, tt_tp]
    have etV := tt_EQ (rd := rd) hs _ rfl e3
    rw [ttv] at etV
    have t2 := htt (2 * f + 1) (by omega)
    have s2 : sg (2 * f + 1) = -1 := by unfold sg; rw [if_neg (by omega)]
    have ets := tt_EQ (rd := rd) hs _ rfl (e4 (2 * f + 1) (by omega))
    rw [ttv, s2, show -(-1 : Int) = 1 by omega] at ets
    rw [ets, etV] at t2
    have eX := ex_EQ (rd := rd) e3
    rw [ex_wd] at eX
    have hF2 := (FLP_EQ hs eX f).mp hF
    rw [sn_EQ eX, cnt_EQ f eX]
    have q : rd f = 4 := hF.1
    have hbn : ∀ z, bn rd (f, z) = (tv (rd f) z).natAbs := fun z => rfl
    have hb : ∀ z, sg (bt rd (f, z)) = if 0 < tv (rd f) z then 1 else -1 := fun z => bt_sg rd (f, z)
    have hH0 : bn rd (f, H) ≠ 0 := by
      intro h0
      rw [h0] at hF2
      exact FLP_nf hNF hF2
    have hK0 : bn rd (f, K) ≠ 0 := by
      intro h0
      rw [h0] at hF2
      exact FLP_ne hNE hF2
    have h3 := hF2.2.2.1
    rw [sn_wd (by omega), if_pos (by omega)] at h3
    rw [ct_wd, if_pos rfl, if_pos rfl, sn_wd (by omega), if_neg (by omega), if_neg (by omega)]
    rw [hb] at h3 ⊢
    rw [hbn, hbn, hbn, hbn] at t2
    rw [hbn] at hH0 hK0
    rw [q] at e1 e2 t2 hH0 hK0 h3 ⊢
    rw [nrm4] at e1 e2
    simp only [nrm4, tvm4] at t2 hH0 hK0 h3 ⊢
    have c1 : H = 0 ∨ H = 1 ∨ H = 2 ∨ H = 3 := by omega
    have c2 : K = 0 ∨ K = 1 ∨ K = 2 ∨ K = 3 := by omega
    rcases c1 with rfl | rfl | rfl | rfl <;> rcases c2 with rfl | rfl | rfl | rfl <;> simp at t2 hH0 hK0 h3 ⊢ <;> omega
