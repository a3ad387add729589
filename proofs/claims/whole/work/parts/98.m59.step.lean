theorem wd_sg {f a b : Nat} {s t s' t' : Int} {M : List (Nat × Int)} (h1 : a ≠ 0 → s = t) (h2 : b ≠ 0 → s' = t') : wdr f a s M b s' = wdr f a t M b t' := by
  have key : ∀ (a : Nat) (s t : Int), (a ≠ 0 → s = t) → List.replicate a (f, s) = List.replicate a (f, t) := by
    intro a s t h
    by_cases h0 : a = 0
    · rw [h0]; rfl
    · rw [h h0]
  unfold wdr
  rw [key a s t h1, key b s' t' h2]
theorem cs_wd {mk rd : Nat → Nat} {f a b : Nat} {s : Int} {M : List (Nat × Int)} (h : ¬ FLP mk rd (wdr f a s M b s) f) (i : Nat) (hi : i < a + cnt0 f M + b) : cs mk rd (wdr f a s M b s) f i = sw f a s M b i := by
  rw [cs_no h, sn_wd hi]
  rfl
theorem FLP_yes {mk rd : Nat → Nat} (hs : symK mk) {f a b : Nat} {s' : Int} {M : List (Nat × Int)} (h4 : rd f = 4) (hN : NF mk f M) (ha : 1 ≤ a) (hb : 1 ≤ b) : FLP mk rd (wdr f a (-1) M b s') f := by
  have ef : cnt0 f (wdr f a (-1) M b s') = a + cnt0 f M + b := by rw [ct_wd, if_pos rfl, if_pos rfl]
  have eg : ∀ g, f ≠ g → cnt0 g (wdr f a (-1) M b s') = cnt0 g M := fun g hg => by rw [ct_wd, if_neg hg, if_neg hg]; omega
  refine ⟨h4, by omega, by rw [sn_wd (by omega), if_pos (by omega)], ?_, fun g hk hg => ?_⟩
  · obtain ⟨g, hk, h1, _⟩ := hN
    exact ⟨g, hk, by rw [eg g hk.1]; exact h1⟩
  · rw [eg g hk.1] at hg
    constructor
    · rw [rcw_eq hk.1 (by omega)]
      unfold rcw
      rw [if_pos (by omega)]
    · have e := eg g hk.1
      rw [rc_anti hk.1 _ _ _ (by omega) (by omega), eg g hk.1, ef, rcw_eq hk.1 (by omega)]
      unfold rcw
      rw [if_neg (by omega), if_neg (by omega)]
      rfl
theorem cs_split {mk rd : Nat → Nat} (hs : symK mk) {f : Nat} {M : List (Nat × Int)} (h4 : rd f = 4) (hN : NF mk f M) (i : Nat) (hi : i < 1 + cnt0 f M + 1) : cs mk rd (wdr f 1 (-1) M 1 (-1)) f i = sw f 1 1 M 1 i := by
  have hF := FLP_yes (rd := rd) (s' := -1) hs h4 hN (Nat.le_refl 1) (Nat.le_refl 1)
  have ef : cnt0 f (wdr f 1 (-1) M 1 (-1)) = 1 + cnt0 f M + 1 := by rw [ct_wd, if_pos rfl]
  unfold cs sw
  rw [ef]
  by_cases h0 : i < 1
  · rw [if_pos h0, if_pos ⟨hF, Or.inl (by omega)⟩]
  · rw [if_neg h0]
    by_cases h1 : i - 1 < cnt0 f M
    · rw [if_pos h1, if_neg (by rintro ⟨_, h | h⟩ <;> omega), sn_wd hi, if_neg h0, if_pos h1]
    · rw [if_neg h1, if_pos ⟨hF, Or.inr (by omega)⟩]
/-- what single ties do to the bundles of one folk at both ends -/
theorem lv {rd : Nat → Nat} (hr : okR rd) {f : Nat} {H K e : Int} (hH : nrm (rd f) H = H) (hK : nrm (rd f) K = K) (he : e = 1 ∨ e = -1) (ht1 : bn rd (f, H) + bn rd (f, K) ≤ bn rd (f, nrm (rd f) (H + -1)) + bn rd (f, nrm (rd f) (K + 1))) (ht2 : bn rd (f, H) + bn rd (f, K) ≤ bn rd (f, nrm (rd f) (H + 1)) + bn rd (f, nrm (rd f) (K + -1))) (hl : bn rd (f, nrm (rd f) (H + -e)) + bn rd (f, nrm (rd f) (K + e)) = bn rd (f, H) + bn rd (f, K)) :
    (∃ (s : Int) (a b : Nat), bn rd (f, H) = a + 1 ∧ bn rd (f, K) = b ∧ bn rd (f, nrm (rd f) (H + -e)) = a ∧ bn rd (f, nrm (rd f) (K + e)) = b + 1 ∧ sg (bt rd (f, H)) = s ∧ (b ≠ 0 → sg (bt rd (f, K)) = s) ∧ (a ≠ 0 → sg (bt rd (f, nrm (rd f) (H + -e))) = s) ∧ sg (bt rd (f, nrm (rd f) (K + e))) = s ∧ (rd f = 4 → s = -1 → a = 0 ∧ b = 0)) ∨
    (∃ (s : Int) (a b : Nat), bn rd (f, H) = a ∧ bn rd (f, K) = b + 1 ∧ bn rd (f, nrm (rd f) (H + -e)) = a + 1 ∧ bn rd (f, nrm (rd f) (K + e)) = b ∧ (a ≠ 0 → sg (bt rd (f, H)) = s) ∧ sg (bt rd (f, K)) = s ∧ sg (bt rd (f, nrm (rd f) (H + -e))) = s ∧ (b ≠ 0 → sg (bt rd (f, nrm (rd f) (K + e))) = s) ∧ (rd f = 4 → s = -1 → a = 0 ∧ b = 0)) ∨
    (rd f = 4 ∧ ((H = 2 ∧ K = 0 ∧ nrm (rd f) (H + -e) = 3 ∧ nrm (rd f) (K + e) = 3) ∨ (H = 3 ∧ K = 3 ∧ nrm (rd f) (H + -e) = 0 ∧ nrm (rd f) (K + e) = 2) ∨ (H = 0 ∧ K = 2 ∧ nrm (rd f) (H + -e) = 3 ∧ nrm (rd f) (K + e) = 3) ∨ (H = 3 ∧ K = 3 ∧ nrm (rd f) (H + -e) = 2 ∧ nrm (rd f) (K + e) = 0))) := by
  have hb : ∀ z, sg (bt rd (f, z)) = if 0 < tv (rd f) z then 1 else -1 := fun z => bt_sg rd (f, z)
  have hbn : ∀ z, bn rd (f, z) = (tv (rd f) z).natAbs := fun z => rfl
  simp only [hb, hbn] at ht1 ht2 hl ⊢
  rcases hr f with q | q | q | q
  · simp only [q, nrm0, tvm0] at hH hK ht1 ht2 hl ⊢
    rcases he with rfl | rfl
    · by_cases hp : 0 < H
      · left
        refine ⟨1, (H - 1).natAbs, K.natAbs, by omega, rfl, by omega, by omega, if_pos hp, fun h => if_pos (by omega), fun h => if_pos (by omega), if_pos (by omega), fun h => by omega⟩
      · right; left
        refine ⟨-1, H.natAbs, (K + 1).natAbs, rfl, by omega, by omega, by omega, fun h => if_neg (by omega), if_neg (by omega), if_neg (by omega), fun h => if_neg (by omega), fun h => by omega⟩
    · by_cases hp : H < 0
      · left
        refine ⟨-1, (H + 1).natAbs, K.natAbs, by omega, rfl, by omega, by omega, if_neg (by omega), fun h => if_neg (by omega), fun h => if_neg (by omega), if_neg (by omega), fun h => by omega⟩
      · right; left
        refine ⟨1, H.natAbs, (K - 1).natAbs, rfl, by omega, by omega, by omega, fun h => if_pos (by omega), if_pos (by omega), if_pos (by omega), fun h => if_pos (by omega), fun h => by omega⟩
  · simp only [q, nrm2, tvm2] at hH hK ht1 ht2 hl ⊢
    have h1 : H = 0 ∨ H = 1 := by omega
    have h2 : K = 0 ∨ K = 1 := by omega
    rcases he with rfl | rfl <;> rcases h1 with rfl | rfl <;> rcases h2 with rfl | rfl <;> simp at ht1 ht2 hl ⊢
  · simp only [q, nrm3, tvm3] at hH hK ht1 ht2 hl ⊢
    have h1 : H = 0 ∨ H = 1 ∨ H = 2 := by omega
    have h2 : K = 0 ∨ K = 1 ∨ K = 2 := by omega
    rcases he with rfl | rfl <;> rcases h1 with rfl | rfl | rfl <;> rcases h2 with rfl | rfl | rfl <;> simp at ht1 ht2 hl ⊢
  · simp only [q, nrm4, tvm4] at hH hK ht1 ht2 hl ⊢
    have h1 : H = 0 ∨ H = 1 ∨ H = 2 ∨ H = 3 := by omega
    have h2 : K = 0 ∨ K = 1 ∨ K = 2 ∨ K = 3 := by omega
    rcases he with rfl | rfl <;> rcases h1 with rfl | rfl | rfl | rfl <;> rcases h2 with rfl | rfl | rfl | rfl <;> simp at ht1 ht2 hl ⊢

theorem FLP_sg {mk rd : Nat → Nat} {f a b : Nat} {s s' : Int} {M : List (Nat × Int)} (ha : 1 ≤ a) (h : rd f = 4 → s ≠ -1) : ¬ FLP mk rd (wdr f a s M b s') f := by
  rintro ⟨h1, _, h3, _⟩
  rw [sn_wd (by omega), if_pos (by omega)] at h3
  exact h h1 h3
theorem ex_wd (rd : Nat → Nat) (f : Nat) (H K : Int) (Y : List (Nat × Int)) : ex rd (ap f H (tp f K Y)) = wdr f (bn rd (f, H)) (sg (bt rd (f, H))) (ex rd Y) (bn rd (f, K)) (sg (bt rd (f, K))) := by
  rw [ex_ap, ex_tp]
  rfl
theorem v4 {rd : Nat → Nat} {f : Nat} (q : rd f = 4) : (bn rd (f, 3) = 1 ∧ sg (bt rd (f, 3)) = -1) ∧ (bn rd (f, 2) = 2 ∧ sg (bt rd (f, 2)) = 1) := by
  have hb : ∀ z, sg (bt rd (f, z)) = if 0 < tv (rd f) z then 1 else -1 := fun z => bt_sg rd (f, z)
  have hbn : ∀ z, bn rd (f, z) = (tv (rd f) z).natAbs := fun z => rfl
  simp only [hb, hbn, q, tvm4]
  decide
/-- a level step of a ring of which none is shorter -/
theorem HT_step {mk rd k : Nat → Nat} {R : Nat → Nat → Int → Int → Prop} {σ : Nat → Int → Int} (hs : symK mk) (hr : okR rd) (hW : RW mk k R) (hσ : ∀ f a, 1 ≤ k f → σ f (a + k f) = σ f a) {n : Nat → Int} {t : Nat} {V : List Nat} (hirr : (mk (t / 2)).testBit (t / 2) = false) (htt : ∀ s, s / 2 = t / 2 → tt rd (psL mk rd [] V) ≤ tt rd (psL mk rd [] (tkW s V))) (hl : tt rd (psL mk rd [] (tkW t V)) = tt rd (psL mk rd [] V)) (h : HT mk rd k R σ n (ex rd (psL mk rd [] V))) : ∃ n', HT mk rd k R σ n' (ex rd (psL mk rd [] (tkW t V))) := by
  rcases tk_str (mk := mk) hs hr t V with ⟨e, _⟩ | ⟨H, K, Y, e1, e2, e3, e4, e5, e6, e7⟩
  · exact ⟨n, HT_EQ hs (ex_EQ e.symm9) h⟩
  · have hCV : okC rd (psL mk rd [] V) := psL_okC hr (okCn rd)
    have hCY : okC rd Y := by
      have h1 := EQ_okC e3 hCV
      intro x hx
      apply h1
      have h2 : x ∈ tp (t / 2) K Y := by
        unfold tp
        split
        · exact hx
        · exact List.mem_cons_of_mem _ hx
      unfold ap
      split
      · exact h2
      · exact List.mem_append_left _ h2
    have hNF := NF_of hs hr hirr hCY e6 e7
    have hNE := NE_of hs hr hirr hCY e5 e7
    have ttv : ∀ H K, tt rd (ap (t / 2) H (tp (t / 2) K Y)) = tt rd Y + bn rd (t / 2, K) + bn rd (t / 2, H) := by
      intro H K
      rw [tt_apz, tt_tp]
    have etV := tt_EQ (rd := rd) hs _ rfl e3
    have ets : ∀ s, s / 2 = t / 2 → tt rd (psL mk rd [] (tkW s V)) = tt rd Y + bn rd (t / 2, nrm (rd (t / 2)) (K + sg s)) + bn rd (t / 2, nrm (rd (t / 2)) (H + -sg s)) := fun s hst => by rw [tt_EQ (rd := rd) hs _ rfl (e4 s hst), ttv]
    rw [ttv] at etV
    have t1 := htt (2 * (t / 2)) (by omega)
    have t2 := htt (2 * (t / 2) + 1) (by omega)
    have s1 : sg (2 * (t / 2)) = 1 := by unfold sg; rw [if_pos (by omega)]
    have s2 : sg (2 * (t / 2) + 1) = -1 := by unfold sg; rw [if_neg (by omega)]
    rw [ets _ (by omega), etV, s1] at t1
    rw [ets _ (by omega), etV, s2, show -(-1 : Int) = 1 by omega] at t2
    have t3 := hl
    rw [ets t rfl, etV] at t3
    have hX := HT_EQ hs (ex_EQ (rd := rd) e3) h
    have eX' := ex_EQ (rd := rd) (e4 t rfl).symm9
    rw [ex_wd] at hX eX'
    suffices hsuf : ∃ n', HT mk rd k R σ n' (wdr (t / 2) (bn rd (t / 2, nrm (rd (t / 2)) (H + -sg t))) (sg (bt rd (t / 2, nrm (rd (t / 2)) (H + -sg t)))) (ex rd Y) (bn rd (t / 2, nrm (rd (t / 2)) (K + sg t))) (sg (bt rd (t / 2, nrm (rd (t / 2)) (K + sg t))))) by
      obtain ⟨n', h'⟩ := hsuf
      exact ⟨n', HT_EQ hs eX' h'⟩
    rcases lv hr e1 e2 (sg_ne t) (by omega) (by omega) (by omega) with ⟨s, a, b, a1, a2, a3, a4, a5, a6, a7, a8, a9⟩ | ⟨s, a, b, a1, a2, a3, a4, a5, a6, a7, a8, a9⟩ | ⟨q, hq⟩
    · rw [a1, a2, wd_sg (t := s) (t' := s) (fun _ => a5) a6] at hX
      rw [a3, a4, wd_sg (t := s) (t' := s) a7 (fun _ => a8)]
      have n1 : ¬ FLP mk rd (wdr (t / 2) (a + 1) s (ex rd Y) b s) (t / 2) := by
        by_cases hb0 : b = 0
        · rw [hb0]; exact FLP_ne hNE
        · exact FLP_sg (by omega) (fun q h9 => hb0 (a9 q h9).2)
      have n2 : ¬ FLP mk rd (wdr (t / 2) a s (ex rd Y) (b + 1) s) (t / 2) := by
        by_cases ha0 : a = 0
        · rw [ha0]; exact FLP_nf hNF
        · exact FLP_sg (by omega) (fun q h9 => ha0 (a9 q h9).1)
      exact ⟨_, HT_fwd hs hW hσ hX (fun i hi => cs_wd n1 i hi) (fun i hi => cs_wd n2 i hi) (fun h9 => absurd h9 n2)⟩
    · rw [a1, a2, wd_sg (t := s) (t' := s) a5 (fun _ => a6)] at hX
      rw [a3, a4, wd_sg (t := s) (t' := s) (fun _ => a7) a8]
      have n1 : ¬ FLP mk rd (wdr (t / 2) a s (ex rd Y) (b + 1) s) (t / 2) := by
        by_cases ha0 : a = 0
        · rw [ha0]; exact FLP_nf hNF
        · exact FLP_sg (by omega) (fun q h9 => ha0 (a9 q h9).1)
      have n2 : ¬ FLP mk rd (wdr (t / 2) (a + 1) s (ex rd Y) b s) (t / 2) := by
        by_cases hb0 : b = 0
        · rw [hb0]; exact FLP_ne hNE
        · exact FLP_sg (by omega) (fun q h9 => hb0 (a9 q h9).2)
      exact ⟨_, HT_bwd hs hW hσ hX (fun i hi => cs_wd n1 i hi) (fun i hi => cs_wd n2 i hi) (fun h9 => absurd h9 n2)⟩
    · obtain ⟨⟨v1, v2⟩, v3, v4⟩ := v4 q
      have b0 := bn0 rd (t / 2)
      rcases hq with ⟨q1, q2, q3, q4⟩ | ⟨q1, q2, q3, q4⟩ | ⟨q1, q2, q3, q4⟩ | ⟨q1, q2, q3, q4⟩
      · rw [q1, q2, v3, v4, b0, wd_sg (t := 1) (t' := 1) (fun _ => rfl) (fun h9 => absurd rfl h9)] at hX
        rw [q3, q4, v1, v2]
        have n1 : ¬ FLP mk rd (wdr (t / 2) 2 1 (ex rd Y) 0 1) (t / 2) := FLP_sg (by omega) (fun _ => by decide)
        exact ⟨_, HT_fwd (a := 1) (b := 0) hs hW hσ hX (fun i hi => cs_wd n1 i hi) (fun i hi => cs_split hs q hNF i hi) (fun _ => rfl)⟩
      · rw [q1, q2, v1, v2] at hX
        rw [q3, q4, v3, v4, b0, wd_sg (t := 1) (t' := 1) (fun h9 => absurd rfl h9) (fun _ => rfl)]
        have n2 : ¬ FLP mk rd (wdr (t / 2) 0 1 (ex rd Y) 2 1) (t / 2) := FLP_nf hNF
        exact ⟨_, HT_fwd (a := 0) (b := 1) hs hW hσ hX (fun i hi => cs_split hs q hNF i hi) (fun i hi => cs_wd n2 i hi) (fun h9 => absurd h9 n2)⟩
      · rw [q1, q2, v3, v4, b0, wd_sg (t := 1) (t' := 1) (fun h9 => absurd rfl h9) (fun _ => rfl)] at hX
        rw [q3, q4, v1, v2]
        have n1 : ¬ FLP mk rd (wdr (t / 2) 0 1 (ex rd Y) 2 1) (t / 2) := FLP_nf hNF
        exact ⟨_, HT_bwd (a := 0) (b := 1) hs hW hσ hX (fun i hi => cs_wd n1 i hi) (fun i hi => cs_split hs q hNF i hi) (fun _ => ⟨Nat.le_refl _, rfl⟩)⟩
      · rw [q1, q2, v1, v2] at hX
        rw [q3, q4, v3, v4, b0, wd_sg (t := 1) (t' := 1) (fun _ => rfl) (fun h9 => absurd rfl h9)]
        have n2 : ¬ FLP mk rd (wdr (t / 2) 2 1 (ex rd Y) 0 1) (t / 2) := FLP_sg (by omega) (fun _ => by decide)
        exact ⟨_, HT_bwd (a := 1) (b := 0) hs hW hσ hX (fun i hi => cs_split hs q hNF i hi) (fun i hi => cs_wd n2 i hi) (fun h9 => absurd h9 n2)⟩
