/-! PURE: what a tie takes, on both sides -/
def agr (x y : Nat → Int32) : Prop := ∀ j, 1 ≤ j → j ≤ 4 → x j = y j
def dpV (v : VV) : Prop := ∀ x y : Nat → Int32, agr x y → v x = v y
def dpO (o : Option (Nat × VV)) : Prop := ∀ p, o = some p → dpV p.2
def dpM (m : Option VV) : Prop := ∀ a, m = some a → dpV a
def dpFm (f : Fm) : Prop := dpO f.2.1 ∧ dpO f.2.2.1 ∧ dpO f.2.2.2.1 ∧ dpM f.2.2.2.2
def dpSt (st : List Fm × Option VV) : Prop := (∀ f ∈ st.1, dpFm f) ∧ ∀ v, st.2 = some v → dpV v
theorem dp_tm {m : Option VV} {v : VV} (h1 : dpM m) (h2 : dpV v) : dpV (tmV m v) := by
  intro x y h
  cases m with
  | none => exact h2 x y h
  | some a =>
    show a x * v x = a y * v y
    rw [h1 a rfl x y h, h2 x y h]
theorem dp_sm {m : Option (Nat × VV)} {v : VV} (h1 : dpO m) (h2 : dpV v) : dpV (smV m v) := by
  intro x y h
  cases m with
  | none => exact h2 x y h
  | some a =>
    show (if a.1 = 21 then a.2 x - v x else a.2 x + v x) = (if a.1 = 21 then a.2 y - v y else a.2 y + v y)
    rw [h1 a rfl x y h, h2 x y h]
theorem dp_cm {m : Option (Nat × VV)} {v : VV} (h1 : dpO m) (h2 : dpV v) : dpV (cmV m v) := by
  intro x y h
  cases m with
  | none => exact h2 x y h
  | some a =>
    unfold cmV
    simp only
    rw [h1 a rfl x y h, h2 x y h]
theorem dp_kp {m : Option (Nat × VV)} {v : VV} (h1 : dpO m) (h2 : dpV v) : dpV (kpV m v) := by
  intro x y h
  cases m with
  | none => exact h2 x y h
  | some a =>
    unfold kpV
    simp only
    rw [h1 a rfl x y h, h2 x y h]
theorem dp_fv {f : Fm} {v : VV} (h1 : dpFm f) (h2 : dpV v) : dpV (fvV f v) := dp_kp h1.1 (dp_cm h1.2.1 (dp_sm h1.2.2.1 (dp_tm h1.2.2.2 h2)))
theorem dp_nt {v : VV} (h2 : dpV v) : dpV (ntV v) := by
  intro x y h
  show (if v x = 0 then 1 else 0) = (if v y = 0 then 1 else 0)
  rw [h2 x y h]
theorem dp_vc {c : Nat} (h : (1 ≤ c ∧ c ≤ 4) ∨ 100 ≤ c) : dpV (vcV c) := by
  intro x y hxy
  unfold vcV
  by_cases h1 : 100 ≤ c
  · simp only [if_pos h1]
  · simp only [if_neg h1]
    exact hxy c (by omega) (by omega)
theorem dp_cl : ∀ {fs : List Fm} {v : VV}, (∀ f ∈ fs, dpFm f) → dpV v → (∀ f ∈ (clN fs v).1, dpFm f) ∧ dpV (clN fs v).2
  | [], _, h1, h2 => ⟨h1, h2⟩
  | f :: fs, v, h1, h2 => by
    unfold clN
    by_cases hf : f.1 = true
    · rw [if_pos hf]
      exact dp_cl (fun g hg => h1 g (by simp [hg])) (dp_nt h2)
    · rw [if_neg hf]
      exact ⟨h1, h2⟩
theorem dpO_some {p : Nat × VV} (h : dpV p.2) : dpO (some p) := fun q hq => by cases hq; exact h
theorem dpO_none : dpO none := fun q hq => by cases hq
theorem dpM_none : dpM none := fun q hq => by cases hq
theorem dpM_some {a : VV} (h : dpV a) : dpM (some a) := fun q hq => by cases hq; exact h
theorem dp_sy {st : List Fm × Option VV} {c : Nat} (h : dpSt st) (hw : wfC st c) : dpSt (sy st c) := by
  obtain ⟨fs, cur⟩ := st
  cases fs with
  | nil => exact absurd hw id
  | cons f fs =>
    have hf := h.1 f (by simp)
    have hfs : ∀ g ∈ fs, dpFm g := fun g hg => h.1 g (by simp [hg])
    have hset : ∀ (f' : Fm), dpFm f' → dpSt (f' :: fs, none) := fun f' hf' => ⟨fun g hg => by
      rcases List.mem_cons.mp hg with h | h
      · rw [h]; exact hf'
      · exact hfs g h, fun v hv => (by cases hv)⟩
    cases cur with
    | none =>
      have hw' : ((c = 28 ∨ c = 30) ∧ fs.length ≤ 4) ∨ (1 ≤ c ∧ c ≤ 4) ∨ (100 ≤ c ∧ c ≤ 10099) := hw
      have hnew : ∀ b : Bool, dpSt ((b, none, none, none, none) :: f :: fs, none) := fun b => ⟨fun g hg => by
        rcases List.mem_cons.mp hg with h9 | h9
        · rw [h9]; exact ⟨dpO_none, dpO_none, dpO_none, dpM_none⟩
        · exact h.1 g h9, fun v hv => (by cases hv)⟩
      show dpSt (if c = 28 then _ else if c = 30 then _ else _)
      by_cases c1 : c = 28
      · rw [if_pos c1]
        exact hnew false
      · rw [if_neg c1]
        by_cases c2 : c = 30
        · rw [if_pos c2]
          exact hnew true
        · rw [if_neg c2]
          obtain ⟨k1, k2⟩ := dp_cl (v := vcV c) h.1 (dp_vc (by omega))
          exact ⟨k1, fun v hv => (by cases hv; exact k2)⟩
    | some v =>
      have hv := h.2 v rfl
      have ht := dp_tm hf.2.2.2 hv
      have hs := dp_sm hf.2.2.1 ht
      show dpSt (if c = 20 ∨ c = 21 then _ else if c = 22 then _ else if c = 24 ∨ c = 25 then _ else if c = 26 ∨ c = 27 then _ else _)
      by_cases c1 : c = 20 ∨ c = 21
      · rw [if_pos c1]
        exact hset _ ⟨hf.1, hf.2.1, dpO_some hs, dpM_none⟩
      · rw [if_neg c1]
        by_cases c2 : c = 22
        · rw [if_pos c2]
          exact hset _ ⟨hf.1, hf.2.1, hf.2.2.1, dpM_some ht⟩
        · rw [if_neg c2]
          by_cases c3 : c = 24 ∨ c = 25
          · rw [if_pos c3]
            exact hset _ ⟨hf.1, dpO_some hs, dpO_none, dpM_none⟩
          · rw [if_neg c3]
            by_cases c4 : c = 26 ∨ c = 27
            · rw [if_pos c4]
              exact hset _ ⟨dpO_some (dp_fv hf hv), dpO_none, dpO_none, dpM_none⟩
            · rw [if_neg c4]
              obtain ⟨k1, k2⟩ := dp_cl (v := fvV f v) hfs (dp_fv hf hv)
              exact ⟨k1, fun v hv => (by cases hv; exact k2)⟩
theorem dp_lg : ∀ {D : List Nat} {st : List Fm × Option VV}, dpSt st → lgF st D → dpSt (D.foldl sy st)
  | [], _, h, _ => h
  | c :: D, st, h, hl => dp_lg (D := D) (st := sy st c) (dp_sy h hl.1) hl.2
theorem dp_0 : dpSt st0 := by
  refine ⟨fun g hg => ?_, fun v hv => by cases hv⟩
  rcases List.mem_cons.mp hg with h | h
  · rw [h]
    exact ⟨dpO_none, dpO_none, dpO_none, dpM_none⟩
  · cases h
/-- a law told to its end -/
def fullC (C : List Nat) : Prop := lgC C ∧ ∃ f v, stC C = ([f], some v)
theorem wC_eq {C : List Nat} {f : Fm} {v : VV} (h : stC C = ([f], some v)) : wC C = fvV f v := by
  unfold wC
  rw [h]
theorem dp_w {C : List Nat} (h : fullC C) : dpV (wC C) := by
  obtain ⟨h1, f, v, h2⟩ := h
  rw [wC_eq h2]
  have h3 := dp_lg dp_0 h1
  have h4 : dpSt ([f], some v) := h2 ▸ h3
  exact dp_fv (h4.1 f (by simp)) (h4.2 v rfl)
theorem full_ne {C : List Nat} (h : fullC C) : 1 ≤ C.length := by
  cases C with
  | nil =>
    obtain ⟨-, f, v, h2⟩ := h
    cases h2
  | cons c C => simp
def cl9 (z : Int32) : Nat := if z < 0 then 0 else if (99 : Int32) < z then 99 else z.toNatClampNeg
theorem cl9_le (z : Int32) : cl9 z ≤ 99 := by
  unfold cl9
  by_cases h : z < 0
  · rw [if_pos h]
    omega
  · rw [if_neg h]
    by_cases h2 : (99 : Int32) < z
    · rw [if_pos h2]
      omega
    · rw [if_neg h2]
      obtain ⟨e6, e7⟩ := i_nat h
      rw [e6, k_99, ii_lt (by omega) (by omega)] at h2
      omega
theorem between_eq {F : Nat} (z : Int32) : fX12_between F z 0 99 = some (ii (cl9 z)) := by
  unfold fX12_between bX12_between_L19 cl9
  by_cases h : z < 0
  · rw [if_neg (Int32.not_le.mpr h), if_pos h]
    rfl
  · rw [if_pos (Int32.not_lt.mp h), if_neg h]
    by_cases h2 : (99 : Int32) < z
    · rw [if_neg (Int32.not_le.mpr h2), if_pos h2]
      rfl
    · rw [if_pos (Int32.not_lt.mp h2), if_neg h2, ← (i_nat h).1]
theorem clamp_X (z : Int32) : (if (0 : Int32) < (if z < (99 : Int32) then z else (99 : Int32)) then (if z < (99 : Int32) then z else (99 : Int32)) else (0 : Int32)) = ii (cl9 z) := by
  unfold cl9
  by_cases h : z < 0
  · have h1 : z < (99 : Int32) := by
      rw [Int32.lt_iff_toInt_lt] at h ⊢
      have e0 : (0 : Int32).toInt = 0 := by decide
      have e9 : (99 : Int32).toInt = 99 := by decide
      rw [e0] at h
      rw [e9]
      omega
    rw [if_pos h1, if_pos h, if_neg (fun h2 => by
      rw [Int32.lt_iff_toInt_lt] at h h2
      omega)]
    rfl
  · rw [if_neg h]
    obtain ⟨e6, e7⟩ := i_nat h
    by_cases h2 : (99 : Int32) < z
    · have h3 : ¬ z < (99 : Int32) := fun h3 => by
        rw [Int32.lt_iff_toInt_lt] at h3 h2
        omega
      rw [if_pos h2, if_neg h3, if_pos (by decide)]
      rfl
    · rw [if_neg h2]
      by_cases h3 : z < (99 : Int32)
      · rw [if_pos h3]
        by_cases h4 : (0 : Int32) < z
        · rw [if_pos h4]
          exact e6
        · rw [if_neg h4]
          have : z.toNatClampNeg = 0 := by
            rw [e6, k_0, ii_lt (by omega) (by omega)] at h4
            omega
          rw [this]
          rfl
      · rw [if_neg h3, if_pos (by decide)]
        have h4 := h2
        rw [e6, k_99, ii_lt (by omega) (by omega)] at h4
        have h5 := h3
        rw [e6, k_99, ii_lt (by omega) (by omega)] at h5
        rw [show z.toNatClampNeg = 99 from by omega]
        rfl
def pcN (m : Nat) : Nat := (m / 1 % 2) + (m / 2 % 2) + (m / 4 % 2) + (m / 8 % 2) + (m / 16 % 2) + (m / 32 % 2)
def bitE (m : Int32) : Nat → Nat → Int32 → Int32
  | 0, _, s => s
  | r + 1, k, s => bitE m r (k + 1) (s + ((m >>> (ii k &&& 31)) &&& (1 : Int32)))
theorem bits_L {F : Nat} {m : Int32} : ∀ (t k : Nat) (s : Int32), k ≤ 24 → 24 < k + t → fX12_bits_L4 F t m s (ii k) = some (bitE m (24 - k) k s) := by
  intro t
  induction t with
  | zero => intro k s h1 h2; omega
  | succ t ih =>
    intro k s h1 h2
    rw [sX12_bits_L4]
    unfold bX12_bits_L4
    by_cases h : k = 24
    · subst h
      rw [if_pos (by decide)]
      rfl
    · rw [if_neg (by rw [k_24, ii_le (by omega) (by omega)]; omega), show ii k + (1 : Int32) = ii (k + 1) from by rw [k_1, ii_add], ih (k + 1) _ (by omega) (by omega)]
      rw [show 24 - k = (24 - (k + 1)) + 1 from by omega]
      rfl
theorem bitE_ok : ∀ m, m < 64 → bitE (ii m) 24 0 0 = ii (pcN m) := by decide +kernel
theorem bits_eq {F m : Nat} (hF : 100 ≤ F) (hm : m < 64) : fX12_bits F (ii m) = some (ii (pcN m)) := by
  unfold fX12_bits
  rw [k_0, bits_L F 0 (ii 0) (by omega) (by omega)]
  exact congrArg some (bitE_ok m hm)
def tau (C : List Nat) (kd mk : Nat → Nat) (p t : Nat) : Nat := cl9 (if C = [] then ii (1 + kd (t / 2)) else wC C (vx4 (ii p) (ii (kd (t / 2))) (ii (pcN (mk (t / 2)))) (ii (t % 2))))
theorem tau_le (C : List Nat) (kd mk : Nat → Nat) (p t : Nat) : tau C kd mk p t ≤ 99 := cl9_le _
/-- the reference's law in its first slot -/
def lwM (C : List Nat) (lf lt cs : Nat → Int32) : Prop := lf 0 = ii 0 ∧ lt 0 = ii C.length ∧ C.length ≤ 1000 ∧ (∀ j, j < C.length → cs j = ii (C.getD j 0)) ∧ (C = [] ∨ fullC C)
def kdM (n : Nat) (kd : Nat → Nat) (ki : Nat → Int32) : Prop := ∀ f, f < n → kd f < 4 ∧ ki f = ii (kd f)
theorem tie_mod : ∀ t, t < 12 → ii t - ii t / (2 : Int32) * (2 : Int32) = ii (t % 2) := by decide +kernel
theorem takesBy_M {F n p t : Nat} {mk rd kd : Nat → Nat} {ki kn : Nat → Int32} (hF : 2000 ≤ F) (hn : okN n mk rd) (hm : netM n mk rd ki kn) (hk : kdM n kd ki) {C : List Nat} {lf lt cs : Nat → Int32} (hl : lwM C lf lt cs) (hp : p < 100) (ht : t < 2 * n) (a1 a2 a3 a4 a5 a6 a7 a8 a9 vo : Nat → Int32) :
    ∃ r1 r2 r3 r4 r5 r6 r7 r8 r9 r10, fX12_takesBy F 12 ki 12 kn 2 lf 2 lt 2000 cs 7 7 7 7 7 7 7 7 7 20 (ii p) (ii t) a1 a2 a3 a4 a5 a6 a7 a8 a9 vo = some (ii (tau C kd mk p t), r1, r2, r3, r4, r5, r6, r7, r8, r9, r10) := by
  obtain ⟨l1, l2, l3, l4, l5⟩ := hl
  have h6 := hn.1
  have hf : t / 2 < n := by omega
  obtain ⟨g1, g2⟩ := hk (t / 2) hf
  unfold fX12_takesBy bX12_takesBy_L79
  rw [tie_half t (by omega)]
  have e : ¬ (ii (t / 2) < 0 ∨ 12 ≤ (ii (t / 2)).toNatClampNeg) := nidx (by omega) (by omega)
  have e0 : (0 : Int32).toNatClampNeg = 0 := by decide
  simp only [if_neg e, e0]
  rw [if_neg (by decide), if_neg (by decide), l1, l2, ii_nat (by omega), g2, between_eq, (hm (t / 2) hf).1, bits_eq (by omega) (hn.2.1 (t / 2) hf).1]
  rcases l5 with h0 | hfull
  · subst h0
    rw [if_pos (by decide)]
    simp only [Option.bind_some]
    unfold tau
    rw [if_pos rfl, k_1, ii_add]
    exact ⟨_, _, _, _, _, _, _, _, _, _, rfl⟩
  · have hne := full_ne hfull
    rw [if_neg (by rw [ii_le (by omega) (by omega)]; omega), if_neg (by decide), if_neg (by decide)]
    simp only [Option.bind_some]
    rw [if_neg (by decide), if_neg (by decide)]
    have hx : (((0 : Int32) + 1) + 1) = 2 := by decide
    have i1 : (1 : Int32).toNatClampNeg = 1 := by decide
    have i2 : (2 : Int32).toNatClampNeg = 2 := by decide
    have i3 : (3 : Int32).toNatClampNeg = 3 := by decide
    have i4 : (4 : Int32).toNatClampNeg = 4 := by decide
    rw [i1, i2, i3, i4]
    have hmod : ii t - ii (t / 2) * (2 : Int32) = ii (t % 2) := by
      rw [← tie_half t (by omega)]
      exact tie_mod t (by omega)
    rw [hmod]
    generalize hX : upd (upd (upd (upd vo 1 (ii p)) 2 (ii (kd (t / 2)))) 3 (ii (pcN (mk (t / 2))))) 4 (ii (t % 2)) = X
    have hag : agr X (vx4 (ii p) (ii (kd (t / 2))) (ii (pcN (mk (t / 2)))) (ii (t % 2))) := by
      intro j h1 h4
      have hj : j = 1 ∨ j = 2 ∨ j = 3 ∨ j = 4 := by omega
      rw [← hX]
      rcases hj with rfl | rfl | rfl | rfl <;> rfl
    obtain ⟨hlg, f, v, hst⟩ := hfull
    have hw : fvV f v X = wC C (vx4 (ii p) (ii (kd (t / 2))) (ii (pcN (mk (t / 2)))) (ii (t % 2))) := by
      rw [← wC_eq hst]
      exact dp_w ⟨hlg, f, v, hst⟩ _ _ hag
    unfold fX12_worked
    rw [k_0, opens_eq (by omega)]
    simp only [Option.bind_some]
    rw [if_neg (by decide), ii_nat (show 0 < 2147483648 by omega), l1]
    obtain ⟨r1, r2, r3, r4, r5, r6, r7, r8, r9, e9⟩ := worked_L (F := F) (ln := 0) (e := C.length) (x := X) (lf := lf) (cs := cs) (by omega) (by omega) (hlt := l2) (by omega) (f := f) (v := v) C F 0 st0 a1 (upd a2 0 0) a3 (upd a4 0 0) (upd a5 0 0) (upd a6 0 20) a7 (upd a8 0 0) a9 (fun j hj => by rw [Nat.zero_add]; exact l4 j hj) (by omega) (by omega) st0_ok hlg (by
      refine ⟨⟨upd_same _ _ _, fun p hp => (by cases hp), upd_same _ _ _, fun p hp => (by cases hp), upd_same _ _ _, upd_same _ _ _, upd_same _ _ _⟩, fun a ha => (by cases ha), fun h => absurd rfl h, trivial⟩) hst
    have e10 : st0.1.length - 1 = 0 := rfl
    rw [e10] at e9
    rw [e9]
    simp only [Option.bind_some]
    rw [← k_0, between_eq]
    simp only [Option.bind_some]
    rw [hw]
    unfold tau
    rw [if_neg (by
      intro h
      rw [h] at hne
      exact absurd hne (by decide))]
    exact ⟨_, _, _, _, _, _, _, _, _, _, rfl⟩
/-- all that the ties from place k on take -/
def usd (τ : Nat → Nat → Nat) : Nat → List Nat → Nat
  | _, [] => 0
  | k, t :: L => τ k t + usd τ (k + 1) L
theorem usd_le {τ : Nat → Nat → Nat} (h : ∀ p t, τ p t ≤ 99) : ∀ (L : List Nat) (k : Nat), usd τ k L ≤ 99 * L.length
  | [], _ => Nat.le_refl _
  | t :: L, k => by
    have := usd_le h L (k + 1)
    have := h k t
    show τ k t + usd τ (k + 1) L ≤ 99 * (L.length + 1)
    omega
theorem used_L {F n : Nat} {mk rd kd : Nat → Nat} {ki kn : Nat → Int32} (hF : 2000 ≤ F) (hn : okN n mk rd) (hm : netM n mk rd ki kn) (hk : kdM n kd ki) {C : List Nat} {lf lt cs : Nat → Int32} (hl : lwM C lf lt cs) {L : List Nat} {s : Nat → Int32} (hL : okL n L) (hs : rS s L) (h24 : L.length ≤ 24) :
    ∀ (t k u : Nat) (a1 a2 a3 a4 a5 a6 a7 a8 a9 vo : Nat → Int32), k ≤ L.length → L.length < k + t → u ≤ 99 * k → ∃ r1 r2 r3 r4 r5 r6 r7 r8 r9 r10, fX12_used_L4 F 12 ki 12 kn 2 lf 2 lt 2000 cs 7 7 7 7 7 7 7 7 7 20 25 s t (ii u) (ii k) a1 a2 a3 a4 a5 a6 a7 a8 a9 vo = some (ii (u + usd (tau C kd mk) k (L.drop k)), r1, r2, r3, r4, r5, r6, r7, r8, r9, r10) := by
  intro t
  induction t with
  | zero => intro k u a1 a2 a3 a4 a5 a6 a7 a8 a9 vo h1 h2; omega
  | succ t ih =>
    intro k u a1 a2 a3 a4 a5 a6 a7 a8 a9 vo h1 h2 hu
    rw [sX12_used_L4]
    unfold bX12_used_L4
    have e0 : s ((0 : Int32).toNatClampNeg) = ii L.length := hs.1
    rw [if_neg (by decide), e0]
    by_cases h : L.length ≤ k
    · rw [if_pos (by rw [ii_le (by omega) (by omega)]; exact h), List.drop_of_length_le h]
      exact ⟨_, _, _, _, _, _, _, _, _, _, rfl⟩
    · have hk9 : k < L.length := by omega
      have ht := hL _ (rL_mem (a := s) hk9)
      have h6 := hn.1
      rw [if_neg (by rw [ii_le (by omega) (by omega)]; exact h), k_1, ii_add, if_neg (nidx (by omega) (by omega)), ii_nat (show k + 1 < 2147483648 by omega), hs.2 k hk9]
      obtain ⟨r1, r2, r3, r4, r5, r6, r7, r8, r9, r10, e1⟩ := takesBy_M (F := F) (p := k) (t := L.getD k 0) hF hn hm hk hl (by omega) ht a1 a2 a3 a4 a5 a6 a7 a8 a9 vo
      rw [e1]
      simp only [Option.bind_some]
      have := tau_le C kd mk k (L.getD k 0)
      rw [ii_add, drop_cons hk9]
      obtain ⟨q1, q2, q3, q4, q5, q6, q7, q8, q9, q10, e2⟩ := ih (k + 1) (u + tau C kd mk k (L.getD k 0)) r1 r2 r3 r4 r5 r6 r7 r8 r9 r10 (by omega) (by omega) (by omega)
      refine ⟨q1, q2, q3, q4, q5, q6, q7, q8, q9, q10, ?_⟩
      rw [e2]
      show _ = some (ii (u + (tau C kd mk k (L.getD k 0) + usd (tau C kd mk) (k + 1) (L.drop (k + 1)))), _)
      rw [Nat.add_assoc]
theorem used_M {F n : Nat} {mk rd kd : Nat → Nat} {ki kn : Nat → Int32} (hF : 2000 ≤ F) (hn : okN n mk rd) (hm : netM n mk rd ki kn) (hk : kdM n kd ki) {C : List Nat} {lf lt cs : Nat → Int32} (hl : lwM C lf lt cs) {L : List Nat} {s : Nat → Int32} (hL : okL n L) (hs : rS s L) (h24 : L.length ≤ 24) (a1 a2 a3 a4 a5 a6 a7 a8 a9 vo : Nat → Int32) : ∃ r1 r2 r3 r4 r5 r6 r7 r8 r9 r10, fX12_used F 12 ki 12 kn 2 lf 2 lt 2000 cs 7 7 7 7 7 7 7 7 7 20 25 s a1 a2 a3 a4 a5 a6 a7 a8 a9 vo = some (ii (usd (tau C kd mk) 0 L), r1, r2, r3, r4, r5, r6, r7, r8, r9, r10) := by
  unfold fX12_used
  have := used_L (F := F) hF hn hm hk hl hL hs h24 F 0 0 a1 a2 a3 a4 a5 a6 a7 a8 a9 vo (by omega) (by omega) (by omega)
  rw [Nat.zero_add] at this
  exact this
/-- whether a tie can be put on the line -/
def canT (τ : Nat → Nat → Nat) (ln rp : Nat) (L : List Nat) (t : Nat) : Prop := L.length < ln ∧ usd τ 0 L + τ L.length t ≤ rp
theorem canTie_M {F n ln rp : Nat} {mk rd kd : Nat → Nat} {ki kn nt : Nat → Int32} (hF : 2000 ≤ F) (hn : okN n mk rd) (hm : netM n mk rd ki kn) (hk : kdM n kd ki) (hln : nt 2 = ii ln) (hrp : nt 3 = ii rp) (h999 : rp ≤ 999) (hl24 : ln ≤ 24) {C : List Nat} {lf lt cs : Nat → Int32} (hl : lwM C lf lt cs) {L : List Nat} {s : Nat → Int32} (hL : okL n L) (hs : rS s L) (h24 : L.length ≤ 24) {t : Nat} (ht : t < 2 * n) (a1 a2 a3 a4 a5 a6 a7 a8 a9 vo : Nat → Int32) :
    ∃ r1 r2 r3 r4 r5 r6 r7 r8 r9 r10, (canT (tau C kd mk) ln rp L t → fX12_canTie F 8 nt 12 ki 12 kn 2 lf 2 lt 2000 cs 7 7 7 7 7 7 7 7 7 20 25 s (ii t) a1 a2 a3 a4 a5 a6 a7 a8 a9 vo = some (1, r1, r2, r3, r4, r5, r6, r7, r8, r9, r10)) ∧ (¬ canT (tau C kd mk) ln rp L t → fX12_canTie F 8 nt 12 ki 12 kn 2 lf 2 lt 2000 cs 7 7 7 7 7 7 7 7 7 20 25 s (ii t) a1 a2 a3 a4 a5 a6 a7 a8 a9 vo = some (0, r1, r2, r3, r4, r5, r6, r7, r8, r9, r10)) := by
  unfold fX12_canTie bX12_canTie_L44 bX12_canTie_L45
  have e0 : s ((0 : Int32).toNatClampNeg) = ii L.length := hs.1
  have e2 : nt ((2 : Int32).toNatClampNeg) = ii ln := hln
  have e3 : nt ((3 : Int32).toNatClampNeg) = ii rp := hrp
  rw [if_neg (by decide), if_neg (by decide), e0, e2]
  by_cases h : ln ≤ L.length
  · rw [if_pos (by rw [ii_le (by omega) (by omega)]; exact h), if_pos (Or.inl rfl)]
    exact ⟨_, _, _, _, _, _, _, _, _, _, fun hc => absurd hc.1 (by omega), fun _ => rfl⟩
  · rw [if_neg (by rw [ii_le (by omega) (by omega)]; exact h)]
    obtain ⟨r1, r2, r3, r4, r5, r6, r7, r8, r9, r10, e4⟩ := used_M (F := F) hF hn hm hk hl hL hs h24 a1 a2 a3 a4 a5 a6 a7 a8 a9 vo
    rw [e4]
    simp only [Option.bind_some]
    rw [if_neg (by decide)]
    obtain ⟨q1, q2, q3, q4, q5, q6, q7, q8, q9, q10, e5⟩ := takesBy_M (F := F) (p := L.length) (t := t) hF hn hm hk hl (by omega) ht r1 r2 r3 r4 r5 r6 r7 r8 r9 r10
    rw [e5]
    simp only [Option.bind_some]
    rw [if_neg (by decide), e3, ii_add]
    have hu := usd_le (tau_le C kd mk) L 0
    have hu2 := tau_le C kd mk L.length t
    have e6 : (ii rp < ii (usd (tau C kd mk) 0 L + tau C kd mk L.length t)) = (rp < usd (tau C kd mk) 0 L + tau C kd mk L.length t) := ii_lt (by omega) (by omega)
    refine ⟨q1, q2, q3, q4, q5, q6, q7, q8, q9, q10, fun hc => ?_, fun hc => ?_⟩
    · rw [if_neg (by rw [e6]; have := hc.2; omega), if_pos (Or.inr trivial)]
    · rw [if_pos (by
        rw [e6]
        unfold canT at hc
        omega), if_pos (Or.inl trivial)]
