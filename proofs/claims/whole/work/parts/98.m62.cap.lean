/-! PURE: how many rows one ring has -/
theorem nodup_lt : ∀ (N : Nat) {l : List Nat}, l.Nodup → (∀ x ∈ l, x < N) → l.length ≤ N
  | 0, l, _, h => by
    cases l with
    | nil => exact Nat.le_refl _
    | cons x l => exact absurd (h x (List.mem_cons_self ..)) (Nat.not_lt_zero _)
  | N + 1, l, hd, h => by
    by_cases hN : N ∈ l
    · have h1 := nodup_lt N (l := l.erase N) (hd.erase N) (fun x hx => by
        have h2 := (List.Nodup.mem_erase_iff hd).mp hx
        have h3 := h x h2.2
        have h4 := h2.1
        omega)
      rw [List.length_erase_of_mem hN] at h1
      omega
    · have h1 := nodup_lt N hd (fun x hx => by
        have h3 := h x hx
        have : x ≠ N := fun e => hN (e ▸ hx)
        omega)
      omega
theorem pigeon {N : Nat} {P : List Nat → Nat → Prop} : ∀ {L : List (List Nat)}, L.Nodup → (∀ O ∈ L, ∃ v, v < N ∧ P O v) → (∀ O ∈ L, ∀ O' ∈ L, ∀ v, P O v → P O' v → O = O') → ∃ vs : List Nat, vs.length = L.length ∧ vs.Nodup ∧ ∀ v ∈ vs, v < N ∧ ∃ O ∈ L, P O v
  | [], _, _, _ => ⟨[], rfl, List.nodup_nil, fun v hv => by cases hv⟩
  | O :: L, hd, h1, h2 => by
    obtain ⟨hO, hd2⟩ := List.nodup_cons.mp hd
    obtain ⟨vs, a, b, c⟩ := pigeon hd2 (fun O hO => h1 O (List.mem_cons_of_mem _ hO)) (fun O hO O' hO' => h2 O (List.mem_cons_of_mem _ hO) O' (List.mem_cons_of_mem _ hO'))
    obtain ⟨v, hv1, hv2⟩ := h1 O (List.mem_cons_self ..)
    refine ⟨v :: vs, by rw [List.length_cons, a, List.length_cons], List.nodup_cons.mpr ⟨fun hv => ?_, b⟩, ?_⟩
    · obtain ⟨_, O', hO', hp⟩ := c v hv
      have := h2 O (List.mem_cons_self ..) O' (List.mem_cons_of_mem _ hO') v hv2 hp
      rw [this] at hO
      exact hO hO'
    · intro w hw
      rcases List.mem_cons.mp hw with rfl | hw
      · exact ⟨hv1, O, List.mem_cons_self .., hv2⟩
      · obtain ⟨x, O', hO', hp⟩ := c w hw
        exact ⟨x, O', List.mem_cons_of_mem _ hO', hp⟩
theorem pigeon_le {N : Nat} {P : List Nat → Nat → Prop} {L : List (List Nat)} (hd : L.Nodup) (h1 : ∀ O ∈ L, ∃ v, v < N ∧ P O v) (h2 : ∀ O ∈ L, ∀ O' ∈ L, ∀ v, P O v → P O' v → O = O') : L.length ≤ N := by
  obtain ⟨vs, a, b, c⟩ := pigeon hd h1 h2
  rw [← a]
  exact nodup_lt N b (fun v hv => (c v hv).1)
def mr (c m : Nat → Nat) : Nat → Nat
  | 0 => 0
  | j + 1 => c j + m j * mr c m j
def pm (m : Nat → Nat) : Nat → Nat
  | 0 => 1
  | j + 1 => m j * pm m j
theorem mr_lt {c m : Nat → Nat} (h : ∀ f, c f < m f) : ∀ j, mr c m j < pm m j
  | 0 => Nat.one_pos
  | j + 1 => by
    have h1 := mr_lt h j
    have h2 := h j
    show c j + m j * mr c m j < m j * pm m j
    have h3 : m j * (mr c m j + 1) ≤ m j * pm m j := Nat.mul_le_mul_left _ h1
    rw [Nat.mul_add, Nat.mul_one] at h3
    omega
theorem mr_inj {c d m : Nat → Nat} (h : ∀ f, c f < m f) (h' : ∀ f, d f < m f) : ∀ j, mr c m j = mr d m j → ∀ f, f < j → c f = d f
  | 0, _, f, hf => by omega
  | j + 1, e, f, hf => by
    have e' : c j + m j * mr c m j = d j + m j * mr d m j := e
    have e1 : (c j + m j * mr c m j) % m j = c j := by rw [Nat.add_mul_mod_self_left, Nat.mod_eq_of_lt (h j)]
    have e2 : (d j + m j * mr d m j) % m j = d j := by rw [Nat.add_mul_mod_self_left, Nat.mod_eq_of_lt (h' j)]
    have e3 : c j = d j := by rw [← e1, ← e2, e']
    have e4 : mr c m j = mr d m j := by
      have h1 := h j
      rw [e3] at e'
      exact Nat.eq_of_mul_eq_mul_left (by omega) (Nat.add_left_cancel e')
    by_cases hj : f = j
    · rw [hj]; exact e3
    · exact mr_inj h h' j e4 f (by omega)
theorem two_k : ∀ k : Nat, 1 ≤ k → 2 * k ≤ 2 ^ k
  | 1, _ => by decide
  | k + 2, _ => by
    have := two_k (k + 1) (by omega)
    rw [show k + 2 = (k + 1) + 1 by omega, Nat.pow_succ]
    omega
def sk (k : Nat → Nat) : Nat → Nat
  | 0 => 0
  | j + 1 => k j + sk k j
theorem pm_le (k : Nat → Nat) : ∀ j, pm (mX k) j ≤ 2 ^ sk k j
  | 0 => Nat.le_refl 1
  | j + 1 => by
    show mX k j * pm (mX k) j ≤ 2 ^ (k j + sk k j)
    rw [Nat.pow_add]
    refine Nat.mul_le_mul ?_ (pm_le k j)
    unfold mX
    split
    · exact Nat.one_le_two_pow
    · exact two_k _ (by omega)
theorem sk_cnt : ∀ (X : List (Nat × Int)) (j : Nat), sk (fun f => cnt0 f X) j = (X.filter (fun x => decide (x.1 < j))).length
  | X, 0 => by
    rw [List.filter_eq_nil_iff.mpr (fun x _ => by simp)]; rfl
  | X, j + 1 => by
    show cnt0 j X + sk (fun f => cnt0 f X) j = _
    rw [sk_cnt X j]
    induction X with
    | nil => rfl
    | cons x X ih =>
      have f1 : ∀ j, x.1 < j → (List.filter (fun x => decide (x.1 < j)) (x :: X)).length = (List.filter (fun x => decide (x.1 < j)) X).length + 1 := fun j h => by
        rw [List.filter_cons_of_pos (by simpa using h), List.length_cons]
      have f0 : ∀ j, ¬ x.1 < j → (List.filter (fun x => decide (x.1 < j)) (x :: X)).length = (List.filter (fun x => decide (x.1 < j)) X).length := fun j h => by
        rw [List.filter_cons_of_neg (by simpa using h)]
      rw [ct_c]
      by_cases h : x.1 < j
      · rw [f1 j h, f1 (j + 1) (by omega), if_neg (show ¬ x.1 = j by omega)]
        omega
      · rw [f0 j h]
        by_cases h2 : x.1 = j
        · rw [if_pos h2, f1 (j + 1) (by omega)]; omega
        · rw [if_neg h2, f0 (j + 1) (by omega)]; omega
theorem exL_len (rd : Nat → Nat) : ∀ A : List (Nat × Int), (exL rd A).length = tt rd A
  | [] => rfl
  | x :: A => by
    rw [exL_c, List.length_append, exL_len rd A]
    unfold exb
    rw [List.length_replicate]
    rfl
theorem ex_len (rd : Nat → Nat) (Q : List (Nat × Int)) : (ex rd Q).length = tt rd Q := by
  unfold ex
  rw [exL_len, tt_rev]
/-- the heights of the rows of the ring of V -/
def HV (mk rd : Nat → Nat) (V : List Nat) (ν : Nat → Int) (X : List (Nat × Int)) : Prop := HT mk rd (fun f => cnt0 f (ex rd (psL mk rd [] V))) (RLr (fun f => cnt0 f (ex rd (psL mk rd [] V))) (fun f g i j => rc f g (ex rd (psL mk rd [] V)) i j)) (sgr mk rd (ex rd (psL mk rd [] V))) ν X
theorem cap_L {mk rd : Nat → Nat} (hs : symK mk) {V : List Nat} (h6 : ∀ x ∈ psL mk rd [] V, x.1 < 6) (h10 : tt rd (psL mk rd [] V) ≤ 10) {L : List (List Nat)} (hd : L.Nodup) (hL : ∀ O ∈ L, frm mk rd O = O ∧ ∃ ν, HV mk rd V ν (O.map tw)) : L.length ≤ 1024 := by
  have hW := RL_W hs (ex rd (psL mk rd [] V))
  have hσ := fun f a h => sgm_p mk rd (ex rd (psL mk rd [] V)) f a h
  have hfo : ∀ x ∈ ex rd (psL mk rd [] V), x.1 < 6 := by
    intro x hx
    obtain ⟨y, hy, e⟩ := exL_f hx
    rw [e]
    exact h6 y (List.mem_reverse.mp hy)
  have h60 : ∀ f, 1 ≤ cnt0 f (ex rd (psL mk rd [] V)) → f < 6 := by
    intro f hf
    refine Classical.byContradiction (fun h9 => ?_)
    have := cnt_no (f0 := f) (w := ex rd (psL mk rd [] V)) (fun y hy e => by have := hfo y hy; omega)
    omega
  refine pigeon_le (N := 1024) (P := fun O v => ∃ ν, HV mk rd V ν (O.map tw) ∧ (∀ r, rt mk (fun f => cnt0 f (ex rd (psL mk rd [] V))) r → 0 ≤ ν r ∧ ν r < cnt0 r (ex rd (psL mk rd [] V))) ∧ v = mr (cdX mk rd (fun f => cnt0 f (ex rd (psL mk rd [] V))) ν (O.map tw)) (mX (fun f => cnt0 f (ex rd (psL mk rd [] V)))) 6) hd ?_ ?_
  · intro O hO
    obtain ⟨_, ν, h⟩ := hL O hO
    obtain ⟨m, h1, h2⟩ := HT_norm hs hW hσ (N := 6) h60 6 (Nat.le_refl _) h
    have h2' : ∀ r, rt mk (fun f => cnt0 f (ex rd (psL mk rd [] V))) r → 0 ≤ m r ∧ m r < cnt0 r (ex rd (psL mk rd [] V)) := fun r hr => h2 r (by omega) hr
    refine ⟨_, ?_, m, h1, h2', rfl⟩
    have hlt := mr_lt (cd_lt hs hW h1 h2') 6
    have hpm := pm_le (fun f => cnt0 f (ex rd (psL mk rd [] V))) 6
    rw [sk_cnt, List.filter_eq_self.mpr (fun x hx => by simpa using hfo x hx), ex_len] at hpm
    have h3 : 2 ^ tt rd (psL mk rd [] V) ≤ 2 ^ 10 := Nat.pow_le_pow_right (by decide) h10
    have h4 : (2 : Nat) ^ 10 = 1024 := by decide
    omega
  · rintro O hO O' hO' v ⟨ν, a1, a2, a3⟩ ⟨μ, b1, b2, b3⟩
    have hc := mr_inj (cd_lt hs hW a1 a2) (cd_lt hs hW b1 b2) 6 (a3.symm.trans b3)
    refine frm_det hs (hL O hO).1 (hL O' hO').1 (cd_inj hs hW a1 b1 a2 b2 (fun f => ?_))
    by_cases hf : f < 6
    · exact hc f hf
    · have h0 : cnt0 f (ex rd (psL mk rd [] V)) = 0 := by
        have : ¬ 1 ≤ cnt0 f (ex rd (psL mk rd [] V)) := fun h => hf (h60 f h)
        omega
      unfold cdX
      rw [if_pos h0, if_pos h0]
theorem HV_0 {mk rd : Nat → Nat} (hs : symK mk) (hr : okR rd) {n : Nat} {V : List Nat} (hn : ∀ x ∈ psL mk rd [] V, x.1 < n) (hirr : ∀ f, f < n → (mk f).testBit f = false) (htt : ∀ t, t < 2 * n → tt rd (psL mk rd [] V) ≤ tt rd (psL mk rd [] (tkW t V))) : HV mk rd V (fun _ => 0) (ex rd (psL mk rd [] V)) := by
  refine HT_0 hs (fun f hF => ?_)
  have hf : f < n := by
    have h1 := hF.2.1
    refine Classical.byContradiction (fun h9 => ?_)
    have := cnt_no (f0 := f) (w := ex rd (psL mk rd [] V)) (fun y hy e => by
      obtain ⟨z, hz, e2⟩ := exL_f hy
      have := hn z (List.mem_reverse.mp hz)
      omega)
    omega
  exact base_last hs hr (hirr f hf) (fun s hs2 => htt s (by omega)) hF
theorem HV_s {mk rd : Nat → Nat} (hs : symK mk) (hr : okR rd) {V W : List Nat} {ν : Nat → Int} {t : Nat} (hirr : (mk (t / 2)).testBit (t / 2) = false) (htt : ∀ s, s / 2 = t / 2 → tt rd (psL mk rd [] W) ≤ tt rd (psL mk rd [] (tkW s W))) (hl : tt rd (psL mk rd [] (tkW t W)) = tt rd (psL mk rd [] W)) (h : HV mk rd V ν (ex rd (psL mk rd [] W))) : ∃ ν', HV mk rd V ν' (ex rd (psL mk rd [] (tkW t W))) :=
  HT_step hs hr (RL_W hs _) (fun f a h => sgm_p mk rd _ f a h) hirr htt hl h
