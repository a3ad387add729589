/-! PURE: the reference works the law of takes out -/
def soB (s : Option (Nat × VV)) : Int32 := match s with
  | none => 20
  | some p => ii p.1
def soV (s : Option (Nat × VV)) (x : Nat → Int32) : Int32 := match s with
  | none => 0
  | some p => p.2 x
def oB (s : Option (Nat × VV)) : Int32 := match s with
  | none => 0
  | some p => ii p.1
def mB (m : Option VV) : Int32 := match m with
  | none => 0
  | some _ => 22
theorem upd_upd (f : Nat → Int32) (k : Nat) (a b : Int32) : upd (upd f k a) k b = upd f k b := by
  funext j
  by_cases h : j = k
  · subst h
    rw [upd_same, upd_same]
  · rw [upd_ne _ _ h, upd_ne _ _ h, upd_ne _ _ h]
theorem sums_eq {F d : Nat} (hd : d < 7) {s : Option (Nat × VV)} (hs : ∀ p, s = some p → p.1 = 20 ∨ p.1 = 21) {x : Nat → Int32} {t : VV} {sum sumBy term termBy : Nat → Int32} (h1 : sumBy d = soB s) (h2 : sum d = soV s x) (h3 : term d = t x) : fX12_sums F 7 7 sumBy 7 term 7 (ii d) sum termBy = some (upd sum d (smV s t x), upd termBy d 0) := by
  unfold fX12_sums bX12_sums_L45
  have e : ¬ (ii d < 0 ∨ 7 ≤ (ii d).toNatClampNeg) := nidx (by omega) (by omega)
  simp only [if_neg e]
  rw [ii_nat (by omega), h1, h2, h3]
  cases s with
  | none =>
    rw [if_neg (by decide)]
    have e2 : soV none x + t x = t x := by
      show (0 : Int32) + t x = t x
      rw [Int32.zero_add]
    rw [e2]
    rfl
  | some p =>
    rcases hs p rfl with h | h
    · have e3 : ¬ soB (some p) = 21 := by
        show ¬ ii p.1 = 21
        rw [h]
        decide
      have e4 : smV (some p) t x = p.2 x + t x := by
        show (if p.1 = 21 then p.2 x - t x else p.2 x + t x) = _
        rw [if_neg (by omega)]
      rw [if_neg e3, e4]
      rfl
    · have e3 : soB (some p) = 21 := by
        show ii p.1 = 21
        rw [h]
        rfl
      have e4 : smV (some p) t x = p.2 x - t x := by
        show (if p.1 = 21 then p.2 x - t x else p.2 x + t x) = _
        rw [if_pos h]
      rw [if_pos e3, e4]
      rfl
theorem kpV_c (k : Option (Nat × VV)) (w : VV) (x : Nat → Int32) : kpV k w x = kpV k (fun _ => w x) x := by cases k <;> rfl
theorem cmV_c (k : Option (Nat × VV)) (w : VV) (x : Nat → Int32) : cmV k w x = cmV k (fun _ => w x) x := by cases k <;> rfl
theorem tests_76 {F d : Nat} (hd : d < 7) {k : Option (Nat × VV)} (hk : ∀ p, k = some p → p.1 = 26 ∨ p.1 = 27) {x : Nat → Int32} {kept keptBy ahead against sum sumBy term termBy : Nat → Int32} (g1 : keptBy d = oB k) (g2 : ∀ p, k = some p → kept d = p.2 x) (y : Int32) : bX12_tests_L76 F 7 7 keptBy 7 ahead 7 7 7 7 term 7 (ii d) y kept against sum sumBy termBy = some (upd kept d (kpV k (fun _ => y) x), upd against d 0, upd sum d 0, upd sumBy d 20, termBy) := by
  unfold bX12_tests_L76 bX12_tests_L104 bX12_tests_L105 bX12_tests_L106 bX12_tests_L130 bX12_tests_L135 bX12_tests_L136
  have e : ¬ (ii d < 0 ∨ 7 ≤ (ii d).toNatClampNeg) := nidx (by omega) (by omega)
  simp only [if_neg e]
  simp only [ii_nat (show d < 2147483648 by omega), g1]
  cases k with
  | none =>
    rw [if_neg (by decide), if_neg (by decide)]
    rfl
  | some p =>
    rw [g2 p rfl]
    rcases hk p rfl with h | h
    · have e5 : kpV (some p) (fun _ => y) x = (if p.2 x = 0 then 0 else if y = 0 then 0 else 1) := by
        show (if p.1 = 26 then _ else _) = _
        rw [if_pos h]
      have e6 : oB (some p) = 26 := by
        show ii p.1 = 26
        rw [h]
        rfl
      rw [e6, if_pos rfl, e5]
      simp only [if_neg (show ¬ (26 : Int32) = 27 by decide)]
      by_cases h7 : p.2 x = 0
      · rw [if_pos h7, if_pos h7]
      · rw [if_neg h7, if_neg h7]
        by_cases h8 : y = 0
        · rw [if_pos h8, if_pos h8]
        · rw [if_neg h8, if_neg h8]
    · have e5 : kpV (some p) (fun _ => y) x = (if p.2 x = 0 then (if y = 0 then 0 else 1) else 1) := by
        show (if p.1 = 26 then _ else _) = _
        rw [if_neg (by omega)]
      have e6 : oB (some p) = 27 := by
        show ii p.1 = 27
        rw [h]
        rfl
      rw [e6, if_neg (by decide), if_pos rfl, e5]
      by_cases h7 : p.2 x = 0
      · rw [if_pos h7, if_pos h7]
        by_cases h8 : y = 0
        · rw [if_pos h8, if_pos h8]
        · rw [if_neg h8, if_neg h8]
      · rw [if_neg h7, if_neg h7]
theorem tests_eq {F d : Nat} (hd : d < 7) {f : Fm} (hf : okF f) {v : VV} {x : Nat → Int32} {kept keptBy ahead against sum sumBy term termBy : Nat → Int32} (g1 : keptBy d = oB f.2.1) (g2 : ∀ p, f.2.1 = some p → kept d = p.2 x) (g3 : against d = oB f.2.2.1) (g4 : ∀ p, f.2.2.1 = some p → ahead d = p.2 x) (h1 : sumBy d = soB f.2.2.2.1) (h2 : sum d = soV f.2.2.2.1 x) (h3 : term d = tmV f.2.2.2.2 v x) : fX12_tests F 7 7 keptBy 7 ahead 7 7 7 7 term 7 (ii d) kept against sum sumBy termBy = some (upd kept d (fvV f v x), upd against d 0, upd sum d 0, upd sumBy d 20, upd termBy d 0) := by
  obtain ⟨nb, k, c, s, m⟩ := f
  obtain ⟨f1, f2, f3, -⟩ := hf
  simp only at f1 f2 f3 g1 g2 g3 g4 h1 h2 h3
  unfold fX12_tests bX12_tests_L43 bX12_tests_L44 bX12_tests_L75
  have e : ¬ (ii d < 0 ∨ 7 ≤ (ii d).toNatClampNeg) := nidx (by omega) (by omega)
  rw [sums_eq hd f3 h1 h2 h3]
  simp only [Option.bind_some, if_neg e]
  simp only [ii_nat (show d < 2147483648 by omega), upd_same, g3, tests_76 hd f1 g1 g2, upd_upd]
  have e9 : fvV (nb, k, c, s, m) v x = kpV k (fun _ => cmV c (fun _ => smV s (tmV m v) x) x) x := by
    show kpV k (cmV c (smV s (tmV m v))) x = _
    rw [kpV_c, cmV_c]
  rw [e9]
  generalize smV s (tmV m v) x = u
  cases c with
  | none =>
    rw [if_neg (by decide), if_neg (by decide)]
    rfl
  | some p =>
    rw [g4 p rfl]
    rcases f2 p rfl with h | h
    · have e5 : cmV (some p) (fun _ => u) x = if p.2 x < u then 1 else 0 := by
        show (if p.1 = 24 then _ else _) = _
        rw [if_pos h]
      have e6 : oB (some p) = 24 := by
        show ii p.1 = 24
        rw [h]
        rfl
      rw [e6, if_pos rfl, e5]
      simp only [if_neg (show ¬ (24 : Int32) = 25 by decide)]
      by_cases h7 : p.2 x < u
      · rw [if_pos h7, if_neg (Int32.not_le.mpr h7)]
      · rw [if_neg h7, if_pos (Int32.not_lt.mp h7)]
    · have e5 : cmV (some p) (fun _ => u) x = if p.2 x = u then 1 else 0 := by
        show (if p.1 = 24 then _ else _) = _
        rw [if_neg (by omega)]
      have e6 : oB (some p) = 25 := by
        show ii p.1 = 25
        rw [h]
        rfl
      rw [e6, if_neg (by decide), if_pos rfl, e5]
      by_cases h7 : p.2 x = u
      · rw [if_pos h7, if_pos h7]
      · rw [if_neg h7, if_neg h7]
theorem opens_eq {F d : Nat} (hd : d < 7) (keptBy against sum sumBy termBy : Nat → Int32) : fX12_opens F 7 7 7 7 7 (ii d) keptBy against sum sumBy termBy = some (upd keptBy d 0, upd against d 0, upd sum d 0, upd sumBy d 20, upd termBy d 0) := by
  unfold fX12_opens
  have e : ¬ (ii d < 0 ∨ 7 ≤ (ii d).toNatClampNeg) := nidx (by omega) (by omega)
  simp only [if_neg e]
  simp only [ii_nat (show d < 2147483648 by omega)]
/-- the registers at depth d hold the frame (but for the term) -/
def frR (x : Nat → Int32) (d : Nat) (f : Fm) (kept keptBy ahead against sum sumBy termBy : Nat → Int32) : Prop := keptBy d = oB f.2.1 ∧ (∀ p, f.2.1 = some p → kept d = p.2 x) ∧ against d = oB f.2.2.1 ∧ (∀ p, f.2.2.1 = some p → ahead d = p.2 x) ∧ sumBy d = soB f.2.2.2.1 ∧ sum d = soV f.2.2.2.1 x ∧ termBy d = mB f.2.2.2.2
def bI (b : Bool) : Int32 := if b = true then 1 else 0
def rgR (x : Nat → Int32) (kept keptBy ahead against sum sumBy term termBy byNot : Nat → Int32) : List Fm → Prop
  | [] => True
  | f :: fs => frR x fs.length f kept keptBy ahead against sum sumBy termBy ∧ (∀ a, f.2.2.2.2 = some a → term fs.length = a x) ∧ (fs ≠ [] → byNot fs.length = bI f.1) ∧ rgR x kept keptBy ahead against sum sumBy term termBy byNot fs
def rgT (x : Nat → Int32) (kept keptBy ahead against sum sumBy term termBy byNot : Nat → Int32) : List Fm × Option VV → Prop
  | ([], _) => True
  | (f :: fs, none) => rgR x kept keptBy ahead against sum sumBy term termBy byNot (f :: fs)
  | (f :: fs, some v) => frR x fs.length f kept keptBy ahead against sum sumBy termBy ∧ term fs.length = tmV f.2.2.2.2 v x ∧ (fs ≠ [] → byNot fs.length = bI f.1) ∧ rgR x kept keptBy ahead against sum sumBy term termBy byNot fs
theorem rgR_congr {x : Nat → Int32} {a1 a2 a3 a4 a5 a6 a7 a8 a9 b1 b2 b3 b4 b5 b6 b7 b8 b9 : Nat → Int32} : ∀ {fs : List Fm}, (∀ j, j < fs.length → b1 j = a1 j ∧ b2 j = a2 j ∧ b3 j = a3 j ∧ b4 j = a4 j ∧ b5 j = a5 j ∧ b6 j = a6 j ∧ b7 j = a7 j ∧ b8 j = a8 j ∧ b9 j = a9 j) → rgR x a1 a2 a3 a4 a5 a6 a7 a8 a9 fs → rgR x b1 b2 b3 b4 b5 b6 b7 b8 b9 fs
  | [], _, _ => trivial
  | f :: fs, h, h2 => by
    obtain ⟨e1, e2, e3, e4, e5, e6, e7, e8, e9⟩ := h fs.length (by simp)
    obtain ⟨⟨c1, c2, c3, c4, c5, c6, c7⟩, c8, c9, c10⟩ := h2
    refine ⟨⟨e2.trans c1, fun p hp => e1.trans (c2 p hp), e4.trans c3, fun p hp => e3.trans (c4 p hp), e6.trans c5, e5.trans c6, e8.trans c7⟩, fun a ha => e7.trans (c8 a ha), fun hne => e9.trans (c9 hne), rgR_congr (fun j hj => h j (by simp; omega)) c10⟩
theorem close_L {F : Nat} {lf lt cs x : Nat → Int32} {k14 : Int32 → Int32 → Int32 → (Nat → Int32) → (Nat → Int32) → (Nat → Int32) → (Nat → Int32) → (Nat → Int32) → (Nat → Int32) → (Nat → Int32) → (Nat → Int32) → (Nat → Int32) → Option (Int32 × (Nat → Int32) × (Nat → Int32) × (Nat → Int32) × (Nat → Int32) × (Nat → Int32) × (Nat → Int32) × (Nat → Int32) × (Nat → Int32) × (Nat → Int32))} {x1 x3 : Int32} {a1 a2 a3 a4 a5 a6 a7 a8 a9 : Nat → Int32} :
    ∀ (fs : List Fm) (t : Nat) (v : VV) (y : Int32), y = v x → okFs fs → fs.length ≤ 6 → fs.length ≤ t → rgR x a1 a2 a3 a4 a5 a6 a7 a8 a9 fs → ∀ g gs, (clN fs v).1 = g :: gs → fX12_worked_L268 F 2 lf 2 lt 2000 cs 7 7 7 7 7 7 7 7 7 20 x k14 t x1 (ii (fs.length - 1)) x3 y a1 a2 a3 a4 a5 a6 a7 a8 a9 = k14 x1 (ii gs.length) (x3 + 1) a1 a2 a3 a4 a5 a6 (upd a7 gs.length (tmV g.2.2.2.2 (clN fs v).2 x)) a8 a9 := by
  intro fs
  induction fs with
  | nil => intro t v y hy hf; exact absurd hf id
  | cons f fs ih =>
    intro t v y hy hf h6 ht hr g gs hg
    obtain ⟨t, rfl⟩ : ∃ t', t = t' + 1 := ⟨t - 1, by simp at ht; omega⟩
    rw [sX12_worked_L268]
    unfold bX12_worked_L268 bX12_worked_L292 bX12_worked_L300 bX12_worked_L328 bX12_worked_L329
    have hlen : (f :: fs).length - 1 = fs.length := by simp
    have h6' : fs.length ≤ 5 := by simp at h6; omega
    rw [hlen]
    have e : ¬ (ii fs.length < 0 ∨ 7 ≤ (ii fs.length).toNatClampNeg) := nidx (by omega) (by omega)
    have e0 : (ii fs.length ≤ (0 : Int32)) = (fs.length = 0) := by
      rw [k_0, ii_le (by omega) (by omega)]
      apply propext
      omega
    obtain ⟨hr1, hr2, hr3, hr4⟩ := hr
    by_cases hb : f.1 = true
    · cases fs with
      | nil =>
        exfalso
        have := hf.2
        rw [hb] at this
        cases this
      | cons f2 fs =>
        rw [if_neg (by rw [e0]; simp), if_neg e, ii_nat (by omega), hr3 (by simp)]
        have e1 : bI f.1 = 1 := by rw [hb]; rfl
        rw [if_pos e1]
        have e2 : ii (f2 :: fs).length + (-1 : Int32) = ii ((f2 :: fs).length - 1) := ii_m1 (by simp)
        have e3 : clN (f :: f2 :: fs) v = clN (f2 :: fs) (ntV v) := by
          show (if f.1 = true then _ else _) = _
          rw [if_pos hb]
        rw [e3] at hg ⊢
        rw [e2]
        by_cases hy0 : y = 0
        · rw [if_pos hy0]
          exact ih t (ntV v) 1 (by
            show _ = if v x = 0 then 1 else 0
            rw [← hy, if_pos hy0]) hf.2 (by simp at h6'; simp; omega) (by simp at ht ⊢; omega) hr4 g gs hg
        · rw [if_neg hy0]
          exact ih t (ntV v) 0 (by
            show _ = if v x = 0 then 1 else 0
            rw [← hy, if_neg hy0]) hf.2 (by simp at h6'; simp; omega) (by simp at ht ⊢; omega) hr4 g gs hg
    · have e3 : clN (f :: fs) v = (f :: fs, v) := by
        show (if f.1 = true then _ else _) = _
        rw [if_neg hb]
      rw [e3] at hg ⊢
      have hg1 : f = g := (List.cons.inj hg).1
      have hg2 : fs = gs := (List.cons.inj hg).2
      subst hg1 hg2
      have e6 : (if a8 (ii fs.length).toNatClampNeg = 0 then y else a7 (ii fs.length).toNatClampNeg * y) = tmV f.2.2.2.2 v x := by
        rw [ii_nat (by omega), hr1.2.2.2.2.2.2]
        cases hm : f.2.2.2.2 with
        | none =>
          show (if (0 : Int32) = 0 then y else _) = v x
          rw [if_pos rfl]
          exact hy
        | some a =>
          show (if (22 : Int32) = 0 then y else a7 fs.length * y) = a x * v x
          rw [if_neg (by decide), hr2 a hm, hy]
      rw [← e6]
      simp only [if_neg e]
      by_cases h0 : fs.length = 0
      · rw [if_pos (by rw [e0]; exact h0)]
        simp only [ii_nat (show fs.length < 2147483648 by omega)]
        by_cases h1 : a8 fs.length = 0
        · simp only [if_pos h1]
        · simp only [if_neg h1]
      · rw [if_neg (by rw [e0]; exact h0)]
        have e8 : ¬ a9 (ii fs.length).toNatClampNeg = 1 := by
          rw [ii_nat (by omega), hr3 (by
            intro h
            rw [h] at h0
            exact h0 rfl)]
          have : f.1 = false := by
            cases hb2 : f.1
            · rfl
            · exact absurd hb2 hb
          rw [this]
          decide
        rw [if_neg e8]
        simp only [ii_nat (show fs.length < 2147483648 by omega)]
        by_cases h1 : a8 fs.length = 0
        · simp only [if_pos h1]
        · simp only [if_neg h1]
theorem clN_rg {x a1 a2 a3 a4 a5 a6 a7 a8 a9 : Nat → Int32} : ∀ {fs : List Fm} {v : VV} {g : Fm} {gs : List Fm}, rgR x a1 a2 a3 a4 a5 a6 a7 a8 a9 fs → (clN fs v).1 = g :: gs → rgR x a1 a2 a3 a4 a5 a6 a7 a8 a9 (g :: gs) := by
  intro fs
  induction fs with
  | nil => intro v g gs _ h; cases h
  | cons f fs ih =>
    intro v g gs hr h
    unfold clN at h
    by_cases hf : f.1 = true
    · rw [if_pos hf] at h
      exact ih hr.2.2.2 h
    · rw [if_neg hf] at h
      cases h
      exact hr
