/-! PURE: the reference's joins is the same push -/
def rdk (k : Nat) : Nat := if k = 1 then 2 else if k = 2 then 3 else if k = 3 then 4 else 0
/-- the reference's net, as far as joining looks at it -/
def netM (n : Nat) (mk rd : Nat → Nat) (ki kn : Nat → Int32) : Prop := ∀ f, f < n → kn f = ii (mk f) ∧ ∃ k, k < 4 ∧ ki f = ii k ∧ rd f = rdk k
theorem roundOf_eq {F n : Nat} {mk rd : Nat → Nat} {ki kn : Nat → Int32} (hm : netM n mk rd ki kn) (hn : n ≤ 6) {f : Nat} (hf : f < n) : fX12_roundOf F 12 ki (ii f) = some (ii (rd f)) := by
  obtain ⟨-, k, hk, e1, e2⟩ := hm f hf
  unfold fX12_roundOf bX12_roundOf_L43
  simp (disch := omega) only [ii_nneg, ii_nat, false_or]
  have h12 : ¬ 12 ≤ f := by omega
  simp only [h12, if_false, e1, e2]
  rcases (show k = 0 ∨ k = 1 ∨ k = 2 ∨ k = 3 by omega) with rfl | rfl | rfl | rfl <;> rfl
theorem counted_eq {F n : Nat} {mk rd : Nat → Nat} {ki kn : Nat → Int32} (hm : netM n mk rd ki kn) (hn : okN n mk rd) {f : Nat} (hf : f < n) {z : Int} (h1 : -200 ≤ z) (h2 : z ≤ 200) : fX12_counted F 12 ki (ii f) (iz z) = some (iz (nrm (rd f) z)) := by
  obtain ⟨-, hrd, -⟩ := hn.2.1 f hf
  unfold fX12_counted bX12_counted_L31
  rw [roundOf_eq hm hn.1 hf]
  simp only [Option.bind_some]
  rcases hrd with h0 | h0
  · rw [if_pos (by rw [h0]; rfl)]
    unfold nrm
    rw [if_pos h0]
  · have e1 : (ii (rd f) = 0) = False := by
      have h3 : (ii (rd f) = ii 0) = (rd f = 0) := ii_inj (by omega) (by omega)
      exact h3.trans (by simp; omega)
    rw [if_neg (by rw [e1]; simp), if_neg (by rw [e1]; simp)]
    have h := cn_ok (z + 200).toNat (by omega) (rd f) (by omega) (by omega)
    rw [show (((z + 200).toNat : Nat) : Int) - 200 = z by omega] at h
    have e2 : nrm (rd f) z = z % (rd f : Int) := by unfold nrm; rw [if_neg (by omega)]
    rw [e2, ← h]
    unfold cnE
    split <;> rfl
theorem drops_L {F len : Nat} (hN : len ≤ 96) : ∀ (n p : Nat) (fo co : Nat → Int32), len ≤ p + n → p < len → fX12_drops_L12 F 96 96 n (ii p) (ii (len - 1)) fo co = some (ii (len - 1), shA fo p len, shA co p len) := by
  intro n
  induction n with
  | zero => intro p fo co h1 h2; omega
  | succ n ih =>
    intro p fo co h1 h2
    rw [sX12_drops_L12]
    unfold bX12_drops_L12
    simp (disch := omega) only [k_1, k_0, ii_add, ii_le, ii_lt, ii_nat, Nat.not_lt_zero, false_or]
    by_cases h : len ≤ p + 1
    · rw [if_pos (by omega), shA_end h, shA_end h]
    · rw [if_neg (by omega), if_neg (by omega), if_neg (by omega), if_neg (by omega), if_neg (by omega), ih (p + 1) _ _ (by omega) (by omega), shA_step (by omega), shA_step (by omega)]
theorem joins_end {F n : Nat} {mk rd : Nat → Nat} {ki kn : Nat → Int32} (hn : okN n mk rd) (hm : netM n mk rd ki kn) {f : Nat} {c : Int} (hf : f < n) (hc : -100 ≤ c ∧ c ≤ 100) {Q : List (Nat × Int)} (hN : Q.length < 96) {fo co : Nat → Int32} (hr : rP fo co Q) :
    isP 96 ((f, nrm (rd f) c) :: Q) (bX12_joins_L81 F 12 ki 12 kn 96 96 (ii f) (iz c) (ii Q.length) fo co) := by
  unfold bX12_joins_L81
  rw [counted_eq hm hn hf (by omega) (by omega)]
  simp (disch := omega) only [ii_nneg, ii_nat, false_or, k_1, ii_add]
  rw [if_neg (by omega)]
  simp only [Option.bind_some]
  rw [if_neg (by omega)]
  exact ⟨_, _, rfl, by simp; omega, rP_push hr⟩
theorem joins_join {F n : Nat} {mk rd : Nat → Nat} {ki kn : Nat → Int32} (hn : okN n mk rd) (hm : netM n mk rd ki kn) (hF : 96 ≤ F) {f : Nat} {c d : Int} (hf : f < n) (hc : -100 ≤ c ∧ c ≤ 100) (hd : -100 ≤ d ∧ d ≤ 100) {A Q : List (Nat × Int)} (hN : (A ++ (f, d) :: Q).length ≤ 96) {fo co : Nat → Int32} (hr : rP fo co (A ++ (f, d) :: Q)) {S : List (Nat × Int)} (hS0 : nrm (rd f) (d + c) = 0 → S = Q) (hS1 : nrm (rd f) (d + c) ≠ 0 → S = (f, nrm (rd f) (d + c)) :: Q) :
    isP 96 (A ++ S) (bX12_joins_L65 F 12 ki 12 kn 96 96 (ii f) (iz c) (ii Q.length) (ii (A ++ (f, d) :: Q).length) fo co) := by
  obtain ⟨h6, hN2, -⟩ := id hn
  obtain ⟨hmk, hrd, -⟩ := hN2 f hf
  have hl : (A ++ (f, d) :: Q).length = A.length + Q.length + 1 := by simp; omega
  have hv := nrm_bound (z := d + c) hrd (B := 200) (by omega) (by omega) (by omega)
  have hfo : fo Q.length = ii f := (rP_tail hr).1.1
  have hco : co Q.length = iz d := (rP_tail hr).1.2
  unfold bX12_joins_L65 bX12_joins_L154 fX12_drops
  simp (disch := omega) only [ii_nneg, ii_nat, false_or, if_false]
  rw [if_neg (by omega), if_pos hfo, if_neg (by omega), hco, iz_add, counted_eq hm hn hf (by omega) (by omega)]
  simp only [Option.bind_some]
  rw [if_neg (by omega), if_neg (by omega), upd_same]
  have e0 : (iz (nrm (rd f) (d + c)) = 0) = (nrm (rd f) (d + c) = 0) := iz_inj (a := nrm (rd f) (d + c)) (b := 0) (by omega) (by omega) (by omega) (by omega)
  by_cases hz : nrm (rd f) (d + c) = 0
  · rw [if_pos (by rw [e0]; exact hz), hS0 hz, k_1, ii_sub (by omega), drops_L hN F Q.length _ _ (by omega) (by omega)]
    have hr2 : rP fo (upd co Q.length (iz (nrm (rd f) (d + c)))) (A ++ (f, nrm (rd f) (d + c)) :: Q) := rP_set (x := (f, d)) hr
    refine ⟨_, _, ?_, by simp only [List.length_append]; omega, rP_out (A ++ (f, d) :: Q).length (by simp) hr2⟩
    show some (ii ((A ++ (f, d) :: Q).length - 1), _, _) = _
    rw [show (A ++ (f, d) :: Q).length - 1 = (A ++ Q).length by simp only [List.length_append, List.length_cons]; omega]
  · rw [if_neg (by rw [e0]; exact hz), hS1 hz]
    refine ⟨_, _, ?_, by simp only [List.length_append, List.length_cons] at hN ⊢; omega, rP_set (x := (f, d)) hr⟩
    simp only [List.length_append, List.length_cons]
theorem joins_L {F n : Nat} {mk rd : Nat → Nat} {ki kn : Nat → Int32} (hn : okN n mk rd) (hm : netM n mk rd ki kn) (hF : 96 ≤ F) {f : Nat} {c : Int} (hf : f < n) (hc : -100 ≤ c ∧ c ≤ 100) {fo co : Nat → Int32} :
    ∀ (Q A : List (Nat × Int)) (t : Nat), (∀ x ∈ A, x.1 ≠ f ∧ (mk f).testBit x.1 = false) → okP n 100 (A ++ Q) → (A ++ Q).length < 96 → rP fo co (A ++ Q) → Q.length < t → isP 96 (ps mk rd f c (A ++ Q)) (fX12_joins_L24 F 12 ki 12 kn 96 96 t (ii f) (iz c) (iz ((Q.length : Int) - 1)) (ii (A ++ Q).length) fo co) := by
  intro Q
  induction Q with
  | nil =>
    intro A t hA hP hN hr ht
    obtain ⟨t, rfl⟩ : ∃ t', t = t' + 1 := ⟨t - 1, by omega⟩
    rw [sX12_joins_L24]
    have e0 : iz ((([] : List (Nat × Int)).length : Int) - 1) < 0 := by decide
    unfold bX12_joins_L24 bX12_joins_L65
    rw [if_pos e0, if_pos e0]
    have e1 : ps mk rd f c (A ++ []) = (f, nrm (rd f) c) :: (A ++ []) := by
      unfold ps
      rw [jn_app hA]
      rfl
    rw [e1]
    exact joins_end hn hm hf hc hN hr
  | cons x Q ih =>
    intro A t hA hP hN hr ht
    obtain ⟨t, rfl⟩ : ∃ t', t = t' + 1 := ⟨t - 1, by omega⟩
    have hxm : x ∈ A ++ x :: Q := List.mem_append_right _ List.mem_cons_self
    obtain ⟨hx1, hx2, hx3⟩ := hP x hxm
    have hl : (A ++ x :: Q).length = A.length + Q.length + 1 := by simp; omega
    obtain ⟨h6, hN2, -⟩ := id hn
    obtain ⟨hmk, hrd, -⟩ := hN2 f hf
    have hfo : fo Q.length = ii x.1 := (rP_tail hr).1.1
    rw [sX12_joins_L24]
    have e1 : iz (((x :: Q).length : Int) - 1) = ii Q.length := by
      rw [ii_iz]
      congr 1
      simp only [List.length_cons]
      omega
    rw [e1]
    unfold bX12_joins_L24
    simp (disch := omega) only [ii_nneg, ii_nat, false_or, if_false]
    rw [if_neg (by omega), hfo]
    by_cases h1 : x.1 = f
    · rw [if_pos (by rw [h1])]
      have e2 : ps mk rd f c (A ++ x :: Q) = A ++ (if nrm (rd f) (x.2 + c) = 0 then Q else (f, nrm (rd f) (x.2 + c)) :: Q) := by
        unfold ps
        rw [jn_app hA, jn_cons, if_pos h1]
        rfl
      rw [e2]
      obtain ⟨g, d⟩ := x
      simp only at h1
      subst h1
      exact joins_join hn hm hF hf hc ⟨hx2, hx3⟩ (Nat.le_of_lt hN) hr (fun hz => if_pos hz) (fun hz => if_neg hz)
    · rw [if_neg (by rw [ii_inj (by omega) (by omega)]; exact h1), if_neg (by omega), if_neg (by omega), (hm f hf).1]
      have hb1 := bit_kin _ hmk x.1 (by omega)
      by_cases h2 : (mk f).testBit x.1 = true
      · rw [if_neg (by rw [hb1]; simp [h2])]
        have e2 : ps mk rd f c (A ++ x :: Q) = (f, nrm (rd f) c) :: (A ++ x :: Q) := by
          unfold ps
          rw [jn_app hA, jn_cons, if_neg h1, if_pos h2]
          rfl
        rw [e2]
        unfold bX12_joins_L65
        simp (disch := omega) only [ii_nneg, ii_nat, false_or, if_false]
        rw [if_neg (by omega), hfo, if_neg (by rw [ii_inj (by omega) (by omega)]; exact h1)]
        exact joins_end hn hm hf hc hN hr
      · rw [if_pos (by rw [hb1]; simpa using h2)]
        have e3 : ii Q.length + (-1 : Int32) = iz ((Q.length : Int) - 1) := by
          rw [ii_iz, kz_m1, iz_add]
          rfl
        have h2' : (mk f).testBit x.1 = false := by simpa using h2
        have h5 := ih (A ++ [x]) t (fun y hy => by
          rcases List.mem_append.mp hy with hy | hy
          · exact hA y hy
          · rw [List.mem_singleton.mp hy]
            exact ⟨h1, h2'⟩) (by simpa using hP) (by simpa using hN) (by simpa using hr) (by simp only [List.length_cons] at ht; omega)
        rw [e3]
        simpa using h5
/-- what a tie counts for -/
def sg (t : Nat) : Int := if t % 2 = 0 then 1 else -1
/-- joining a tie, in the reference -/
theorem joins_eq {F n : Nat} {mk rd : Nat → Nat} {ki kn : Nat → Int32} (hn : okN n mk rd) (hm : netM n mk rd ki kn) (hF : 97 ≤ F) {t : Nat} (ht : t < 2 * n) {fo co : Nat → Int32} {Q : List (Nat × Int)} (hP : okP n 100 Q) (hN : Q.length < 96) (hr : rP fo co Q) :
    isP 96 (ps mk rd (t / 2) (sg t) Q) (fX12_joins F 12 ki 12 kn 96 96 (ii t) (ii Q.length) fo co) := by
  have h6 := hn.1
  have e : ii Q.length - (1 : Int32) = iz ((Q.length : Int) - 1) := by
    rw [ii_iz, k_1, ii_iz, iz_sub]
    rfl
  have hev := tie_even t (by omega)
  unfold fX12_joins bX12_joins_L15
  rw [tie_half t (by omega)] at hev ⊢
  rw [e]
  by_cases h : t % 2 = 0
  · rw [if_pos (by simpa [h] using hev)]
    have hs : sg t = 1 := by unfold sg; rw [if_pos h]
    rw [hs]
    exact joins_L hn hm (by omega) (by omega) (by omega) Q [] F (fun x hx => absurd hx List.not_mem_nil) hP hN hr (by omega)
  · rw [if_neg (by simpa [h] using hev)]
    have hs : sg t = -1 := by unfold sg; rw [if_neg h]
    rw [hs]
    exact joins_L hn hm (by omega) (by omega) (by omega) Q [] F (fun x hx => absurd hx List.not_mem_nil) hP hN hr (by omega)
