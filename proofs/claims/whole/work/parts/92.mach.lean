/-! PURE: the class's machine: postfix codes (told by the reference's numbers), values top first -/
def jV (c : Nat) (a b : Int32) : Int32 := if c = 20 then a + b else if c = 21 then a - b else if c = 22 then a * b else if c = 24 then (if a < b then 1 else 0) else if c = 25 then (if a = b then 1 else 0) else if c = 26 then (if a = 0 then 0 else if b = 0 then 0 else 1) else (if a = 0 then (if b = 0 then 0 else 1) else 1)
/-- the token of the class -/
def tkN (c : Nat) : Nat := if c ≤ 4 then 15 + c else if c = 20 then 43 else if c = 21 then 45 else if c = 22 then 42 else if c = 24 then 60 else if c = 25 then 61 else if c = 26 then 14 else if c = 27 then 15 else 13
/-- how the class keeps it -/
def pcI (c : Nat) : Int32 := if 100 ≤ c then ii (c - 100) else -(ii (tkN c))
def isOp (c : Nat) : Prop := c = 20 ∨ c = 21 ∨ c = 22 ∨ c = 24 ∨ c = 25 ∨ c = 26 ∨ c = 27
def isVl (c : Nat) : Prop := (1 ≤ c ∧ c ≤ 4) ∨ (100 ≤ c ∧ c ≤ 10099)
def mc (x : Nat → Int32) (W : List Int32) (c : Nat) : List Int32 := if c = 30 then (match W with
    | [] => []
    | y :: W => (if y = 0 then 1 else 0) :: W) else if 20 ≤ c ∧ c < 28 then (match W with
    | b :: a :: W => jV c a b :: W
    | _ => []) else vcV c x :: W
def mlg (x : Nat → Int32) : List Int32 → List Nat → Prop
  | _, [] => True
  | W, c :: D => ((c = 30 ∧ 1 ≤ W.length) ∨ (isOp c ∧ 2 ≤ W.length) ∨ (isVl c ∧ W.length ≤ 40)) ∧ mlg x (mc x W c) D
theorem mlg_snoc {x : Nat → Int32} {c : Nat} : ∀ {D : List Nat} {W : List Int32}, mlg x W D → ((c = 30 ∧ 1 ≤ (D.foldl (mc x) W).length) ∨ (isOp c ∧ 2 ≤ (D.foldl (mc x) W).length) ∨ (isVl c ∧ (D.foldl (mc x) W).length ≤ 40)) → mlg x W (D ++ [c])
  | [], _, _, h => ⟨h, trivial⟩
  | c9 :: D, W, hl, h => ⟨hl.1, mlg_snoc (D := D) (W := mc x W c9) hl.2 h⟩
def rW (a : Nat → Int32) : List Int32 → Prop
  | [] => True
  | y :: W => a W.length = y ∧ rW a W
theorem rW_congr {a b : Nat → Int32} : ∀ {W : List Int32}, (∀ j, j < W.length → b j = a j) → rW a W → rW b W
  | [], _, _ => trivial
  | y :: W, h, h2 => ⟨(h W.length (by simp)).trans h2.1, rW_congr (fun j hj => h j (by simp; omega)) h2.2⟩
theorem rW_push {a : Nat → Int32} {W : List Int32} {y : Int32} (h : rW a W) : rW (upd a W.length y) (y :: W) := ⟨upd_same _ _ _, rW_congr (fun j hj => upd_ne _ _ (by omega)) h⟩
theorem get_eq {F j : Nat} (hj : j < 64) (a : Nat → Int32) : fX1_get F 64 a (ii j) = some (a j) := by
  unfold fX1_get bX1_get_L20
  rw [if_neg (by rw [ii_nneg (by omega)]; exact id), if_neg (by
    rw [show (64 : Int32) = ii 64 from rfl, ii_le (by omega) (by omega)]
    omega), if_neg (nidx (by omega) (by omega)), ii_nat (by omega)]
theorem set_eq {F j : Nat} (hj : j < 64) (a : Nat → Int32) (y : Int32) : fX1_set F 64 (ii j) y a = some (upd a j y) := by
  unfold fX1_set bX1_set_L17
  rw [if_neg (by rw [ii_nneg (by omega)]; exact id), if_neg (by
    rw [show (64 : Int32) = ii 64 from rfl, ii_le (by omega) (by omega)]
    omega), if_neg (nidx (by omega) (by omega)), ii_nat (by omega)]
theorem pc_op : ∀ c, c < 28 → (c = 20 ∨ c = 21 ∨ c = 22 ∨ c = 24 ∨ c = 25 ∨ c = 26 ∨ c = 27) → pcI c ≠ -13 ∧ -(pcI c) = ii (tkN c) := by decide +kernel
theorem pc_fact : ∀ c, c < 5 → 1 ≤ c → pcI c ≠ -13 ∧ -(pcI c) = ii (15 + c) ∧ pcI c < 0 := by decide +kernel
theorem rankOf_op {F : Nat} : ∀ c, isOp c → ∃ r, fX1_rankOf F (ii (tkN c)) = some r ∧ ¬ r ≤ 0 := by
  intro c hc
  rcases hc with rfl | rfl | rfl | rfl | rfl | rfl | rfl
  · exact ⟨3, rfl, by decide⟩
  · exact ⟨3, rfl, by decide⟩
  · exact ⟨4, rfl, by decide⟩
  · exact ⟨2, rfl, by decide⟩
  · exact ⟨2, rfl, by decide⟩
  · exact ⟨1, rfl, by decide⟩
  · exact ⟨1, rfl, by decide⟩
theorem joined_eq {F : Nat} {c : Nat} (hc : isOp c) (a b : Int32) : fX1_joined F (ii (tkN c)) a b = some (jV c a b) := by
  rcases hc with rfl | rfl | rfl | rfl | rfl | rfl | rfl
  · rfl
  · rfl
  · rfl
  · show (if b ≤ a then some 0 else some 1) = some (if a < b then 1 else 0)
    by_cases h : a < b
    · rw [if_pos h, if_neg (Int32.not_le.mpr h)]
    · rw [if_neg h, if_pos (Int32.not_lt.mp h)]
  · show (if a = b then some 1 else some 0) = some (if a = b then 1 else 0)
    by_cases h : a = b
    · rw [if_pos h, if_pos h]
    · rw [if_neg h, if_neg h]
  · show (if a = 0 then some 0 else if b = 0 then some 0 else some 1) = some (if a = 0 then 0 else if b = 0 then 0 else 1)
    by_cases h : a = 0
    · rw [if_pos h, if_pos h]
    · rw [if_neg h, if_neg h]
      by_cases h2 : b = 0
      · rw [if_pos h2, if_pos h2]
      · rw [if_neg h2, if_neg h2]
  · show (if a = 0 then (if b = 0 then some 0 else some 1) else some 1) = some (if a = 0 then (if b = 0 then 0 else 1) else 1)
    by_cases h : a = 0
    · rw [if_pos h, if_pos h]
      by_cases h2 : b = 0
      · rw [if_pos h2, if_pos h2]
      · rw [if_neg h2, if_neg h2]
    · rw [if_neg h, if_neg h]
theorem rank_vl {F : Nat} {c : Nat} (hc : 100 ≤ c) (hc2 : c ≤ 10099) : fX1_rankOf F (-(pcI c)) = some 0 ∧ pcI c ≠ -13 ∧ ¬ pcI c < 0 := by
  have e : pcI c = ii (c - 100) := by unfold pcI; rw [if_pos hc]
  have e2 : -(pcI c) = iz (-((c - 100 : Nat) : Int)) := by rw [e, ii_iz, iz_neg]
  have N : ∀ j : Nat, 1 ≤ j → j < 100 → ¬ -(pcI c) = ii j := by
    intro j h1 h2 h
    rw [e2, ii_iz, iz_inj (by omega) (by omega) (by omega) (by omega)] at h
    omega
  refine ⟨?_, ?_, ?_⟩
  · unfold fX1_rankOf
    rw [if_neg (show ¬ -(pcI c) = (14 : Int32) from N 14 (by omega) (by omega)), if_neg (show ¬ -(pcI c) = (15 : Int32) from N 15 (by omega) (by omega)), if_neg (show ¬ -(pcI c) = (42 : Int32) from N 42 (by omega) (by omega)), if_neg (show ¬ -(pcI c) = (43 : Int32) from N 43 (by omega) (by omega)), if_neg (show ¬ -(pcI c) = (45 : Int32) from N 45 (by omega) (by omega)), if_neg (show ¬ -(pcI c) = (60 : Int32) from N 60 (by omega) (by omega)), if_neg (show ¬ -(pcI c) = (61 : Int32) from N 61 (by omega) (by omega))]
  · intro h
    apply N 13 (by omega) (by omega)
    rw [h]
    rfl
  · rw [e, ii_nneg (by omega)]
    exact id
theorem rank_fact {F : Nat} : ∀ c, 1 ≤ c → c ≤ 4 → fX1_rankOf F (ii (15 + c)) = some 0 := by
  intro c h1 h2
  have : c = 1 ∨ c = 2 ∨ c = 3 ∨ c = 4 := by omega
  rcases this with rfl | rfl | rfl | rfl <;> rfl
def vx4 (a b c d : Int32) : Nat → Int32 := fun j => if j = 1 then a else if j = 2 then b else if j = 3 then c else if j = 4 then d else 0
theorem fact_eq {F : Nat} (a b e d : Int32) : ∀ c, 1 ≤ c → c ≤ 4 → fX1_fact F (ii (15 + c)) a b e d = some (vcV c (vx4 a b e d)) := by
  intro c h1 h2
  have : c = 1 ∨ c = 2 ∨ c = 3 ∨ c = 4 := by omega
  rcases this with rfl | rfl | rfl | rfl <;> rfl
theorem worth_L {F : Nat} {sz : Nat} (hsz : sz ≤ 1000) {co : Nat → Int32} {a b c d : Int32} {y : Int32} :
    ∀ (D : List Nat) (t k : Nat) (W : List Int32) (sk : Nat → Int32), (∀ j, j < D.length → co (k + j) = pcI (D.getD j 0)) → k + D.length = sz → D.length < t → W.length ≤ 41 → mlg (vx4 a b c d) W D → rW sk W → D.foldl (mc (vx4 a b c d)) W = [y] → ∃ sk', fX1_worth_L6 F (ii sz) 1000 co 64 t a b c d (ii W.length) (ii k) sk = some (y, sk') := by
  intro D
  induction D with
  | nil =>
    intro t k W sk hco hk ht h41 hm hr hend
    obtain ⟨t, rfl⟩ : ∃ t', t = t' + 1 := ⟨t - 1, by simp at ht; omega⟩
    have hW : W = [y] := hend
    subst hW
    simp at hk
    subst hk
    rw [sX1_worth_L6]
    unfold bX1_worth_L6
    rw [if_pos (by rw [ii_le (by omega) (by omega)]; omega), k_0, get_eq (by omega)]
    refine ⟨sk, ?_⟩
    simp only [Option.bind_some]
    rw [show sk 0 = y from hr.1]
  | cons c9 D ih =>
    intro t k W sk hco hk ht h41 hm hr hend
    obtain ⟨t, rfl⟩ : ∃ t', t = t' + 1 := ⟨t - 1, by simp at ht; omega⟩
    simp only [List.length_cons] at hk ht
    have hc : co k = pcI c9 := by
      have := hco 0 (by simp)
      simpa using this
    have hco2 : ∀ j, j < D.length → co (k + 1 + j) = pcI (D.getD j 0) := by
      intro j hj
      have := hco (j + 1) (by simp; omega)
      rw [show k + 1 + j = k + (j + 1) from by omega, this]
      rfl
    obtain ⟨hm1, hm2⟩ := hm
    have hend2 : D.foldl (mc (vx4 a b c d)) (mc (vx4 a b c d) W c9) = [y] := hend
    rw [sX1_worth_L6]
    unfold bX1_worth_L6 bX1_worth_L52 bX1_worth_L125 bX1_worth_L131
    rw [if_neg (by rw [ii_le (by omega) (by omega)]; omega), if_neg (nidx (by omega) (by omega)), ii_nat (show k < 2147483648 by omega), hc]
    rcases hm1 with ⟨h30, hl⟩ | ⟨hop, hl⟩ | ⟨hv, hl⟩
    · subst h30
      rw [if_pos (by decide)]
      cases W with
      | nil => exact absurd hl (by decide)
      | cons z W =>
        have hmc : mc (vx4 a b c d) (z :: W) 30 = (if z = 0 then 1 else 0) :: W := rfl
        rw [hmc] at hm2 hend2
        simp only [List.length_cons] at h41
        have e1 : ii (z :: W).length - (1 : Int32) = ii W.length := by
          rw [k_1, ii_sub (by simp)]
          simp
        rw [e1, get_eq (by omega), hr.1]
        simp only [Option.bind_some]
        rw [set_eq (by omega), set_eq (by omega)]
        simp only [Option.bind_some]
        rw [k_1, ii_add]
        have hrr : ∀ q, rW (upd sk W.length q) (q :: W) := fun q => rW_push hr.2
        by_cases hz : z = 0
        · rw [if_pos hz]
          rw [if_pos hz] at hm2 hend2
          exact ih t (k + 1) (1 :: W) _ hco2 (by omega) (by omega) (by simp; omega) hm2 (hrr 1) hend2
        · rw [if_neg hz]
          rw [if_neg hz] at hm2 hend2
          exact ih t (k + 1) (0 :: W) _ hco2 (by omega) (by omega) (by simp; omega) hm2 (hrr 0) hend2
    · have hc28 : c9 < 28 := by
        unfold isOp at hop
        omega
      obtain ⟨n1, n2⟩ := pc_op c9 hc28 hop
      obtain ⟨r, hr1, hr2⟩ := rankOf_op (F := F) c9 hop
      rw [if_neg n1, n2, hr1]
      simp only [Option.bind_some]
      rw [if_neg hr2]
      cases W with
      | nil => exact absurd hl (by decide)
      | cons z W =>
        cases W with
        | nil => exact absurd hl (by simp)
        | cons u W =>
          have hmc : mc (vx4 a b c d) (z :: u :: W) c9 = jV c9 u z :: W := by
            unfold mc
            unfold isOp at hop
            rw [if_neg (by omega), if_pos (by omega)]
          rw [hmc] at hm2 hend2
          simp only [List.length_cons] at h41
          have e1 : ii (z :: u :: W).length + (-1 : Int32) = ii (u :: W).length := by
            rw [ii_m1 (by simp)]
            simp
          have e2 : ii (u :: W).length - (1 : Int32) = ii W.length := by
            rw [k_1, ii_sub (by simp)]
            simp
          rw [e1, e2, get_eq (by omega), get_eq (by simp; omega)]
          simp only [Option.bind_some]
          rw [hr.1, hr.2.1, joined_eq hop]
          simp only [Option.bind_some]
          rw [set_eq (by omega)]
          simp only [Option.bind_some]
          rw [k_1, ii_add]
          exact ih t (k + 1) (jV c9 u z :: W) _ hco2 (by omega) (by omega) (by simp; omega) hm2 (rW_push hr.2.2) hend2
    · have hmc : mc (vx4 a b c d) W c9 = vcV c9 (vx4 a b c d) :: W := by
        unfold mc
        unfold isVl at hv
        rw [if_neg (by omega), if_neg (by omega)]
      rw [hmc] at hm2 hend2
      rcases hv with ⟨h1, h2⟩ | ⟨h1, h2⟩
      · obtain ⟨n1, n2, n3⟩ := pc_fact c9 (by omega) h1
        rw [if_neg n1, n2, rank_fact c9 h1 h2]
        simp only [Option.bind_some]
        rw [if_pos (by decide), if_pos n3, fact_eq a b c d c9 h1 h2]
        simp only [Option.bind_some]
        rw [set_eq (by omega)]
        simp only [Option.bind_some]
        rw [k_1, ii_add, ii_add]
        exact ih t (k + 1) (vcV c9 (vx4 a b c d) :: W) _ hco2 (by omega) (by omega) (by simp; omega) hm2 (rW_push hr) hend2
      · obtain ⟨n1, n2, n3⟩ := rank_vl (F := F) h1 h2
        have e1 : pcI c9 = vcV c9 (vx4 a b c d) := by
          unfold pcI vcV
          rw [if_pos h1, if_pos h1]
        rw [if_neg n2, n1]
        simp only [Option.bind_some]
        rw [if_pos (by decide), if_neg n3, set_eq (by omega)]
        simp only [Option.bind_some]
        rw [k_1, ii_add, ii_add, e1]
        exact ih t (k + 1) (vcV c9 (vx4 a b c d) :: W) _ hco2 (by omega) (by omega) (by simp; omega) hm2 (rW_push hr) hend2
theorem worth_eq {F : Nat} (hF : 2000 ≤ F) {co sk : Nat → Int32} {a b c d y : Int32} {P : List Nat} (hP : P.length ≤ 1000) (hco : ∀ j, j < P.length → co j = pcI (P.getD j 0)) (hm : mlg (vx4 a b c d) [] P) (hend : P.foldl (mc (vx4 a b c d)) [] = [y]) : ∃ sk', fX1_worth F (ii P.length) 1000 co 64 a b c d sk = some (y, sk') := by
  unfold fX1_worth
  exact worth_L (F := F) hP P F 0 [] sk (fun j hj => by rw [Nat.zero_add]; exact hco j hj) (by omega) (by omega) (by simp) hm trivial hend
