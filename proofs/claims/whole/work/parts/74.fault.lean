/-! PURE: fault and shown of both sides -/
def fa (c : Nat → Bool) : Nat → Nat → Nat → Nat
  | 0, _, m => m
  | r + 1, k, m => fa c r (k + 1) (if c k = true then m ||| 2 ^ k else m)
theorem fa_t {c : Nat → Bool} {r k m : Nat} (h : c k = true) : fa c (r + 1) k m = fa c r (k + 1) (m ||| 2 ^ k) := by
  show fa c r (k + 1) (if c k = true then m ||| 2 ^ k else m) = _
  rw [if_pos h]
theorem fa_f {c : Nat → Bool} {r k m : Nat} (h : c k = false) : fa c (r + 1) k m = fa c r (k + 1) m := by
  show fa c r (k + 1) (if c k = true then m ||| 2 ^ k else m) = _
  rw [if_neg (by rw [h]; decide)]
def cF (mk rd : Nat → Nat) (L : List Nat) (k : Nat) : Bool := decide (k ∈ L.map (· / 2)) && decide ((psL mk rd [] (fil (fun g => !(g == k)) L)).length = 0)
theorem bit_out : ∀ f, f < 6 → ∀ g, g < 6 → (((((1 : Int32) <<< (ii f &&& 31)) ^^^ (-1 : Int32)) >>> (ii g &&& 31)) &&& (1 : Int32)) = if (!(g == f)) = true then 1 else 0 := by decide +kernel
theorem fil_congr {p q : Nat → Bool} {L : List Nat} (h : ∀ t ∈ L, p (t / 2) = q (t / 2)) : fil p L = fil q L := List.filter_congr h
theorem ob_in {L : List Nat} {g : Nat} : (ob 0 L).testBit g = decide (g ∈ L) := by
  rw [ob_bit, Nat.zero_testBit, Bool.false_or]
theorem okL_folk {n : Nat} {L : List Nat} (hL : okL n L) (hn : n ≤ 6) : ∀ f ∈ L.map (· / 2), f < 6 := by
  intro f hf
  obtain ⟨t, ht, rfl⟩ := List.mem_map.mp hf
  have := hL t ht
  show t / 2 < 6
  omega
theorem ov_0 {Q : List (Nat × Int)} (h : Q.length ≠ 0) : ov Q = 0 := by unfold ov; rw [if_neg h]
theorem ov_1 {Q : List (Nat × Int)} (h : Q.length = 0) : ov Q = 1 := by unfold ov; rw [if_pos h]
theorem fault_X_L {F n : Nat} {mk rd : Nat → Nat} {st ro : Nat → Int32} (hn : okN n mk rd) (hx : netX n mk rd st ro) (hF : 1000 ≤ F) {L : List Nat} {a : Nat → Int32} (hL : okL n L) (ha : rL a L) (h24 : L.length ≤ 24) :
    ∀ (t k m : Nat) (sz : Int32) (fo co : Nat → Int32), k ≤ n → n < k + t → m < 64 → ∃ z fo' co', fX11_fault_L15 F (ii n) 6 st 6 ro (ii L.length) 24 a 96 96 t (ii (ob 0 (L.map (· / 2)))) (ii m) (ii k) sz fo co = some (ii (fa (cF mk rd L) (n - k) k m), z, fo', co') := by
  intro t
  induction t with
  | zero => intro k m sz fo co h1 h2; omega
  | succ t ih =>
    intro k m sz fo co h1 h2 h3
    have h6 := hn.1
    have hob := ob_lt (m := 0) (by omega) (okL_folk hL h6)
    rw [sX11_fault_L15]
    unfold bX11_fault_L15 bX11_fault_L39 bX11_fault_L64
    have e1 : (ii n ≤ ii k) = (n ≤ k) := ii_le (by omega) (by omega)
    by_cases hk : n ≤ k
    · rw [if_pos (by rw [e1]; exact hk), show n - k = 0 by omega]
      exact ⟨_, _, _, rfl⟩
    · rw [if_neg (by rw [e1]; exact hk), show n - k = (n - (k + 1)) + 1 by omega]
      have hb := bit_kin _ hob k (by omega)
      rw [ob_in] at hb
      by_cases hin : k ∈ L.map (· / 2)
      · rw [if_neg (by rw [hb]; simp [hin]), if_neg (by decide)]
        have hbt : btO n (((1 : Int32) <<< (ii k &&& 31)) ^^^ (-1 : Int32)) (fun g => !(g == k)) := by
          intro g hg
          rw [bit_out k (by omega) g (by omega)]
        obtain ⟨z, fo', co', e2⟩ := outOf_X hn hx hF hL ha h24 hbt sz fo co
        rw [e2]
        simp only [Option.bind_some]
        by_cases hq : (psL mk rd [] (fil (fun g => !(g == k)) L)).length = 0
        · rw [ov_1 hq, if_neg (by decide), step1 h3 (by omega), k_1, ii_add, fa_t (by unfold cF; simp [hin, hq])]
          exact ih (k + 1) _ _ _ _ (by omega) (by omega) (or_lt64 m h3 k (by omega))
        · rw [ov_0 hq, if_pos rfl, k_1, ii_add, fa_f (by unfold cF; simp [hq])]
          exact ih (k + 1) _ _ _ _ (by omega) (by omega) h3
      · rw [if_pos (by rw [hb]; simp [hin]), if_pos rfl, k_1, ii_add, fa_f (by unfold cF; simp only [hin, decide_false, Bool.false_and])]
        exact ih (k + 1) _ _ _ _ (by omega) (by omega) h3
theorem fault_X {F n : Nat} {mk rd : Nat → Nat} {st ro : Nat → Int32} (hn : okN n mk rd) (hx : netX n mk rd st ro) (hF : 1000 ≤ F) {L : List Nat} {a : Nat → Int32} (hL : okL n L) (ha : rL a L) (h24 : L.length ≤ 24) (sz : Int32) (fo co : Nat → Int32) :
    ∃ z fo' co', fX11_fault F (ii n) 6 st 6 ro (ii L.length) 24 a 96 96 sz fo co = some (ii (fa (cF mk rd L) n 0 0), z, fo', co') := by
  have h6 := hn.1
  unfold fX11_fault
  rw [folkBits7_eq h6 hL ha h24 (by omega) (by omega)]
  simp only [Option.bind_some]
  exact fault_X_L hn hx hF hL ha h24 F 0 0 sz fo co (by omega) (by omega) (by omega)
theorem fault_M_L {F n : Nat} {mk rd : Nat → Nat} {ki kn nt : Nat → Int32} (hn : okN n mk rd) (hm : netM n mk rd ki kn) (hnt : nt 0 = ii n) (hF : 1000 ≤ F) {L : List Nat} {s : Nat → Int32} (hL : okL n L) (hs : rS s L) (h24 : L.length ≤ 24) :
    ∀ (t k m : Nat) (th sz : Int32) (fo co : Nat → Int32), k ≤ n → n < k + t → m < 64 → ∃ z fo' co', fX12_fault_L14 F 8 nt 12 ki 12 kn 25 s 96 96 t (ii (ob 0 (L.map (· / 2)))) (ii m) (ii k) th sz fo co = some (ii (fa (cF mk rd L) (n - k) k m), th, z, fo', co') := by
  intro t
  induction t with
  | zero => intro k m th sz fo co h1 h2; omega
  | succ t ih =>
    intro k m th sz fo co h1 h2 h3
    have h6 := hn.1
    have hob := ob_lt (m := 0) (by omega) (okL_folk hL h6)
    rw [sX12_fault_L14]
    unfold bX12_fault_L14 bX12_fault_L54 bX12_fault_L55
    have e0 : nt ((0 : Int32).toNatClampNeg) = ii n := hnt
    rw [if_neg (by decide), e0]
    have e1 : (ii n ≤ ii k) = (n ≤ k) := ii_le (by omega) (by omega)
    have em : ii m ||| (0 : Int32) = ii m := by
      have := (ii_or m h3 0 (by omega)).1
      rw [Nat.or_zero] at this
      exact this
    by_cases hk : n ≤ k
    · rw [if_pos (by rw [e1]; exact hk), show n - k = 0 by omega]
      exact ⟨_, _, _, rfl⟩
    · rw [if_neg (by rw [e1]; exact hk), show n - k = (n - (k + 1)) + 1 by omega]
      have hb : ((ii (ob 0 (L.map (· / 2))) >>> (ii k &&& 31)) &&& (1 : Int32) = 1) = (k ∈ L.map (· / 2)) := by
        rw [bit_m _ hob k (by omega), ob_in]
        by_cases hin : k ∈ L.map (· / 2) <;> simp only [hin, decide_true, decide_false, if_true] <;> simp
      by_cases hin : k ∈ L.map (· / 2)
      · rw [if_pos (by rw [hb]; exact hin)]
        have hbt : btO n (ii (ob 0 (L.map (· / 2))) &&& (((1 : Int32) <<< (ii k &&& 31)) ^^^ (-1 : Int32))) (fun g => (ob 0 (L.map (· / 2))).testBit g && !(g == k)) := by
          intro g hg
          rw [bit_but _ hob k (by omega) g (by omega)]
        obtain ⟨z, fo', co', e2⟩ := outOf_M hn hm hF hL hs h24 hbt sz fo co
        have e3 : fil (fun g => (ob 0 (L.map (· / 2))).testBit g && !(g == k)) L = fil (fun g => !(g == k)) L := fil_congr (fun t ht => by
          show ((ob 0 (L.map (· / 2))).testBit (t / 2) && !(t / 2 == k)) = !(t / 2 == k)
          rw [ob_in, decide_eq_true (List.mem_map.mpr ⟨t, ht, rfl⟩), Bool.true_and])
        rw [e3] at e2
        rw [e2]
        simp only [Option.bind_some]
        by_cases hq : (psL mk rd [] (fil (fun g => !(g == k)) L)).length = 0
        · rw [ov_1 hq, if_neg (by decide), step1 h3 (by omega), k_1, ii_add, fa_t (by unfold cF; simp [hin, hq])]
          exact ih (k + 1) _ _ _ _ _ (by omega) (by omega) (or_lt64 m h3 k (by omega))
        · rw [ov_0 hq, if_pos rfl, em, k_1, ii_add, fa_f (by unfold cF; simp [hq])]
          exact ih (k + 1) _ _ _ _ _ (by omega) (by omega) h3
      · rw [if_neg (by rw [hb]; exact hin), em, k_1, ii_add, fa_f (by unfold cF; simp only [hin, decide_false, Bool.false_and])]
        exact ih (k + 1) _ _ _ _ _ (by omega) (by omega) h3
theorem fault_M {F n : Nat} {mk rd : Nat → Nat} {ki kn nt : Nat → Int32} (hn : okN n mk rd) (hm : netM n mk rd ki kn) (hnt : nt 0 = ii n) (hF : 1000 ≤ F) {L : List Nat} {s : Nat → Int32} (hL : okL n L) (hs : rS s L) (h24 : L.length ≤ 24) (th sz : Int32) (fo co : Nat → Int32) :
    ∃ z fo' co', fX12_fault F 8 nt 12 ki 12 kn 25 s 96 96 th sz fo co = some (ii (fa (cF mk rd L) n 0 0), 0, z, fo', co') := by
  have h6 := hn.1
  unfold fX12_fault
  rw [folkInLine_eq h6 hL hs h24 (by omega)]
  simp only [Option.bind_some]
  exact fault_M_L hn hm hnt hF hL hs h24 F 0 0 0 sz fo co (by omega) (by omega) (by omega)
/-- the first pair of kin that stays -/
def sj (c : Nat → Nat → Bool) (i : Nat) (e : Int32) : Nat → Nat → Int32
  | 0, _ => e
  | r + 1, j => if c i j = true then ii (6 * i + j) else sj c i e r (j + 1)
def si (c : Nat → Nat → Bool) (n : Nat) : Nat → Nat → Int32
  | 0, _ => -1
  | r + 1, i => sj c i (si c n r (i + 1)) (n - i) i
def cS (mk rd : Nat → Nat) (L : List Nat) (i j : Nat) : Bool := ((mk i).testBit j || decide (j = i)) && !(decide ((psL mk rd [] (fil (fun g => g == i || g == j) L)).length = 0))
theorem sj_t {c : Nat → Nat → Bool} {i j r : Nat} {e : Int32} (h : c i j = true) : sj c i e (r + 1) j = ii (6 * i + j) := if_pos h
theorem sj_f {c : Nat → Nat → Bool} {i j r : Nat} {e : Int32} (h : c i j = false) : sj c i e (r + 1) j = sj c i e r (j + 1) := if_neg (by rw [h]; decide)
theorem shown_X_J {F n : Nat} {mk rd : Nat → Nat} {st ro : Nat → Int32} (hn : okN n mk rd) (hx : netX n mk rd st ro) (hF : 1000 ≤ F) {L : List Nat} {a : Nat → Int32} (hL : okL n L) (ha : rL a L) (h24 : L.length ≤ 24) {i : Nat} (hi : i < n) {e : Int32} (k2 : Int32 → Int32 → (Nat → Int32) → (Nat → Int32) → Option (Int32 × Int32 × (Nat → Int32) × (Nat → Int32))) (hk2 : ∀ sz fo co, ∃ z fo' co', k2 (ii (i + 1)) sz fo co = some (e, z, fo', co')) :
    ∀ (t j : Nat) (sz : Int32) (fo co : Nat → Int32), j ≤ n → n < j + t → ∃ z fo' co', fX11_shown_L15 F (ii n) 6 st 6 ro (ii L.length) 24 a 96 96 k2 t (ii i) (ii j) sz fo co = some (sj (cS mk rd L) i e (n - j) j, z, fo', co') := by
  intro t
  induction t with
  | zero => intro j sz fo co h1 h2; omega
  | succ t ih =>
    intro j sz fo co h1 h2
    have h6 := hn.1
    have hmk := (hn.2.1 i hi).1
    rw [sX11_shown_L15]
    unfold bX11_shown_L15 bX11_shown_L63
    simp (disch := omega) only [ii_le, ii_nneg, ii_nat, false_or]
    by_cases hj : n ≤ j
    · rw [if_pos hj, show n - j = 0 by omega, k_1, ii_add]
      exact hk2 sz fo co
    · rw [if_neg hj, if_neg (by omega), (hx i hi).1, show n - j = (n - (j + 1)) + 1 by omega]
      have hb := bit_kin _ (or_lt64 _ hmk i (by omega)) j (by omega)
      rw [bit_stop _ hmk i (by omega) j (by omega)] at hb
      by_cases hk : ((mk i).testBit j || decide (j = i)) = false
      · rw [if_pos (by rw [hb]; exact hk), k_1, ii_add, sj_f (by unfold cS; rw [hk]; rfl)]
        exact ih (j + 1) sz fo co (by omega) (by omega)
      · rw [if_neg (by rw [hb]; exact hk)]
        have hk' : ((mk i).testBit j || decide (j = i)) = true := by
          cases h0 : ((mk i).testBit j || decide (j = i)) with
          | true => rfl
          | false => exact absurd h0 hk
        have hbt : btO n (((1 : Int32) <<< (ii i &&& 31)) ||| ((1 : Int32) <<< (ii j &&& 31))) (fun g => g == i || g == j) := by
          intro g hg
          rw [bit_two i (by omega) j (by omega) g (by omega)]
        obtain ⟨z, fo', co', e2⟩ := outOf_X hn hx hF hL ha h24 hbt sz fo co
        rw [e2]
        simp only [Option.bind_some]
        by_cases hq : (psL mk rd [] (fil (fun g => g == i || g == j) L)).length = 0
        · rw [ov_1 hq, if_neg (by decide), k_1, ii_add, sj_f (by unfold cS; rw [hk', decide_eq_true hq]; rfl)]
          exact ih (j + 1) _ _ _ (by omega) (by omega)
        · rw [ov_0 hq, if_pos rfl, sj_t (by unfold cS; rw [hk', decide_eq_false hq]; rfl), k_6, ii_mul, ii_add, Nat.mul_comm]
          exact ⟨_, _, _, rfl⟩
theorem shown_X_I {F n : Nat} {mk rd : Nat → Nat} {st ro : Nat → Int32} (hn : okN n mk rd) (hx : netX n mk rd st ro) (hF : 1000 ≤ F) {L : List Nat} {a : Nat → Int32} (hL : okL n L) (ha : rL a L) (h24 : L.length ≤ 24) :
    ∀ (t i : Nat) (sz : Int32) (fo co : Nat → Int32), i ≤ n → n < i + t → ∃ z fo' co', fX11_shown_L2 F (ii n) 6 st 6 ro (ii L.length) 24 a 96 96 t (ii i) sz fo co = some (si (cS mk rd L) n (n - i) i, z, fo', co') := by
  intro t
  induction t with
  | zero => intro j sz fo co h1 h2; omega
  | succ t ih =>
    intro i sz fo co h1 h2
    have h6 := hn.1
    rw [sX11_shown_L2]
    unfold bX11_shown_L2
    have e1 : (ii n ≤ ii i) = (n ≤ i) := ii_le (by omega) (by omega)
    by_cases hi : n ≤ i
    · rw [if_pos (by rw [e1]; exact hi), show n - i = 0 by omega]
      exact ⟨_, _, _, rfl⟩
    · rw [if_neg (by rw [e1]; exact hi)]
      have h5 := shown_X_J hn hx hF hL ha h24 (i := i) (by omega) (e := si (cS mk rd L) n (n - (i + 1)) (i + 1)) (fX11_shown_L2 F (ii n) 6 st 6 ro (ii L.length) 24 a 96 96 t) (fun sz fo co => ih (i + 1) sz fo co (by omega) (by omega)) F i sz fo co (by omega) (by omega)
      rw [show si (cS mk rd L) n (n - i) i = sj (cS mk rd L) i (si (cS mk rd L) n (n - (i + 1)) (i + 1)) (n - i) i by
        rw [show n - i = (n - (i + 1)) + 1 by omega]
        show sj (cS mk rd L) i (si (cS mk rd L) n (n - (i + 1)) (i + 1)) (n - i) i = _
        rw [show n - i = (n - (i + 1)) + 1 by omega]]
      exact h5
theorem shown_X {F n : Nat} {mk rd : Nat → Nat} {st ro : Nat → Int32} (hn : okN n mk rd) (hx : netX n mk rd st ro) (hF : 1000 ≤ F) {L : List Nat} {a : Nat → Int32} (hL : okL n L) (ha : rL a L) (h24 : L.length ≤ 24) (sz : Int32) (fo co : Nat → Int32) :
    ∃ z fo' co', fX11_shown F (ii n) 6 st 6 ro (ii L.length) 24 a 96 96 sz fo co = some (si (cS mk rd L) n n 0, z, fo', co') := by
  have h6 := hn.1
  unfold fX11_shown
  exact shown_X_I hn hx hF hL ha h24 F 0 sz fo co (by omega) (by omega)
theorem shown_M_J {F n : Nat} {mk rd : Nat → Nat} {ki kn nt : Nat → Int32} (hn : okN n mk rd) (hm : netM n mk rd ki kn) (hnt : nt 0 = ii n) (hF : 1000 ≤ F) {L : List Nat} {s : Nat → Int32} (hL : okL n L) (hs : rS s L) (h24 : L.length ≤ 24) {i : Nat} (hi : i < n) {e th : Int32} (k2 : Int32 → Int32 → Int32 → (Nat → Int32) → (Nat → Int32) → Option (Int32 × Int32 × Int32 × (Nat → Int32) × (Nat → Int32))) (hk2 : ∀ sz fo co, ∃ z fo' co', k2 (ii (i + 1)) th sz fo co = some (e, th, z, fo', co')) :
    ∀ (t j : Nat) (sz : Int32) (fo co : Nat → Int32), i ≤ j → j ≤ n → n < j + t → ∃ z fo' co', fX12_shown_L19 F 8 nt 12 ki 12 kn 25 s 96 96 k2 t (ii i) (ii j) th sz fo co = some (sj (cS mk rd L) i e (n - j) j, th, z, fo', co') := by
  intro t
  induction t with
  | zero => intro j sz fo co h0 h1 h2; omega
  | succ t ih =>
    intro j sz fo co h0 h1 h2
    have h6 := hn.1
    have hmk := (hn.2.1 i hi).1
    rw [sX12_shown_L19]
    unfold bX12_shown_L19 bX12_shown_L48 bX12_shown_L69
    have e0 : nt ((0 : Int32).toNatClampNeg) = ii n := hnt
    rw [if_neg (by decide), e0]
    simp (disch := omega) only [ii_le, ii_inj, ii_nneg, ii_nat, false_or]
    by_cases hj : n ≤ j
    · rw [if_pos hj, show n - j = 0 by omega, k_1, ii_add]
      exact hk2 sz fo co
    · rw [if_neg hj, show n - j = (n - (j + 1)) + 1 by omega]
      have hb : ((ii (mk i) >>> (ii j &&& 31)) &&& (1 : Int32) = 1) = ((mk i).testBit j = true) := by
        rw [bit_m _ hmk j (by omega)]
        cases (mk i).testBit j <;> simp
      have hbt : btO n (((1 : Int32) <<< (ii i &&& 31)) ||| ((1 : Int32) <<< (ii j &&& 31))) (fun g => g == i || g == j) := by
        intro g hg
        rw [bit_two i (by omega) j (by omega) g (by omega)]
      obtain ⟨z, fo', co', e2⟩ := outOf_M hn hm hF hL hs h24 hbt sz fo co
      have look : ((mk i).testBit j || decide (j = i)) = true → ∃ z fo' co', (fX12_comesOutOf F 12 ki 12 kn 25 s 96 96 (((1 : Int32) <<< (ii i &&& 31)) ||| ((1 : Int32) <<< (ii j &&& 31))) sz fo co).bind (fun R56 => if R56.1 = 0 then some (((6 : Int32) * ii i) + ii j, th, R56.2.1, R56.2.2.1, R56.2.2.2) else fX12_shown_L19 F 8 nt 12 ki 12 kn 25 s 96 96 k2 t (ii i) (ii j + (1 : Int32)) th R56.2.1 R56.2.2.1 R56.2.2.2) = some (sj (cS mk rd L) i e (n - (j + 1) + 1) j, th, z, fo', co') := by
        intro hk'
        rw [e2]
        simp only [Option.bind_some]
        by_cases hq : (psL mk rd [] (fil (fun g => g == i || g == j) L)).length = 0
        · rw [ov_1 hq, if_neg (by decide), k_1, ii_add, sj_f (by unfold cS; rw [hk', decide_eq_true hq]; rfl)]
          exact ih (j + 1) _ _ _ (by omega) (by omega) (by omega)
        · rw [ov_0 hq, if_pos rfl, sj_t (by unfold cS; rw [hk', decide_eq_false hq]; rfl), k_6, ii_mul, ii_add]
          exact ⟨_, _, _, rfl⟩
      by_cases hij : i = j
      · rw [if_pos hij]
        exact look (by rw [decide_eq_true hij.symm, Bool.or_true])
      · rw [if_neg hij, if_neg (by omega), (hm i hi).1]
        by_cases hk : (mk i).testBit j = true
        · rw [if_pos (by rw [hb]; exact hk)]
          exact look (by rw [hk, Bool.true_or])
        · rw [if_neg (by rw [hb]; exact hk), k_1, ii_add, sj_f (by
            unfold cS
            have h8 : (mk i).testBit j = false := by simpa using hk
            rw [h8, decide_eq_false (fun h => hij h.symm)]
            rfl)]
          exact ih (j + 1) sz fo co (by omega) (by omega) (by omega)
theorem shown_M_I {F n : Nat} {mk rd : Nat → Nat} {ki kn nt : Nat → Int32} (hn : okN n mk rd) (hm : netM n mk rd ki kn) (hnt : nt 0 = ii n) (hF : 1000 ≤ F) {L : List Nat} {s : Nat → Int32} (hL : okL n L) (hs : rS s L) (h24 : L.length ≤ 24) {th : Int32} :
    ∀ (t i : Nat) (sz : Int32) (fo co : Nat → Int32), i ≤ n → n < i + t → ∃ z fo' co', fX12_shown_L7 F 8 nt 12 ki 12 kn 25 s 96 96 t (ii i) th sz fo co = some (si (cS mk rd L) n (n - i) i, th, z, fo', co') := by
  intro t
  induction t with
  | zero => intro j sz fo co h1 h2; omega
  | succ t ih =>
    intro i sz fo co h1 h2
    have h6 := hn.1
    rw [sX12_shown_L7]
    unfold bX12_shown_L7
    have e0 : nt ((0 : Int32).toNatClampNeg) = ii n := hnt
    rw [if_neg (by decide), e0]
    have e1 : (ii n ≤ ii i) = (n ≤ i) := ii_le (by omega) (by omega)
    by_cases hi : n ≤ i
    · rw [if_pos (by rw [e1]; exact hi), show n - i = 0 by omega]
      exact ⟨_, _, _, rfl⟩
    · rw [if_neg (by rw [e1]; exact hi)]
      have h5 := shown_M_J hn hm hnt hF hL hs h24 (i := i) (by omega) (e := si (cS mk rd L) n (n - (i + 1)) (i + 1)) (th := th) (fX12_shown_L7 F 8 nt 12 ki 12 kn 25 s 96 96 t) (fun sz fo co => ih (i + 1) sz fo co (by omega) (by omega)) F i sz fo co (by omega) (by omega) (by omega)
      rw [show si (cS mk rd L) n (n - i) i = sj (cS mk rd L) i (si (cS mk rd L) n (n - (i + 1)) (i + 1)) (n - i) i by
        rw [show n - i = (n - (i + 1)) + 1 by omega]
        show sj (cS mk rd L) i (si (cS mk rd L) n (n - (i + 1)) (i + 1)) (n - i) i = _
        rw [show n - i = (n - (i + 1)) + 1 by omega]]
      exact h5
theorem shown_M {F n : Nat} {mk rd : Nat → Nat} {ki kn nt : Nat → Int32} (hn : okN n mk rd) (hm : netM n mk rd ki kn) (hnt : nt 0 = ii n) (hF : 1000 ≤ F) {L : List Nat} {s : Nat → Int32} (hL : okL n L) (hs : rS s L) (h24 : L.length ≤ 24) (th sz : Int32) (fo co : Nat → Int32) :
    ∃ z fo' co', fX12_shown F 8 nt 12 ki 12 kn 25 s 96 96 th sz fo co = some (si (cS mk rd L) n n 0, 0, z, fo', co') := by
  have h6 := hn.1
  unfold fX12_shown
  exact shown_M_I hn hm hnt hF hL hs h24 F 0 sz fo co (by omega) (by omega)
