/-! PURE: piles (top first), pushing onto them: class and reference -/
def nrm (m : Nat) (z : Int) : Int := if m = 0 then z else z % (m : Int)
/-- joined to the bundle that it meets -/
def jn (mk rd : Nat → Nat) (f : Nat) (c : Int) : List (Nat × Int) → Option (List (Nat × Int))
  | [] => none
  | x :: Q => if x.1 = f then some (if nrm (rd f) (x.2 + c) = 0 then Q else (f, nrm (rd f) (x.2 + c)) :: Q) else if (mk f).testBit x.1 = true then none else (jn mk rd f c Q).map (fun z => x :: z)
def ps (mk rd : Nat → Nat) (f : Nat) (c : Int) (Q : List (Nat × Int)) : List (Nat × Int) := (jn mk rd f c Q).getD ((f, nrm (rd f) c) :: Q)
/-- the arrays hold the pile: what lies above n others stands at n -/
def rP (fo co : Nat → Int32) : List (Nat × Int) → Prop
  | [] => True
  | x :: Q => (fo Q.length = ii x.1 ∧ co Q.length = iz x.2) ∧ rP fo co Q
/-- folk are few, counts small -/
def okP (n : Nat) (B : Int) (Q : List (Nat × Int)) : Prop := ∀ x ∈ Q, x.1 < n ∧ -B ≤ x.2 ∧ x.2 ≤ B
/-- a net's numbers -/
def okN (n : Nat) (mk rd : Nat → Nat) : Prop := n ≤ 6 ∧ (∀ f, f < n → mk f < 64 ∧ (rd f = 0 ∨ rd f = 2 ∨ rd f = 3 ∨ rd f = 4) ∧ (mk f).testBit f = false) ∧ ∀ f g, (mk f).testBit g = (mk g).testBit f
theorem rP_tail {fo co : Nat → Int32} : ∀ {A Q : List (Nat × Int)}, rP fo co (A ++ Q) → rP fo co Q
  | [], _, h => h
  | _ :: A, _, h => rP_tail (A := A) h.2
theorem rP_congr {fo co fo' co' : Nat → Int32} : ∀ {Q : List (Nat × Int)}, (∀ k, k < Q.length → fo' k = fo k ∧ co' k = co k) → rP fo co Q → rP fo' co' Q
  | [], _, _ => trivial
  | x :: Q, h, hr => by
    refine ⟨?_, rP_congr (fun k hk => h k (by simp; omega)) hr.2⟩
    have h1 := h Q.length (by simp)
    rw [h1.1, h1.2]
    exact hr.1
theorem rP_push {fo co : Nat → Int32} {Q : List (Nat × Int)} {f : Nat} {c : Int} (h : rP fo co Q) : rP (upd fo Q.length (ii f)) (upd co Q.length (iz c)) ((f, c) :: Q) := by
  refine ⟨⟨upd_same _ _ _, upd_same _ _ _⟩, rP_congr (fun k hk => ?_) h⟩
  rw [upd_ne _ _ (by omega), upd_ne _ _ (by omega)]
  exact ⟨rfl, rfl⟩
theorem rP_set {fo co : Nat → Int32} {x : Nat × Int} {Q : List (Nat × Int)} {d : Int} : ∀ {A : List (Nat × Int)}, rP fo co (A ++ x :: Q) → rP fo (upd co Q.length (iz d)) (A ++ (x.1, d) :: Q)
  | [], h => ⟨⟨h.1.1, upd_same _ _ _⟩, rP_congr (fun k hk => ⟨rfl, upd_ne _ _ (by omega)⟩) h.2⟩
  | y :: A, h => by
    refine ⟨⟨?_, ?_⟩, rP_set (A := A) h.2⟩
    · have h1 : fo (A ++ x :: Q).length = ii y.1 := h.1.1
      rw [List.length_append, List.length_cons] at h1
      show fo (A ++ (x.1, d) :: Q).length = ii y.1
      rw [List.length_append, List.length_cons]
      exact h1
    · have h1 : co (A ++ x :: Q).length = iz y.2 := h.1.2
      rw [List.length_append, List.length_cons] at h1
      show upd co Q.length (iz d) (A ++ (x.1, d) :: Q).length = iz y.2
      rw [List.length_append, List.length_cons, upd_ne _ _ (by omega)]
      exact h1
theorem rP_out {fo co : Nat → Int32} {x : Nat × Int} {Q : List (Nat × Int)} : ∀ {A : List (Nat × Int)} (m : Nat), (A ++ x :: Q).length ≤ m → rP fo co (A ++ x :: Q) → rP (shA fo Q.length m) (shA co Q.length m) (A ++ Q)
  | [], m, hm, h => by
    refine rP_congr (fun k hk => ?_) h.2
    unfold shA
    simp only [List.nil_append] at hk
    rw [if_neg (by omega), if_neg (by omega)]
    exact ⟨rfl, rfl⟩
  | y :: A, m, hm, h => by
    simp only [List.cons_append, List.length_cons, List.length_append] at hm
    refine ⟨?_, rP_out (A := A) m (by simp only [List.length_append, List.length_cons]; omega) h.2⟩
    have h1 : fo (A ++ x :: Q).length = ii y.1 ∧ co (A ++ x :: Q).length = iz y.2 := h.1
    rw [List.length_append, List.length_cons] at h1
    show shA fo Q.length m (A ++ Q).length = ii y.1 ∧ shA co Q.length m (A ++ Q).length = iz y.2
    rw [List.length_append]
    unfold shA
    rw [if_pos (by omega), if_pos (by omega)]
    exact h1
theorem jn_cons (mk rd : Nat → Nat) (f : Nat) (c : Int) (x : Nat × Int) (Q : List (Nat × Int)) : jn mk rd f c (x :: Q) = if x.1 = f then some (if nrm (rd f) (x.2 + c) = 0 then Q else (f, nrm (rd f) (x.2 + c)) :: Q) else if (mk f).testBit x.1 = true then none else (jn mk rd f c Q).map (fun z => x :: z) := rfl
theorem jn_app {mk rd : Nat → Nat} {f : Nat} {c : Int} : ∀ {A Q : List (Nat × Int)}, (∀ x ∈ A, x.1 ≠ f ∧ (mk f).testBit x.1 = false) → jn mk rd f c (A ++ Q) = (jn mk rd f c Q).map (fun z => A ++ z)
  | [], Q, _ => by
    show jn mk rd f c Q = (jn mk rd f c Q).map (fun z => z)
    simp
  | x :: A, Q, h => by
    have h1 := h x List.mem_cons_self
    have h2 := jn_app (mk := mk) (rd := rd) (c := c) (A := A) (Q := Q) (fun y hy => h y (List.mem_cons_of_mem _ hy))
    show jn mk rd f c (x :: (A ++ Q)) = _
    rw [jn_cons, if_neg h1.1, if_neg (by rw [h1.2]; decide), h2]
    cases jn mk rd f c Q <;> rfl
theorem fmod_eq {F m : Nat} {z : Int} (h1 : -200 ≤ z) (h2 : z ≤ 200) (hm : m = 2 ∨ m = 3 ∨ m = 4) : fJ9_floorMod_7cf53 F (iz z) (ii m) = some (iz (z % (m : Int))) := by
  have h := fm_ok (z + 200).toNat (by omega) m (by omega) (by omega)
  rw [show (((z + 200).toNat : Nat) : Int) - 200 = z by omega] at h
  have e1 : (ii m = 0) = False := by
    have h3 : (ii m = ii 0) = (m = 0) := ii_inj (by omega) (by omega)
    exact h3.trans (by simp; omega)
  unfold fJ9_floorMod_7cf53 bJ9_floorMod_7cf53_L18
  rw [if_neg (by rw [e1]; simp), ← h]
  unfold fmE
  split
  · rfl
  · split <;> rfl
theorem nrm_bound {m : Nat} {z B : Int} (hm : m = 0 ∨ m = 2 ∨ m = 3 ∨ m = 4) (hB : 4 ≤ B) (h1 : -B ≤ z) (h2 : z ≤ B) : -B ≤ nrm m z ∧ nrm m z ≤ B := by
  unfold nrm
  rcases hm with rfl | rfl | rfl | rfl
  · simp; omega
  · simp; omega
  · simp; omega
  · simp; omega
theorem jn_len {mk rd : Nat → Nat} {f : Nat} {c : Int} : ∀ {Q P : List (Nat × Int)}, jn mk rd f c Q = some P → P.length ≤ Q.length
  | [], P, h => by cases h
  | x :: Q, P, h => by
    rw [jn_cons] at h
    by_cases h1 : x.1 = f
    · rw [if_pos h1] at h
      have h2 := Option.some.inj h
      subst h2
      split <;> simp
    · rw [if_neg h1] at h
      by_cases h3 : (mk f).testBit x.1 = true
      · rw [if_pos h3] at h; cases h
      · rw [if_neg h3] at h
        obtain ⟨z, hz, rfl⟩ := Option.map_eq_some_iff.mp h
        have := jn_len hz
        simp only [List.length_cons]
        omega
theorem ps_len {mk rd : Nat → Nat} {f : Nat} {c : Int} {Q : List (Nat × Int)} : (ps mk rd f c Q).length ≤ Q.length + 1 := by
  unfold ps
  cases h : jn mk rd f c Q with
  | none => simp
  | some P =>
    have := jn_len h
    simp only [Option.getD_some]
    omega
theorem pile_out_L {F N len : Nat} (hN : len ≤ N) (hb : N < 1000000) : ∀ (n p : Nat) (fo co : Nat → Int32), len ≤ p + n → p < len → fX5_takeOut_L2 F N N n (ii p) (ii len) fo co = some (ii (len - 1), shA fo p len, shA co p len) := by
  intro n
  induction n with
  | zero => intro p fo co h1 h2; omega
  | succ n ih =>
    intro p fo co h1 h2
    rw [sX5_takeOut_L2]
    unfold bX5_takeOut_L2
    simp (disch := omega) only [k_1, k_0, ii_add, ii_le, ii_lt, ii_nat, ii_sub, Nat.not_lt_zero, false_or]
    by_cases h : len ≤ p + 1
    · rw [if_pos h, shA_end h, shA_end h]
    · rw [if_neg h, if_neg (by omega), if_neg (by omega), if_neg (by omega), if_neg (by omega), ih (p + 1) _ _ (by omega) (by omega), shA_step (by omega), shA_step (by omega)]
theorem hasFolk_eq {F n f : Nat} (hn : n < 1000000) (hf : f < 1000000) : fX2_hasFolk F (ii n) (ii f) = some (if f < n then 1 else 0) := by
  unfold fX2_hasFolk bX2_hasFolk_L16 bX2_hasFolk_L17
  simp (disch := omega) only [ii_nneg, ii_le, if_false]
  by_cases h : n ≤ f
  · rw [if_pos h, if_pos (by simp), if_neg (by omega)]
  · rw [if_neg h, if_pos (by simp), if_pos (by omega)]
/-- the class's net, as far as pushing looks at it -/
def netX (n : Nat) (mk rd : Nat → Nat) (st ro : Nat → Int32) : Prop := ∀ f, f < n → st f = ii (mk f ||| 2 ^ f) ∧ ro f = ii (rd f)
/-- one pile behind a push -/
def isP (N : Nat) (Q : List (Nat × Int)) (r : Option (Int32 × (Nat → Int32) × (Nat → Int32))) : Prop := ∃ fo co, r = some (ii Q.length, fo, co) ∧ Q.length ≤ N ∧ rP fo co Q
theorem push_end {F N n : Nat} {mk rd : Nat → Nat} {st ro : Nat → Int32} (hn : okN n mk rd) (hx : netX n mk rd st ro) (hb : N < 1000000) {f : Nat} {c : Int} (hf : f < n) (hc : -100 ≤ c ∧ c ≤ 100) (hc0 : nrm (rd f) c ≠ 0) {Q : List (Nat × Int)} (hN : Q.length < N) {fo co : Nat → Int32} (hr : rP fo co Q) (p : Int32) :
    isP N ((f, nrm (rd f) c) :: Q) (bX5_push_L72 F N N (ii n) 6 st 6 ro (ii f) (iz c) p 0 (ii Q.length) fo co) := by
  obtain ⟨h6, hN2, -⟩ := hn
  obtain ⟨hm, hrd, -⟩ := hN2 f hf
  have hv := nrm_bound hrd (B := 100) (by omega) hc.1 hc.2
  have key : isP N ((f, nrm (rd f) c) :: Q) (bX5_push_L116 F N N (ii n) 6 st 6 ro (ii f) p 0 (iz (nrm (rd f) c)) (ii Q.length) fo co) := by
    unfold bX5_push_L116 bX5_push_L154 fX5_append bX5_append_L46
    rw [if_pos rfl]
    simp (disch := omega) only [ofNat_ii, ii_le, ii_nneg, ii_nat, false_or, k_1, ii_add]
    have e0 : (iz (nrm (rd f) c) = 0) = False := by
      have h1 : (iz (nrm (rd f) c) = iz 0) = (nrm (rd f) c = 0) := iz_inj (by omega) (by omega) (by omega) (by omega)
      exact h1.trans (by simp [hc0])
    rw [if_neg (by omega), if_neg (by rw [e0]; simp), if_neg (by omega), if_neg (by omega)]
    refine ⟨_, _, rfl, by simp; omega, rP_push hr⟩
  unfold bX5_push_L72 bX5_push_L92
  rw [if_pos rfl]
  simp (disch := omega) only [ii_nneg, ii_nat, false_or]
  rw [if_neg (by omega), (hx f hf).2]
  rcases hrd with h0 | h0
  · rw [if_pos (by rw [h0]; decide)]
    have : nrm (rd f) c = c := by unfold nrm; rw [if_pos h0]
    rw [this] at key ⊢
    exact key
  · have e1 : (ii (rd f) ≤ (0 : Int32)) = False := by
      have h1 : (ii (rd f) ≤ ii 0) = (rd f ≤ 0) := ii_le (by omega) (by omega)
      exact h1.trans (by simp; omega)
    rw [if_neg (by rw [e1]; simp), fmod_eq (by omega) (by omega) h0]
    have : nrm (rd f) c = c % (rd f : Int) := by unfold nrm; rw [if_neg (by omega)]
    rw [this] at key ⊢
    exact key
theorem push_join {F N n : Nat} {mk rd : Nat → Nat} {st ro : Nat → Int32} (hn : okN n mk rd) (hx : netX n mk rd st ro) (hb : N < 1000000) {f : Nat} {c d : Int} (hf : f < n) (hc : -100 ≤ c ∧ c ≤ 100) (hd : -100 ≤ d ∧ d ≤ 100) {A Q : List (Nat × Int)} (hN : (A ++ (f, d) :: Q).length ≤ N) (hF : N ≤ F) {fo co : Nat → Int32} (hr : rP fo co (A ++ (f, d) :: Q)) {S : List (Nat × Int)} (hS0 : nrm (rd f) (d + c) = 0 → S = Q) (hS1 : nrm (rd f) (d + c) ≠ 0 → S = (f, nrm (rd f) (d + c)) :: Q) :
    isP N (A ++ S) (bX5_push_L72 F N N (ii n) 6 st 6 ro (ii f) (iz c) (ii Q.length) 1 (ii (A ++ (f, d) :: Q).length) fo co) := by
  obtain ⟨h6, hN2, -⟩ := hn
  obtain ⟨hm, hrd, -⟩ := hN2 f hf
  have hl : (A ++ (f, d) :: Q).length = A.length + Q.length + 1 := by simp; omega
  have hv := nrm_bound (z := d + c) hrd (B := 200) (by omega) (by omega) (by omega)
  have hco : co Q.length = iz d := (rP_tail hr).1.2
  have key : isP N (A ++ S) (bX5_push_L116 F N N (ii n) 6 st 6 ro (ii f) (ii Q.length) 1 (iz (nrm (rd f) (d + c))) (ii (A ++ (f, d) :: Q).length) fo co) := by
    unfold bX5_push_L116 bX5_push_L154 fX5_takeOut
    rw [if_neg (by decide)]
    have e0 : (iz (nrm (rd f) (d + c)) = 0) = (nrm (rd f) (d + c) = 0) := iz_inj (a := nrm (rd f) (d + c)) (b := 0) (by omega) (by omega) (by omega) (by omega)
    by_cases hz : nrm (rd f) (d + c) = 0
    · rw [if_pos (by rw [e0]; exact hz), hS0 hz, pile_out_L hN hb F Q.length fo co (by omega) (by omega)]
      refine ⟨_, _, ?_, by simp only [List.length_append]; omega, rP_out _ (Nat.le_refl _) hr⟩
      show some (ii ((A ++ (f, d) :: Q).length - 1), _, _) = _
      rw [show (A ++ (f, d) :: Q).length - 1 = (A ++ Q).length by simp only [List.length_append, List.length_cons]; omega]
    · rw [if_neg (by rw [e0]; exact hz), hS1 hz]
      simp (disch := omega) only [ii_nneg, ii_nat, false_or]
      rw [if_neg (by omega)]
      refine ⟨_, _, ?_, by simp only [List.length_append, List.length_cons] at hN ⊢; omega, rP_set (x := (f, d)) hr⟩
      simp only [List.length_append, List.length_cons]
  unfold bX5_push_L72 bX5_push_L92
  rw [if_neg (by decide)]
  simp (disch := omega) only [ii_nneg, ii_nat, false_or]
  rw [if_neg (by omega), if_neg (by omega), (hx f hf).2, hco, iz_add]
  rcases hrd with h0 | h0
  · rw [if_pos (by rw [h0]; decide)]
    have : nrm (rd f) (d + c) = d + c := by unfold nrm; rw [if_pos h0]
    rw [this] at key
    exact key
  · have e1 : (ii (rd f) ≤ (0 : Int32)) = False := by
      have h1 : (ii (rd f) ≤ ii 0) = (rd f ≤ 0) := ii_le (by omega) (by omega)
      exact h1.trans (by simp; omega)
    rw [if_neg (by rw [e1]; simp), fmod_eq (by omega) (by omega) h0]
    have : nrm (rd f) (d + c) = (d + c) % (rd f : Int) := by unfold nrm; rw [if_neg (by omega)]
    rw [this] at key
    exact key
theorem push_L {F N n : Nat} {mk rd : Nat → Nat} {st ro : Nat → Int32} (hn : okN n mk rd) (hx : netX n mk rd st ro) (hb : N < 1000000) (hF : N ≤ F) {f : Nat} {c : Int} (hf : f < n) (hc : -100 ≤ c ∧ c ≤ 100) (hc0 : nrm (rd f) c ≠ 0) {fo co : Nat → Int32} :
    ∀ (Q A : List (Nat × Int)) (t : Nat), (∀ x ∈ A, x.1 ≠ f ∧ (mk f).testBit x.1 = false) → okP n 100 (A ++ Q) → (A ++ Q).length < N → rP fo co (A ++ Q) → Q.length < t → isP N (ps mk rd f c (A ++ Q)) (fX5_push_L25 F N N (ii n) 6 st 6 ro t (ii f) (iz c) (ii (mk f ||| 2 ^ f)) (iz ((Q.length : Int) - 1)) (ii (A ++ Q).length) fo co) := by
  intro Q
  induction Q with
  | nil =>
    intro A t hA hP hN hr ht
    obtain ⟨t, rfl⟩ : ∃ t', t = t' + 1 := ⟨t - 1, by omega⟩
    rw [sX5_push_L25]
    have e0 : iz ((([] : List (Nat × Int)).length : Int) - 1) < 0 := by decide
    unfold bX5_push_L25 bX5_push_L51 bX5_push_L71
    rw [if_pos e0, if_pos e0]
    have e1 : ps mk rd f c (A ++ []) = (f, nrm (rd f) c) :: (A ++ []) := by
      unfold ps
      rw [jn_app hA]
      rfl
    rw [e1]
    exact push_end hn hx hb hf hc hc0 hN hr _
  | cons x Q ih =>
    intro A t hA hP hN hr ht
    obtain ⟨t, rfl⟩ : ∃ t', t = t' + 1 := ⟨t - 1, by omega⟩
    have hxm : x ∈ A ++ x :: Q := List.mem_append_right _ List.mem_cons_self
    obtain ⟨hx1, hx2, hx3⟩ := hP x hxm
    have hl : (A ++ x :: Q).length = A.length + Q.length + 1 := by simp; omega
    obtain ⟨h6, hN2, -⟩ := id hn
    obtain ⟨hm, hrd, -⟩ := hN2 f hf
    have hfo : fo Q.length = ii x.1 := (rP_tail hr).1.1
    rw [sX5_push_L25]
    have e1 : iz (((x :: Q).length : Int) - 1) = ii Q.length := by
      rw [ii_iz]
      congr 1
      simp only [List.length_cons]
      omega
    rw [e1]
    unfold bX5_push_L25 bX5_push_L51 bX5_push_L71
    simp (disch := omega) only [ii_nneg, ii_nat, false_or, if_false]
    have hb1 := bit_kin _ (or_lt64 _ hm f (by omega)) x.1 (by omega)
    rw [bit_stop _ hm f (by omega) _ (by omega)] at hb1
    rw [if_neg (by omega), hfo]
    by_cases h1 : x.1 = f
    · rw [if_neg (by rw [hb1]; simp [h1]), if_neg (by omega), if_pos (by rw [h1])]
      have e2 : ps mk rd f c (A ++ x :: Q) = A ++ (if nrm (rd f) (x.2 + c) = 0 then Q else (f, nrm (rd f) (x.2 + c)) :: Q) := by
        unfold ps
        rw [jn_app hA, jn_cons, if_pos h1]
        rfl
      rw [e2]
      obtain ⟨g, d⟩ := x
      simp only at h1
      subst h1
      exact push_join hn hx hb hf hc ⟨hx2, hx3⟩ (Nat.le_of_lt hN) hF hr (fun hz => if_pos hz) (fun hz => if_neg hz)
    · by_cases h2 : (mk f).testBit x.1 = true
      · rw [if_neg (by rw [hb1]; simp [h2]), if_neg (by omega), if_neg (by rw [ii_inj (by omega) (by omega)]; exact h1)]
        have e2 : ps mk rd f c (A ++ x :: Q) = (f, nrm (rd f) c) :: (A ++ x :: Q) := by
          unfold ps
          rw [jn_app hA, jn_cons, if_neg h1, if_pos h2]
          rfl
        rw [e2]
        exact push_end hn hx hb hf hc hc0 hN hr _
      · rw [if_pos (by rw [hb1]; simp [h1, h2])]
        have e3 : ii Q.length + (-1 : Int32) = iz ((Q.length : Int) - 1) := by
          rw [ii_iz, kz_m1, iz_add]
          rfl
        have h2' : (mk f).testBit x.1 = false := by simpa using h2
        have h5 := ih (A ++ [x]) t (fun y hy => by
          rcases List.mem_append.mp hy with hy | hy
          · exact hA y hy
          · rw [List.mem_singleton.mp hy]
            exact ⟨h1, h2'⟩) (by simpa using hP) (by simpa using hN) (by simpa using hr) (by simp only [List.length_cons] at ht; omega)
        rw [e3]
        simpa using h5
/-- pushing, in the class -/
theorem push_eq {F N n : Nat} {mk rd : Nat → Nat} {st ro : Nat → Int32} (hn : okN n mk rd) (hx : netX n mk rd st ro) (hb : N < 1000000) (hF : N < F) {f : Nat} {c : Int} (hf : f < n) (hc : -100 ≤ c ∧ c ≤ 100) (hc0 : nrm (rd f) c ≠ 0) {fo co : Nat → Int32} {Q : List (Nat × Int)} (hP : okP n 100 Q) (hN : Q.length < N) (hr : rP fo co Q) :
    isP N (ps mk rd f c Q) (fX5_push F N N (ii n) 6 st 6 ro (ii f) (iz c) (ii Q.length) fo co) := by
  have h6 := hn.1
  unfold fX5_push
  rw [hasFolk_eq (by omega) (by omega), if_pos hf]
  simp only [Option.bind_some]
  rw [if_neg (by decide)]
  simp (disch := omega) only [ii_nneg, ii_nat, false_or]
  rw [if_neg (by omega), (hx f hf).1]
  have h := push_L hn hx hb (Nat.le_of_lt hF) hf hc hc0 Q [] F (fun x hx => absurd hx List.not_mem_nil) hP hN hr (by omega)
  have e : ii Q.length - (1 : Int32) = iz ((Q.length : Int) - 1) := by
    rw [ii_iz, k_1, ii_iz, iz_sub]
    rfl
  rw [e]
  exact h
