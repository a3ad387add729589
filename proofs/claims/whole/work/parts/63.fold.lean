/-! PURE: rows of ties pushed one by one, forth and back -/
/-- the array holds the row -/
def rL (a : Nat → Int32) (L : List Nat) : Prop := ∀ k, k < L.length → a k = ii (L.getD k 0)
def okL (n : Nat) (L : List Nat) : Prop := ∀ t ∈ L, t < 2 * n
def psT (mk rd : Nat → Nat) (Q : List (Nat × Int)) (t : Nat) : List (Nat × Int) := ps mk rd (t / 2) (sg t) Q
def psL (mk rd : Nat → Nat) (Q : List (Nat × Int)) (L : List Nat) : List (Nat × Int) := L.foldl (psT mk rd) Q
theorem tn_half (t : Nat) : tn t / 2 = t / 2 := by unfold tn; split <;> omega
theorem tn_sg (t : Nat) : sg (tn t) = -sg t := by
  unfold sg tn
  by_cases h : t % 2 = 0
  · rw [if_pos h, if_pos h, if_neg (by omega)]
  · rw [if_neg h, if_neg h, if_pos (by omega)]
    rfl
theorem tn_lt {n t : Nat} (h : t < 2 * n) : tn t < 2 * n := by unfold tn; split <;> omega
theorem tn_tn (t : Nat) : tn (tn t) = t := by
  unfold tn
  by_cases h : t % 2 = 0
  · rw [if_pos h, if_neg (by omega)]; omega
  · rw [if_neg h, if_pos (by omega)]; omega
/-- from the last to the first, each the other way -/
def bk (L : List Nat) : List Nat := (L.reverse).map tn
theorem sg_ne (t : Nat) : sg t = 1 ∨ sg t = -1 := by unfold sg; split <;> simp
theorem nrm_sg {m : Nat} (hm : m = 0 ∨ m = 2 ∨ m = 3 ∨ m = 4) (t : Nat) : nrm m (sg t) ≠ 0 := by
  rcases sg_ne t with h | h <;> rcases hm with rfl | rfl | rfl | rfl <;> rw [h] <;> decide
theorem jn_ok {n : Nat} {mk rd : Nat → Nat} {f : Nat} {c B C : Int} (hrd : rd f = 0 ∨ rd f = 2 ∨ rd f = 3 ∨ rd f = 4) (hf : f < n) (hC : -C ≤ c ∧ c ≤ C) (hB : 4 ≤ B + C) (hC0 : 0 ≤ C) : ∀ {Q P : List (Nat × Int)}, okP n B Q → jn mk rd f c Q = some P → okP n (B + C) P
  | [], P, _, h => by cases h
  | x :: Q, P, hQ, h => by
    have h1 := hQ x List.mem_cons_self
    have h2 : okP n (B + C) Q := fun y hy => by
      have := hQ y (List.mem_cons_of_mem _ hy)
      omega
    rw [jn_cons] at h
    by_cases hx : x.1 = f
    · rw [if_pos hx] at h
      have h3 := Option.some.inj h
      subst h3
      split
      · exact h2
      · intro y hy
        rcases List.mem_cons.mp hy with rfl | hy
        · have := nrm_bound (z := x.2 + c) hrd hB (by omega) (by omega)
          exact ⟨hf, this.1, this.2⟩
        · exact h2 y hy
    · rw [if_neg hx] at h
      by_cases h3 : (mk f).testBit x.1 = true
      · rw [if_pos h3] at h; cases h
      · rw [if_neg h3] at h
        obtain ⟨z, hz, rfl⟩ := Option.map_eq_some_iff.mp h
        have h4 := jn_ok (n := n) hrd hf hC hB hC0 (fun y hy => hQ y (List.mem_cons_of_mem _ hy)) hz
        intro y hy
        rcases List.mem_cons.mp hy with rfl | hy
        · omega
        · exact h4 y hy
theorem ps_ok {n : Nat} {mk rd : Nat → Nat} {f : Nat} {c B C : Int} (hrd : rd f = 0 ∨ rd f = 2 ∨ rd f = 3 ∨ rd f = 4) (hf : f < n) (hC : -C ≤ c ∧ c ≤ C) (hB : 4 ≤ B + C) (hC0 : 0 ≤ C) (hB0 : 0 ≤ B) {Q : List (Nat × Int)} (hQ : okP n B Q) : okP n (B + C) (ps mk rd f c Q) := by
  unfold ps
  cases h : jn mk rd f c Q with
  | some P => exact jn_ok hrd hf hC hB hC0 hQ h
  | none =>
    intro y hy
    rcases List.mem_cons.mp hy with rfl | hy
    · have := nrm_bound (z := c) hrd hB (by omega) (by omega)
      exact ⟨hf, this.1, this.2⟩
    · have := hQ y hy
      omega
theorem psT_ok {n : Nat} {mk rd : Nat → Nat} (hn : okN n mk rd) {t : Nat} (ht : t < 2 * n) {B : Int} (hB : 3 ≤ B) {Q : List (Nat × Int)} (hQ : okP n B Q) : okP n (B + 1) (psT mk rd Q t) :=
  ps_ok (hn.2.1 (t / 2) (by omega)).2.1 (by omega) (by rcases sg_ne t with h | h <;> omega) (by omega) (by omega) (by omega) hQ
theorem folkOf_eq {F t : Nat} (h : t < 12) : fX7_folkOf F (ii t) = some (ii (t / 2)) := by
  unfold fX7_folkOf
  rw [tie_folk t h]
theorem countOf_eq {F t : Nat} (h : t < 12) : fX7_countOf F (ii t) = some (iz (sg t)) := by
  have h1 := tie_bit t h
  unfold fX7_countOf bX7_countOf_L11 sg
  by_cases h2 : t % 2 = 0
  · rw [if_pos (by simpa [h2] using h1), if_pos h2]; rfl
  · rw [if_neg (by simpa [h2] using h1), if_neg h2]; rfl
theorem pushT_eq {F N n : Nat} {mk rd : Nat → Nat} {st ro : Nat → Int32} (hn : okN n mk rd) (hx : netX n mk rd st ro) (hb : N < 1000000) (hF : N < F) {t : Nat} (ht : t < 2 * n) {fo co : Nat → Int32} {Q : List (Nat × Int)} (hP : okP n 100 Q) (hN : Q.length < N) (hr : rP fo co Q) :
    isP N (psT mk rd Q t) (fX5_push F N N (ii n) 6 st 6 ro (ii (t / 2)) (iz (sg t)) (ii Q.length) fo co) :=
  push_eq hn hx hb hF (by omega) (by rcases sg_ne t with h | h <;> omega) (nrm_sg (hn.2.1 (t / 2) (by omega)).2.1 t) hP hN hr
theorem rL_mem {a : Nat → Int32} {L : List Nat} {k : Nat} (hk : k < L.length) : L.getD k 0 ∈ L := by
  rw [List.getD_eq_getElem?_getD, List.getElem?_eq_getElem hk]
  exact List.getElem_mem hk
theorem drop_cons {L : List Nat} {k : Nat} (hk : k < L.length) : L.drop k = L.getD k 0 :: L.drop (k + 1) := by
  rw [List.drop_eq_getElem_cons hk, List.getD_eq_getElem?_getD, List.getElem?_eq_getElem hk]
  rfl
theorem okP_mono {n : Nat} {B C : Int} (h : B ≤ C) {Q : List (Nat × Int)} (hQ : okP n B Q) : okP n C Q := fun x hx => by
  have := hQ x hx
  omega
/-- a row, forth, in the class -/
theorem pushRow_L {F N n M : Nat} {mk rd : Nat → Nat} {st ro : Nat → Int32} (hn : okN n mk rd) (hx : netX n mk rd st ro) (hb : N < 1000000) (hF : N < F) {L : List Nat} {a : Nat → Int32} (hL : okL n L) (ha : rL a L) (hM : L.length ≤ M) (hM2 : M < 1000000) :
    ∀ (t i : Nat) (Q : List (Nat × Int)) (fo co : Nat → Int32) (B : Int), L.length < i + t → i ≤ L.length → 3 ≤ B → B + (L.length - i : Nat) ≤ 100 → okP n B Q → Q.length + (L.length - i) ≤ N → rP fo co Q → isP N (psL mk rd Q (L.drop i)) (fX5_pushRow_L2 F N N (ii n) 6 st 6 ro (ii L.length) M a t (ii i) (ii Q.length) fo co) := by
  intro t
  induction t with
  | zero => intro i Q fo co B h1 h2; omega
  | succ t ih =>
    intro i Q fo co B h1 h2 hB hB2 hQ hN hr
    rw [sX5_pushRow_L2]
    unfold bX5_pushRow_L2
    have h6 := hn.1
    simp (disch := omega) only [ii_le, ii_nneg, ii_nat, false_or, k_1, ii_add]
    by_cases h : L.length ≤ i
    · rw [if_pos h, List.drop_of_length_le h]
      exact ⟨fo, co, rfl, (show Q.length ≤ N by omega), hr⟩
    · have hi : i < L.length := by omega
      have ht := hL _ (rL_mem (a := a) hi)
      rw [if_neg h, if_neg (by omega), ha i hi, folkOf_eq (by omega)]
      simp only [Option.bind_some]
      rw [if_neg (by omega), countOf_eq (by omega)]
      obtain ⟨fo', co', e, hl, hr'⟩ := pushT_eq hn hx hb hF ht (okP_mono (by omega) hQ) (by omega) hr
      simp only [Option.bind_some]
      rw [e]
      simp only [Option.bind_some]
      have hln := ps_len (mk := mk) (rd := rd) (f := L.getD i 0 / 2) (c := sg (L.getD i 0)) (Q := Q)
      have h5 := ih (i + 1) (psT mk rd Q (L.getD i 0)) fo' co' (B + 1) (by omega) (by omega) (by omega) (by omega) (psT_ok hn ht hB hQ) (by unfold psT; omega) hr'
      rw [drop_cons hi]
      exact h5
theorem pushRow_eq {F N n M : Nat} {mk rd : Nat → Nat} {st ro : Nat → Int32} (hn : okN n mk rd) (hx : netX n mk rd st ro) (hb : N < 1000000) (hF : N < F) {L : List Nat} {a : Nat → Int32} (hL : okL n L) (ha : rL a L) (hM : L.length ≤ M) (hM2 : M < 1000000) (hF2 : M < F) {Q : List (Nat × Int)} {fo co : Nat → Int32} {B : Int} (hB : 3 ≤ B) (hB2 : B + L.length ≤ 100) (hQ : okP n B Q) (hN : Q.length + L.length ≤ N) (hr : rP fo co Q) :
    isP N (psL mk rd Q L) (fX5_pushRow F N N (ii n) 6 st 6 ro (ii L.length) M a (ii Q.length) fo co) := by
  unfold fX5_pushRow
  rw [k_0]
  have h := pushRow_L hn hx hb hF hL ha hM hM2 F 0 Q fo co B (by omega) (by omega) hB (by omega) hQ (by omega) hr
  simpa using h
theorem psL_ok {n : Nat} {mk rd : Nat → Nat} (hn : okN n mk rd) : ∀ {L : List Nat} {Q : List (Nat × Int)} {B : Int}, okL n L → 3 ≤ B → okP n B Q → okP n (B + L.length) (psL mk rd Q L)
  | [], Q, B, _, _, h => by simpa [psL] using h
  | t :: L, Q, B, hL, hB, h => by
    have h1 := psL_ok hn (L := L) (fun y hy => hL y (List.mem_cons_of_mem _ hy)) (by omega) (psT_ok hn (hL t List.mem_cons_self) hB h)
    refine okP_mono ?_ h1
    simp only [List.length_cons]
    omega
theorem psL_len {mk rd : Nat → Nat} : ∀ {L : List Nat} {Q : List (Nat × Int)}, (psL mk rd Q L).length ≤ Q.length + L.length
  | [], Q => by simp [psL]
  | t :: L, Q => by
    have h1 := psL_len (mk := mk) (rd := rd) (L := L) (Q := psT mk rd Q t)
    have h2 := ps_len (mk := mk) (rd := rd) (f := t / 2) (c := sg t) (Q := Q)
    unfold psL at h1 ⊢
    simp only [List.foldl_cons, List.length_cons]
    unfold psT at h1 h2 ⊢
    omega
theorem bk_take {L : List Nat} {i : Nat} (hi : i < L.length) : bk (L.take (i + 1)) = tn (L.getD i 0) :: bk (L.take i) := by
  have h : L.take (i + 1) = L.take i ++ [L.getD i 0] := by
    rw [List.take_succ_eq_append_getElem hi, List.getD_eq_getElem?_getD, List.getElem?_eq_getElem hi]
    rfl
  unfold bk
  rw [h, List.reverse_append]
  rfl
/-- a row, back, in the class -/
theorem pushAgainst_L {F N n M : Nat} {mk rd : Nat → Nat} {st ro : Nat → Int32} (hn : okN n mk rd) (hx : netX n mk rd st ro) (hb : N < 1000000) (hF : N < F) {L : List Nat} {a : Nat → Int32} (hL : okL n L) (ha : rL a L) (hM : L.length ≤ M) (hM2 : M < 1000000) (z : Int32) :
    ∀ (i t : Nat) (Q : List (Nat × Int)) (fo co : Nat → Int32) (B : Int), i < t → i ≤ L.length → 3 ≤ B → B + i ≤ 100 → okP n B Q → Q.length + i ≤ N → rP fo co Q → isP N (psL mk rd Q (bk (L.take i))) (fX5_pushAgainst_L7 F N N (ii n) 6 st 6 ro z M a t (iz ((i : Int) - 1)) (ii Q.length) fo co) := by
  intro i
  induction i with
  | zero =>
    intro t Q fo co B h1 h2 hB hB2 hQ hN hr
    obtain ⟨t, rfl⟩ : ∃ t', t = t' + 1 := ⟨t - 1, by omega⟩
    rw [sX5_pushAgainst_L7]
    have e0 : iz (((0 : Nat) : Int) - 1) < 0 := by decide
    unfold bX5_pushAgainst_L7
    rw [if_pos e0]
    exact ⟨fo, co, rfl, (show Q.length ≤ N by omega), hr⟩
  | succ i ih =>
    intro t Q fo co B h1 h2 hB hB2 hQ hN hr
    obtain ⟨t, rfl⟩ : ∃ t', t = t' + 1 := ⟨t - 1, by omega⟩
    rw [sX5_pushAgainst_L7]
    have e1 : iz (((i + 1 : Nat) : Int) - 1) = ii i := by
      rw [ii_iz]
      congr 1
      omega
    have h6 := hn.1
    have hi : i < L.length := by omega
    have ht := hL _ (rL_mem (a := a) hi)
    rw [e1]
    unfold bX5_pushAgainst_L7
    simp (disch := omega) only [ii_nneg, ii_nat, false_or, if_false]
    rw [if_neg (by omega), ha i hi, folkOf_eq (by omega)]
    simp only [Option.bind_some]
    rw [if_neg (by omega), countOf_eq (by omega)]
    simp only [Option.bind_some]
    rw [iz_neg, ← tn_sg, ← tn_half (L.getD i 0)]
    obtain ⟨fo', co', e, hl, hr'⟩ := pushT_eq hn hx hb hF (tn_lt ht) (okP_mono (by omega) hQ) (by omega) hr
    rw [e]
    simp only [Option.bind_some]
    have hln := ps_len (mk := mk) (rd := rd) (f := tn (L.getD i 0) / 2) (c := sg (tn (L.getD i 0))) (Q := Q)
    have e3 : ii i + (-1 : Int32) = iz ((i : Int) - 1) := by
      rw [ii_iz, kz_m1, iz_add]
      rfl
    have h5 := ih t (psT mk rd Q (tn (L.getD i 0))) fo' co' (B + 1) (by omega) (by omega) (by omega) (by omega) (psT_ok hn (tn_lt ht) hB hQ) (by unfold psT; omega) hr'
    rw [bk_take hi]
    rw [e3]
    exact h5
theorem pushAgainst_eq {F N n M : Nat} {mk rd : Nat → Nat} {st ro : Nat → Int32} (hn : okN n mk rd) (hx : netX n mk rd st ro) (hb : N < 1000000) (hF : N < F) {L : List Nat} {a : Nat → Int32} (hL : okL n L) (ha : rL a L) (hM : L.length ≤ M) (hM2 : M < 1000000) (hF2 : M < F) {Q : List (Nat × Int)} {fo co : Nat → Int32} {B : Int} (hB : 3 ≤ B) (hB2 : B + L.length ≤ 100) (hQ : okP n B Q) (hN : Q.length + L.length ≤ N) (hr : rP fo co Q) :
    isP N (psL mk rd Q (bk L)) (fX5_pushAgainst F N N (ii n) 6 st 6 ro (ii L.length) M a (ii Q.length) fo co) := by
  unfold fX5_pushAgainst
  have e : ii L.length - (1 : Int32) = iz ((L.length : Int) - 1) := by
    rw [ii_iz, k_1, ii_iz, iz_sub]
    rfl
  rw [e]
  have h := pushAgainst_L hn hx hb hF hL ha hM hM2 (ii L.length) L.length F Q fo co B (by omega) (by omega) hB (by omega) hQ (by omega) hr
  simpa using h
