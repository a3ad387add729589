/-! PURE: what must come before a tie, and whether it may follow: both sides -/
def orN : Nat → (Nat → Nat) → Nat
  | 0, _ => 0
  | n + 1, f => orN n f ||| f n
theorem orN_s (n : Nat) (f : Nat → Nat) : orN (n + 1) f = orN n f ||| f n := rfl
theorem orN_lt {n b : Nat} {f : Nat → Nat} (h : ∀ k, k < n → f k < 2 ^ b) : orN n f < 2 ^ b := by
  induction n with
  | zero => exact Nat.two_pow_pos b
  | succ n ih =>
    rw [orN_s]
    exact Nat.or_lt_two_pow (ih (fun k hk => h k (by omega))) (h n (by omega))
theorem orN_b {n i : Nat} {f : Nat → Nat} : (orN n f).testBit i = true ↔ ∃ k, k < n ∧ (f k).testBit i = true := by
  induction n with
  | zero =>
    rw [show orN 0 f = 0 from rfl, Nat.zero_testBit]
    exact ⟨fun h => (by cases h), fun ⟨k, hk, _⟩ => (by omega)⟩
  | succ n ih =>
    rw [orN_s, Nat.testBit_or, Bool.or_eq_true, ih]
    constructor
    · rintro (⟨k, hk, h⟩ | h)
      · exact ⟨k, by omega, h⟩
      · exact ⟨n, by omega, h⟩
    · rintro ⟨k, hk, h⟩
      by_cases hkn : k = n
      · subst hkn
        exact Or.inr h
      · exact Or.inl ⟨k, by omega, h⟩
/-- one can't pass the other -/
abbrev dep (mk : Nat → Nat) (a b : Nat) : Prop := a / 2 = b / 2 ∨ (mk (a / 2)).testBit (b / 2) = true
theorem dep_sym {n : Nat} {mk rd : Nat → Nat} (hn : okN n mk rd) {a b : Nat} : dep mk a b ↔ dep mk b a := by
  unfold dep
  rw [hn.2.2 (a / 2) (b / 2)]
  constructor
  · rintro (h | h)
    · exact Or.inl h.symm
    · exact Or.inr h
  · rintro (h | h)
    · exact Or.inl h.symm
    · exact Or.inr h
def dI (mk : Nat → Nat) (L : List Nat) (i j : Nat) : Nat := if dep mk (L.getD j 0) (L.getD i 0) then 2 ^ j else 0
def aI (E G : List Nat) (k e : Nat) : Nat := if G.getD e 0 = k then 2 ^ E.getD e 0 else 0
def muE (mk : Nat → Nat) (L E G : List Nat) (e k : Nat) : Nat := orN k (dI mk L k) ||| orN e (aI E G k)
def muA (mk : Nat → Nat) (L E G : List Nat) (k : Nat) : Nat := muE mk L E G E.length k
theorem dI_lt {mk : Nat → Nat} {L : List Nat} {i j b : Nat} (h : j < b) : dI mk L i j < 2 ^ b := by
  unfold dI
  split
  · exact Nat.pow_lt_pow_right (by decide) h
  · exact Nat.two_pow_pos b
theorem aI_lt {E G : List Nat} {k e b : Nat} (h : E.getD e 0 < b) : aI E G k e < 2 ^ b := by
  unfold aI
  split
  · exact Nat.pow_lt_pow_right (by decide) h
  · exact Nat.two_pow_pos b
theorem getD_mem {L : List Nat} {k : Nat} (h : k < L.length) : L.getD k 0 ∈ L := by
  rw [List.getD_eq_getElem?_getD, List.getElem?_eq_getElem h]
  exact List.getElem_mem h
theorem muE_lt {mk : Nat → Nat} {L E G : List Nat} {e k b : Nat} (hk : k ≤ b) (he : e ≤ E.length) (hE : ∀ x ∈ E, x < b) : muE mk L E G e k < 2 ^ b := by
  unfold muE
  refine Nat.or_lt_two_pow (orN_lt (fun j hj => dI_lt (by omega))) (orN_lt (fun j hj => aI_lt (hE _ (getD_mem (by omega)))))
theorem muE_s {mk : Nat → Nat} {L E G : List Nat} {e k : Nat} : muE mk L E G (e + 1) k = muE mk L E G e k ||| aI E G k e := by
  unfold muE
  rw [orN_s, Nat.or_assoc]
theorem ii_or0 (a : Nat) : ii a ||| (0 : Int32) = ii a := by
  rw [k_0, iOr, Nat.or_zero]
theorem must_L21 {F n : Nat} {mk rd : Nat → Nat} {ki kn : Nat → Int32} (hn : okN n mk rd) (hm : netM n mk rd ki kn) {L : List Nat} {s : Nat → Int32} (hL : okL n L) (hs : rS s L) (h14 : L.length ≤ 14) (ah on tw : Nat → Int32) (k2 : Int32 → (Nat → Int32) → Option (Nat → Int32)) {i : Nat} (hi : i < L.length) :
    ∀ (t j : Nat) (mu : Nat → Int32), i < j + t → j ≤ i → mu i = ii (orN j (dI mk L i)) → ∃ mu', fX12_laysMust_L21 F 12 kn 25 s 5 ah 40 on 40 tw 14 k2 t (ii i) (ii j) mu = k2 (ii (i + 1)) mu' ∧ mu' i = ii (orN i (dI mk L i)) ∧ ∀ k, k ≠ i → mu' k = mu k := by
  intro t
  induction t with
  | zero => intro j mu h1 h2; omega
  | succ t ih =>
    intro j mu h1 h2 h3
    rw [sX12_laysMust_L21]
    unfold bX12_laysMust_L21 bX12_laysMust_L63
    rw [iSh j (by omega)]
    simp (disch := omega) only [k_1, ii_add, ii_le, ii_lt, ii_nat, ii_nneg, false_or]
    by_cases h : i ≤ j
    · have : j = i := by omega
      subst this
      rw [if_pos h]
      exact ⟨mu, rfl, h3, fun k _ => rfl⟩
    · rw [if_neg h, if_neg (by omega), if_neg (by omega), if_neg (by omega), hs.2 j (by omega), hs.2 i hi, h3]
      have ha := hL _ (getD_mem (L := L) (k := j) (by omega))
      have hb := hL _ (getD_mem (L := L) (k := i) hi)
      have mp := mayPass_eq (F := F) hn hm ha hb
      have go : ∀ v : Int32, v = ii (orN (j + 1) (dI mk L i)) → ∃ mu', fX12_laysMust_L21 F 12 kn 25 s 5 ah 40 on 40 tw 14 k2 t (ii i) (ii (j + 1)) (upd mu i v) = k2 (ii (i + 1)) mu' ∧ mu' i = ii (orN i (dI mk L i)) ∧ ∀ k, k ≠ i → mu' k = mu k := by
        intro v hv
        obtain ⟨mu', e, g1, g2⟩ := ih (j + 1) (upd mu i v) (by omega) (by omega) (by rw [upd_same]; exact hv)
        exact ⟨mu', e, g1, fun k hk => by rw [g2 k hk, upd_ne _ _ hk]⟩
      by_cases hd : dep mk (L.getD j 0) (L.getD i 0)
      · have e1 : fX12_mayPass F 12 kn (ii (L.getD j 0)) (ii (L.getD i 0)) = some 0 := by
          by_cases h9 : L.getD j 0 / 2 = L.getD i 0 / 2
          · exact mp.1 h9
          · exact mp.2.1 h9 (hd.resolve_left h9)
        rw [e1]
        simp only [Option.bind_some]
        rw [if_pos trivial, if_neg (by omega), iOr]
        exact go _ (by rw [orN_s]; unfold dI; rw [if_pos hd])
      · have e1 : fX12_mayPass F 12 kn (ii (L.getD j 0)) (ii (L.getD i 0)) = some 1 := mp.2.2 (fun h9 => hd (Or.inl h9)) (by
          cases h9 : (mk (L.getD j 0 / 2)).testBit (L.getD i 0 / 2)
          · rfl
          · exact absurd (Or.inr h9) hd)
        rw [e1]
        simp only [Option.bind_some]
        rw [if_neg (by decide), if_neg (by omega), ii_or0]
        exact go _ (by rw [orN_s]; unfold dI; rw [if_neg hd, Nat.or_zero])
theorem must_L79 {F : Nat} {mk : Nat → Nat} {L E G : List Nat} {ah on tw : Nat → Int32} (hA : ahM ah on tw 0 E G) (hG : G.length = E.length) (h8 : E.length ≤ 8) (hE1 : ∀ e ∈ E, e < L.length) (hG1 : ∀ g ∈ G, g < L.length) (h14 : L.length ≤ 14) (kn s : Nat → Int32) :
    ∀ (t e : Nat) (mu : Nat → Int32), E.length < e + t → e ≤ E.length → (∀ k, k < L.length → mu k = ii (muE mk L E G e k)) → ∃ mu', fX12_laysMust_L79 F 12 kn 25 s 5 ah 40 on 40 tw 14 t (ii e) mu = some mu' ∧ ∀ k, k < L.length → mu' k = ii (muA mk L E G k) := by
  intro t
  induction t with
  | zero => intro e mu h1 h2; omega
  | succ t ih =>
    intro e mu h1 h2 h3
    rw [sX12_laysMust_L79]
    unfold bX12_laysMust_L79
    have z0 : ((0 : Int32)).toNatClampNeg = 0 := rfl
    rw [z0, hA.1, if_neg (by decide)]
    by_cases h : E.length ≤ e
    · have : e = E.length := by omega
      subst this
      rw [if_pos (by rw [ii_le (by omega) (by omega)]; exact h)]
      exact ⟨mu, rfl, h3⟩
    · have hg := hG1 _ (getD_mem (L := G) (k := e) (by omega))
      have he := hE1 _ (getD_mem (L := E) (k := e) (by omega))
      have e1 : on e = ii (E.getD e 0) := by
        have := hA.2.1 e (by omega)
        rwa [Nat.mul_zero, Nat.zero_add] at this
      have e2 : tw e = ii (G.getD e 0) := by
        have := hA.2.2 e (by omega)
        rwa [Nat.mul_zero, Nat.zero_add] at this
      rw [if_neg (by rw [ii_le (by omega) (by omega)]; exact h), ii_nat (by omega), e1, e2, iSh _ (by omega)]
      simp (disch := omega) only [k_1, ii_add, ii_le, ii_lt, ii_nat, ii_nneg, false_or]
      rw [if_neg (by omega), if_neg (by omega), if_neg (by omega), if_neg (by omega), h3 _ hg, iOr]
      refine ih (e + 1) _ (by omega) (by omega) ?_
      intro k hk
      by_cases hkg : k = G.getD e 0
      · subst hkg
        rw [upd_same, muE_s]
        unfold aI
        rw [if_pos rfl]
      · rw [upd_ne _ _ hkg, h3 k hk, muE_s]
        unfold aI
        rw [if_neg (Ne.symm hkg), Nat.or_zero]
theorem must_L2 {F n : Nat} {mk rd : Nat → Nat} {ki kn : Nat → Int32} (hn : okN n mk rd) (hm : netM n mk rd ki kn) (hF : 1000 ≤ F) {L E G : List Nat} {s ah on tw : Nat → Int32} (hL : okL n L) (hs : rS s L) (h14 : L.length ≤ 14) (hA : ahM ah on tw 0 E G) (hG : G.length = E.length) (h8 : E.length ≤ 8) (hE1 : ∀ e ∈ E, e < L.length) (hG1 : ∀ g ∈ G, g < L.length) :
    ∀ (t i : Nat) (mu : Nat → Int32), L.length < i + t → i ≤ L.length → (∀ k, k < i → mu k = ii (muE mk L E G 0 k)) → ∃ mu', fX12_laysMust_L2 F 12 kn 25 s 5 ah 40 on 40 tw 14 t (ii i) mu = some mu' ∧ ∀ k, k < L.length → mu' k = ii (muA mk L E G k) := by
  intro t
  induction t with
  | zero => intro i mu h1 h2; omega
  | succ t ih =>
    intro i mu h1 h2 h3
    rw [sX12_laysMust_L2]
    unfold bX12_laysMust_L2
    have z0 : ((0 : Int32)).toNatClampNeg = 0 := rfl
    rw [z0, hs.1, if_neg (by decide)]
    by_cases h : L.length ≤ i
    · have : i = L.length := by omega
      subst this
      rw [if_pos (by rw [ii_le (by omega) (by omega)]; exact h)]
      exact must_L79 hA hG h8 hE1 hG1 h14 kn s F 0 mu (by omega) (by omega) h3
    · rw [if_neg (by rw [ii_le (by omega) (by omega)]; exact h), if_neg (by rw [ii_nneg (by omega), ii_nat (by omega)]; simp; omega), ii_nat (by omega)]
      obtain ⟨mu', e, g1, g2⟩ := must_L21 (F := F) hn hm hL hs h14 ah on tw (fX12_laysMust_L2 F 12 kn 25 s 5 ah 40 on 40 tw 14 t) (i := i) (by omega) F 0 (upd mu i 0) (by omega) (by omega) (by rw [upd_same]; rfl)
      rw [k_0] at e ⊢
      rw [e]
      refine ih (i + 1) mu' (by omega) (by omega) ?_
      intro k hk
      by_cases hki : k = i
      · subst hki
        rw [g1]
        unfold muE
        rw [show orN 0 (aI E G k) = 0 from rfl, Nat.or_zero]
      · rw [g2 k hki, upd_ne _ _ hki]
        exact h3 k (by omega)
theorem must_M {F n : Nat} {mk rd : Nat → Nat} {ki kn : Nat → Int32} (hn : okN n mk rd) (hm : netM n mk rd ki kn) (hF : 1000 ≤ F) {L E G : List Nat} {s ah on tw : Nat → Int32} (hL : okL n L) (hs : rS s L) (h14 : L.length ≤ 14) (hA : ahM ah on tw 0 E G) (hG : G.length = E.length) (h8 : E.length ≤ 8) (hE1 : ∀ e ∈ E, e < L.length) (hG1 : ∀ g ∈ G, g < L.length) (mu : Nat → Int32) :
    ∃ mu', fX12_laysMust F 12 kn 25 s 5 ah 40 on 40 tw 14 mu = some mu' ∧ ∀ k, k < L.length → mu' k = ii (muA mk L E G k) := by
  unfold fX12_laysMust
  exact must_L2 hn hm hF hL hs h14 hA hG h8 hE1 hG1 F 0 mu (by omega) (by omega) (fun k hk => by omega)
theorem follow_M {F m S x : Nat} {mu : Nat → Int32} {MU : Nat → Nat} (hm : m ≤ 14) (hS : S < 2 ^ m) (hx : x < m) (h1 : mu x = ii (MU x)) (h2 : MU x < 2 ^ m) : (mF MU S x → fX12_mayFollow F 14 mu (ii S) (ii x) = some 1) ∧ (¬ mF MU S x → fX12_mayFollow F 14 mu (ii S) (ii x) = some 0) := by
  have hp : 2 ^ m ≤ 2 ^ 14 := Nat.pow_le_pow_right (by decide) hm
  have hp2 : (2 : Nat) ^ 14 < 2 ^ 31 := by decide
  have b0 := iBit0 (S := S) (k := x) (by omega) (by omega)
  have b1 := iSub (a := MU x) (b := S) (by omega) (by omega)
  unfold fX12_mayFollow bX12_mayFollow_L25 bX12_mayFollow_L26
  rw [if_neg (show ¬ (ii x < 0 ∨ 14 ≤ (ii x).toNatClampNeg) by rw [ii_nneg (by omega), ii_nat (by omega)]; simp; omega), ii_nat (by omega), h1]
  constructor
  · intro h
    rw [if_pos (by rw [b0]; exact h.1), if_pos (by rw [b1]; exact h.2)]
    rfl
  · intro h
    by_cases hb : S.testBit x = false
    · rw [if_pos (by rw [b0]; exact hb), if_neg (by rw [b1]; exact fun h9 => h ⟨hb, h9⟩)]
      rfl
    · rw [if_neg (by rw [b0]; exact hb)]
      rfl
