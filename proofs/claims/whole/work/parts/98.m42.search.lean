/-! PURE: the class's search -/
theorem vup_s {α : Type} (f : Nat → α) (k : Nat) (v : α) : va_up f k v k = v := if_pos rfl
theorem vup_n {α : Type} (f : Nat → α) {k j : Nat} (v : α) (h : j ≠ k) : va_up f k v j = f j := if_neg h
def preC (n : Nat) (rd : Nat → Nat) (L : List Nat) (l u : Nat) (k : Int) (A : Nat) (Q : List (Nat × Int)) (T : Nat → Int) (to un ks : Nat → Int32) (kf kc : Nat → Nat → Int32) : Prop :=
  -1 ≤ k ∧ k ≤ 14 ∧ A < 2 ^ 14 ∧ (∀ i, i < l → A.testBit i = false) ∧ okP n (17 - (l : Int)) Q ∧ okC rd Q ∧ Q.length + l ≤ 14 ∧ ks l = ii Q.length ∧ rP (kf l) (kc l) Q ∧ (∀ f, f < 6 → to f = iz (T f)) ∧ (∀ f, f < 6 → -(28 - (l : Int)) ≤ T f ∧ T f ≤ 28 - (l : Int)) ∧ (∀ f, f < n → nrm (rd f) (T f) = nrm (rd f) (sgm f Q + UU L f l)) ∧ ∀ t, t < 12 → un t = ii (cnT L t u)
def posC (mk rd : Nat → Nat) (L : List Nat) (l u v : Nat) (k : Int) (A : Nat) (Q : List (Nat × Int)) (T : Nat → Int) (ks : Nat → Int32) (kf kc : Nat → Nat → Int32) (o : Option Nat) (r : Int32 × (Int32) × (Nat → Int32) × (Nat → Int32) × (Nat → Int32) × (Nat → Int32) × (Nat → Nat → Int32) × (Nat → Nat → Int32)) : Prop :=
  (∀ f, f < 6 → r.2.2.1 f = iz (T f)) ∧ (∀ t, t < 12 → r.2.2.2.1 t = ii (cnT L t u)) ∧ (∀ j, v ≤ j → r.2.2.2.2.2.1 j = ks j ∧ r.2.2.2.2.2.2.1 j = kf j ∧ r.2.2.2.2.2.2.2 j = kc j) ∧ srC mk rd L l Q k A o ∧ ((r.1 = 0 ∧ o = none) ∨ (r.1 = 1 ∧ ∃ D, o = some D ∧ r.2.1 = ii D))
def SX (F n : Nat) (mk rd : Nat → Nat) (st ro : Nat → Int32) (L : List Nat) (a : Nat → Int32) (g l : Nat) : Prop :=
  ∀ (k : Int) (A : Nat) (Q : List (Nat × Int)) (T : Nat → Int) (fd : Int32) (to un ne ks : Nat → Int32) (kf kc : Nat → Nat → Int32), preC n rd L l l k A Q T to un ks kf kc → ∃ o r, gX0_search F g 15 6 12 6 (ii n) 6 st 6 ro (ii L.length) 24 a 14 14 (ii l) (iz k) (ii A) fd to un ne ks kf kc = some r ∧ posC mk rd L l l l k A Q T ks kf kc o r
theorem UU_0 {L : List Nat} {l f : Nat} : UU L f (l + 1) = UU L f l + if L.getD l 0 / 2 = f then sg (L.getD l 0) else 0 := UU_s L f l
theorem kept_X {F n g l : Nat} {mk rd : Nat → Nat} {st ro : Nat → Int32} (hn : okN n mk rd) (hx : netX n mk rd st ro) (hr : okR rd) (hF : 2000 ≤ F) {L : List Nat} {a : Nat → Int32} (hL : okL n L) (ha : rL a L) (hl : l < L.length) (h14 : L.length ≤ 14) (ih : SX F n mk rd st ro L a g l) {k : Int} {A : Nat} {Q : List (Nat × Int)} {T : Nat → Int} (fd : Int32) {to un : Nat → Int32} (ne : Nat → Int32) {ks : Nat → Int32} {kf kc : Nat → Nat → Int32} (hp : preC n rd L (l + 1) l k A Q T to un ks kf kc) :
    ∃ o r, fX0_searchKept F (gX0_search F g) 15 6 12 6 (ii n) 6 st 6 ro (ii L.length) 24 a 14 14 (ii l) (iz k) (ii A) fd to un ne ks kf kc = some r ∧ posC mk rd L l l (l + 1) k A (psT mk rd Q (L.getD l 0)) T ks kf kc o r := by
  obtain ⟨p1, p2, p3, p4, p5, p6, p7, p8, p9, p10, p11, p12, p13⟩ := hp
  have h6 := hn.1
  have ht := hL _ (getD_mem (L := L) (k := l) hl)
  have hln := ps_len (mk := mk) (rd := rd) (f := L.getD l 0 / 2) (c := sg (L.getD l 0)) (Q := Q)
  obtain ⟨fo', co', e, hl', hr'⟩ := pushTie_eq (F := F) (N := 14) hn hx (by omega) (by omega) ht (okP_mono (by omega) p5) (by omega) (rP_copy (f2 := kf l) (c2 := kc l) p9)
  have hpre : preC n rd L l l k A (psT mk rd Q (L.getD l 0)) T to un (va_up (va_up ks l (ii Q.length)) l (ii (psT mk rd Q (L.getD l 0)).length)) (va_up (va_up kf l (cpA (kf (l + 1)) (kf l) Q.length)) l fo') (va_up (va_up kc l (cpA (kc (l + 1)) (kc l) Q.length)) l co') := by
    refine ⟨p1, p2, p3, fun i hi => p4 i (by omega), ?_, psT_okC hr p6 _, ?_, vup_s _ _ _, ?_, p10, fun f hf => by have := p11 f hf; omega, ?_, p13⟩
    · have := psT_ok hn ht (B := 17 - ((l + 1 : Nat) : Int)) (by omega) p5
      exact okP_mono (by omega) this
    · unfold psT at *
      omega
    · rw [vup_s, vup_s]
      exact hr'
    · intro f hf
      rw [p12 f hf, UU_0]
      have := nrm_congr (UU L f l) (sgm_ps (mk := mk) (rd := rd) (Q := Q) f (L.getD l 0))
      rw [this]
      congr 1
      omega
  obtain ⟨o, r, e2, q1, q2, q3, q4, q5⟩ := ih k A _ T fd to un ne _ _ _ hpre
  unfold fX0_searchKept
  rw [if_neg (nidx (by omega) (by omega)), e1k, if_neg (nidx (by omega) (by omega)), ii_nat (by omega), ii_nat (by omega), p8, pile_copy (by omega) (by omega), Option.bind_some, if_neg (show ¬ (l + 1 = l) by omega), if_neg (nidn (by omega) (by omega)), row_at (by omega) (by omega) a (by omega), if_pos hl, ha l hl, Option.bind_some]
  show ∃ o r, ((fX5_pushTie F 14 14 (ii n) 6 st 6 ro (ii (L.getD l 0)) (va_up ks l (ii Q.length) l) (va_up kf l (cpA (kf (l + 1)) (kf l) Q.length) l) (va_up kc l (cpA (kc (l + 1)) (kc l) Q.length) l)).bind _) = _ ∧ _
  rw [vup_s, vup_s, vup_s, e, Option.bind_some]
  show ∃ o r, ((gX0_search F g 15 6 12 6 (ii n) 6 st 6 ro (ii L.length) 24 a 14 14 (ii l) (iz k) (ii A) fd to un ne (va_up (va_up ks l (ii Q.length)) l (ii (psT mk rd Q (L.getD l 0)).length)) (va_up (va_up kf l (cpA (kf (l + 1)) (kf l) Q.length)) l fo') (va_up (va_up kc l (cpA (kc (l + 1)) (kc l) Q.length)) l co')).bind _) = _ ∧ _
  rw [e2, Option.bind_some]
  have hr01 : r.1 = 0 ∨ r.1 = 1 := by
    rcases q5 with h | h
    · exact Or.inl h.1
    · exact Or.inr h.1
  rw [if_pos hr01]
  refine ⟨o, _, rfl, q1, q2, ?_, q4, q5⟩
  intro j hj
  obtain ⟨j1, j2, j3⟩ := q3 j (by omega)
  refine ⟨j1.trans ?_, j2.trans ?_, j3.trans ?_⟩
  · rw [vup_n _ _ (by omega), vup_n _ _ (by omega)]
  · rw [vup_n _ _ (by omega), vup_n _ _ (by omega)]
  · rw [vup_n _ _ (by omega), vup_n _ _ (by omega)]
theorem cutS_X {F n g l : Nat} {mk rd : Nat → Nat} {st ro : Nat → Int32} (hn : okN n mk rd) (hF : 2000 ≤ F) {L : List Nat} {a : Nat → Int32} (hL : okL n L) (ha : rL a L) (hl : l < L.length) (h14 : L.length ≤ 14) (ih : SX F n mk rd st ro L a g l) {k : Int} (hk : 0 ≤ k) {A : Nat} {Q : List (Nat × Int)} {T : Nat → Int} (fd : Int32) {to un : Nat → Int32} (ne : Nat → Int32) {ks : Nat → Int32} {kf kc : Nat → Nat → Int32} (hp : preC n rd L (l + 1) l k A Q T to un ks kf kc) :
    ∃ o r, fX0_searchCut F (gX0_search F g) 15 6 12 6 (ii n) 6 st 6 ro (ii L.length) 24 a 14 14 (ii l) (iz k) (ii A) fd to un ne ks kf kc = some r ∧ posC mk rd L l l (l + 1) (k - 1) (A ||| 2 ^ l) Q T ks kf kc o r := by
  obtain ⟨p1, p2, p3, p4, p5, p6, p7, p8, p9, p10, p11, p12, p13⟩ := hp
  have h6 := hn.1
  have ht := hL _ (getD_mem (L := L) (k := l) hl)
  have hsg := sg_ne (L.getD l 0)
  have hf6 : L.getD l 0 / 2 < 6 := by omega
  have eT : to (L.getD l 0 / 2) + (-1 : Int32) * iz (sg (L.getD l 0)) = iz (T (L.getD l 0 / 2) - sg (L.getD l 0)) := by
    rw [p10 _ hf6, kz_m1, iz_mul, iz_add]
    congr 1
    omega
  have hpre : preC n rd L l l (k - 1) (A ||| 2 ^ l) Q (fun f => T f - if L.getD l 0 / 2 = f then sg (L.getD l 0) else 0) (upd to (L.getD l 0 / 2) (iz (T (L.getD l 0 / 2) - sg (L.getD l 0)))) un (va_up ks l (ii Q.length)) (va_up kf l (cpA (kf (l + 1)) (kf l) Q.length)) (va_up kc l (cpA (kc (l + 1)) (kc l) Q.length)) := by
    refine ⟨by omega, by omega, or2_lt p3 (by omega), ?_, okP_mono (by omega) p5, p6, by omega, vup_s _ _ _, ?_, ?_, ?_, ?_, p13⟩
    · intro i hi
      rw [tb_or2, p4 i (by omega), decide_eq_false (by omega)]
      rfl
    · rw [vup_s, vup_s]
      exact rP_copy p9
    · intro f hf
      by_cases hff : f = L.getD l 0 / 2
      · rw [hff, upd_same]
        show _ = iz (T (L.getD l 0 / 2) - if L.getD l 0 / 2 = L.getD l 0 / 2 then sg (L.getD l 0) else 0)
        rw [if_pos rfl]
      · rw [upd_ne _ _ hff, p10 f hf]
        show _ = iz (T f - if L.getD l 0 / 2 = f then sg (L.getD l 0) else 0)
        rw [if_neg (fun h9 => hff h9.symm), Int.sub_zero]
    · intro f hf
      have := p11 f hf
      show -(28 - (l : Int)) ≤ T f - (if L.getD l 0 / 2 = f then sg (L.getD l 0) else 0) ∧ T f - (if L.getD l 0 / 2 = f then sg (L.getD l 0) else 0) ≤ 28 - (l : Int)
      split <;> omega
    · intro f hf
      have h1 := p12 f hf
      rw [UU_0] at h1
      have h2 := nrm_congr (-(if L.getD l 0 / 2 = f then sg (L.getD l 0) else 0)) h1
      show nrm (rd f) (T f - if L.getD l 0 / 2 = f then sg (L.getD l 0) else 0) = _
      rw [Int.sub_eq_add_neg, h2]
      congr 1
      omega
  obtain ⟨o, r, e2, q1, q2, q3, q4, q5⟩ := ih (k - 1) (A ||| 2 ^ l) _ _ fd _ un ne _ _ _ hpre
  have ek : iz k - (1 : Int32) = iz (k - 1) := by
    rw [show (1 : Int32) = iz 1 from rfl, iz_sub]
  unfold fX0_searchCut
  rw [if_neg (nidx (by omega) (by omega)), e1k, if_neg (nidx (by omega) (by omega)), ii_nat (by omega), ii_nat (by omega), p8, pile_copy (by omega) (by omega), Option.bind_some, if_neg (show ¬ (l + 1 = l) by omega), row_at (by omega) (by omega) a (by omega), if_pos hl, ha l hl, Option.bind_some, countIn_X (by omega), Option.bind_some, eT, ek, ii_or2 (by omega)]
  show ∃ o r, ((gX0_search F g 15 6 12 6 (ii n) 6 st 6 ro (ii L.length) 24 a 14 14 (ii l) (iz (k - 1)) (ii (A ||| 2 ^ l)) fd (upd to (L.getD l 0 / 2) (iz (T (L.getD l 0 / 2) - sg (L.getD l 0)))) un ne (va_up ks l (ii Q.length)) (va_up kf l (cpA (kf (l + 1)) (kf l) Q.length)) (va_up kc l (cpA (kc (l + 1)) (kc l) Q.length))).bind _) = _ ∧ _
  rw [e2, Option.bind_some, Option.bind_some, countIn_X (by omega), Option.bind_some]
  have hr01 : r.1 = 0 ∨ r.1 = 1 := by
    rcases q5 with h | h
    · exact Or.inl h.1
    · exact Or.inr h.1
  rw [if_pos hr01]
  refine ⟨o, _, rfl, ?_, q2, ?_, q4, q5⟩
  · intro f hf
    show upd r.2.2.1 (L.getD l 0 / 2) (r.2.2.1 (L.getD l 0 / 2) + 1 * iz (sg (L.getD l 0))) f = iz (T f)
    have qf := q1 f hf
    have qg := q1 (L.getD l 0 / 2) hf6
    by_cases hff : f = L.getD l 0 / 2
    · rw [hff, upd_same, qg]
      show iz (T (L.getD l 0 / 2) - if L.getD l 0 / 2 = L.getD l 0 / 2 then sg (L.getD l 0) else 0) + _ = _
      rw [if_pos rfl, show (1 : Int32) = iz 1 from rfl, iz_mul, iz_add]
      congr 1
      omega
    · rw [upd_ne _ _ hff, qf]
      show iz (T f - if L.getD l 0 / 2 = f then sg (L.getD l 0) else 0) = _
      rw [if_neg (fun h9 => hff h9.symm), Int.sub_zero]
  · intro j hj
    obtain ⟨j1, j2, j3⟩ := q3 j (by omega)
    refine ⟨j1.trans ?_, j2.trans ?_, j3.trans ?_⟩
    · rw [vup_n _ _ (by omega)]
    · rw [vup_n _ _ (by omega)]
    · rw [vup_n _ _ (by omega)]
theorem search_X {F n : Nat} {mk rd : Nat → Nat} {st ro : Nat → Int32} (hn : okN n mk rd) (hx : netX n mk rd st ro) (hr : okR rd) (hF : 2000 ≤ F) {L : List Nat} {a : Nat → Int32} (hL : okL n L) (ha : rL a L) (h14 : L.length ≤ 14) :
    ∀ (l g : Nat), l < g → l ≤ L.length → SX F n mk rd st ro L a g l := by
  have h6 := hn.1
  intro l
  induction l with
  | zero =>
    intro g hg hl k A Q T fd to un ne ks kf kc hp
    obtain ⟨g, rfl⟩ : ∃ g', g = g' + 1 := ⟨g - 1, by omega⟩
    have hp0 := hp
    obtain ⟨p1, p2, p3, p4, p5, p6, p7, p8, p9, p10, p11, p12, p13⟩ := hp
    have hM := miss_X (F := F) hn hx (by omega) (show 0 ≤ 14 by omega) p10 (fun f hf => by have := p11 f hf; omega) p13
    show ∃ o r, fX0_search F (fX0_searchKept F (gX0_search F g)) (fX0_searchCut F (gX0_search F g)) 15 6 12 6 (ii n) 6 st 6 ro (ii L.length) 24 a 14 14 (ii 0) (iz k) (ii A) fd to un ne ks kf kc = some r ∧ _
    unfold fX0_search bX0_search_L34
    have hMb : sN n (fun f => msF (rd f) (nrm (rd f) (T f)) (cnT L (2 * f) 0) (cnT L (2 * f + 1) 0)) ≤ n * 1000 := sN_count (fun f hf => by
      have q1 := msO_le (t := nrm (rd f) (T f)) (u := cnT L (2 * f) 0) (by show 0 ≤ 1000; omega)
      have q2 := msO_le (t := msU (rd f) (nrm (rd f) (T f))) (u := cnT L (2 * f + 1) 0) (by show 0 ≤ 1000; omega)
      unfold msF
      split
      · omega
      · split <;> omega)
    rw [if_neg (by decide), if_neg (by decide), hM, Option.bind_some, ii_iz (sN n _)]
    by_cases hk : k < (sN n (fun f => msF (rd f) (nrm (rd f) (T f)) (cnT L (2 * f) 0) (cnT L (2 * f + 1) 0)) : Int)
    · rw [if_pos (by rw [iz_lt (by omega) (by omega) (by omega) (by omega)]; exact hk)]
      exact ⟨none, _, rfl, p10, p13, fun j _ => ⟨rfl, rfl, rfl⟩, miss_no hr hL hl p12 hk, Or.inl ⟨rfl, rfl⟩⟩
    · rw [if_neg (by rw [iz_lt (by omega) (by omega) (by omega) (by omega)]; exact hk), if_neg (by decide), show (ii 0).toNatClampNeg = 0 from rfl, p8]
      obtain ⟨ne', hpa⟩ := past_X (F := F) (N := 14) hn hx hr (by omega) (show 0 ≤ 14 by omega) p13 (by omega) (okP_mono (by omega) p5) (by omega) p9 ne
      rcases hpa with ⟨e, hle⟩ | ⟨e, hgt⟩
      · rw [e, Option.bind_some, if_pos rfl, if_pos (show ii 0 = (0 : Int32) from rfl)]
        have hQ : Q = [] := by
          cases Q with
          | nil => rfl
          | cons x Q =>
            exfalso
            have hx1 := p5 x (List.mem_cons_self ..)
            have hx2 := p6 x (List.mem_cons_self ..)
            have h1 := phi_pos (rd := rd) (List.mem_cons_self (a := x) (l := Q)) (hr x.1) hx2.1 hx2.2
            have h2 := hle x.1 (by omega)
            have h3 : cnF L x.1 0 = 0 := rfl
            omega
        refine ⟨some A, _, rfl, p10, p13, fun j _ => ⟨rfl, rfl, rfl⟩, ?_, Or.inr ⟨rfl, A, rfl, rfl⟩⟩
        rw [hQ]
        exact srC_0 (by omega)
      · rw [e, Option.bind_some, if_neg (show ¬ (1 : Int32) = 0 by decide)]
        obtain ⟨f, hf⟩ := hgt
        exact ⟨none, _, rfl, p10, p13, fun j _ => ⟨rfl, rfl, rfl⟩, past_no hr p6 hf, Or.inl ⟨rfl, rfl⟩⟩
  | succ l ih =>
    intro g hg hl k A Q T fd to un ne ks kf kc hp
    obtain ⟨g, rfl⟩ : ∃ g', g = g' + 1 := ⟨g - 1, by omega⟩
    have ihl := ih g (by omega) (by omega)
    have hp0 := hp
    obtain ⟨p1, p2, p3, p4, p5, p6, p7, p8, p9, p10, p11, p12, p13⟩ := hp
    have hM := miss_X (F := F) hn hx (by omega) (show l + 1 ≤ 14 by omega) p10 (fun f hf => by have := p11 f hf; omega) p13
    show ∃ o r, fX0_search F (fX0_searchKept F (gX0_search F g)) (fX0_searchCut F (gX0_search F g)) 15 6 12 6 (ii n) 6 st 6 ro (ii L.length) 24 a 14 14 (ii (l + 1)) (iz k) (ii A) fd to un ne ks kf kc = some r ∧ _
    unfold fX0_search bX0_search_L34
    have hMb : sN n (fun f => msF (rd f) (nrm (rd f) (T f)) (cnT L (2 * f) (l + 1)) (cnT L (2 * f + 1) (l + 1))) ≤ n * 1000 := sN_count (fun f hf => by
      have u1 := cnT_le (L := L) (t := 2 * f) (l := l + 1)
      have u2 := cnT_le (L := L) (t := 2 * f + 1) (l := l + 1)
      have q1 := msO_le (t := nrm (rd f) (T f)) (u := cnT L (2 * f) (l + 1)) (by omega)
      have q2 := msO_le (t := msU (rd f) (nrm (rd f) (T f))) (u := cnT L (2 * f + 1) (l + 1)) (by omega)
      unfold msF
      split
      · omega
      · split <;> omega)
    rw [if_neg (by rw [ii_nneg (by omega)]; simp), if_neg (by rw [k_14, ii_lt (by omega) (by omega)]; omega), hM, Option.bind_some, ii_iz (sN n _)]
    by_cases hk : k < (sN n (fun f => msF (rd f) (nrm (rd f) (T f)) (cnT L (2 * f) (l + 1)) (cnT L (2 * f + 1) (l + 1))) : Int)
    · rw [if_pos (by rw [iz_lt (by omega) (by omega) (by omega) (by omega)]; exact hk)]
      exact ⟨none, _, rfl, p10, p13, fun j _ => ⟨rfl, rfl, rfl⟩, miss_no hr hL hl p12 hk, Or.inl ⟨rfl, rfl⟩⟩
    · have hk0 : 0 ≤ k := by omega
      rw [if_neg (by rw [iz_lt (by omega) (by omega) (by omega) (by omega)]; exact hk), if_neg (nidx (by omega) (by omega)), ii_nat (by omega), p8]
      obtain ⟨ne', hpa⟩ := past_X (F := F) (N := 14) hn hx hr (by omega) (show l + 1 ≤ 14 by omega) p13 (by omega) (okP_mono (by omega) p5) (by omega) p9 ne
      rcases hpa with ⟨e, hle⟩ | ⟨e, hgt⟩
      · have ht := hL _ (getD_mem (L := L) (k := l) (by omega))
        have em1 : ii (l + 1) - (1 : Int32) = ii l := by rw [k_1, ii_sub (by omega)]; rfl
        rw [e, Option.bind_some, if_pos rfl, if_neg (by rw [len0 (by omega)]; omega), em1, row_at (by omega) (by omega) a (by omega), if_pos (show l < L.length by omega), ha l (by omega), Option.bind_some, comeBy_X (by omega), Option.bind_some]
        have hun : ∀ t, t < 12 → upd un (L.getD l 0) (un (L.getD l 0) + (-1 : Int32)) t = ii (cnT L t l) := by
          intro t ht2
          by_cases htt : t = L.getD l 0
          · rw [htt, upd_same, p13 _ (by omega), cnT_s, ind_t rfl, ii_m1 (by omega)]
            rfl
          · rw [upd_ne _ _ htt, p13 t ht2, cnT_s, ind_f (fun h9 => htt h9.symm), Nat.add_zero]
        have hpk : preC n rd L (l + 1) l k A Q T to (upd un (L.getD l 0) (un (L.getD l 0) + (-1 : Int32))) ks kf kc := ⟨p1, p2, p3, p4, p5, p6, p7, p8, p9, p10, p11, p12, hun⟩
        obtain ⟨o1, r1, e1, q1, q2, q3, q4, q5⟩ := kept_X (F := F) (g := g) hn hx hr hF hL ha (show l < L.length by omega) h14 ihl fd ne' hpk
        have back : ∀ un2 : Nat → Int32, (∀ t, t < 12 → un2 t = ii (cnT L t l)) → ∀ t, t < 12 → upd un2 (L.getD l 0) (un2 (L.getD l 0) + 1) t = ii (cnT L t (l + 1)) := by
          intro un2 h2 t ht2
          by_cases htt : t = L.getD l 0
          · rw [htt, upd_same, h2 _ (by omega), cnT_s, ind_t rfl, e1k]
          · rw [upd_ne _ _ htt, h2 t ht2, cnT_s, ind_f (fun h9 => htt h9.symm), Nat.add_zero]
        have hA0 : A.testBit l = false := p4 l (by omega)
        show ∃ o r, ((fX0_searchKept F (gX0_search F g) 15 6 12 6 (ii n) 6 st 6 ro (ii L.length) 24 a 14 14 (ii l) (iz k) (ii A) fd to (upd un (L.getD l 0) (un (L.getD l 0) + (-1 : Int32))) ne' ks kf kc).bind _) = _ ∧ _
        rw [e1, Option.bind_some]
        rcases q5 with ⟨r0, ro0⟩ | ⟨r0, D, ro1, rD⟩
        · rw [if_pos r0]
          subst ro0
          have hpc : preC n rd L (l + 1) l k A Q T r1.2.2.1 r1.2.2.2.1 r1.2.2.2.2.2.1 r1.2.2.2.2.2.2.1 r1.2.2.2.2.2.2.2 := ⟨p1, p2, p3, p4, p5, p6, p7, by rw [(q3 (l + 1) (by omega)).1]; exact p8, by rw [(q3 (l + 1) (by omega)).2.1, (q3 (l + 1) (by omega)).2.2]; exact p9, q1, p11, p12, q2⟩
          obtain ⟨o2, r2, e2, s1, s2, s3, s4, s5⟩ := cutS_X (F := F) (g := g) hn hF hL ha (show l < L.length by omega) h14 ihl hk0 r1.2.1 r1.2.2.2.2.1 hpc
          rw [e2, Option.bind_some]
          have hpool : ∀ j, l + 1 ≤ j → r2.2.2.2.2.2.1 j = ks j ∧ r2.2.2.2.2.2.2.1 j = kf j ∧ r2.2.2.2.2.2.2.2 j = kc j := by
            intro j hj
            obtain ⟨j1, j2, j3⟩ := s3 j hj
            obtain ⟨i1, i2, i3⟩ := q3 j hj
            exact ⟨j1.trans i1, j2.trans i2, j3.trans i3⟩
          have hsr := srC_cut hA0 q4 s4
          unfold bX0_search_L96 bX0_search_L101
          rw [comeBy_X (by omega), Option.bind_some]
          rcases s5 with ⟨t0, to0⟩ | ⟨t0, D, to1, tD⟩
          · rw [if_pos t0, if_pos (Or.inl rfl)]
            exact ⟨o2, _, rfl, s1, back _ s2, hpool, hsr, Or.inl ⟨rfl, to0⟩⟩
          · rw [if_neg (by rw [t0]; decide), Option.bind_some, if_pos (Or.inr rfl)]
            exact ⟨o2, _, rfl, s1, back _ s2, hpool, hsr, Or.inr ⟨rfl, D, to1, tD⟩⟩
        · rw [if_neg (by rw [r0]; decide)]
          unfold bX0_search_L96 bX0_search_L101
          rw [comeBy_X (by omega), Option.bind_some, if_pos (Or.inr rfl)]
          subst ro1
          exact ⟨some D, _, rfl, q1, back _ q2, q3, srC_kept hA0 q4, Or.inr ⟨rfl, D, rfl, rD⟩⟩
      · rw [e, Option.bind_some, if_neg (show ¬ (1 : Int32) = 0 by decide)]
        obtain ⟨f, hf⟩ := hgt
        exact ⟨none, _, rfl, p10, p13, fun j _ => ⟨rfl, rfl, rfl⟩, past_no hr p6 hf, Or.inl ⟨rfl, rfl⟩⟩
