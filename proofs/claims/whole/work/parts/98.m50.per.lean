/-! PURE: rings that go round; two of them are one iff one rotation is like the other -/
/-- good rings of a party -/
def KP (mk rd : Nat → Nat) (f0 : Nat) (x : List (Nat × Int)) : Prop := GR mk rd x ∧ CN mk f0 x
theorem CN_rev {mk : Nat → Nat} {f0 : Nat} {x : List (Nat × Int)} (h : CN mk f0 x) : CN mk f0 x.reverse := CN_mem (fun a => List.mem_reverse.symm) h
theorem KP_RS {mk rd : Nat → Nat} (hs : symK mk) {f0 f : Nat} {x y : List (Nat × Int)} (h : KP mk rd f0 x) (h2 : RS mk f x y) : KP mk rd f0 y := ⟨GR_RS hs h.1 h2, CN_mem (fun a => RS_mem h2) h.2⟩
theorem KP_RT {mk rd : Nat → Nat} (hs : symK mk) {f0 n : Nat} {x y : List (Nat × Int)} (h : KP mk rd f0 x) (h2 : RT mk n x y) : KP mk rd f0 y := ⟨RT_GR hs n h.1 h2, CN_mem (RT_mem h2) h.2⟩
theorem KP_op {mk rd : Nat → Nat} (hs : symK mk) {f0 : Nat} {x : List (Nat × Int)} (h : KP mk rd f0 x) : ∃ p, Op mk f0 x p := by
  have := opn_Op hs (n := x.reverse.length) (CN_rev h.2) (Nat.le_refl _)
  rw [List.reverse_reverse] at this
  exact ⟨_, this⟩
theorem KP_Op {mk rd : Nat → Nat} (hs : symK mk) {f0 : Nat} {x p : List (Nat × Int)} (h : KP mk rd f0 x) (hp : Op mk f0 x p) : KP mk rd f0 p := by
  obtain ⟨⟨k, hk⟩, _⟩ := hp
  exact KP_RT hs h (RC_RT hk)
theorem Ro_RT {mk : Nat → Nat} {f0 : Nat} {p q : List (Nat × Int)} (h : Ro mk f0 p q) : ∃ m, RT mk m p q := by
  obtain ⟨p', h1, ⟨k, h2⟩, _⟩ := h
  exact ⟨k + 1, f0, p', h1, RC_RT h2⟩
theorem RoN_RT {mk : Nat → Nat} {f0 : Nat} : ∀ {n : Nat} {p q : List (Nat × Int)}, RoN mk f0 n p q → ∃ m, RT mk m p q
  | 0, _, _, h => ⟨0, h⟩
  | n + 1, _, _, h => by
    obtain ⟨z, h1, h2⟩ := h
    obtain ⟨a, ha⟩ := Ro_RT h1
    obtain ⟨b, hb⟩ := RoN_RT h2
    exact ⟨a + b, RT_tr ha hb⟩
theorem RoN_NM {mk : Nat → Nat} {f0 : Nat} : ∀ {n : Nat} {p q : List (Nat × Int)}, NM mk f0 p → RoN mk f0 n p q → NM mk f0 q
  | 0, _, _, hp, h => NM_EQ h hp
  | n + 1, _, _, _, h => by
    obtain ⟨z, ⟨p', _, _, h1⟩, h2⟩ := h
    exact RoN_NM h1 h2
/-- once round -/
theorem RoN_per {mk rd : Nat → Nat} (hs : symK mk) {f0 : Nat} {p : List (Nat × Int)} (hp : KP mk rd f0 p) (hn : NM mk f0 p) : RoN mk f0 (cnt0 f0 p) p p := by
  have h1 := RC_all (mk := mk) (f0 := f0) p.length [] p rfl
  rw [List.nil_append, List.append_nil] at h1
  obtain ⟨q, h2, h3⟩ := Op_RC hs (KP mk rd f0) (fun x y f hx h => KP_RS hs hx h) (fun x hx => KP_op hs hx) _ _ hp h1 (Op_self hn)
  have e := Op_uniq hs EQ.rfl9 h2 (Op_self hn)
  have hr : ∀ {n : Nat} {a b c : List (Nat × Int)}, RoN mk f0 n a b → EQ mk b c → RoN mk f0 n a c := by
    intro n
    induction n with
    | zero => intro a b c x y; exact EQ.trans9 x y
    | succ n ih => intro a b c x y; obtain ⟨z, u, v⟩ := x; exact ⟨z, u, ih v y⟩
  exact hr h3 e
theorem RoN_r {mk : Nat → Nat} {f0 : Nat} : ∀ {n : Nat} {a b c : List (Nat × Int)}, RoN mk f0 n a b → EQ mk b c → RoN mk f0 n a c
  | 0, _, _, _, x, y => EQ.trans9 x y
  | n + 1, _, _, _, x, y => by
    obtain ⟨z, u, v⟩ := x
    exact ⟨z, u, RoN_r v y⟩
theorem RoN_mul {mk : Nat → Nat} {f0 k : Nat} {p : List (Nat × Int)} (h : RoN mk f0 k p p) : ∀ m, RoN mk f0 (m * k) p p
  | 0 => by rw [Nat.zero_mul]; exact EQ.rfl9
  | m + 1 => by
    rw [Nat.succ_mul]
    exact RoN_tr (fun a b => RoN_l a b) (RoN_mul h m) h
/-- cut at a point of the way -/
theorem RoN_cut {mk : Nat → Nat} {f0 : Nat} : ∀ {a b : Nat} {p q : List (Nat × Int)}, RoN mk f0 (a + b) p q → ∃ z, RoN mk f0 a p z ∧ RoN mk f0 b z q
  | 0, b, p, q, h => ⟨p, EQ.rfl9, by rw [Nat.zero_add] at h; exact h⟩
  | a + 1, b, p, q, h => by
    rw [show a + 1 + b = (a + b) + 1 by omega] at h
    obtain ⟨w, h1, h2⟩ := h
    obtain ⟨z, h3, h4⟩ := RoN_cut h2
    exact ⟨z, ⟨w, h1, h3⟩, h4⟩
theorem RoN_mod {mk : Nat → Nat} (hs : symK mk) {f0 k n : Nat} {p q : List (Nat × Int)} (hk : 0 < k) (h : RoN mk f0 k p p) (hq : RoN mk f0 n p q) : RoN mk f0 (n % k) p q := by
  have e : n = (n / k) * k + n % k := by rw [Nat.mul_comm]; exact (Nat.div_add_mod n k).symm
  rw [e] at hq
  obtain ⟨z, h1, h2⟩ := RoN_cut hq
  exact RoN_l (RoN_uniq hs _ EQ.rfl9 (RoN_mul h (n / k)) h1) h2
theorem JR_ro {mk rd : Nat → Nat} (hs : symK mk) {f0 : Nat} {a b p q : List (Nat × Int)} (ha : KP mk rd f0 a) (hb : KP mk rd f0 b) (hp : Op mk f0 a p) (hq : Op mk f0 b q) : JR mk a b ↔ ∃ n, n < cnt0 f0 p ∧ RoN mk f0 n p q := by
  constructor
  · rintro ⟨z, m, n, h1, h2⟩
    obtain ⟨j, hj⟩ := RT_RC f0 h1
    obtain ⟨i, hi⟩ := RT_RC f0 h2
    obtain ⟨x, x1, x2⟩ := Op_RC hs (KP mk rd f0) (fun x y f hx h => KP_RS hs hx h) (fun x hx => KP_op hs hx) _ _ ha hj hp
    obtain ⟨y, y1, y2⟩ := Op_RC hs (KP mk rd f0) (fun x y f hx h => KP_RS hs hx h) (fun x hx => KP_op hs hx) _ _ hb hi hq
    have e := Op_uniq hs EQ.rfl9 x1 y1
    have hP := KP_Op hs ha hp
    have hQ := KP_Op hs hb hq
    have hper := RoN_per hs hP hp.2
    have hperQ := RoN_per hs hQ hq.2
    have hpos : ∀ {w : List (Nat × Int)}, CN mk f0 w → 0 < cnt0 f0 w := by
      intro w hw
      obtain ⟨x, hx, e⟩ := hw.1
      unfold cnt0
      apply List.length_pos_of_mem (a := x)
      rw [List.mem_filter]
      exact ⟨hx, by rw [e]; exact beq_self_eq_true _⟩
    have hkp := hpos hP.2
    have hkq := hpos hQ.2
    -- q comes back to itself after i and some more
    have hle : i ≤ i * cnt0 f0 q := Nat.le_mul_of_pos_right _ hkq
    have hmul := RoN_mul hperQ i
    rw [show i * cnt0 f0 q = i + (i * cnt0 f0 q - i) by omega] at hmul
    obtain ⟨w, w1, w2⟩ := RoN_cut hmul
    have e2 := RoN_uniq hs _ EQ.rfl9 w1 y2
    have h3 : RoN mk f0 (j + (i * cnt0 f0 q - i)) p q := RoN_tr (fun a b => RoN_l a b) x2 (RoN_l (e.trans9 e2.symm9) w2)
    exact ⟨_, Nat.mod_lt _ hkp, RoN_mod hs hkp hper h3⟩
  · rintro ⟨n, _, h⟩
    obtain ⟨⟨k, hk⟩, _⟩ := hp
    obtain ⟨⟨l, hl⟩, _⟩ := hq
    obtain ⟨m, hm⟩ := RoN_RT h
    exact ⟨q, k + m, l, RT_tr (RC_RT hk) hm, RC_RT hl⟩
/-- the next rotation, bottom first -/
def rtn (mk : Nat → Nat) (f0 N : Nat) (w : List (Nat × Int)) : List (Nat × Int) := opn mk f0 N (w.drop 1 ++ w.take 1)
theorem rtn_Ro {mk : Nat → Nat} (hs : symK mk) {f0 N : Nat} {w : List (Nat × Int)} (hw : CN mk f0 w) (h0 : (bnF mk f0 0 w).1 = []) (hN : w.length ≤ N) : Ro mk f0 w.reverse (rtn mk f0 N w).reverse ∧ CN mk f0 (rtn mk f0 N w) ∧ (bnF mk f0 0 (rtn mk f0 N w)).1 = [] ∧ (rtn mk f0 N w).length = w.length := by
  rcases opn_head h0 with e | ⟨c, w', e⟩
  · rw [e] at hw
    obtain ⟨x, hx, _⟩ := hw.1
    cases hx
  · have em : ∀ a, a ∈ w ↔ a ∈ w' ++ [(f0, c)] := by intro a; rw [e]; simp [or_comm]
    have hc2 := CN_mem em hw
    have hl : (w' ++ [(f0, c)]).length = w.length := by rw [e]; simp
    have hop := opn_Op hs (n := N) hc2 (by omega)
    have hlb := bn_len (mk := mk) (f0 := f0) (w := w' ++ [(f0, c)]) (M := 0)
    have hok := opn_ok hs N hc2 (by omega)
    have er : rtn mk f0 N w = opn mk f0 N (w' ++ [(f0, c)]) := by unfold rtn; rw [e]; rfl
    rw [er]
    obtain ⟨h1, k, h2⟩ := hok
    refine ⟨⟨(w' ++ [(f0, c)]).reverse, ⟨c, w'.reverse, ?_, ?_⟩, hop⟩, ?_, h1, ?_⟩
    · rw [e, List.reverse_cons]; exact EQ.rfl9
    · rw [List.reverse_append]; exact EQ.rfl9
    · refine CN_mem (fun a => ?_) hc2
      have := RT_mem (RC_RT h2) a
      rw [List.mem_reverse, List.mem_reverse] at this
      exact this
    · have := RT_len hs (RC_RT h2)
      rw [List.length_reverse, List.length_reverse] at this
      omega
def rtN (mk : Nat → Nat) (f0 N : Nat) : Nat → List (Nat × Int) → List (Nat × Int)
  | 0, w => w
  | n + 1, w => rtN mk f0 N n (rtn mk f0 N w)
theorem rtN_Ro {mk : Nat → Nat} (hs : symK mk) {f0 N : Nat} : ∀ (n : Nat) {w : List (Nat × Int)}, CN mk f0 w → (bnF mk f0 0 w).1 = [] → w.length ≤ N → RoN mk f0 n w.reverse (rtN mk f0 N n w).reverse
  | 0, _, _, _, _ => EQ.rfl9
  | n + 1, w, hw, h0, hN => by
    obtain ⟨h1, h2, h3, h4⟩ := rtn_Ro hs hw h0 hN
    exact ⟨_, h1, rtN_Ro hs n h2 h3 (by omega)⟩
/-- what the party's answer is -/
theorem JR_rtN {mk rd : Nat → Nat} (hs : symK mk) {f0 N : Nat} {a b : List (Nat × Int)} (ha : KP mk rd f0 a.reverse) (hb : KP mk rd f0 b.reverse) (hNa : a.length ≤ N) (hNb : b.length ≤ N) : JR mk a.reverse b.reverse ↔ ∃ n, n < cnt0 f0 (opn mk f0 N a) ∧ EQ mk (rtN mk f0 N n (opn mk f0 N a)).reverse (opn mk f0 N b).reverse := by
  have hCa : CN mk f0 a := by have := CN_rev ha.2; rw [List.reverse_reverse] at this; exact this
  have hCb : CN mk f0 b := by have := CN_rev hb.2; rw [List.reverse_reverse] at this; exact this
  have hla := bn_len (mk := mk) (f0 := f0) (w := a) (M := 0)
  obtain ⟨h1, k, h2⟩ := opn_ok hs N hCa (by omega)
  have hpa := opn_Op hs hCa hNa
  have hpb := opn_Op hs hCb hNb
  have hCo : CN mk f0 (opn mk f0 N a) := by
    refine CN_mem (fun x => ?_) hCa
    have := RT_mem (RC_RT h2) x
    rw [List.mem_reverse, List.mem_reverse] at this
    exact this
  have hlo : (opn mk f0 N a).length = a.length := by
    have := RT_len hs (RC_RT h2)
    rw [List.length_reverse, List.length_reverse] at this
    exact this.symm
  have ec : cnt0 f0 (opn mk f0 N a).reverse = cnt0 f0 (opn mk f0 N a) := by
    unfold cnt0
    rw [List.filter_reverse, List.length_reverse]
  rw [JR_ro hs ha hb hpa hpb, ec]
  constructor
  · rintro ⟨n, hn, h⟩
    exact ⟨n, hn, RoN_uniq hs n EQ.rfl9 (rtN_Ro hs n hCo h1 (by omega)) h⟩
  · rintro ⟨n, hn, h⟩
    exact ⟨n, hn, RoN_r (rtN_Ro hs n hCo h1 (by omega)) h⟩
