/-! PURE: the search for the fewest cuts: what it finds, and why it may be cut short -/
def runC (mk rd : Nat → Nat) (L : List Nat) (l : Nat) (Q : List (Nat × Int)) (C : Nat) : List (Nat × Int) := psL mk rd Q (slF L C l).reverse
theorem runC_in {mk rd : Nat → Nat} {L : List Nat} {l C : Nat} {Q : List (Nat × Int)} (h : C.testBit l = true) : runC mk rd L (l + 1) Q C = runC mk rd L l Q C := by
  unfold runC
  rw [slF_in h]
theorem runC_out {mk rd : Nat → Nat} {L : List Nat} {l C : Nat} {Q : List (Nat × Int)} (h : ¬ C.testBit l = true) : runC mk rd L (l + 1) Q C = runC mk rd L l (psT mk rd Q (L.getD l 0)) C := by
  unfold runC
  rw [slF_out h, List.reverse_append]
  rfl
abbrev agB (l D A : Nat) : Prop := ∀ i, l ≤ i → D.testBit i = A.testBit i
def srC (mk rd : Nat → Nat) (L : List Nat) (l : Nat) (Q : List (Nat × Int)) (k : Int) (A : Nat) : Option Nat → Prop
  | none => ∀ D, agB l D A → (pcS l D : Int) ≤ k → runC mk rd L l Q D ≠ []
  | some D => agB l D A ∧ (pcS l D : Int) ≤ k ∧ runC mk rd L l Q D = [] ∧ ∀ D', agB l D' A → (pcS l D' : Int) ≤ k → runC mk rd L l Q D' = [] → D ≤ D'
theorem pcS_s (l D : Nat) : pcS (l + 1) D = pcS l D + ind (D.testBit l = true) := rfl
theorem agB_0 {l D A : Nat} (hA : A.testBit l = false) : agB l D A ↔ agB (l + 1) D A ∧ D.testBit l = false := by
  constructor
  · intro h
    exact ⟨fun i hi => h i (by omega), by rw [h l (Nat.le_refl _), hA]⟩
  · rintro ⟨h1, h2⟩ i hi
    by_cases hil : i = l
    · rw [hil, h2, hA]
    · exact h1 i (by omega)
theorem agB_1 {l D A : Nat} : agB l D (A ||| 2 ^ l) ↔ agB (l + 1) D A ∧ D.testBit l = true := by
  constructor
  · intro h
    refine ⟨fun i hi => ?_, ?_⟩
    · rw [h i (by omega), tb_or2, decide_eq_false (by omega), Bool.or_false]
    · rw [h l (Nat.le_refl _), tb_or2, decide_eq_true rfl, Bool.or_true]
  · rintro ⟨h1, h2⟩ i hi
    by_cases hil : i = l
    · rw [hil, h2, tb_or2, decide_eq_true rfl, Bool.or_true]
    · rw [h1 i (by omega), tb_or2, decide_eq_false (by omega), Bool.or_false]
theorem lt_tb {x y l : Nat} (hx : x.testBit l = false) (hy : y.testBit l = true) (h : ∀ j, l + 1 ≤ j → x.testBit j = y.testBit j) : x < y := by
  have e : x / 2 ^ (l + 1) = y / 2 ^ (l + 1) := Nat.eq_of_testBit_eq (fun i => by
    rw [Nat.testBit_div_two_pow, Nat.testBit_div_two_pow]
    exact h _ (by omega))
  rw [Nat.pow_succ, ← Nat.div_div_eq_div_mul, ← Nat.div_div_eq_div_mul] at e
  rw [Nat.testBit_eq_decide_div_mod_eq] at hx hy
  have hx2 := of_decide_eq_false hx
  have hy2 := of_decide_eq_true hy
  rcases Nat.lt_or_ge x y with h9 | h9
  · exact h9
  · have := Nat.div_le_div_right (c := 2 ^ l) h9
    omega
theorem srC_kept {mk rd : Nat → Nat} {L : List Nat} {l : Nat} {Q : List (Nat × Int)} {k : Int} {A D : Nat} (hA : A.testBit l = false) (h : srC mk rd L l (psT mk rd Q (L.getD l 0)) k A (some D)) : srC mk rd L (l + 1) Q k A (some D) := by
  obtain ⟨h1, h2, h3, h4⟩ := h
  have h5 := (agB_0 hA).mp h1
  have hb : ¬ D.testBit l = true := by rw [h5.2]; decide
  refine ⟨h5.1, ?_, ?_, ?_⟩
  · rw [pcS_s, ind_f hb, Nat.add_zero]; exact h2
  · rw [runC_out hb]; exact h3
  · intro D' g1 g2 g3
    by_cases hb' : D'.testBit l = true
    · refine Nat.le_of_lt (lt_tb h5.2 hb' (fun j hj => ?_))
      rw [h5.1 j (by omega), g1 j (by omega)]
    · have hb2 : D'.testBit l = false := by simpa using hb'
      rw [runC_out hb'] at g3
      rw [pcS_s, ind_f hb', Nat.add_zero] at g2
      exact h4 D' ((agB_0 hA).mpr ⟨g1, hb2⟩) g2 g3
theorem srC_cut {mk rd : Nat → Nat} {L : List Nat} {l : Nat} {Q : List (Nat × Int)} {k : Int} {A : Nat} {r : Option Nat} (hA : A.testBit l = false) (h : srC mk rd L l (psT mk rd Q (L.getD l 0)) k A none) (h2 : srC mk rd L l Q (k - 1) (A ||| 2 ^ l) r) : srC mk rd L (l + 1) Q k A r := by
  have key : ∀ D', agB (l + 1) D' A → (pcS (l + 1) D' : Int) ≤ k → runC mk rd L (l + 1) Q D' = [] → agB l D' (A ||| 2 ^ l) ∧ (pcS l D' : Int) ≤ k - 1 ∧ runC mk rd L l Q D' = [] := by
    intro D' g1 g2 g3
    by_cases hb' : D'.testBit l = true
    · rw [runC_in hb'] at g3
      rw [pcS_s, ind_t hb'] at g2
      exact ⟨agB_1.mpr ⟨g1, hb'⟩, by omega, g3⟩
    · have hb2 : D'.testBit l = false := by simpa using hb'
      rw [runC_out hb'] at g3
      rw [pcS_s, ind_f hb', Nat.add_zero] at g2
      exact absurd g3 (h D' ((agB_0 hA).mpr ⟨g1, hb2⟩) g2)
  cases r with
  | none =>
    intro D' g1 g2 g3
    obtain ⟨q1, q2, q3⟩ := key D' g1 g2 g3
    exact h2 D' q1 q2 q3
  | some D =>
    obtain ⟨a1, a2, a3, a4⟩ := h2
    have a5 := agB_1.mp a1
    refine ⟨a5.1, ?_, ?_, ?_⟩
    · rw [pcS_s, ind_t a5.2]; omega
    · rw [runC_in a5.2]; exact a3
    · intro D' g1 g2 g3
      obtain ⟨q1, q2, q3⟩ := key D' g1 g2 g3
      exact a4 D' q1 q2 q3
theorem srC_0 {mk rd : Nat → Nat} {L : List Nat} {k : Int} {A : Nat} (hk : 0 ≤ k) : srC mk rd L 0 [] k A (some A) := by
  refine ⟨fun i _ => rfl, hk, rfl, ?_⟩
  intro D' g1 _ _
  rw [Nat.eq_of_testBit_eq (fun i => g1 i (Nat.zero_le i))]
  exact Nat.le_refl _
/-- what each folk's bundles need -/
def phi (rd : Nat → Nat) (f : Nat) : List (Nat × Int) → Nat
  | [] => 0
  | x :: Q => (if x.1 = f then (tv (rd f) x.2).natAbs else 0) + phi rd f Q
theorem phi_cons (rd : Nat → Nat) (f : Nat) (x : Nat × Int) (Q : List (Nat × Int)) : phi rd f (x :: Q) = (if x.1 = f then (tv (rd f) x.2).natAbs else 0) + phi rd f Q := rfl
theorem phi_app (rd : Nat → Nat) (f : Nat) (A Q : List (Nat × Int)) : phi rd f (A ++ Q) = phi rd f A + phi rd f Q := by
  induction A with
  | nil => rw [List.nil_append]; show _ = 0 + _; omega
  | cons x A ih => rw [List.cons_append, phi_cons, phi_cons, ih]; omega
theorem tvm0 (c : Int) : tv 0 c = c := rfl
theorem tvm2 (c : Int) : tv 2 c = if 2 * c ≤ 2 then c else c - 2 := rfl
theorem tvm3 (c : Int) : tv 3 c = if 2 * c ≤ 3 then c else c - 3 := rfl
theorem tvm4 (c : Int) : tv 4 c = if 2 * c ≤ 4 then c else c - 4 := rfl
theorem nrm0 (c : Int) : nrm 0 c = c := rfl
theorem nrm2 (c : Int) : nrm 2 c = c % 2 := rfl
theorem nrm3 (c : Int) : nrm 3 c = c % 3 := rfl
theorem nrm4 (c : Int) : nrm 4 c = c % 4 := rfl
theorem tv_step {m : Nat} (hm : m = 0 ∨ m = 2 ∨ m = 3 ∨ m = 4) {d c : Int} (hc : c = 1 ∨ c = -1) (hd : nrm m d = d) : (tv m d).natAbs ≤ (tv m (nrm m (d + c))).natAbs + 1 := by
  rcases hm with rfl | rfl | rfl | rfl
  · rw [nrm0, tvm0, tvm0]; omega
  · rw [nrm2] at hd
    rw [nrm2, tvm2, tvm2]
    rcases hc with rfl | rfl <;> (split <;> split <;> omega)
  · rw [nrm3] at hd
    rw [nrm3, tvm3, tvm3]
    rcases hc with rfl | rfl <;> (split <;> split <;> omega)
  · rw [nrm4] at hd
    rw [nrm4, tvm4, tvm4]
    rcases hc with rfl | rfl <;> (split <;> split <;> omega)
theorem tv_0 (m : Nat) : (tv m 0).natAbs = 0 := by
  unfold tv
  split
  · rfl
  · rw [if_pos (by omega)]; rfl
theorem phi_ps {mk rd : Nat → Nat} (hr : okR rd) {Q : List (Nat × Int)} (hC : okC rd Q) (f t : Nat) : phi rd f Q ≤ phi rd f (psT mk rd Q t) + ind (t / 2 = f) := by
  unfold psT ps
  cases hj : jn mk rd (t / 2) (sg t) Q with
  | none =>
    show phi rd f Q ≤ phi rd f ((t / 2, nrm (rd (t / 2)) (sg t)) :: Q) + _
    rw [phi_cons]; omega
  | some P =>
    show phi rd f Q ≤ phi rd f P + _
    obtain ⟨A, d, R, e1, e2, e3⟩ := jn_split hj
    have hd := hC (t / 2, d) (by rw [e1]; simp)
    have ts : (tv (rd (t / 2)) d).natAbs ≤ (tv (rd (t / 2)) (nrm (rd (t / 2)) (d + sg t))).natAbs + 1 := tv_step (hr (t / 2)) (sg_ne t) hd.1
    rw [e1, e3, phi_app, phi_app, phi_cons]
    by_cases hf : t / 2 = f
    · subst hf
      rw [if_pos rfl, ind_t rfl]
      by_cases h0 : nrm (rd (t / 2)) (d + sg t) = 0
      · rw [if_pos h0]
        rw [h0, tv_0] at ts
        show _ + ((tv (rd (t / 2)) d).natAbs + _) ≤ _
        omega
      · rw [if_neg h0, phi_cons, if_pos rfl]
        show _ + ((tv (rd (t / 2)) d).natAbs + _) ≤ _ + ((tv (rd (t / 2)) (nrm (rd (t / 2)) (d + sg t))).natAbs + _) + _
        omega
    · rw [if_neg hf, ind_f hf]
      by_cases h0 : nrm (rd (t / 2)) (d + sg t) = 0
      · rw [if_pos h0]; omega
      · rw [if_neg h0, phi_cons, if_neg hf]; omega
theorem psT_okC {mk rd : Nat → Nat} (hr : okR rd) {Q : List (Nat × Int)} (hC : okC rd Q) (t : Nat) : okC rd (psT mk rd Q t) := ps_okC (nrm_sg (hr (t / 2)) t) hC
theorem phi_run {mk rd : Nat → Nat} (hr : okR rd) {L : List Nat} (f : Nat) {D : Nat} : ∀ (l : Nat) {Q : List (Nat × Int)}, okC rd Q → phi rd f Q ≤ phi rd f (runC mk rd L l Q D) + cnF L f l := by
  intro l
  induction l with
  | zero => intro Q _; show phi rd f Q ≤ phi rd f Q + 0; omega
  | succ l ih =>
    intro Q hC
    rw [cnF_s]
    by_cases hb : D.testBit l = true
    · rw [runC_in hb]
      have := ih hC
      omega
    · rw [runC_out hb]
      have h1 := phi_ps (mk := mk) hr hC f (L.getD l 0)
      have h2 := ih (psT_okC (mk := mk) hr hC (L.getD l 0))
      have e : ind (fkA L l = f) = ind (L.getD l 0 / 2 = f) := rfl
      omega
theorem past_no {mk rd : Nat → Nat} (hr : okR rd) {L : List Nat} {l f : Nat} {Q : List (Nat × Int)} {k : Int} {A : Nat} (hC : okC rd Q) (h : cnF L f l < phi rd f Q) : srC mk rd L l Q k A none := by
  intro D _ _ h9
  have := phi_run (mk := mk) hr (L := L) f (D := D) l hC
  rw [h9] at this
  have e : phi rd f [] = 0 := rfl
  omega
theorem phi_pos {rd : Nat → Nat} {x : Nat × Int} {Q : List (Nat × Int)} (hx : x ∈ Q) (hm : rd x.1 = 0 ∨ rd x.1 = 2 ∨ rd x.1 = 3 ∨ rd x.1 = 4) (h1 : nrm (rd x.1) x.2 = x.2) (h2 : x.2 ≠ 0) : 0 < phi rd x.1 Q := by
  obtain ⟨A, B, rfl⟩ := List.append_of_mem hx
  rw [phi_app, phi_cons, if_pos rfl]
  have : 0 < (tv (rd x.1) x.2).natAbs := by
    rcases hm with h | h | h | h <;> rw [h] at h1 ⊢
    · rw [tvm0]; omega
    · rw [nrm2] at h1
      rw [tvm2]
      split <;> omega
    · rw [nrm3] at h1
      rw [tvm3]
      split <;> omega
    · rw [nrm4] at h1
      rw [tvm4]
      split <;> omega
  omega
/-- what each folk's bundles count for -/
def sgm (f : Nat) : List (Nat × Int) → Int
  | [] => 0
  | x :: Q => (if x.1 = f then x.2 else 0) + sgm f Q
theorem sgm_cons (f : Nat) (x : Nat × Int) (Q : List (Nat × Int)) : sgm f (x :: Q) = (if x.1 = f then x.2 else 0) + sgm f Q := rfl
theorem sgm_app (f : Nat) (A Q : List (Nat × Int)) : sgm f (A ++ Q) = sgm f A + sgm f Q := by
  induction A with
  | nil => rw [List.nil_append]; show _ = 0 + _; omega
  | cons x A ih => rw [List.cons_append, sgm_cons, sgm_cons, ih]; omega
theorem nrm_add2 (m : Nat) (a b : Int) : nrm m (a + nrm m b) = nrm m (a + b) := by
  rw [Int.add_comm, nrm_add, Int.add_comm]
theorem nrm_congr {m : Nat} {a b : Int} (c : Int) (h : nrm m a = nrm m b) : nrm m (a + c) = nrm m (b + c) := by
  rw [← nrm_add, h, nrm_add]
theorem sgm_ps {mk rd : Nat → Nat} {Q : List (Nat × Int)} (f t : Nat) : nrm (rd f) (sgm f (psT mk rd Q t)) = nrm (rd f) (sgm f Q + if t / 2 = f then sg t else 0) := by
  unfold psT ps
  cases hj : jn mk rd (t / 2) (sg t) Q with
  | none =>
    show nrm (rd f) (sgm f ((t / 2, nrm (rd (t / 2)) (sg t)) :: Q)) = _
    rw [sgm_cons]
    by_cases hf : t / 2 = f
    · subst hf
      rw [if_pos rfl, if_pos rfl]
      show nrm _ (nrm (rd (t / 2)) (sg t) + _) = _
      rw [nrm_add, Int.add_comm]
    · rw [if_neg hf, if_neg hf, Int.zero_add, Int.add_zero]
  | some P =>
    show nrm (rd f) (sgm f P) = _
    obtain ⟨A, d, R, e1, e2, e3⟩ := jn_split hj
    rw [e1, e3, sgm_app, sgm_app, sgm_cons]
    by_cases hf : t / 2 = f
    · subst hf
      rw [if_pos rfl, if_pos rfl]
      show _ = nrm _ (sgm (t / 2) A + (d + sgm (t / 2) R) + sg t)
      have e9 : sgm (t / 2) A + (d + sgm (t / 2) R) + sg t = (d + sg t) + (sgm (t / 2) A + sgm (t / 2) R) := by omega
      rw [e9, ← nrm_add (rd (t / 2)) (d + sg t) (sgm (t / 2) A + sgm (t / 2) R)]
      by_cases h0 : nrm (rd (t / 2)) (d + sg t) = 0
      · rw [if_pos h0, h0, Int.zero_add]
      · rw [if_neg h0, sgm_cons, if_pos rfl]
        congr 1
        show _ + (nrm (rd (t / 2)) (d + sg t) + _) = _
        omega
    · rw [if_neg hf, if_neg hf, Int.add_zero]
      by_cases h0 : nrm (rd (t / 2)) (d + sg t) = 0
      · rw [if_pos h0]
        congr 1
        show sgm f A + sgm f R = sgm f A + (0 + sgm f R)
        omega
      · rw [if_neg h0, sgm_cons, if_neg hf]
/-- how often a tie stands in the first l places; and is cut there -/
def cnT (L : List Nat) (t l : Nat) : Nat := sN l (fun z => ind (L.getD z 0 = t))
def cuT (L : List Nat) (D t l : Nat) : Nat := sN l (fun z => ind (L.getD z 0 = t ∧ D.testBit z = true))
theorem cnT_s (L : List Nat) (t l : Nat) : cnT L t (l + 1) = cnT L t l + ind (L.getD l 0 = t) := rfl
theorem cuT_s (L : List Nat) (D t l : Nat) : cuT L D t (l + 1) = cuT L D t l + ind (L.getD l 0 = t ∧ D.testBit l = true) := rfl
theorem cuT_le (L : List Nat) (D t l : Nat) : cuT L D t l ≤ cnT L t l := sN_le (fun z _ => by
  by_cases h : L.getD z 0 = t
  · rw [ind_t h]
    unfold ind
    split <;> omega
  · rw [ind_f (fun h9 => h h9.1)]
    exact Nat.zero_le _)
def UU (L : List Nat) (f l : Nat) : Int := (cnT L (2 * f) l : Int) - (cnT L (2 * f + 1) l : Int)
theorem UU_s (L : List Nat) (f l : Nat) : UU L f (l + 1) = UU L f l + if L.getD l 0 / 2 = f then sg (L.getD l 0) else 0 := by
  unfold UU
  rw [cnT_s, cnT_s]
  by_cases h : L.getD l 0 / 2 = f
  · rw [if_pos h]
    unfold sg
    by_cases h2 : L.getD l 0 % 2 = 0
    · rw [if_pos h2, ind_t (by omega), ind_f (by omega)]; omega
    · rw [if_neg h2, ind_f (by omega), ind_t (by omega)]; omega
  · rw [if_neg h, ind_f (by omega), ind_f (by omega)]; omega
theorem sgm_run {mk rd : Nat → Nat} {L : List Nat} (f : Nat) {D : Nat} : ∀ (l : Nat) {Q : List (Nat × Int)}, nrm (rd f) (sgm f (runC mk rd L l Q D)) = nrm (rd f) (sgm f Q + (UU L f l - (cuT L D (2 * f) l : Int) + (cuT L D (2 * f + 1) l : Int))) := by
  intro l
  induction l with
  | zero =>
    intro Q
    show nrm (rd f) (sgm f Q) = nrm (rd f) (sgm f Q + (((0 : Nat) : Int) - ((0 : Nat) : Int) - ((0 : Nat) : Int) + ((0 : Nat) : Int)))
    congr 1
    omega
  | succ l ih =>
    intro Q
    rw [UU_s, cuT_s, cuT_s]
    by_cases hb : D.testBit l = true
    · rw [runC_in hb, ih]
      congr 1
      by_cases h : L.getD l 0 / 2 = f
      · rw [if_pos h]
        unfold sg
        by_cases h2 : L.getD l 0 % 2 = 0
        · rw [if_pos h2, ind_t ⟨by omega, hb⟩, ind_f (p := L.getD l 0 = 2 * f + 1 ∧ D.testBit l = true) (fun h9 => by omega)]; omega
        · rw [if_neg h2, ind_f (p := L.getD l 0 = 2 * f ∧ D.testBit l = true) (fun h9 => by omega), ind_t ⟨by omega, hb⟩]; omega
      · rw [if_neg h, ind_f (fun h9 => by omega), ind_f (fun h9 => by omega)]; omega
    · rw [runC_out hb, ih, ind_f (fun h9 => hb h9.2), ind_f (fun h9 => hb h9.2)]
      have e := nrm_congr (UU L f l - (cuT L D (2 * f) l : Int) + (cuT L D (2 * f + 1) l : Int)) (sgm_ps (mk := mk) (rd := rd) (Q := Q) f (L.getD l 0))
      rw [e]
      congr 1
      omega
/-- no fewer cuts of a folk -/
def msO (t : Int) (uo : Nat) : Nat := if 0 < t ∧ t ≤ (uo : Int) then t.toNat else 1000
def msU (m : Nat) (t : Int) : Int := if m = 0 then -t else (m : Int) - t
def msF (m : Nat) (t : Int) (uo uu : Nat) : Nat := if t = 0 then 0 else (if msO (msU m t) uu < msO t uo then msO (msU m t) uu else msO t uo)
theorem msO_1 {t : Int} {uo x y : Nat} (h1 : 0 < t) (h2 : t ≤ x) (hx : x ≤ uo) : msO t uo ≤ x + y := by
  unfold msO
  rw [if_pos ⟨h1, by omega⟩]
  omega
theorem msF_le {m : Nat} (hm : m = 0 ∨ m = 2 ∨ m = 3 ∨ m = 4) {t : Int} {uo uu x y : Nat} (ht : nrm m t = t) (hx : x ≤ uo) (hy : y ≤ uu) (h : nrm m (t - x + y) = 0) : msF m t uo uu ≤ x + y := by
  have key : t ≠ 0 → (0 < t ∧ t ≤ x) ∨ (0 < msU m t ∧ msU m t ≤ y) := by
    intro h0
    rcases hm with rfl | rfl | rfl | rfl
    · rw [nrm0] at h
      show _ ∨ (0 < -t ∧ -t ≤ _)
      omega
    · rw [nrm2] at h ht
      show _ ∨ (0 < (2 : Int) - t ∧ (2 : Int) - t ≤ _)
      omega
    · rw [nrm3] at h ht
      show _ ∨ (0 < (3 : Int) - t ∧ (3 : Int) - t ≤ _)
      omega
    · rw [nrm4] at h ht
      show _ ∨ (0 < (4 : Int) - t ∧ (4 : Int) - t ≤ _)
      omega
  unfold msF
  by_cases h0 : t = 0
  · rw [if_pos h0]; exact Nat.zero_le _
  · rw [if_neg h0]
    rcases key h0 with ⟨k1, k2⟩ | ⟨k1, k2⟩
    · have := msO_1 (y := y) k1 k2 hx
      split <;> omega
    · have := msO_1 (y := x) k1 k2 hy
      split <;> omega
theorem cu_sum {L : List Nat} {n D : Nat} (hL : okL n L) : ∀ l, l ≤ L.length → sN n (fun f => cuT L D (2 * f) l + cuT L D (2 * f + 1) l) = pcS l D := by
  intro l
  induction l with
  | zero => intro _; exact sN_z (fun f _ => rfl)
  | succ l ih =>
    intro hl
    rw [pcS_s, ← ih (by omega)]
    have ht := hL _ (getD_mem (L := L) (k := l) (by omega))
    rw [sN_c (g := fun f => (cuT L D (2 * f) l + cuT L D (2 * f + 1) l) + ind (L.getD l 0 / 2 = f) * ind (D.testBit l = true)) (by
      intro f hf
      rw [cuT_s, cuT_s]
      by_cases hb : D.testBit l = true
      · rw [ind_t (p := D.testBit l = true) hb]
        by_cases h : L.getD l 0 / 2 = f
        · rw [ind_t h]
          by_cases h2 : L.getD l 0 % 2 = 0
          · rw [ind_t (p := L.getD l 0 = 2 * f ∧ D.testBit l = true) ⟨by omega, hb⟩, ind_f (p := L.getD l 0 = 2 * f + 1 ∧ D.testBit l = true) (fun h9 => by omega)]; omega
          · rw [ind_f (p := L.getD l 0 = 2 * f ∧ D.testBit l = true) (fun h9 => by omega), ind_t (p := L.getD l 0 = 2 * f + 1 ∧ D.testBit l = true) ⟨by omega, hb⟩]; omega
        · rw [ind_f h, ind_f (p := L.getD l 0 = 2 * f ∧ D.testBit l = true) (fun h9 => by omega), ind_f (p := L.getD l 0 = 2 * f + 1 ∧ D.testBit l = true) (fun h9 => by omega)]; omega
      · rw [ind_f (p := D.testBit l = true) hb, ind_f (fun h9 => hb h9.2), ind_f (fun h9 => hb h9.2), Nat.mul_zero]; omega), sN_add, sN_1 (by omega) (fun _ => ind (D.testBit l = true))]
theorem miss_no {mk rd : Nat → Nat} (hr : okR rd) {L : List Nat} {n l : Nat} (hL : okL n L) (hl : l ≤ L.length) {Q : List (Nat × Int)} {k : Int} {A : Nat} {T : Nat → Int} (hT : ∀ f, f < n → nrm (rd f) (T f) = nrm (rd f) (sgm f Q + UU L f l)) (h : k < (sN n (fun f => msF (rd f) (nrm (rd f) (T f)) (cnT L (2 * f) l) (cnT L (2 * f + 1) l)) : Int)) : srC mk rd L l Q k A none := by
  intro D _ hk h9
  have h1 : sN n (fun f => msF (rd f) (nrm (rd f) (T f)) (cnT L (2 * f) l) (cnT L (2 * f + 1) l)) ≤ sN n (fun f => cuT L D (2 * f) l + cuT L D (2 * f + 1) l) := by
    apply sN_le
    intro f hf
    apply msF_le (hr f) (nrm_idem _ _) (cuT_le _ _ _ _) (cuT_le _ _ _ _)
    have h2 := sgm_run (mk := mk) (rd := rd) (L := L) f (D := D) l (Q := Q)
    rw [h9] at h2
    have h3 : nrm (rd f) (sgm f []) = 0 := by
      show nrm (rd f) 0 = 0
      unfold nrm
      split
      · rfl
      · exact Int.zero_emod _
    rw [h3] at h2
    rw [show nrm (rd f) (T f) - (cuT L D (2 * f) l : Int) + (cuT L D (2 * f + 1) l : Int) = nrm (rd f) (T f) + (-(cuT L D (2 * f) l : Int) + (cuT L D (2 * f + 1) l : Int)) from by omega, hT f hf, nrm_add, h2]
    congr 1
    omega
  rw [cu_sum hL l hl] at h1
  omega
