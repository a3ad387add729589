/-! PURE: a row is told by its heights -/
theorem pW_one {mk rd : Nat → Nat} (hs : symK mk) {x : Nat × Int} : ∀ {B Q : List (Nat × Int)}, (∀ b ∈ B, cm mk x.1 b.1) → EQ mk (ps mk rd x.1 x.2 (pW mk rd Q B)) (pW mk rd (ps mk rd x.1 x.2 Q) B)
  | [], Q, _ => EQ.rfl9
  | b :: B, Q, h => by
    rw [pW_cons, pW_cons]
    refine (pW_one hs (B := B) (fun c hc => h c (List.mem_cons_of_mem _ hc))).trans9 ?_
    exact pW_EQ hs (ps_comm hs (h b (List.mem_cons_self ..)) _ _ _)
theorem pW_EQ2 {mk rd : Nat → Nat} (hs : symK mk) : ∀ {A B Q : List (Nat × Int)}, EQ mk A B → EQ mk (pW mk rd Q A) (pW mk rd Q B)
  | [], B, Q, h => by rw [EQ.nil9 h.symm9]; exact EQ.rfl9
  | x :: A, B, Q, h => by
    obtain ⟨B1, B2, e1, e2, e3⟩ := EQ_top hs h
    rw [e1, pW_app, pW_cons, pW_cons]
    refine (pW_EQ2 hs (A := A) e3).trans9 ?_
    rw [pW_app]
    exact pW_EQ hs (pW_one hs e2).symm9
theorem frm_det {mk rd : Nat → Nat} (hs : symK mk) {O O' : List Nat} (h1 : frm mk rd O = O) (h2 : frm mk rd O' = O') (h : EQ mk (O.map tw) (O'.map tw)) : O = O' := by
  rw [← h1, ← h2]
  apply frm_gq hs
  rw [psL_pW, psL_pW]
  exact pW_EQ2 hs h
theorem HT_sn {mk rd k : Nat → Nat} {R : Nat → Nat → Int → Int → Prop} {σ : Nat → Int → Int} {n : Nat → Int} {X : List (Nat × Int)} (h : HT mk rd k R σ n X) (f i : Nat) (hi : i < k f) : (FLP mk rd X f ∧ (i = 0 ∨ i = k f - 1) → sn X f i = -1) ∧ (¬ (FLP mk rd X f ∧ (i = 0 ∨ i = k f - 1)) → sn X f i = σ f (n f + i)) := by
  obtain ⟨h1, h2, h3, h4⟩ := h
  constructor
  · rintro ⟨hF, rfl | e⟩
    · exact hF.2.2.1
    · rw [e]; exact h4 f hF
  · intro hn
    rw [← h3 f i hi]
    unfold cs
    rw [if_neg (by rw [h1 f]; exact hn)]
theorem lst_eq {f : Nat} : ∀ {A B : List (Nat × Int)}, (∀ x ∈ A, x.1 = f) → (∀ x ∈ B, x.1 = f) → A.length = B.length → (∀ i, i < A.length → (A.getD i (0, 0)).2 = (B.getD i (0, 0)).2) → A = B
  | [], B, _, _, h, _ => (List.eq_nil_of_length_eq_zero h.symm).symm
  | a :: A, [], _, _, h, _ => by cases h
  | a :: A, b :: B, h1, h2, h3, h4 => by
    have e1 := h1 a (List.mem_cons_self ..)
    have e2 := h2 b (List.mem_cons_self ..)
    have e3 := h4 0 (by simp)
    have e4 : a = b := Prod.ext (by rw [e1, e2]) e3
    rw [e4, lst_eq (fun x hx => h1 x (List.mem_cons_of_mem _ hx)) (fun x hx => h2 x (List.mem_cons_of_mem _ hx)) (by simpa using h3) (fun i hi => h4 (i + 1) (by rw [List.length_cons]; omega))]
theorem HT_det {mk rd k : Nat → Nat} {R : Nat → Nat → Int → Int → Prop} {σ : Nat → Int → Int} {n m : Nat → Int} {X Y : List (Nat × Int)} (hX : HT mk rd k R σ n X) (hY : HT mk rd k R σ m Y) (hn : ∀ f, 1 ≤ k f → n f = m f ∧ (FLP mk rd X f ↔ FLP mk rd Y f)) : EQ mk X Y := by
  refine EQ_det (fun f => ?_) (fun f g hne hk i j hi hj => ?_)
  · have hl : ∀ Z : List (Nat × Int), cnt0 f Z = k f → (prj f f Z).length = k f := fun Z h => by rw [← ct_one]; exact h
    refine lst_eq (f := f) (fun x hx => ?_) (fun x hx => ?_) ?_ (fun i hi => ?_)
    · have := (prj_mem.mp hx).2
      omega
    · have := (prj_mem.mp hx).2
      omega
    · rw [hl X (hX.1 f), hl Y (hY.1 f)]
    · rw [hl X (hX.1 f)] at hi
      have sX := HT_sn hX f i hi
      have sY := HT_sn hY f i hi
      have hh := hn f (by omega)
      show sn X f i = sn Y f i
      by_cases hF : FLP mk rd X f ∧ (i = 0 ∨ i = k f - 1)
      · rw [sX.1 hF, sY.1 ⟨hh.2.mp hF.1, hF.2⟩]
      · rw [sX.2 hF, sY.2 (fun h9 => hF ⟨hh.2.mpr h9.1, h9.2⟩), hh.1]
  · rw [hX.1] at hi hj
    have r1 := (hX.2.1 f g ⟨hne, hk⟩ (by omega) (by omega)).1 i j hi hj
    have r2 := (hY.2.1 f g ⟨hne, hk⟩ (by omega) (by omega)).1 i j hi hj
    rw [(hn f (by omega)).1, (hn g (by omega)).1] at r1
    have : rc f g X i j = true ↔ rc f g Y i j = true := r1.trans r2.symm
    cases h1 : rc f g X i j <;> cases h2 : rc f g Y i j <;> simp [h1, h2] at this ⊢
/-- one kin's height told, the other's lies in a window -/
theorem win {mk rd k : Nat → Nat} {R : Nat → Nat → Int → Int → Prop} {σ : Nat → Int → Int} (hs : symK mk) (hW : RW mk k R) {n m : Nat → Int} {X Y : List (Nat × Int)} (hX : HT mk rd k R σ n X) (hY : HT mk rd k R σ m Y) {f g : Nat} (hk : kn mk g f) (kg : 1 ≤ k g) (kf : 1 ≤ k f) (hg : n g = m g) : m f ≤ n f + k f := by
  refine Classical.byContradiction (fun h9 => ?_)
  have a1 := (hX.2.1 g f hk kg kf).2
  have a2 := (hY.2.1 f g (kn_sym hs hk) kf kg).2
  rw [← hg] at a2
  have b1 : R f g (n f + k f) (n g - k g + k g) := hW.1 f g _ _ _ _ (kn_sym hs hk) kf kg (by omega) (by omega) a2
  rw [hW.2.1 f g _ _ (kn_sym hs hk) kf kg] at b1
  have b2 : R f g (n f) (n g - 1) := hW.1 f g _ _ _ _ (kn_sym hs hk) kf kg (Int.le_refl _) (by omega) b1
  exact ((hW.2.2 f g _ _ (kn_sym hs hk) kf kg).mp a1) b2
theorem win2 {mk rd k : Nat → Nat} {R : Nat → Nat → Int → Int → Prop} {σ : Nat → Int → Int} (hs : symK mk) (hW : RW mk k R) {n m : Nat → Int} {X Y : List (Nat × Int)} (hX : HT mk rd k R σ n X) (hY : HT mk rd k R σ m Y) {f g : Nat} (hk : kn mk g f) (kg : 1 ≤ k g) (kf : 1 ≤ k f) (hg : n g = m g) (fX : FLP mk rd X f) (fY : FLP mk rd Y f) : m f + 2 ≤ n f + k f := by
  refine Classical.byContradiction (fun h9 => ?_)
  have hk' := kn_sym hs hk
  have a1 := (fX.2.2.2.2 g hk' (by rw [hX.1]; exact kg)).2
  rw [hX.1, hX.1, (hX.2.1 g f hk kg kf).1 _ _ (by omega) (by omega), show n g + ((k g - 1 : Nat) : Int) = n g - 1 + k g by omega, show n f + ((k f - 1 : Nat) : Int) = n f - 1 + k f by omega, hW.2.1 g f _ _ hk kg kf] at a1
  have a2 := (fY.2.2.2.2 g hk' (by rw [hY.1]; exact kg)).1
  rw [(hY.2.1 f g hk' kf kg).1 _ _ (by omega) (by omega), ← hg] at a2
  have b1 : R f g (n f - 1 + k f) (n g - k g + k g) := hW.1 f g _ _ _ _ hk' kf kg (by omega) (by omega) a2
  rw [hW.2.1 f g _ _ hk' kf kg] at b1
  have b2 : R f g (n f - 1) (n g - 1) := hW.1 f g _ _ _ _ hk' kf kg (Int.le_refl _) (by omega) b1
  exact ((hW.2.2 f g _ _ hk' kf kg).mp a1) b2
theorem mod_win {a b : Int} {c : Nat} (hc : 1 ≤ c) (h1 : b < a + c) (h2 : a < b + c) (h : (a % (c : Int)).toNat = (b % (c : Int)).toNat) : a = b := by
  have m1 := Int.emod_add_mul_ediv a c
  have m2 := Int.emod_add_mul_ediv b c
  have p1 := Int.emod_nonneg a (b := (c : Int)) (by omega)
  have p2 := Int.emod_nonneg b (b := (c : Int)) (by omega)
  have e : a % (c : Int) = b % (c : Int) := by omega
  have e2 : (c : Int) * (a / c) - (c : Int) * (b / c) = a - b := by omega
  rw [← Int.mul_sub] at e2
  have e3 : a / (c : Int) - b / (c : Int) = 0 := by
    refine Classical.byContradiction (fun h9 => ?_)
    rcases Int.lt_or_gt_of_ne h9 with h | h
    · have := Int.mul_le_mul_of_nonneg_left (c := (c : Int)) (a := a / (c : Int) - b / (c : Int)) (b := -1) (by omega) (by omega)
      rw [e2] at this
      omega
    · have := Int.mul_le_mul_of_nonneg_left (c := (c : Int)) (a := 1) (b := a / (c : Int) - b / (c : Int)) (by omega) (by omega)
      rw [e2] at this
      omega
  rw [e3, Int.mul_zero] at e2
  omega
/-- reached by kin -/
def rch (mk k : Nat → Nat) (r : Nat) : Nat → Nat → Prop
  | 0, f => f = r
  | d + 1, f => rch mk k r d f ∨ ∃ g, rch mk k r d g ∧ kn mk g f ∧ 1 ≤ k f
theorem rch_up {mk k : Nat → Nat} {r f : Nat} {d : Nat} : ∀ {e : Nat}, rch mk k r d f → rch mk k r (d + e) f
  | 0, h => h
  | e + 1, h => Or.inl (rch_up (e := e) h)
theorem rch_tr {mk k : Nat → Nat} {r f : Nat} {d : Nat} (h1 : rch mk k r d f) : ∀ {e g : Nat}, rch mk k f e g → rch mk k r (d + e) g
  | 0, g, h => by rw [show g = f from h]; exact h1
  | e + 1, g, h => by
    rcases h with h | ⟨g', h, h2, h3⟩
    · exact Or.inl (rch_tr h1 h)
    · exact Or.inr ⟨g', rch_tr h1 h, h2, h3⟩
def cmp (mk k : Nat → Nat) (r f : Nat) : Prop := ∃ d, rch mk k r d f
def rt (mk k : Nat → Nat) (r : Nat) : Prop := 1 ≤ k r ∧ ∀ r', 1 ≤ k r' → cmp mk k r' r → r ≤ r'
theorem rt_ex {mk k : Nat → Nat} {f : Nat} (hf : 1 ≤ k f) : ∃ r, rt mk k r ∧ cmp mk k r f := by
  obtain ⟨r, ⟨h1, h2⟩, h3⟩ := least_of (fun r => 1 ≤ k r ∧ cmp mk k r f) f ⟨hf, 0, rfl⟩
  refine ⟨r, ⟨h1, fun r' h4 ⟨d, h5⟩ => ?_⟩, h2⟩
  obtain ⟨e, h6⟩ := h2
  exact h3 r' ⟨h4, _, rch_tr h5 h6⟩
/-- turned whole rounds -/
theorem HT_shift {mk rd k : Nat → Nat} {R : Nat → Nat → Int → Int → Prop} {σ : Nat → Int → Int} (hs : symK mk) (hW : RW mk k R) (hσ : ∀ f a, 1 ≤ k f → σ f (a + k f) = σ f a) {n : Nat → Int} {X : List (Nat × Int)} (h : HT mk rd k R σ n X) (C : Nat → Prop) (hC : ∀ f g, C f → kn mk f g → 1 ≤ k g → C g) (q : Int) (m : Nat → Int) (hm1 : ∀ f, C f → m f = n f + q * k f) (hm2 : ∀ f, ¬ C f → m f = n f) : HT mk rd k R σ m X := by
  have pR : ∀ (q : Nat) f g a b, kn mk f g → 1 ≤ k f → 1 ≤ k g → (R f g (a + (q : Int) * k f) (b + (q : Int) * k g) ↔ R f g a b) := by
    intro q
    induction q with
    | zero => intro f g a b _ _ _; simp
    | succ q ih =>
      intro f g a b hk kf kg
      rw [show a + ((q + 1 : Nat) : Int) * k f = a + (q : Int) * k f + k f by rw [Int.natCast_add, Int.add_mul]; simp [Int.add_assoc], show b + ((q + 1 : Nat) : Int) * k g = b + (q : Int) * k g + k g by rw [Int.natCast_add, Int.add_mul]; simp [Int.add_assoc], hW.2.1 f g _ _ hk kf kg]
      exact ih f g a b hk kf kg
  have pR2 : ∀ (q : Int) f g a b, kn mk f g → 1 ≤ k f → 1 ≤ k g → (R f g (a + q * k f) (b + q * k g) ↔ R f g a b) := by
    intro q f g a b hk kf kg
    rcases Int.eq_nat_or_neg q with ⟨p, e | e⟩
    · rw [e]; exact pR p f g a b hk kf kg
    · have := pR p f g (a + q * k f) (b + q * k g) hk kf kg
      rw [e] at this ⊢
      rw [show a + -(p : Int) * k f + (p : Int) * k f = a by rw [Int.neg_mul]; omega, show b + -(p : Int) * k g + (p : Int) * k g = b by rw [Int.neg_mul]; omega] at this
      exact this.symm
  have pσ : ∀ (q : Nat) f a, 1 ≤ k f → σ f (a + (q : Int) * k f) = σ f a := by
    intro q
    induction q with
    | zero => intro f a _; simp
    | succ q ih =>
      intro f a kf
      rw [show a + ((q + 1 : Nat) : Int) * k f = a + (q : Int) * k f + k f by rw [Int.natCast_add, Int.add_mul]; simp [Int.add_assoc], hσ f _ kf, ih f a kf]
  have pσ2 : ∀ (q : Int) f a, 1 ≤ k f → σ f (a + q * k f) = σ f a := by
    intro q f a kf
    rcases Int.eq_nat_or_neg q with ⟨p, e | e⟩
    · rw [e]; exact pσ p f a kf
    · have := pσ p f (a + q * k f) kf
      rw [e] at this ⊢
      rw [show a + -(p : Int) * k f + (p : Int) * k f = a by rw [Int.neg_mul]; omega] at this
      exact this.symm
  obtain ⟨h1, h2, h3, h4⟩ := h
  refine ⟨h1, fun f g hk kf kg => ?_, fun f i hi => ?_, h4⟩
  · obtain ⟨r1, r2⟩ := h2 f g hk kf kg
    by_cases hf : C f
    · have hg := hC f g hf hk kg
      rw [hm1 f hf, hm1 g hg]
      refine ⟨fun i j hi hj => ?_, ?_⟩
      · rw [r1 i j hi hj, show n f + q * k f + i = n f + i + q * k f by omega, show n g + q * k g + j = n g + j + q * k g by omega, pR2 q f g _ _ hk kf kg]
      · rw [show n f + q * k f - 1 = n f - 1 + q * k f by omega, pR2 q f g _ _ hk kf kg]
        exact r2
    · have hg : ¬ C g := fun h9 => hf (hC g f h9 (kn_sym hs hk) kf)
      rw [hm2 f hf, hm2 g hg]
      exact ⟨r1, r2⟩
  · by_cases hf : C f
    · rw [hm1 f hf, show n f + q * k f + i = n f + i + q * k f by omega, pσ2 q f _ (by omega)]
      exact h3 f i hi
    · rw [hm2 f hf]
      exact h3 f i hi

theorem rt_in {mk k : Nat → Nat} {r : Nat} : ∀ f g, cmp mk k r f → kn mk f g → 1 ≤ k g → cmp mk k r g := fun f g ⟨d, h⟩ h2 h3 => ⟨d + 1, Or.inr ⟨f, h, h2, h3⟩⟩
/-- the roots' heights within one round, those not below p -/
theorem HT_norm {mk rd k : Nat → Nat} {R : Nat → Nat → Int → Int → Prop} {σ : Nat → Int → Int} (hs : symK mk) (hW : RW mk k R) (hσ : ∀ f a, 1 ≤ k f → σ f (a + k f) = σ f a) {X : List (Nat × Int)} {N : Nat} (hN : ∀ f, 1 ≤ k f → f < N) : ∀ (j : Nat) {n : Nat → Int}, j ≤ N → HT mk rd k R σ n X → ∃ m, HT mk rd k R σ m X ∧ ∀ r, N - j ≤ r → rt mk k r → 0 ≤ m r ∧ m r < k r
  | 0, n, _, h => ⟨n, h, fun r hr ht => absurd (hN r ht.1) (by omega)⟩
  | j + 1, n, hj, h => by
    obtain ⟨m, h1, h2⟩ := HT_norm hs hW hσ hN j (by omega) h
    by_cases hr : rt mk k (N - (j + 1))
    · have hk := hr.1
      refine ⟨fun f => @ite Int (cmp mk k (N - (j + 1)) f) (Classical.propDecidable _) (m f + -(m (N - (j + 1)) / k (N - (j + 1))) * k f) (m f), HT_shift hs hW hσ h1 (cmp mk k (N - (j + 1))) rt_in (-(m (N - (j + 1)) / k (N - (j + 1)))) _ (fun f hf => if_pos hf) (fun f hf => if_neg hf), fun r hrl ht => ?_⟩
      by_cases e : r = N - (j + 1)
      · have hc : cmp mk k (N - (j + 1)) r := ⟨0, e⟩
        show 0 ≤ @ite Int _ (Classical.propDecidable _) _ _ ∧ @ite Int _ (Classical.propDecidable _) _ _ < _
        rw [if_pos hc, e]
        have m1 := Int.emod_add_mul_ediv (m (N - (j + 1))) (k (N - (j + 1)))
        have p1 := Int.emod_nonneg (m (N - (j + 1))) (b := (k (N - (j + 1)) : Int)) (by omega)
        have p2 := Int.emod_lt_of_pos (m (N - (j + 1))) (b := (k (N - (j + 1)) : Int)) (by omega)
        rw [Int.neg_mul, Int.mul_comm]
        omega
      · have hc : ¬ cmp mk k (N - (j + 1)) r := fun h9 => by
          have := ht.2 _ hk h9
          omega
        show 0 ≤ @ite Int _ (Classical.propDecidable _) _ _ ∧ @ite Int _ (Classical.propDecidable _) _ _ < _
        rw [if_neg hc]
        exact h2 r (by omega) ht
    · refine ⟨m, h1, fun r hrl ht => ?_⟩
      by_cases e : r = N - (j + 1)
      · rw [e] at ht; exact absurd ht hr
      · exact h2 r (by omega) ht
/-- the number of a height -/
def cd (rt fl : Bool) (k : Nat) (n : Int) : Nat := if rt then (n + (if fl then (k : Int) else 0)).toNat else if fl then k + 1 + (n % ((k - 1 : Nat) : Int)).toNat else (n % ((k + 1 : Nat) : Int)).toNat
noncomputable def tf (P : Prop) : Bool := @decide P (Classical.propDecidable P)
theorem tf_t {P : Prop} (h : P) : tf P = true := @decide_eq_true P (Classical.propDecidable P) h
theorem tf_f {P : Prop} (h : ¬ P) : tf P = false := @decide_eq_false P (Classical.propDecidable P) h
theorem tf_i {P Q : Prop} (h : tf P = tf Q) : P ↔ Q := by
  by_cases hp : P
  · by_cases hq : Q
    · exact ⟨fun _ => hq, fun _ => hp⟩
    · rw [tf_t hp, tf_f hq] at h; cases h
  · by_cases hq : Q
    · rw [tf_f hp, tf_t hq] at h; cases h
    · exact ⟨fun h9 => absurd h9 hp, fun h9 => absurd h9 hq⟩
noncomputable def cdX (mk rd k : Nat → Nat) (n : Nat → Int) (X : List (Nat × Int)) (f : Nat) : Nat := if k f = 0 then 0 else cd (tf (rt mk k f)) (tf (FLP mk rd X f)) (k f) (n f)
theorem cdX_v {mk rd k : Nat → Nat} {n : Nat → Int} {X : List (Nat × Int)} {f : Nat} (h0 : 1 ≤ k f) : (rt mk k f → FLP mk rd X f → cdX mk rd k n X f = (n f + (k f : Int)).toNat) ∧ (rt mk k f → ¬ FLP mk rd X f → cdX mk rd k n X f = (n f + 0).toNat) ∧ (¬ rt mk k f → FLP mk rd X f → cdX mk rd k n X f = k f + 1 + (n f % ((k f - 1 : Nat) : Int)).toNat) ∧ (¬ rt mk k f → ¬ FLP mk rd X f → cdX mk rd k n X f = (n f % ((k f + 1 : Nat) : Int)).toNat) := by
  unfold cdX cd
  rw [if_neg (show ¬ k f = 0 by omega)]
  refine ⟨fun a b => ?_, fun a b => ?_, fun a b => ?_, fun a b => ?_⟩
  · rw [tf_t a, tf_t b]; rfl
  · rw [tf_t a, tf_f b]; rfl
  · rw [tf_f a, tf_t b]; rfl
  · rw [tf_f a, tf_f b]; rfl
def mX (k : Nat → Nat) (f : Nat) : Nat := if k f = 0 then 1 else 2 * k f
theorem par_ex {mk k : Nat → Nat} {f : Nat} (hf : 1 ≤ k f) (h : ¬ rt mk k f) : ∃ g, kn mk g f ∧ 1 ≤ k g := by
  obtain ⟨r, h1, d, h2⟩ := rt_ex (mk := mk) hf
  have key : ∀ (d : Nat) (f : Nat), rch mk k r d f → f = r ∨ ∃ g, kn mk g f ∧ 1 ≤ k g := by
    intro d
    induction d with
    | zero => intro f h; exact Or.inl h
    | succ d ih =>
      intro f h
      rcases h with h | ⟨g, h3, h4, h5⟩
      · exact ih f h
      · rcases ih g h3 with e | ⟨g', h6, h7⟩
        · exact Or.inr ⟨g, h4, by rw [e]; exact h1.1⟩
        · refine Or.inr ⟨g, h4, ?_⟩
          have kgr : ∀ (d : Nat) (g : Nat), rch mk k r d g → 1 ≤ k g := by
            intro d
            induction d with
            | zero => intro g h; rw [show g = r from h]; exact h1.1
            | succ d ih2 =>
              intro g h
              rcases h with h | ⟨_, _, _, h⟩
              · exact ih2 g h
              · exact h
          exact kgr d g h3
  rcases key d f h2 with e | e
  · rw [e] at h; exact absurd h1 h
  · exact e
theorem cd_lt {mk rd k : Nat → Nat} {R : Nat → Nat → Int → Int → Prop} {σ : Nat → Int → Int} (hs : symK mk) (hW : RW mk k R) {n : Nat → Int} {X : List (Nat × Int)} (h : HT mk rd k R σ n X) (hr : ∀ r, rt mk k r → 0 ≤ n r ∧ n r < k r) (f : Nat) : cdX mk rd k n X f < mX k f := by
  by_cases h0 : k f = 0
  · unfold cdX mX
    rw [if_pos h0, if_pos h0]; omega
  · have em : mX k f = 2 * k f := if_neg h0
    obtain ⟨c1, c2, c3, c4⟩ := cdX_v (mk := mk) (rd := rd) (n := n) (X := X) (show 1 ≤ k f by omega)
    rw [em]
    by_cases ht : rt mk k f
    · have h1 := hr f ht
      by_cases hF : FLP mk rd X f
      · rw [c1 ht hF]; omega
      · rw [c2 ht hF]; omega
    · by_cases hF : FLP mk rd X f
      · obtain ⟨g, hg1, hg2⟩ := par_ex (by omega) ht
        have := win2 hs hW h h hg1 hg2 (by omega) rfl hF hF
        have p1 := Int.emod_nonneg (n f) (b := ((k f - 1 : Nat) : Int)) (by omega)
        have p2 := Int.emod_lt_of_pos (n f) (b := ((k f - 1 : Nat) : Int)) (by omega)
        rw [c3 ht hF]; omega
      · have p1 := Int.emod_nonneg (n f) (b := ((k f + 1 : Nat) : Int)) (by omega)
        have p2 := Int.emod_lt_of_pos (n f) (b := ((k f + 1 : Nat) : Int)) (by omega)
        rw [c4 ht hF]; omega
theorem cd_inj {mk rd k : Nat → Nat} {R : Nat → Nat → Int → Int → Prop} {σ : Nat → Int → Int} (hs : symK mk) (hW : RW mk k R) {n m : Nat → Int} {X Y : List (Nat × Int)} (hX : HT mk rd k R σ n X) (hY : HT mk rd k R σ m Y) (hrn : ∀ r, rt mk k r → 0 ≤ n r ∧ n r < k r) (hrm : ∀ r, rt mk k r → 0 ≤ m r ∧ m r < k r) (h : ∀ f, cdX mk rd k n X f = cdX mk rd k m Y f) : EQ mk X Y := by
  -- the root's
  have hroot : ∀ r, rt mk k r → n r = m r ∧ (FLP mk rd X r ↔ FLP mk rd Y r) := by
    intro r hr
    have hk := hr.1
    have e := h r
    have a1 := hrn r hr
    have a2 := hrm r hr
    obtain ⟨c1, c2, c3, c4⟩ := cdX_v (mk := mk) (rd := rd) (n := n) (X := X) hk
    obtain ⟨d1, d2, d3, d4⟩ := cdX_v (mk := mk) (rd := rd) (n := m) (X := Y) hk
    by_cases fX : FLP mk rd X r
    · by_cases fY : FLP mk rd Y r
      · rw [c1 hr fX, d1 hr fY] at e
        exact ⟨by omega, fun _ => fY, fun _ => fX⟩
      · rw [c1 hr fX, d2 hr fY] at e
        omega
    · by_cases fY : FLP mk rd Y r
      · rw [c2 hr fX, d1 hr fY] at e
        omega
      · rw [c2 hr fX, d2 hr fY] at e
        exact ⟨by omega, fun h9 => absurd h9 fX, fun h9 => absurd h9 fY⟩
  have hkin : ∀ g f, kn mk g f → 1 ≤ k g → 1 ≤ k f → n g = m g → n f = m f ∧ (FLP mk rd X f ↔ FLP mk rd Y f) := by
    intro g f hk kg kf hg
    by_cases hr : rt mk k f
    · exact hroot f hr
    · have e := h f
      obtain ⟨c1, c2, c3, c4⟩ := cdX_v (mk := mk) (rd := rd) (n := n) (X := X) kf
      obtain ⟨d1, d2, d3, d4⟩ := cdX_v (mk := mk) (rd := rd) (n := m) (X := Y) kf
      have w1 := win hs hW hX hY hk kg kf hg
      have w2 := win hs hW hY hX hk kg kf hg.symm
      have lt : ∀ {n : Nat → Int} {X : List (Nat × Int)}, (n f % ((k f + 1 : Nat) : Int)).toNat < k f + 1 := by
        intro n X
        have p1 := Int.emod_nonneg (n f) (b := ((k f + 1 : Nat) : Int)) (by omega)
        have p2 := Int.emod_lt_of_pos (n f) (b := ((k f + 1 : Nat) : Int)) (by omega)
        omega
      by_cases fX : FLP mk rd X f
      · by_cases fY : FLP mk rd Y f
        · rw [c3 hr fX, d3 hr fY] at e
          have v0 := win2 hs hW hX hX hk kg kf rfl fX fX
          have v1 := win2 hs hW hX hY hk kg kf hg fX fY
          have v2 := win2 hs hW hY hX hk kg kf hg.symm fY fX
          exact ⟨mod_win (c := k f - 1) (by omega) (by omega) (by omega) (by omega), fun _ => fY, fun _ => fX⟩
        · rw [c3 hr fX, d4 hr fY] at e
          have := lt (n := m) (X := Y)
          omega
      · by_cases fY : FLP mk rd Y f
        · rw [c4 hr fX, d3 hr fY] at e
          have := lt (n := n) (X := X)
          omega
        · rw [c4 hr fX, d4 hr fY] at e
          exact ⟨mod_win (c := k f + 1) (by omega) (by omega) (by omega) e, fun h9 => absurd h9 fX, fun h9 => absurd h9 fY⟩
  refine HT_det hX hY (fun f hf => ?_)
  obtain ⟨r, h1, d, h2⟩ := rt_ex (mk := mk) hf
  have key : ∀ (d : Nat) (f : Nat), rch mk k r d f → 1 ≤ k f ∧ n f = m f ∧ (FLP mk rd X f ↔ FLP mk rd Y f) := by
    intro d
    induction d with
    | zero => intro f h; rw [show f = r from h]; exact ⟨h1.1, hroot r h1⟩
    | succ d ih =>
      intro f h
      rcases h with h | ⟨g, h3, h4, h5⟩
      · exact ih f h
      · obtain ⟨i1, i2, _⟩ := ih g h3
        exact ⟨h5, hkin g f h4 i1 h5 i2⟩
  exact (key d f h2).2
