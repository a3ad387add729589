/-! PURE: rings that can't be made shorter: turns are rotations -/
def RS (mk : Nat → Nat) (f : Nat) (x T : List (Nat × Int)) : Prop := ∃ h Y, EQ mk x (Y ++ [(f, h)]) ∧ EQ mk T ((f, h) :: Y)
theorem RS_l {mk : Nat → Nat} {f : Nat} {x x' T : List (Nat × Int)} (h : EQ mk x x') (h2 : RS mk f x T) : RS mk f x' T := by
  obtain ⟨k, Y, e1, e2⟩ := h2
  exact ⟨k, Y, h.symm9.trans9 e1, e2⟩
theorem RS_r {mk : Nat → Nat} {f : Nat} {x T T' : List (Nat × Int)} (h : EQ mk T T') (h2 : RS mk f x T) : RS mk f x T' := by
  obtain ⟨k, Y, e1, e2⟩ := h2
  exact ⟨k, Y, e1, h.symm9.trans9 e2⟩
theorem RS_same {mk : Nat → Nat} (hs : symK mk) {f : Nat} {x a b : List (Nat × Int)} (ha : RS mk f x a) (hb : RS mk f x b) : EQ mk a b := by
  obtain ⟨h, Y, a1, a2⟩ := ha
  obtain ⟨k, Z, b1, b2⟩ := hb
  rcases EQ_bb hs (a1.symm9.trans9 b1) with ⟨e1, e2⟩ | ⟨hc, _⟩
  · have e3 : h = k := congrArg Prod.snd e1
    subst e3
    exact a2.trans9 ((EQ_cons _ e2).trans9 b2.symm9)
  · exact absurd rfl hc.1
theorem RS_dia {mk : Nat → Nat} (hs : symK mk) {f g : Nat} {x a b : List (Nat × Int)} (hfg : f ≠ g) (ha : RS mk f x a) (hb : RS mk g x b) : ∃ c, RS mk g a c ∧ RS mk f b c := by
  obtain ⟨h, Y, a1, a2⟩ := ha
  obtain ⟨k, Z, b1, b2⟩ := hb
  rcases EQ_bb hs (a1.symm9.trans9 b1) with ⟨e1, e2⟩ | ⟨hc, V, v1, v2⟩
  · exact absurd (congrArg Prod.fst e1) hfg
  · refine ⟨(g, k) :: (f, h) :: V, ⟨k, (f, h) :: V, a2.trans9 (EQ_cons _ v1), EQ.rfl9⟩, ⟨h, (g, k) :: V, b2.trans9 (EQ_cons _ v2), ?_⟩⟩
    exact EQ_mid hs (x := (f, h)) (A := [(g, k)]) (B := V) (fun b hb => by rw [List.mem_singleton.mp hb]; exact hc)
/-- m turns, j of them of f0 -/
def RC (mk : Nat → Nat) (f0 : Nat) : Nat → Nat → List (Nat × Int) → List (Nat × Int) → Prop
  | 0, j, x, y => j = 0 ∧ EQ mk x y
  | m + 1, j, x, y => ∃ f z, RS mk f x z ∧ ((f = f0 ∧ ∃ i, j = i + 1 ∧ RC mk f0 m i z y) ∨ (f ≠ f0 ∧ RC mk f0 m j z y))
theorem RC_l {mk : Nat → Nat} {f0 m j : Nat} {x x' y : List (Nat × Int)} (h : EQ mk x x') (h2 : RC mk f0 m j x y) : RC mk f0 m j x' y := by
  cases m with
  | zero => exact ⟨h2.1, h.symm9.trans9 h2.2⟩
  | succ m =>
    obtain ⟨f, z, a, b⟩ := h2
    exact ⟨f, z, RS_l h a, b⟩
theorem RC_r {mk : Nat → Nat} {f0 : Nat} : ∀ {m j : Nat} {x y y' : List (Nat × Int)}, EQ mk y y' → RC mk f0 m j x y → RC mk f0 m j x y'
  | 0, _, _, _, _, h, h2 => ⟨h2.1, h2.2.trans9 h⟩
  | m + 1, _, _, _, _, h, h2 => by
    obtain ⟨f, z, a, b⟩ := h2
    refine ⟨f, z, a, ?_⟩
    rcases b with ⟨b1, i, b2, b3⟩ | ⟨b1, b2⟩
    · exact Or.inl ⟨b1, i, b2, RC_r h b3⟩
    · exact Or.inr ⟨b1, RC_r h b2⟩
theorem RC_tr {mk : Nat → Nat} {f0 : Nat} : ∀ {m j m2 j2 : Nat} {x y z : List (Nat × Int)}, RC mk f0 m j x y → RC mk f0 m2 j2 y z → RC mk f0 (m + m2) (j + j2) x z
  | 0, j, m2, j2, x, y, z, h1, h2 => by
    rw [h1.1, Nat.zero_add, Nat.zero_add]
    exact RC_l h1.2.symm9 h2
  | m + 1, j, m2, j2, x, y, z, h1, h2 => by
    obtain ⟨f, w, a, b⟩ := h1
    rw [show m + 1 + m2 = (m + m2) + 1 by omega]
    refine ⟨f, w, a, ?_⟩
    rcases b with ⟨b1, i, b2, b3⟩ | ⟨b1, b2⟩
    · exact Or.inl ⟨b1, i + j2, by omega, RC_tr b3 h2⟩
    · exact Or.inr ⟨b1, RC_tr b2 h2⟩
/-- only f0 is free in front -/
def NM (mk : Nat → Nat) (f0 : Nat) (p : List (Nat × Int)) : Prop := ∀ f h Y, EQ mk p (Y ++ [(f, h)]) → f = f0
theorem NM_EQ {mk : Nat → Nat} {f0 : Nat} {p q : List (Nat × Int)} (h : EQ mk p q) (hp : NM mk f0 p) : NM mk f0 q := fun f k Y e => hp f k Y (h.trans9 e)
theorem op_un {mk : Nat → Nat} (hs : symK mk) {f0 f : Nat} (hf : f ≠ f0) : ∀ (k : Nat) {x p x' : List (Nat × Int)}, RC mk f0 k 0 x p → NM mk f0 p → RS mk f x x' → ∃ k', k = k' + 1 ∧ RC mk f0 k' 0 x' p := by
  intro k
  induction k generalizing f with
  | zero =>
    intro x p x' h1 hp h2
    obtain ⟨h, Y, e1, _⟩ := h2
    exact absurd (hp f h Y (h1.2.symm9.trans9 e1)) hf
  | succ k ih =>
    intro x p x' h1 hp h2
    obtain ⟨g, y, y1, y2⟩ := h1
    rcases y2 with ⟨_, i, hi, _⟩ | ⟨hg, y2⟩
    · omega
    · refine ⟨k, rfl, ?_⟩
      by_cases hfg : f = g
      · subst hfg
        exact RC_l (RS_same hs y1 h2) y2
      · obtain ⟨c, c1, c2⟩ := RS_dia hs (Ne.symm hfg) y1 h2
        obtain ⟨k', e, h3⟩ := ih hf y2 hp c1
        rw [e]
        exact ⟨g, c, c2, Or.inr ⟨hg, h3⟩⟩
theorem op_uniq {mk : Nat → Nat} (hs : symK mk) {f0 : Nat} : ∀ (k l : Nat) {x p q : List (Nat × Int)}, RC mk f0 k 0 x p → NM mk f0 p → RC mk f0 l 0 x q → NM mk f0 q → EQ mk p q := by
  intro k
  induction k with
  | zero =>
    intro l x p q h1 hp h2 hq
    cases l with
    | zero => exact h1.2.symm9.trans9 h2.2
    | succ l =>
      obtain ⟨g, y, y1, y2⟩ := h2
      rcases y2 with ⟨_, i, hi, _⟩ | ⟨hg, _⟩
      · omega
      · obtain ⟨k', e, _⟩ := op_un hs hg 0 h1 hp y1
        omega
  | succ k ih =>
    intro l x p q h1 hp h2 hq
    obtain ⟨g, y, y1, y2⟩ := h1
    rcases y2 with ⟨_, i, hi, _⟩ | ⟨hg, y2⟩
    · omega
    · obtain ⟨l', e, h3⟩ := op_un hs hg l h2 hq y1
      exact ih l' y2 hp h3 hq
theorem op_L {mk : Nat → Nat} (hs : symK mk) {f0 : Nat} : ∀ (k : Nat) {x p b : List (Nat × Int)}, RC mk f0 k 0 x p → RS mk f0 x b → ∃ p1, RS mk f0 p p1 ∧ RC mk f0 k 0 b p1 := by
  intro k
  induction k with
  | zero => intro x p b h1 h2; exact ⟨b, RS_l h1.2 h2, rfl, EQ.rfl9⟩
  | succ k ih =>
    intro x p b h1 h2
    obtain ⟨g, y, y1, y2⟩ := h1
    rcases y2 with ⟨_, i, hi, _⟩ | ⟨hg, y2⟩
    · omega
    · obtain ⟨c, c1, c2⟩ := RS_dia hs hg y1 h2
      obtain ⟨p1, q1, q2⟩ := ih y2 c1
      exact ⟨p1, q1, g, c, c2, Or.inr ⟨hg, q2⟩⟩
/-- opened right before f0 -/
def Op (mk : Nat → Nat) (f0 : Nat) (x p : List (Nat × Int)) : Prop := (∃ k, RC mk f0 k 0 x p) ∧ NM mk f0 p
/-- opened before the next f0 -/
def Ro (mk : Nat → Nat) (f0 : Nat) (p q : List (Nat × Int)) : Prop := ∃ p', RS mk f0 p p' ∧ Op mk f0 p' q
def RoN (mk : Nat → Nat) (f0 : Nat) : Nat → List (Nat × Int) → List (Nat × Int) → Prop
  | 0, p, q => EQ mk p q
  | n + 1, p, q => ∃ z, Ro mk f0 p z ∧ RoN mk f0 n z q
theorem Op_uniq {mk : Nat → Nat} (hs : symK mk) {f0 : Nat} {x y p q : List (Nat × Int)} (h : EQ mk x y) (h1 : Op mk f0 x p) (h2 : Op mk f0 y q) : EQ mk p q := by
  obtain ⟨⟨k, a⟩, b⟩ := h1
  obtain ⟨⟨l, c⟩, d⟩ := h2
  exact op_uniq hs k l a b (RC_l h.symm9 c) d
theorem Op_self {mk : Nat → Nat} {f0 : Nat} {p : List (Nat × Int)} (h : NM mk f0 p) : Op mk f0 p p := ⟨⟨0, rfl, EQ.rfl9⟩, h⟩
theorem Ro_uniq {mk : Nat → Nat} (hs : symK mk) {f0 : Nat} {x y p q : List (Nat × Int)} (h : EQ mk x y) (h1 : Ro mk f0 x p) (h2 : Ro mk f0 y q) : EQ mk p q := by
  obtain ⟨a, a1, a2⟩ := h1
  obtain ⟨b, b1, b2⟩ := h2
  exact Op_uniq hs (RS_same hs a1 (RS_l h.symm9 b1)) a2 b2
theorem RoN_uniq {mk : Nat → Nat} (hs : symK mk) {f0 : Nat} : ∀ (n : Nat) {x y p q : List (Nat × Int)}, EQ mk x y → RoN mk f0 n x p → RoN mk f0 n y q → EQ mk p q := by
  intro n
  induction n with
  | zero => intro x y p q h h1 h2; exact h1.symm9.trans9 (h.trans9 h2)
  | succ n ih =>
    intro x y p q h h1 h2
    obtain ⟨a, a1, a2⟩ := h1
    obtain ⟨b, b1, b2⟩ := h2
    exact ih (Ro_uniq hs h a1 b1) a2 b2
theorem RoN_tr {mk : Nat → Nat} {f0 : Nat} : ∀ {n m : Nat} {x y z : List (Nat × Int)}, (∀ {a b c : List (Nat × Int)} {k : Nat}, EQ mk a b → RoN mk f0 k b c → RoN mk f0 k a c) → RoN mk f0 n x y → RoN mk f0 m y z → RoN mk f0 (n + m) x z
  | 0, m, x, y, z, hl, h1, h2 => by rw [Nat.zero_add]; exact hl h1 h2
  | n + 1, m, x, y, z, hl, h1, h2 => by
    obtain ⟨w, a, b⟩ := h1
    rw [show n + 1 + m = (n + m) + 1 by omega]
    exact ⟨w, a, RoN_tr hl b h2⟩
theorem RoN_l {mk : Nat → Nat} {f0 : Nat} {a b c : List (Nat × Int)} {k : Nat} (h : EQ mk a b) (h2 : RoN mk f0 k b c) : RoN mk f0 k a c := by
  cases k with
  | zero => exact h.trans9 h2
  | succ k =>
    obtain ⟨z, ⟨p', z1, z2⟩, z3⟩ := h2
    exact ⟨z, ⟨p', RS_l h.symm9 z1, z2⟩, z3⟩
/-- along turns, what is opened goes round -/
theorem Op_RC {mk : Nat → Nat} (hs : symK mk) {f0 : Nat} (K : List (Nat × Int) → Prop) (hK1 : ∀ x y f, K x → RS mk f x y → K y) (hK2 : ∀ x, K x → ∃ p, Op mk f0 x p) : ∀ (m j : Nat) {x z p : List (Nat × Int)}, K x → RC mk f0 m j x z → Op mk f0 x p → ∃ q, Op mk f0 z q ∧ RoN mk f0 j p q := by
  intro m
  induction m with
  | zero =>
    intro j x z p _ h1 h2
    obtain ⟨rfl, h1⟩ := h1
    obtain ⟨⟨k, a⟩, b⟩ := h2
    exact ⟨p, ⟨⟨k, RC_l h1 a⟩, b⟩, EQ.rfl9⟩
  | succ m ih =>
    intro j x z p hx h1 h2
    obtain ⟨f, y, y1, y2⟩ := h1
    obtain ⟨⟨k, a⟩, b⟩ := h2
    have hy := hK1 x y f hx y1
    rcases y2 with ⟨rfl, i, hi, y2⟩ | ⟨hf, y2⟩
    · obtain ⟨p1, q1, q2⟩ := op_L hs k a y1
      obtain ⟨p2, hp2⟩ := hK2 y hy
      obtain ⟨q, g1, g2⟩ := ih i hy y2 hp2
      have hKp : ∀ (k : Nat) {x p : List (Nat × Int)}, RC mk f k 0 x p → K x → ∃ w, K w ∧ EQ mk w p := by
        intro k
        induction k with
        | zero => intro x p h9 hk; exact ⟨x, hk, h9.2⟩
        | succ k ihk =>
          intro x p h9 hk
          obtain ⟨g, w, w1, w2⟩ := h9
          rcases w2 with ⟨_, i, hi, _⟩ | ⟨_, w2⟩
          · omega
          · exact ihk w2 (hK1 x w g hk w1)
      obtain ⟨w, hw1, hw2⟩ := hKp k q2 hy
      obtain ⟨p3, ⟨⟨k3, hp3⟩, hn3⟩⟩ := hK2 w hw1
      have hop : Op mk f y p3 := by
        refine ⟨⟨k + k3, ?_⟩, hn3⟩
        have := RC_tr q2 (RC_l hw2 hp3)
        exact this
      have e := Op_uniq hs EQ.rfl9 hp2 hop
      refine ⟨q, g1, ?_⟩
      rw [hi]
      exact ⟨p3, ⟨p1, q1, ⟨⟨k3, RC_l hw2 hp3⟩, hn3⟩⟩, RoN_l e.symm9 g2⟩
    · obtain ⟨k', e, h3⟩ := op_un hs hf k a b y1
      exact ih j hy y2 ⟨⟨k', h3⟩, b⟩
def cnt0 (f0 : Nat) (B : List (Nat × Int)) : Nat := (B.filter (fun x => x.1 == f0)).length
/-- turned once round -/
theorem RC_all {mk : Nat → Nat} {f0 : Nat} : ∀ (n : Nat) (A B : List (Nat × Int)), B.length = n → RC mk f0 n (cnt0 f0 B) (A ++ B) (B ++ A) := by
  intro n
  induction n with
  | zero =>
    intro A B hn
    rw [List.eq_nil_of_length_eq_zero hn, List.append_nil]
    exact ⟨rfl, EQ.rfl9⟩
  | succ n ih =>
    intro A B hn
    rcases List.eq_nil_or_concat B with rfl | ⟨B', x, rfl⟩
    · cases hn
    · rw [List.concat_eq_append] at *
      have hn' : B'.length = n := by simpa using hn
      have h := ih (x :: A) B' hn'
      have e : (B' ++ [x]) ++ A = B' ++ x :: A := by simp
      have hst : RS mk x.1 (A ++ (B' ++ [x])) ((x :: A) ++ B') := ⟨x.2, A ++ B', by rw [List.append_assoc]; exact EQ.rfl9, EQ.rfl9⟩
      rw [e]
      refine ⟨x.1, _, hst, ?_⟩
      by_cases hx : x.1 = f0
      · refine Or.inl ⟨hx, cnt0 f0 B', ?_, h⟩
        unfold cnt0
        rw [List.filter_append, List.length_append]
        simp [hx]
      · refine Or.inr ⟨hx, ?_⟩
        have : cnt0 f0 (B' ++ [x]) = cnt0 f0 B' := by
          unfold cnt0
          rw [List.filter_append, List.length_append]
          simp [hx]
        rw [this]
        exact h
/-- rings that can't be made shorter -/
def CR (mk : Nat → Nat) (u : List (Nat × Int)) : Prop := ∀ f h Y, EQ mk u (Y ++ [(f, h)]) → ¬ JO mk f Y
def GR (mk rd : Nat → Nat) (u : List (Nat × Int)) : Prop := Red mk u ∧ okC rd u ∧ CR mk u
theorem GR_EQ {mk rd : Nat → Nat} (hs : symK mk) {u v : List (Nat × Int)} (h : EQ mk u v) (hu : GR mk rd u) : GR mk rd v := ⟨EQ_red hs hu.1 h, EQ_okC h hu.2.1, fun f k Y e => hu.2.2 f k Y (h.trans9 e)⟩
theorem JO_bot {mk : Nat → Nat} (hs : symK mk) {f g : Nat} {k : Int} {V : List (Nat × Int)} (h : JO mk g V) : JO mk g (V ++ [(f, k)]) := JO_apR h
theorem JO_one (mk : Nat → Nat) (g : Nat) (k : Int) : JO mk g [(g, k)] := by
  have e : ∀ a, prj g a [(g, k)] = [(g, k)] := fun a => prj_cons_in (x := (g, k)) (Q := []) (Or.inl rfl)
  refine ⟨?_, ?_⟩
  · rw [e]; intro h; cases h
  · intro a _ y tl h
    rw [e] at h
    rw [← (List.cons.inj h).1]
theorem no_two {mk : Nat → Nat} {A : List (Nat × Int)} {g : Nat} {l k : Int} : ¬ Red mk ((A ++ [(g, l)]) ++ [(g, k)]) := by
  intro h
  rw [List.append_assoc] at h
  have h2 : Red mk ((g, l) :: [(g, k)]) := Red_tail (A := A) h
  exact h2.1 (JO_one mk g k)
theorem GR_RS {mk rd : Nat → Nat} (hs : symK mk) {f : Nat} {u T : List (Nat × Int)} (hu : GR mk rd u) (h : RS mk f u T) : GR mk rd T := by
  obtain ⟨k, Y, e1, e2⟩ := h
  have hY := GR_EQ hs e1 hu
  refine GR_EQ hs e2.symm9 ⟨⟨hu.2.2 f k Y e1, Red_init hY.1⟩, ?_, ?_⟩
  · intro x hx
    refine hY.2.1 x ?_
    rcases List.mem_cons.mp hx with rfl | hx
    · exact List.mem_append_right _ (List.mem_cons_self ..)
    · exact List.mem_append_left _ hx
  · intro g l Z e3 hJ
    -- (f,k) :: Y is Z ++ [(g,l)], and g could join on Z
    by_cases hgf : dpp mk g f
    · have hpz := hJ.1
      have h3 := e3 g f hgf
      rw [prj_cons_in (x := (f, k)) (Or.inr rfl), prj_app] at h3
      cases hp : prj g f Z with
      | nil =>
        apply hpz
        apply prj_nil
        intro x hx
        have hne : x.1 ≠ g := fun e => by
          have : x ∈ prj g f Z := prj_mem.mpr ⟨hx, Or.inl e⟩
          rw [hp] at this
          cases this
        exact ⟨hne, hne⟩
      | cons z tl =>
        rw [hp] at h3
        have hz := (List.cons.inj h3).1
        have hfg : f = g := by
          rcases hgf with e | hk
          · exact e.symm
          · have := hJ.2 f hk z tl hp
            rw [← hz] at this
            exact this
        subst hfg
        obtain ⟨B1, B2, b1, b2, b3⟩ := EQ_top hs e3
        rcases List.eq_nil_or_concat B2 with rfl | ⟨C, w, rfl⟩
        · have b4 : Z ++ [(f, l)] = B1 ++ [(f, k)] := b1
          have b5 := (List.append_inj' b4 rfl).1
          have hzm : z ∈ B1 := by
            rw [← b5]
            have : z ∈ prj f f Z := by rw [hp]; exact List.mem_cons_self ..
            exact (prj_mem.mp this).1
          have := (b2 z hzm).1
          rw [← hz] at this
          exact this rfl
        · rw [List.concat_eq_append] at b1 b3
          have b4 : Z ++ [(f, l)] = (B1 ++ (f, k) :: C) ++ [w] := by rw [b1]; simp
          have b6 : (f, l) = w := (List.cons.inj (List.append_inj' b4 rfl).2).1
          subst b6
          have b7 : EQ mk u (((B1 ++ C) ++ [(f, l)]) ++ [(f, k)]) := e1.trans9 (EQ_app (by rw [← List.append_assoc] at b3; exact b3) EQ.rfl9)
          exact no_two (EQ_red hs hu.1 b7)
    · -- not kin: g was free below in u as well
      have hc : cm mk g f := Classical.byContradiction (fun h9 => hgf (not_cm h9))
      obtain ⟨B1, B2, b1, b2, b3⟩ := EQ_top hs e3
      rcases List.eq_nil_or_concat B2 with rfl | ⟨C, w, rfl⟩
      · have b4 : Z ++ [(g, l)] = B1 ++ [(f, k)] := b1
        have := (List.cons.inj (List.append_inj' b4 rfl).2).1
        exact hc.1 (congrArg Prod.fst this)
      · rw [List.concat_eq_append] at b1 b3
        have b4 : Z ++ [(g, l)] = (B1 ++ (f, k) :: C) ++ [w] := by rw [b1]; simp
        have b5 := (List.append_inj' b4 rfl).1
        have b6 : (g, l) = w := (List.cons.inj (List.append_inj' b4 rfl).2).1
        subst b6
        have b7 : EQ mk u (((B1 ++ C) ++ [(f, k)]) ++ [(g, l)]) := by
          refine e1.trans9 ((EQ_app (by rw [← List.append_assoc] at b3; exact b3) EQ.rfl9).trans9 ?_)
          rw [List.append_assoc (B1 ++ C), List.append_assoc (B1 ++ C)]
          refine EQ_app EQ.rfl9 ?_
          exact EQ_mv hs (x := (g, l)) (B := [(f, k)]) (fun b hb => by rw [List.mem_singleton.mp hb]; exact hc)
        refine hu.2.2 g l _ b7 (JO_apR ?_)
        have hJ2 : JO mk g ((f, k) :: (B1 ++ C)) := by
          refine JO_EQ ?_ hJ
          rw [b5]
          exact EQ_mid hs b2
        exact (JO_app (A := [(f, k)]) (fun x hx => by rw [List.mem_singleton.mp hx]; exact ⟨fun e => hc.1 e.symm, hc.2⟩)).mp hJ2
