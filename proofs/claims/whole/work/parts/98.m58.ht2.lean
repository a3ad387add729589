/-- one tie goes from the end to the front -/
theorem HT_bwd {mk rd k : Nat → Nat} {R : Nat → Nat → Int → Int → Prop} {σ : Nat → Int → Int} (hs : symK mk) (hW : RW mk k R) (hσ : ∀ f a, 1 ≤ k f → σ f (a + k f) = σ f a) {n : Nat → Int} {f a b : Nat} {s1 s2 s3 s4 s : Int} {M : List (Nat × Int)} (h : HT mk rd k R σ n (wdr f a s1 M (b + 1) s2))
    (hc1 : ∀ i, i < a + cnt0 f M + (b + 1) → cs mk rd (wdr f a s1 M (b + 1) s2) f i = sw f a s M (b + 1) i) (hc2 : ∀ i, i < a + 1 + cnt0 f M + b → cs mk rd (wdr f (a + 1) s3 M b s4) f i = sw f (a + 1) s M b i) (hf2 : FLP mk rd (wdr f (a + 1) s3 M b s4) f → 1 ≤ b ∧ s4 = -1) :
    HT mk rd k R σ (fun g => if g = f then n f - 1 else n g) (wdr f (a + 1) s3 M b s4) := by
  obtain ⟨h1, h2, h3, h4⟩ := h
  have hkf : k f = a + 1 + cnt0 f M + b := by rw [← h1 f, ct_wd, if_pos rfl, if_pos rfl]; omega
  have hkg : ∀ g, f ≠ g → k g = cnt0 g M := fun g hg => by rw [← h1 g, ct_wd, if_neg hg, if_neg hg]; omega
  have main : ∀ g, kn mk f g → 1 ≤ k g → (∀ i j, i < k f → j < k g → (rc f g (wdr f (a + 1) s3 M b s4) i j = true ↔ R f g (n f - 1 + i) (n g + j))) ∧ R f g (n f - 1 - 1) (n g) ∧ R g f (n g - 1) (n f - 1) := by
    intro g hk kg
    have kf : 1 ≤ k f := by omega
    have hgM := hkg g hk.1
    obtain ⟨r1, r2⟩ := h2 f g hk kf kg
    obtain ⟨q1, q2⟩ := h2 g f (kn_sym hs hk) kg kf
    refine ⟨fun i j hi hj => ?_, ?_, ?_⟩
    · rw [rcw_eq hk.1 (by omega)]
      cases i with
      | zero =>
        have e1 : rcw f g M (a + 1) 0 j = true := by
          unfold rcw
          rw [if_pos (by omega)]
        rw [e1]
        have : R f g (n f - 1 + ((0 : Nat) : Int)) (n g + j) := hW.1 f g _ _ _ _ hk kf kg (by omega) (by omega) r2
        exact ⟨fun _ => this, fun _ => rfl⟩
      | succ i =>
        have := r1 i j (by omega) hj
        rw [rcw_eq hk.1 (by omega)] at this
        rw [rcw_s, this, show n f - 1 + ((i + 1 : Nat) : Int) = n f + i by omega]
    · exact hW.1 f g _ _ _ _ hk kf kg (by omega) (Int.le_refl _) r2
    · have e1 : ¬ R f g (n f + ((k f - 1 : Nat) : Int)) (n g + ((k g - 1 : Nat) : Int)) := by
        rw [← r1 (k f - 1) (k g - 1) (by omega) (by omega), rcw_eq hk.1 (by omega)]
        unfold rcw
        rw [if_neg (by omega), if_neg (by omega)]
        exact Bool.false_ne_true
      rw [hW.2.2 f g _ _ hk kf kg]
      rw [show n f + ((k f - 1 : Nat) : Int) = n f - 1 + k f by omega, show n g + ((k g - 1 : Nat) : Int) = n g - 1 + k g by omega, hW.2.1 f g _ _ hk kf kg] at e1
      exact e1
  refine ⟨fun g => ?_, fun x y hk kx ky => ?_, fun g i hi => ?_, fun g hg => ?_⟩
  · rw [ct_wd]
    by_cases e : f = g
    · subst e; rw [if_pos rfl, if_pos rfl]; omega
    · rw [if_neg e, if_neg e, hkg g e]; omega
  · by_cases ex : x = f
    · subst ex
      have hy : y ≠ x := fun e => hk.1 e.symm
      obtain ⟨m1, m2, m3⟩ := main y hk ky
      simp only [if_pos, if_neg hy]
      exact ⟨m1, m2⟩
    · by_cases ey : y = f
      · subst ey
        obtain ⟨m1, m2, m3⟩ := main x (kn_sym hs hk) kx
        simp only [if_pos, if_neg ex]
        refine ⟨fun i j hi hj => ?_, m3⟩
        have hct : cnt0 y (wdr y (a + 1) s3 M b s4) = k y := by rw [ct_wd, if_pos rfl, if_pos rfl]; omega
        have hcx : cnt0 x (wdr y (a + 1) s3 M b s4) = k x := by rw [ct_wd, if_neg (Ne.symm ex), if_neg (Ne.symm ex), hkg x (Ne.symm ex)]; omega
        rw [rc_anti (Ne.symm ex) _ j i (by omega) (by omega), hW.2.2 y x _ _ (kn_sym hs hk) ky kx, ← m1 j i hj hi]
        cases rc y x (wdr y (a + 1) s3 M b s4) j i <;> simp
      · simp only [if_neg ex, if_neg ey]
        obtain ⟨r1, r2⟩ := h2 x y hk kx ky
        refine ⟨fun i j hi hj => ?_, r2⟩
        rw [rc_wo (Ne.symm ex) (Ne.symm ey), ← r1 i j hi hj, rc_wo (Ne.symm ex) (Ne.symm ey)]
  · by_cases e : g = f
    · subst e
      simp only [if_pos]
      rw [hc2 i (by omega)]
      cases i with
      | zero =>
        have e1 : sw g (a + 1) s M b 0 = s := by
          unfold sw
          rw [if_pos (by omega)]
        have e2 := h3 g (k g - 1) (by omega)
        rw [hc1 (k g - 1) (by omega)] at e2
        unfold sw at e2
        rw [if_neg (by omega), if_neg (by omega)] at e2
        rw [e1, e2, show n g + ((k g - 1 : Nat) : Int) = (n g - 1 + ((0 : Nat) : Int)) + k g by omega, hσ g _ (by omega)]
      | succ i =>
        rw [sw_s, ← hc1 i (by omega), h3 g i (by omega), show n g - 1 + ((i + 1 : Nat) : Int) = n g + i by omega]
    · simp only [if_neg e]
      have hfg : f ≠ g := fun h9 => e h9.symm
      rw [← h3 g i hi]
      unfold cs
      have hF : FLP mk rd (wdr f (a + 1) s3 M b s4) g ↔ FLP mk rd (wdr f a s1 M (b + 1) s2) g := by
        by_cases hk : (mk f).testBit g = true
        · exact ⟨fun h9 => absurd h9 (FLP_kF hs ⟨hfg, hk⟩ (by omega)), fun h9 => absurd h9 (FLP_kE hs ⟨hfg, hk⟩ (by omega))⟩
        · exact FLP_ot hk hs hfg
      have hct : cnt0 g (wdr f (a + 1) s3 M b s4) = cnt0 g (wdr f a s1 M (b + 1) s2) := by rw [ct_wd, ct_wd, if_neg hfg, if_neg hfg, if_neg hfg, if_neg hfg]
      rw [sn_wo hfg, sn_wo hfg, hF, hct]
  · by_cases e : g = f
    · subst e
      obtain ⟨hb, h5⟩ := hf2 hg
      rw [sn_wd (by omega), if_neg (by omega), if_neg (by omega)]
      exact h5
    · have hfg : f ≠ g := fun h9 => e h9.symm
      have hF : FLP mk rd (wdr f a s1 M (b + 1) s2) g := by
        by_cases hk : (mk f).testBit g = true
        · exact absurd hg (FLP_kF hs ⟨hfg, hk⟩ (by omega))
        · exact (FLP_ot hk hs hfg).mp hg
      rw [sn_wo hfg, ← h4 g hF, sn_wo hfg]
/-- f is not in front of M -/
def NF (mk : Nat → Nat) (f : Nat) (M : List (Nat × Int)) : Prop := ∃ g, kn mk f g ∧ 1 ≤ cnt0 g M ∧ ∀ b s s', rc f g (wdr f 0 s M b s') 0 0 = false
def NE (mk : Nat → Nat) (f : Nat) (M : List (Nat × Int)) : Prop := ∃ g, kn mk f g ∧ 1 ≤ cnt0 g M ∧ ∀ a s s', 1 ≤ a + cnt0 f M → rc g f (wdr f a s M 0 s') (cnt0 g M - 1) (a + cnt0 f M - 1) = false
theorem ct_exL {rd : Nat → Nat} (hr : okR rd) {g : Nat} : ∀ {A : List (Nat × Int)}, okC rd A → ((∃ y ∈ A, y.1 = g) → 1 ≤ cnt0 g (exL rd A)) ∧ ((∀ y ∈ A, y.1 ≠ g) → cnt0 g (exL rd A) = 0) := by
  intro A hC
  constructor
  · rintro ⟨y, hy, e⟩
    have h1 := bn_pos hr hC hy
    have hm : (y.1, sg (bt rd y)) ∈ exL rd A := List.mem_flatMap.mpr ⟨y, hy, List.mem_replicate.mpr ⟨by omega, rfl⟩⟩
    unfold cnt0
    apply List.length_pos_of_mem (a := (y.1, sg (bt rd y)))
    rw [List.mem_filter]
    exact ⟨hm, by simpa using e⟩
  · intro h
    apply cnt_no
    intro y hy
    obtain ⟨x, hx, e⟩ := exL_f hy
    rw [e]
    exact h x hx
theorem NF_of {mk rd : Nat → Nat} (hs : symK mk) (hr : okR rd) {f : Nat} (hirr : (mk f).testBit f = false) {Y : List (Nat × Int)} (hC : okC rd Y) (hnb : NB mk f Y) (hk : ∃ y ∈ Y, (mk f).testBit y.1 = true) : NF mk f (ex rd Y) := by
  have hCr : okC rd Y.reverse := fun x hx => hC x (List.mem_reverse.mp hx)
  have main : ∃ A C, Y.reverse = A ++ C ∧ (∀ y ∈ A, y.1 ≠ f) ∧ ∃ y ∈ A, (mk f).testBit y.1 = true := by
    by_cases hf : ∃ y ∈ Y.reverse, y.1 = f
    · obtain ⟨A, x, C, e1, e2, e3⟩ := first_of hf
      refine ⟨A, x :: C, e1, e3, ?_⟩
      refine Classical.byContradiction (fun hno => hnb ⟨x.2, C.reverse ++ A.reverse, ?_⟩)
      have e4 : Y = C.reverse ++ x :: A.reverse := by
        have := congrArg List.reverse e1
        rw [List.reverse_reverse, List.reverse_append, List.reverse_cons, List.append_assoc] at this
        exact this
      have e5 : (f, x.2) = x := by rw [← e2]
      rw [e5, e4]
      refine EQ_mid2 hs ?_
      intro b hb
      have hb2 := List.mem_reverse.mp hb
      rw [e2]
      refine ⟨fun e => e3 b hb2 e.symm, ?_⟩
      cases hq : (mk f).testBit b.1
      · rfl
      · exact absurd ⟨b, hb2, hq⟩ hno
    · obtain ⟨y, hy, hb⟩ := hk
      exact ⟨Y.reverse, [], (List.append_nil _).symm, fun y hy e => hf ⟨y, hy, e⟩, y, List.mem_reverse.mpr hy, hb⟩
  obtain ⟨A, C, e1, e2, y, hy, hb⟩ := main
  have hne : f ≠ y.1 := fun e => e2 y hy e.symm
  have hCA : okC rd A := fun x hx => hCr x (by rw [e1]; exact List.mem_append_left _ hx)
  have c1 := (ct_exL hr (g := y.1) hCA).1 ⟨y, hy, rfl⟩
  have c2 := (ct_exL hr (g := f) hCA).2 e2
  have eM : ex rd Y = exL rd A ++ exL rd C := by unfold ex; rw [e1, exL_app]
  refine ⟨y.1, ⟨hne, hb⟩, by rw [eM, ct_app]; omega, fun b s s' => ?_⟩
  unfold wdr
  rw [eM, List.replicate_zero, List.nil_append, List.append_assoc, rc_app hne, if_neg (by omega), if_pos (by omega)]
theorem NE_of {mk rd : Nat → Nat} (hs : symK mk) (hr : okR rd) {f : Nat} (hirr : (mk f).testBit f = false) {Y : List (Nat × Int)} (hC : okC rd Y) (hj : ¬ JO mk f Y) (hk : ∃ y ∈ Y, (mk f).testBit y.1 = true) : NE mk f (ex rd Y) := by
  have main : ∃ A C, Y = A ++ C ∧ (∀ y ∈ A, y.1 ≠ f) ∧ ∃ y ∈ A, (mk f).testBit y.1 = true := by
    by_cases hf : ∃ y ∈ Y, y.1 = f
    · obtain ⟨A, x, C, e1, e2, e3⟩ := first_of hf
      refine ⟨A, x :: C, e1, e3, ?_⟩
      refine Classical.byContradiction (fun hno => hj ?_)
      have hA : ∀ z ∈ A, z.1 ≠ f ∧ (mk f).testBit z.1 = false := by
        intro z hz
        refine ⟨e3 z hz, ?_⟩
        cases hq : (mk f).testBit z.1
        · rfl
        · exact absurd ⟨z, hz, hq⟩ hno
      rw [e1]
      refine (JO_app hA).mpr ⟨?_, ?_⟩
      · rw [prj_cons_in (Or.inl e2)]; intro h; cases h
      · intro g hg z tl h
        rw [prj_cons_in (Or.inl e2)] at h
        rw [← (List.cons.inj h).1]
        exact e2
    · obtain ⟨y, hy, hb⟩ := hk
      exact ⟨Y, [], (List.append_nil _).symm, fun y hy e => hf ⟨y, hy, e⟩, y, hy, hb⟩
  obtain ⟨A, C, e1, e2, y, hy, hb⟩ := main
  have hne : f ≠ y.1 := fun e => e2 y hy e.symm
  have hCA : okC rd A.reverse := fun x hx => hC x (by rw [e1]; exact List.mem_append_left _ (List.mem_reverse.mp hx))
  have c1 := (ct_exL hr (g := y.1) hCA).1 ⟨y, List.mem_reverse.mpr hy, rfl⟩
  have c2 := (ct_exL hr (g := f) hCA).2 (fun z hz => e2 z (List.mem_reverse.mp hz))
  have eM : ex rd Y = exL rd C.reverse ++ exL rd A.reverse := by unfold ex; rw [e1, List.reverse_append, exL_app]
  refine ⟨y.1, ⟨hne, hb⟩, by rw [eM, ct_app]; omega, fun a s s' h1 => ?_⟩
  unfold wdr
  have e3 : List.replicate a (f, s) ++ (ex rd Y ++ List.replicate 0 (f, s')) = (List.replicate a (f, s) ++ exL rd C.reverse) ++ exL rd A.reverse := by rw [eM, List.replicate_zero, List.append_nil, List.append_assoc]
  rw [eM, ct_app] at h1
  rw [e3, rc_app (Ne.symm hne), ct_app, ct_app, ct_rep, ct_rep, if_neg hne, if_pos rfl, eM, ct_app, ct_app, if_neg (by omega), if_pos (by omega)]
theorem FLP_nf {mk rd : Nat → Nat} {f b : Nat} {s s' : Int} {M : List (Nat × Int)} (h : NF mk f M) : ¬ FLP mk rd (wdr f 0 s M b s') f := by
  rintro ⟨_, _, _, _, h6⟩
  obtain ⟨g, hk, h1, h2⟩ := h
  have := (h6 g hk (by rw [ct_wd, if_neg hk.1, if_neg hk.1]; omega)).1
  rw [h2] at this
  cases this
theorem FLP_ne {mk rd : Nat → Nat} {f a : Nat} {s s' : Int} {M : List (Nat × Int)} (h : NE mk f M) : ¬ FLP mk rd (wdr f a s M 0 s') f := by
  rintro ⟨_, h0, _, _, h6⟩
  obtain ⟨g, hk, h1, h2⟩ := h
  have := (h6 g hk (by rw [ct_wd, if_neg hk.1, if_neg hk.1]; omega)).2
  rw [ct_wd, ct_wd, if_neg hk.1, if_neg hk.1, if_pos rfl, if_pos rfl, Nat.zero_add, Nat.add_zero, Nat.add_zero] at this
  rw [ct_wd, if_pos rfl, if_pos rfl] at h0
  rw [h2 a s s' (by omega)] at this
  cases this
theorem cs_no {mk rd : Nat → Nat} {X : List (Nat × Int)} {f : Nat} (h : ¬ FLP mk rd X f) (i : Nat) : cs mk rd X f i = sn X f i := by
  unfold cs
  rw [if_neg (fun h9 => h h9.1)]
