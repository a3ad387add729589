/-! PURE: where a row stands in its ring: heights -/
abbrev kn (mk : Nat → Nat) (f g : Nat) : Prop := f ≠ g ∧ (mk f).testBit g = true
theorem kn_sym {mk : Nat → Nat} (hs : symK mk) {f g : Nat} (h : kn mk f g) : kn mk g f := ⟨fun e => h.1 e.symm, by rw [hs]; exact h.2⟩
def sn (X : List (Nat × Int)) (f i : Nat) : Int := ((prj f f X).getD i (0, 0)).2
def FLP (mk rd : Nat → Nat) (X : List (Nat × Int)) (f : Nat) : Prop := rd f = 4 ∧ 1 ≤ cnt0 f X ∧ sn X f 0 = -1 ∧ (∃ g, kn mk f g ∧ 1 ≤ cnt0 g X) ∧ ∀ g, kn mk f g → 1 ≤ cnt0 g X → rc f g X 0 0 = true ∧ rc g f X (cnt0 g X - 1) (cnt0 f X - 1) = true
noncomputable def cs (mk rd : Nat → Nat) (X : List (Nat × Int)) (f i : Nat) : Int := @ite Int (FLP mk rd X f ∧ (i = 0 ∨ i = cnt0 f X - 1)) (Classical.propDecidable _) 1 (sn X f i)
theorem sn_EQ {mk : Nat → Nat} {X Y : List (Nat × Int)} (h : EQ mk X Y) (f i : Nat) : sn X f i = sn Y f i := by unfold sn; rw [h f f (Or.inl rfl)]
theorem FLP_EQ {mk rd : Nat → Nat} (hs : symK mk) {X Y : List (Nat × Int)} (h : EQ mk X Y) (f : Nat) : FLP mk rd X f ↔ FLP mk rd Y f := by
  have hc : ∀ g, cnt0 g X = cnt0 g Y := fun g => cnt_EQ g h
  unfold FLP
  rw [sn_EQ h, hc f]
  constructor
  · rintro ⟨a, b, c, ⟨g, d1, d2⟩, e⟩
    refine ⟨a, b, c, ⟨g, d1, by rw [← hc]; exact d2⟩, fun g hg h1 => ?_⟩
    have := e g hg (by rw [hc]; exact h1)
    rw [rc_EQ h (Or.inr hg.2), rc_EQ h (Or.inr (kn_sym hs hg).2), hc g] at this
    exact this
  · rintro ⟨a, b, c, ⟨g, d1, d2⟩, e⟩
    refine ⟨a, b, c, ⟨g, d1, by rw [hc]; exact d2⟩, fun g hg h1 => ?_⟩
    have := e g hg (by rw [← hc]; exact h1)
    rw [rc_EQ h (Or.inr hg.2), rc_EQ h (Or.inr (kn_sym hs hg).2), hc g]
    exact this
theorem cs_EQ {mk rd : Nat → Nat} (hs : symK mk) {X Y : List (Nat × Int)} (h : EQ mk X Y) (f i : Nat) : cs mk rd X f i = cs mk rd Y f i := by
  unfold cs
  rw [sn_EQ h, cnt_EQ f h, FLP_EQ hs h]
/-- what stands before what, all round -/
def RLr (k : Nat → Nat) (B : Nat → Nat → Nat → Nat → Bool) (f g : Nat) (a b : Int) : Prop := a / (k f : Int) < b / (k g : Int) ∨ (a / (k f : Int) = b / (k g : Int) ∧ B f g (a % (k f : Int)).toNat (b % (k g : Int)).toNat = true)
/-- the laws of it -/
def RW (mk k : Nat → Nat) (R : Nat → Nat → Int → Int → Prop) : Prop := (∀ f g a b a' b', kn mk f g → 1 ≤ k f → 1 ≤ k g → a' ≤ a → b ≤ b' → R f g a b → R f g a' b') ∧ (∀ f g a b, kn mk f g → 1 ≤ k f → 1 ≤ k g → (R f g (a + k f) (b + k g) ↔ R f g a b)) ∧ (∀ f g a b, kn mk f g → 1 ≤ k f → 1 ≤ k g → (R g f b a ↔ ¬ R f g a b))
def HT (mk rd k : Nat → Nat) (R : Nat → Nat → Int → Int → Prop) (σ : Nat → Int → Int) (n : Nat → Int) (X : List (Nat × Int)) : Prop := (∀ f, cnt0 f X = k f) ∧ (∀ f g, kn mk f g → 1 ≤ k f → 1 ≤ k g → (∀ i j, i < k f → j < k g → (rc f g X i j = true ↔ R f g (n f + i) (n g + j))) ∧ R f g (n f - 1) (n g)) ∧ (∀ f i, i < k f → cs mk rd X f i = σ f (n f + i)) ∧ (∀ f, FLP mk rd X f → sn X f (k f - 1) = -1)
theorem HT_EQ {mk rd k : Nat → Nat} {R : Nat → Nat → Int → Int → Prop} {σ : Nat → Int → Int} {n : Nat → Int} (hs : symK mk) {X Y : List (Nat × Int)} (h : EQ mk X Y) (hX : HT mk rd k R σ n X) : HT mk rd k R σ n Y := by
  obtain ⟨h1, h2, h3, h4⟩ := hX
  refine ⟨fun f => by rw [← cnt_EQ f h]; exact h1 f, fun f g hk kf kg => ⟨fun i j hi hj => ?_, (h2 f g hk kf kg).2⟩, fun f i hi => ?_, fun f hf => ?_⟩
  · rw [← rc_EQ h (Or.inr hk.2)]; exact (h2 f g hk kf kg).1 i j hi hj
  · rw [← cs_EQ hs h]; exact h3 f i hi
  · rw [← sn_EQ h]; exact h4 f ((FLP_EQ hs h f).mpr hf)
/-- a bundle of f in front, one at the end -/
def wdr (f a : Nat) (s : Int) (M : List (Nat × Int)) (b : Nat) (s' : Int) : List (Nat × Int) := List.replicate a (f, s) ++ (M ++ List.replicate b (f, s'))
theorem ct_rep (f g a : Nat) (s : Int) : cnt0 g (List.replicate a (f, s)) = if f = g then a else 0 := by
  unfold cnt0
  by_cases h : f = g
  · rw [if_pos h, List.filter_eq_self.mpr (by intro x hx; rw [(List.mem_replicate.mp hx).2]; simpa using h), List.length_replicate]
  · rw [if_neg h, List.filter_eq_nil_iff.mpr (by intro x hx; rw [(List.mem_replicate.mp hx).2]; simpa using h)]; rfl
theorem ct_wd {f g a b : Nat} {s s' : Int} {M : List (Nat × Int)} : cnt0 g (wdr f a s M b s') = (if f = g then a else 0) + cnt0 g M + (if f = g then b else 0) := by
  unfold wdr
  rw [ct_app, ct_app, ct_rep, ct_rep]
  omega
def rcw (f g : Nat) (M : List (Nat × Int)) (a i j : Nat) : Bool := if i < a then true else if i - a < cnt0 f M then rc f g M (i - a) j else false
theorem rcw_s (f g : Nat) (M : List (Nat × Int)) (a i j : Nat) : rcw f g M (a + 1) (i + 1) j = rcw f g M a i j := by
  unfold rcw
  rw [show i + 1 - (a + 1) = i - a by omega]
  by_cases h : i < a
  · rw [if_pos h, if_pos (by omega)]
  · rw [if_neg h, if_neg (by omega)]
theorem rcw_eq {f g : Nat} (hfg : f ≠ g) {a b : Nat} {s s' : Int} {M : List (Nat × Int)} {i j : Nat} (hj : j < cnt0 g M) : rc f g (wdr f a s M b s') i j = rcw f g M a i j := by
  unfold wdr rcw
  rw [rc_app hfg, ct_rep, ct_rep, if_pos rfl, if_neg hfg, if_neg (show ¬ j < 0 by omega), if_neg (show ¬ j < 0 by omega), rc_app hfg, Nat.sub_zero, if_pos hj, if_pos hj]
theorem prj_wo {f g h a b : Nat} {s s' : Int} {M : List (Nat × Int)} (h1 : f ≠ g) (h2 : f ≠ h) : prj g h (wdr f a s M b s') = prj g h M := by
  unfold wdr
  rw [prj_app, prj_app, prj_nil (A := List.replicate a (f, s)) (fun x hx => by rw [(List.mem_replicate.mp hx).2]; exact ⟨h1, h2⟩), prj_nil (A := List.replicate b (f, s')) (fun x hx => by rw [(List.mem_replicate.mp hx).2]; exact ⟨h1, h2⟩), List.append_nil]
  rfl
theorem prj_wf {f a b : Nat} {s s' : Int} {M : List (Nat × Int)} : prj f f (wdr f a s M b s') = List.replicate a (f, s) ++ (prj f f M ++ List.replicate b (f, s')) := by
  unfold wdr
  have h : ∀ (a : Nat) (s : Int), prj f f (List.replicate a (f, s)) = List.replicate a (f, s) := by
    intro a s
    unfold prj
    rw [List.filter_eq_self]
    intro x hx
    rw [(List.mem_replicate.mp hx).2]
    simp
  rw [prj_app, prj_app, h, h]
theorem rc_wo {f g h a b : Nat} {s s' : Int} {M : List (Nat × Int)} (h1 : f ≠ g) (h2 : f ≠ h) (i j : Nat) : rc g h (wdr f a s M b s') i j = rc g h M i j := by
  rw [← rc_prj, prj_wo h1 h2, rc_prj]
theorem sn_wo {f g a b : Nat} {s s' : Int} {M : List (Nat × Int)} (h1 : f ≠ g) (i : Nat) : sn (wdr f a s M b s') g i = sn M g i := by
  unfold sn
  rw [prj_wo h1 h1]
/-- the others' signs -/
theorem FLP_ot {mk rd : Nat → Nat} {f g a b c d : Nat} {s1 s2 s3 s4 : Int} {M : List (Nat × Int)} (hk : ¬ (mk f).testBit g = true) (hs : symK mk) (hfg : f ≠ g) : FLP mk rd (wdr f a s1 M b s2) g ↔ FLP mk rd (wdr f c s3 M d s4) g := by
  have key : ∀ {a b c d : Nat} {s1 s2 s3 s4 : Int}, FLP mk rd (wdr f a s1 M b s2) g → FLP mk rd (wdr f c s3 M d s4) g := by
    intro a b c d s1 s2 s3 s4 h
    have hg : ∀ h', kn mk g h' → f ≠ h' := by
      rintro h' ⟨_, hb⟩ rfl
      rw [hs] at hb
      exact hk hb
    have hct : ∀ h', f ≠ h' → cnt0 h' (wdr f a s1 M b s2) = cnt0 h' (wdr f c s3 M d s4) := by
      intro h' hh
      rw [ct_wd, ct_wd, if_neg hh, if_neg hh, if_neg hh, if_neg hh]
    obtain ⟨h1, h2, h3, ⟨g', h4, h5⟩, h6⟩ := h
    refine ⟨h1, by rw [← hct g hfg]; exact h2, by rw [sn_wo hfg] at h3 ⊢; exact h3, ⟨g', h4, by rw [← hct g' (hg g' h4)]; exact h5⟩, fun h' hh hl => ?_⟩
    have := h6 h' hh (by rw [hct h' (hg h' hh)]; exact hl)
    rw [rc_wo hfg (hg h' hh), rc_wo (hg h' hh) hfg, hct h' (hg h' hh), hct g hfg] at this
    rw [rc_wo hfg (hg h' hh), rc_wo (hg h' hh) hfg]
    exact this
  exact ⟨key, key⟩
theorem FLP_kF {mk rd : Nat → Nat} (hs : symK mk) {f g a b : Nat} {s1 s2 : Int} {M : List (Nat × Int)} (hk : kn mk f g) (ha : 1 ≤ a) : ¬ FLP mk rd (wdr f a s1 M b s2) g := by
  rintro ⟨_, h2, _, _, h6⟩
  have hcf : 1 ≤ cnt0 f (wdr f a s1 M b s2) := by rw [ct_wd, if_pos rfl]; omega
  have h := (h6 f (kn_sym hs hk) hcf).1
  rw [rc_anti hk.1 _ 0 0 (by omega) (by omega)] at h
  have hgM : 0 < cnt0 g M := by rw [ct_wd, if_neg hk.1, if_neg hk.1] at h2; omega
  rw [rcw_eq hk.1 hgM] at h
  unfold rcw at h
  rw [if_pos (by omega)] at h
  cases h
theorem FLP_kE {mk rd : Nat → Nat} (hs : symK mk) {f g a b : Nat} {s1 s2 : Int} {M : List (Nat × Int)} (hk : kn mk f g) (hb : 1 ≤ b) : ¬ FLP mk rd (wdr f a s1 M b s2) g := by
  rintro ⟨_, h2, _, _, h6⟩
  have ef : cnt0 f (wdr f a s1 M b s2) = a + cnt0 f M + b := by rw [ct_wd, if_pos rfl, if_pos rfl]
  have eg : cnt0 g (wdr f a s1 M b s2) = cnt0 g M := by rw [ct_wd, if_neg hk.1, if_neg hk.1]; omega
  have h := (h6 f (kn_sym hs hk) (by omega)).2
  rw [eg] at h2 h
  rw [ef, rcw_eq hk.1 (by omega)] at h
  unfold rcw at h
  rw [if_neg (by omega), if_neg (by omega)] at h
  cases h

theorem getD_map_rep {a i : Nat} {x : Nat × Int} {L : List (Nat × Int)} : (List.replicate a x ++ L).getD i (0, 0) = if i < a then x else L.getD (i - a) (0, 0) := by
  rw [List.getD_eq_getElem?_getD, List.getD_eq_getElem?_getD, List.getElem?_append, List.length_replicate]
  by_cases h : i < a
  · rw [if_pos h, if_pos h, List.getElem?_replicate, if_pos h]; rfl
  · rw [if_neg h, if_neg h]
/-- the signs of f in front, between, at the end -/
def sw (f a : Nat) (s : Int) (M : List (Nat × Int)) (b i : Nat) : Int := if i < a then s else if i - a < cnt0 f M then sn M f (i - a) else s
theorem sw_s (f a : Nat) (s : Int) (M : List (Nat × Int)) (b i : Nat) : sw f (a + 1) s M b (i + 1) = sw f a s M (b + 1) i := by
  unfold sw
  rw [show i + 1 - (a + 1) = i - a by omega]
  by_cases h : i < a
  · rw [if_pos h, if_pos (by omega)]
  · rw [if_neg h, if_neg (by omega)]
theorem sn_wd {f a b : Nat} {s s' : Int} {M : List (Nat × Int)} {i : Nat} (hi : i < a + cnt0 f M + b) : sn (wdr f a s M b s') f i = if i < a then s else if i - a < cnt0 f M then sn M f (i - a) else s' := by
  unfold sn
  rw [prj_wf, getD_map_rep]
  by_cases h : i < a
  · rw [if_pos h, if_pos h]
  · rw [if_neg h, if_neg h]
    rw [ct_one] at hi ⊢
    rw [List.getD_eq_getElem?_getD, List.getD_eq_getElem?_getD, List.getElem?_append]
    by_cases h2 : i - a < (prj f f M).length
    · rw [if_pos h2, if_pos h2]
    · rw [if_neg h2, if_neg h2, List.getElem?_replicate, if_pos (by omega)]; rfl
/-- one tie goes from the front to the end -/
theorem HT_fwd {mk rd k : Nat → Nat} {R : Nat → Nat → Int → Int → Prop} {σ : Nat → Int → Int} (hs : symK mk) (hW : RW mk k R) (hσ : ∀ f a, 1 ≤ k f → σ f (a + k f) = σ f a) {n : Nat → Int} {f a b : Nat} {s1 s2 s3 s4 s : Int} {M : List (Nat × Int)} (h : HT mk rd k R σ n (wdr f (a + 1) s1 M b s2))
    (hc1 : ∀ i, i < a + 1 + cnt0 f M + b → cs mk rd (wdr f (a + 1) s1 M b s2) f i = sw f (a + 1) s M b i) (hc2 : ∀ i, i < a + cnt0 f M + (b + 1) → cs mk rd (wdr f a s3 M (b + 1) s4) f i = sw f a s M (b + 1) i) (hf2 : FLP mk rd (wdr f a s3 M (b + 1) s4) f → s4 = -1) :
    HT mk rd k R σ (fun g => if g = f then n f + 1 else n g) (wdr f a s3 M (b + 1) s4) := by
  obtain ⟨h1, h2, h3, h4⟩ := h
  have hkf : k f = a + 1 + cnt0 f M + b := by rw [← h1 f, ct_wd, if_pos rfl, if_pos rfl]
  have hkg : ∀ g, f ≠ g → k g = cnt0 g M := fun g hg => by rw [← h1 g, ct_wd, if_neg hg, if_neg hg]; omega
  have main : ∀ g, kn mk f g → 1 ≤ k g → (∀ i j, i < k f → j < k g → (rc f g (wdr f a s3 M (b + 1) s4) i j = true ↔ R f g (n f + 1 + i) (n g + j))) ∧ R f g (n f + 1 - 1) (n g) ∧ R g f (n g - 1) (n f + 1) := by
    intro g hk kg
    have kf : 1 ≤ k f := by omega
    have hgM := hkg g hk.1
    obtain ⟨r1, r2⟩ := h2 f g hk kf kg
    obtain ⟨q1, q2⟩ := h2 g f (kn_sym hs hk) kg kf
    refine ⟨fun i j hi hj => ?_, ?_, ?_⟩
    · rw [rcw_eq hk.1 (by omega), ← rcw_s]
      by_cases hl : i + 1 < k f
      · have := r1 (i + 1) j hl hj
        rw [rcw_eq hk.1 (by omega)] at this
        rw [this, show n f + ((i + 1 : Nat) : Int) = n f + 1 + i by omega]
      · have e1 : rcw f g M (a + 1) (i + 1) j = false := by
          unfold rcw
          rw [if_neg (by omega), if_neg (by omega)]
        rw [e1]
        have e2 : ¬ R f g (n f + 1 + i) (n g + j) := by
          rw [← hW.2.2 f g _ _ hk kf kg]
          have p := (hW.2.1 g f (n g - 1) (n f) (kn_sym hs hk) kg kf).mpr q2
          refine hW.1 g f _ _ _ _ (kn_sym hs hk) kg kf ?_ ?_ p
          · omega
          · omega
        constructor
        · intro h9; cases h9
        · intro h9; exact absurd h9 e2
    · have := (r1 0 0 (by omega) (by omega)).mp (by
        rw [rcw_eq hk.1 (by omega)]
        unfold rcw
        rw [if_pos (by omega)])
      rw [show n f + 1 - 1 = n f + ((0 : Nat) : Int) by omega, show n g = n g + ((0 : Nat) : Int) by omega]
      exact this
    · exact hW.1 g f _ _ _ _ (kn_sym hs hk) kg kf (Int.le_refl _) (by omega) q2
  refine ⟨fun g => ?_, fun x y hk kx ky => ?_, fun g i hi => ?_, fun g hg => ?_⟩
  · rw [ct_wd]
    by_cases e : f = g
    · subst e; rw [if_pos rfl, if_pos rfl]; omega
    · rw [if_neg e, if_neg e, hkg g e]; omega
  · by_cases ex : x = f
    · subst ex
      have hy : y ≠ x := fun e => hk.1 e.symm
      obtain ⟨m1, m2, m3⟩ := main y hk ky
      simp only [if_pos, if_neg hy]
      exact ⟨m1, m2⟩
    · by_cases ey : y = f
      · subst ey
        obtain ⟨m1, m2, m3⟩ := main x (kn_sym hs hk) kx
        simp only [if_pos, if_neg ex]
        refine ⟨fun i j hi hj => ?_, m3⟩
        have hct : cnt0 y (wdr y a s3 M (b + 1) s4) = k y := by rw [ct_wd, if_pos rfl, if_pos rfl]; omega
        have hcx : cnt0 x (wdr y a s3 M (b + 1) s4) = k x := by rw [ct_wd, if_neg (Ne.symm ex), if_neg (Ne.symm ex), hkg x (Ne.symm ex)]; omega
        rw [rc_anti (Ne.symm ex) _ j i (by omega) (by omega), hW.2.2 y x _ _ (kn_sym hs hk) ky kx, ← m1 j i hj hi]
        cases rc y x (wdr y a s3 M (b + 1) s4) j i <;> simp
      · simp only [if_neg ex, if_neg ey]
        obtain ⟨r1, r2⟩ := h2 x y hk kx ky
        refine ⟨fun i j hi hj => ?_, r2⟩
        rw [rc_wo (Ne.symm ex) (Ne.symm ey), ← r1 i j hi hj, rc_wo (Ne.symm ex) (Ne.symm ey)]
  · by_cases e : g = f
    · subst e
      simp only [if_pos]
      rw [hc2 i (by omega), ← sw_s]
      by_cases hl : i + 1 < k g
      · rw [← hc1 (i + 1) (by omega), h3 g (i + 1) hl, show n g + ((i + 1 : Nat) : Int) = n g + 1 + i by omega]
      · have e1 : sw g (a + 1) s M b (i + 1) = s := by
          unfold sw
          rw [if_neg (by omega), if_neg (by omega)]
        have e2 := h3 g 0 (by omega)
        rw [hc1 0 (by omega)] at e2
        unfold sw at e2
        rw [if_pos (by omega)] at e2
        rw [e1, e2, show n g + 1 + (i : Int) = (n g + ((0 : Nat) : Int)) + k g by omega, hσ g _ (by omega)]
    · simp only [if_neg e]
      have hfg : f ≠ g := fun h9 => e h9.symm
      rw [← h3 g i hi]
      unfold cs
      have hF : FLP mk rd (wdr f a s3 M (b + 1) s4) g ↔ FLP mk rd (wdr f (a + 1) s1 M b s2) g := by
        by_cases hk : (mk f).testBit g = true
        · exact ⟨fun h9 => absurd h9 (FLP_kE hs ⟨hfg, hk⟩ (by omega)), fun h9 => absurd h9 (FLP_kF hs ⟨hfg, hk⟩ (by omega))⟩
        · exact FLP_ot hk hs hfg
      have hct : cnt0 g (wdr f a s3 M (b + 1) s4) = cnt0 g (wdr f (a + 1) s1 M b s2) := by rw [ct_wd, ct_wd, if_neg hfg, if_neg hfg, if_neg hfg, if_neg hfg]
      rw [sn_wo hfg, sn_wo hfg, hF, hct]
  · by_cases e : g = f
    · subst e
      rw [sn_wd (by omega), if_neg (by omega), if_neg (by omega)]
      exact hf2 hg
    · have hfg : f ≠ g := fun h9 => e h9.symm
      have hF : FLP mk rd (wdr f (a + 1) s1 M b s2) g := by
        by_cases hk : (mk f).testBit g = true
        · exact absurd hg (FLP_kE hs ⟨hfg, hk⟩ (by omega))
        · exact (FLP_ot hk hs hfg).mp hg
      rw [sn_wo hfg, ← h4 g hF, sn_wo hfg]
