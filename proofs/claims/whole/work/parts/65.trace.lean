/-! PURE: piles up to change of places; what is pushed can be pushed back -/
def prj (f g : Nat) (Q : List (Nat × Int)) : List (Nat × Int) := Q.filter (fun x => x.1 == f || x.1 == g)
/-- one pile but for changes of places -/
def EQ (mk : Nat → Nat) (Q P : List (Nat × Int)) : Prop := ∀ f g, (f = g ∨ (mk f).testBit g = true) → prj f g Q = prj f g P
/-- a bundle of f on top would join one -/
def JO (mk : Nat → Nat) (f : Nat) (Q : List (Nat × Int)) : Prop := prj f f Q ≠ [] ∧ ∀ g, (mk f).testBit g = true → ∀ y tl, prj f g Q = y :: tl → y.1 = f
theorem EQ.rfl9 {mk : Nat → Nat} {Q : List (Nat × Int)} : EQ mk Q Q := fun _ _ _ => rfl
theorem EQ.symm9 {mk : Nat → Nat} {Q P : List (Nat × Int)} (h : EQ mk Q P) : EQ mk P Q := fun f g hf => (h f g hf).symm
theorem EQ.trans9 {mk : Nat → Nat} {Q P R : List (Nat × Int)} (h : EQ mk Q P) (h2 : EQ mk P R) : EQ mk Q R := fun f g hf => (h f g hf).trans (h2 f g hf)
theorem prj_cons_in {f g : Nat} {x : Nat × Int} {Q : List (Nat × Int)} (h : x.1 = f ∨ x.1 = g) : prj f g (x :: Q) = x :: prj f g Q := by
  unfold prj
  rw [List.filter_cons_of_pos]
  simpa using h
theorem prj_cons_out {f g : Nat} {x : Nat × Int} {Q : List (Nat × Int)} (h1 : x.1 ≠ f) (h2 : x.1 ≠ g) : prj f g (x :: Q) = prj f g Q := by
  unfold prj
  rw [List.filter_cons_of_neg]
  simp [h1, h2]
theorem EQ.nil9 {mk : Nat → Nat} {Q : List (Nat × Int)} (h : EQ mk Q []) : Q = [] := by
  cases Q with
  | nil => rfl
  | cons x Q =>
    have h1 := h x.1 x.1 (Or.inl rfl)
    rw [prj_cons_in (Or.inl rfl)] at h1
    cases h1
theorem jn_some {mk rd : Nat → Nat} {f : Nat} {c : Int} : ∀ {Q P : List (Nat × Int)}, jn mk rd f c Q = some P → ∃ d, (∀ g, (f = g ∨ (mk f).testBit g = true) → ∃ tl, prj f g Q = (f, d) :: tl ∧ prj f g P = if nrm (rd f) (d + c) = 0 then tl else (f, nrm (rd f) (d + c)) :: tl) ∧ ∀ a b, a ≠ f → b ≠ f → prj a b P = prj a b Q
  | [], P, h => by cases h
  | x :: Q, P, h => by
    rw [jn_cons] at h
    by_cases hx : x.1 = f
    · rw [if_pos hx] at h
      have h2 := Option.some.inj h
      refine ⟨x.2, fun g hg => ⟨prj f g Q, ?_, ?_⟩, fun a b ha hb => ?_⟩
      · rw [prj_cons_in (Or.inl hx)]
        congr 1
        exact Prod.ext hx rfl
      · rw [← h2]
        split
        · rfl
        · rw [prj_cons_in (f := f) (x := (f, nrm (rd f) (x.2 + c))) (Or.inl rfl)]
      · rw [prj_cons_out (by rw [hx]; exact fun e => ha e.symm) (by rw [hx]; exact fun e => hb e.symm), ← h2]
        split
        · rfl
        · rw [prj_cons_out (fun e => ha e.symm) (fun e => hb e.symm)]
    · rw [if_neg hx] at h
      by_cases hk : (mk f).testBit x.1 = true
      · rw [if_pos hk] at h; cases h
      · rw [if_neg hk] at h
        obtain ⟨z, hz, rfl⟩ := Option.map_eq_some_iff.mp h
        obtain ⟨d, h1, h2⟩ := jn_some hz
        refine ⟨d, fun g hg => ?_, fun a b ha hb => ?_⟩
        · have hxg : x.1 ≠ g := by
            rcases hg with rfl | hg
            · exact hx
            · intro e
              rw [e] at hk
              exact hk hg
          rw [prj_cons_out hx hxg, prj_cons_out hx hxg]
          exact h1 g hg
        · by_cases hin : x.1 = a ∨ x.1 = b
          · rw [prj_cons_in hin, prj_cons_in hin, h2 a b ha hb]
          · rw [not_or] at hin
            rw [prj_cons_out hin.1 hin.2, prj_cons_out hin.1 hin.2, h2 a b ha hb]
theorem jn_none {mk rd : Nat → Nat} {f : Nat} {c : Int} : ∀ {Q : List (Nat × Int)}, jn mk rd f c Q = none → prj f f Q = [] ∨ ∃ g y tl, (mk f).testBit g = true ∧ prj f g Q = y :: tl ∧ y.1 ≠ f
  | [], _ => Or.inl rfl
  | x :: Q, h => by
    rw [jn_cons] at h
    by_cases hx : x.1 = f
    · rw [if_pos hx] at h; cases h
    · rw [if_neg hx] at h
      by_cases hk : (mk f).testBit x.1 = true
      · exact Or.inr ⟨x.1, x, prj f x.1 Q, hk, prj_cons_in (Or.inr rfl), hx⟩
      · rw [if_neg hk] at h
        have h1 : jn mk rd f c Q = none := by
          cases hj : jn mk rd f c Q with
          | none => rfl
          | some z => rw [hj] at h; cases h
        rcases jn_none h1 with h2 | ⟨g, y, tl, h2, h3, h4⟩
        · left
          rw [prj_cons_out hx hx]
          exact h2
        · right
          refine ⟨g, y, tl, h2, ?_, h4⟩
          rw [prj_cons_out hx (fun e => hk (by rw [e]; exact h2))]
          exact h3
theorem JO_some {mk rd : Nat → Nat} {f : Nat} {c : Int} {Q P : List (Nat × Int)} (h : jn mk rd f c Q = some P) : JO mk f Q := by
  obtain ⟨d, h1, -⟩ := jn_some h
  refine ⟨?_, fun g hg y tl hy => ?_⟩
  · obtain ⟨tl, h2, -⟩ := h1 f (Or.inl rfl)
    rw [h2]
    exact List.cons_ne_nil _ _
  · obtain ⟨tl2, h2, -⟩ := h1 g (Or.inr hg)
    rw [h2] at hy
    cases hy
    rfl
theorem JO_none {mk rd : Nat → Nat} {f : Nat} {c : Int} {Q : List (Nat × Int)} (h : jn mk rd f c Q = none) : ¬ JO mk f Q := by
  intro hJ
  rcases jn_none h with h1 | ⟨g, y, tl, h2, h3, h4⟩
  · exact hJ.1 h1
  · exact h4 (hJ.2 g h2 y tl h3)
theorem JO_EQ {mk : Nat → Nat} {f : Nat} {Q P : List (Nat × Int)} (h : EQ mk Q P) (hJ : JO mk f Q) : JO mk f P := by
  refine ⟨?_, fun g hg y tl hy => ?_⟩
  · rw [← h f f (Or.inl rfl)]
    exact hJ.1
  · rw [← h f g (Or.inr hg)] at hy
    exact hJ.2 g hg y tl hy
/-- pushing doesn't see a change of places -/
theorem ps_EQ {mk rd : Nat → Nat} (hs : ∀ f g, (mk f).testBit g = (mk g).testBit f) {f : Nat} {c : Int} {Q P : List (Nat × Int)} (h : EQ mk Q P) : EQ mk (ps mk rd f c Q) (ps mk rd f c P) := by
  unfold ps
  cases h1 : jn mk rd f c Q with
  | none =>
    cases h2 : jn mk rd f c P with
    | some R => exact absurd (JO_EQ h.symm9 (JO_some h2)) (JO_none h1)
    | none =>
      intro a b hab
      show prj a b ((f, nrm (rd f) c) :: Q) = prj a b ((f, nrm (rd f) c) :: P)
      by_cases hin : f = a ∨ f = b
      · rw [prj_cons_in hin, prj_cons_in hin, h a b hab]
      · rw [not_or] at hin
        rw [prj_cons_out hin.1 hin.2, prj_cons_out hin.1 hin.2, h a b hab]
  | some R =>
    cases h2 : jn mk rd f c P with
    | none => exact absurd (JO_EQ h (JO_some h1)) (JO_none h2)
    | some S =>
      obtain ⟨d, u1, u2⟩ := jn_some h1
      obtain ⟨e, v1, v2⟩ := jn_some h2
      have key : ∀ g, (f = g ∨ (mk f).testBit g = true) → prj f g R = prj f g S := by
        intro g hg
        obtain ⟨tl, w1, w2⟩ := u1 g hg
        obtain ⟨tl', w3, w4⟩ := v1 g hg
        have h3 := h f g hg
        rw [w1, w3] at h3
        cases h3
        rw [w2, w4]
      intro a b hab
      show prj a b R = prj a b S
      by_cases ha : a = f
      · subst ha
        exact key b hab
      · by_cases hb : b = f
        · subst hb
          have hab' : b = a ∨ (mk b).testBit a = true := by
            rcases hab with h | h
            · exact Or.inl h.symm
            · right
              rw [hs]
              exact h
          have h3 := key a hab'
          have sw : ∀ Q : List (Nat × Int), prj a b Q = prj b a Q := by
            intro Q
            unfold prj
            congr 1
            funext x
            exact Bool.or_comm _ _
          rw [sw, sw, h3]
        · rw [u2 a b ha hb, v2 a b ha hb, h a b hab]
/-- no bundle could join one below it -/
def Red (mk : Nat → Nat) : List (Nat × Int) → Prop
  | [] => True
  | x :: Q => ¬ JO mk x.1 Q ∧ Red mk Q
/-- counts are as they are kept, none is 0 -/
def okC (rd : Nat → Nat) (Q : List (Nat × Int)) : Prop := ∀ x ∈ Q, nrm (rd x.1) x.2 = x.2 ∧ x.2 ≠ 0
theorem nrm_idem (m : Nat) (z : Int) : nrm m (nrm m z) = nrm m z := by
  unfold nrm
  split
  · rfl
  · exact Int.emod_emod_of_dvd z (Int.dvd_refl _)
theorem nrm_add (m : Nat) (a b : Int) : nrm m (nrm m a + b) = nrm m (a + b) := by
  unfold nrm
  split
  · rfl
  · exact Int.emod_add_emod a _ b
theorem JO_app {mk : Nat → Nat} {f : Nat} {A Q : List (Nat × Int)} (hA : ∀ x ∈ A, x.1 ≠ f ∧ (mk f).testBit x.1 = false) : JO mk f (A ++ Q) ↔ JO mk f Q := by
  have h : ∀ g, (f = g ∨ (mk f).testBit g = true) → prj f g (A ++ Q) = prj f g Q := by
    intro g hg
    unfold prj
    rw [List.filter_append]
    have : A.filter (fun x => x.1 == f || x.1 == g) = [] := by
      rw [List.filter_eq_nil_iff]
      intro x hx
      have h1 := hA x hx
      have h2 : x.1 ≠ g := by
        intro e
        rcases hg with h | h
        · exact h1.1 (e.trans h.symm)
        · rw [← e, h1.2] at h
          cases h
      simp [h1.1, h2]
    rw [this]
    rfl
  unfold JO
  rw [h f (Or.inl rfl)]
  constructor
  · rintro ⟨h1, h2⟩
    exact ⟨h1, fun g hg y tl hy => h2 g hg y tl (by rw [h g (Or.inr hg)]; exact hy)⟩
  · rintro ⟨h1, h2⟩
    exact ⟨h1, fun g hg y tl hy => h2 g hg y tl (by rw [← h g (Or.inr hg)]; exact hy)⟩
theorem jn_split {mk rd : Nat → Nat} {f : Nat} {c : Int} : ∀ {Q P : List (Nat × Int)}, jn mk rd f c Q = some P → ∃ A d R, Q = A ++ (f, d) :: R ∧ (∀ x ∈ A, x.1 ≠ f ∧ (mk f).testBit x.1 = false) ∧ P = A ++ (if nrm (rd f) (d + c) = 0 then R else (f, nrm (rd f) (d + c)) :: R)
  | [], P, h => by cases h
  | x :: Q, P, h => by
    rw [jn_cons] at h
    by_cases hx : x.1 = f
    · rw [if_pos hx] at h
      refine ⟨[], x.2, Q, ?_, fun _ h => absurd h List.not_mem_nil, (Option.some.inj h).symm⟩
      rw [← hx]
      rfl
    · rw [if_neg hx] at h
      by_cases hk : (mk f).testBit x.1 = true
      · rw [if_pos hk] at h; cases h
      · rw [if_neg hk] at h
        obtain ⟨z, hz, rfl⟩ := Option.map_eq_some_iff.mp h
        obtain ⟨A, d, R, e1, e2, e3⟩ := jn_split hz
        refine ⟨x :: A, d, R, by rw [e1]; rfl, fun y hy => ?_, by rw [e3]; rfl⟩
        rcases List.mem_cons.mp hy with rfl | hy
        · exact ⟨hx, by simpa using hk⟩
        · exact e2 y hy
theorem Red_tail {mk : Nat → Nat} : ∀ {A Q : List (Nat × Int)}, Red mk (A ++ Q) → Red mk Q
  | [], _, h => h
  | _ :: A, _, h => Red_tail (A := A) h.2
theorem JO_congr {mk : Nat → Nat} {f : Nat} {Q P : List (Nat × Int)} (h : ∀ g, (f = g ∨ (mk f).testBit g = true) → prj f g Q = prj f g P) : JO mk f Q ↔ JO mk f P := by
  unfold JO
  rw [h f (Or.inl rfl)]
  constructor
  · rintro ⟨h1, h2⟩
    exact ⟨h1, fun g hg y tl hy => h2 g hg y tl (by rw [h g (Or.inr hg)]; exact hy)⟩
  · rintro ⟨h1, h2⟩
    exact ⟨h1, fun g hg y tl hy => h2 g hg y tl (by rw [← h g (Or.inr hg)]; exact hy)⟩
theorem jn_red {mk rd : Nat → Nat} (hs : ∀ f g, (mk f).testBit g = (mk g).testBit f) {f : Nat} {c : Int} : ∀ {Q P : List (Nat × Int)}, Red mk Q → jn mk rd f c Q = some P → Red mk P
  | [], P, _, h => by cases h
  | x :: Q, P, hQ, h => by
    rw [jn_cons] at h
    by_cases hx : x.1 = f
    · rw [if_pos hx] at h
      have h2 := Option.some.inj h
      rw [← h2]
      split
      · exact hQ.2
      · refine ⟨?_, hQ.2⟩
        have h3 := hQ.1
        rw [hx] at h3
        exact h3
    · rw [if_neg hx] at h
      by_cases hk : (mk f).testBit x.1 = true
      · rw [if_pos hk] at h; cases h
      · rw [if_neg hk] at h
        obtain ⟨z, hz, rfl⟩ := Option.map_eq_some_iff.mp h
        refine ⟨?_, jn_red hs hQ.2 hz⟩
        obtain ⟨d, -, h2⟩ := jn_some hz
        rw [JO_congr (P := Q)]
        · exact hQ.1
        · intro g hg
          refine h2 x.1 g hx ?_
          rcases hg with rfl | hg
          · exact hx
          · intro e
            rw [e, hs] at hg
            exact hk hg
theorem ps_red {mk rd : Nat → Nat} (hs : ∀ f g, (mk f).testBit g = (mk g).testBit f) {f : Nat} {c : Int} {Q : List (Nat × Int)} (hQ : Red mk Q) : Red mk (ps mk rd f c Q) := by
  unfold ps
  cases h : jn mk rd f c Q with
  | none => exact ⟨JO_none h, hQ⟩
  | some P => exact jn_red hs hQ h
theorem ps_okC {mk rd : Nat → Nat} {f : Nat} {c : Int} (hc : nrm (rd f) c ≠ 0) {Q : List (Nat × Int)} (hQ : okC rd Q) : okC rd (ps mk rd f c Q) := by
  unfold ps
  cases h : jn mk rd f c Q with
  | none =>
    intro x hx
    rcases List.mem_cons.mp hx with rfl | hx
    · exact ⟨nrm_idem _ _, hc⟩
    · exact hQ x hx
  | some P =>
    obtain ⟨A, d, R, rfl, -, rfl⟩ := jn_split h
    intro x hx
    rcases List.mem_append.mp hx with hx | hx
    · exact hQ x (List.mem_append_left _ hx)
    · have hR : ∀ y ∈ R, nrm (rd y.1) y.2 = y.2 ∧ y.2 ≠ 0 := fun y hy => hQ y (List.mem_append_right _ (List.mem_cons_of_mem _ hy))
      by_cases hz : nrm (rd f) (d + c) = 0
      · rw [if_pos hz] at hx
        exact hR x hx
      · rw [if_neg hz] at hx
        rcases List.mem_cons.mp hx with rfl | hx
        · exact ⟨nrm_idem _ _, hz⟩
        · exact hR x hx
/-- what was pushed can be pushed back -/
theorem ps_back {mk rd : Nat → Nat} (hs : ∀ f g, (mk f).testBit g = (mk g).testBit f) {f : Nat} {c : Int} {Q : List (Nat × Int)} (hQ : Red mk Q) (hC : okC rd Q) : EQ mk (ps mk rd f (-c) (ps mk rd f c Q)) Q := by
  cases h : jn mk rd f c Q with
  | none =>
    have e1 : ps mk rd f c Q = (f, nrm (rd f) c) :: Q := by unfold ps; rw [h]; rfl
    rw [e1]
    have e2 : jn mk rd f (-c) ((f, nrm (rd f) c) :: Q) = some Q := by
      rw [jn_cons, if_pos rfl, if_pos]
      show nrm (rd f) (nrm (rd f) c + -c) = 0
      rw [nrm_add, show c + -c = 0 by omega]
      unfold nrm
      split <;> simp
    unfold ps
    rw [e2]
    exact EQ.rfl9
  | some P =>
    have e1 : ps mk rd f c Q = P := by unfold ps; rw [h]; rfl
    rw [e1]
    obtain ⟨d, u1, u2⟩ := jn_some h
    obtain ⟨A, d', R, eQ, hA, eP⟩ := jn_split h
    have hd : d' = d := by
      obtain ⟨tl, w1, -⟩ := u1 f (Or.inl rfl)
      rw [eQ] at w1
      unfold prj at w1
      rw [List.filter_append, List.filter_cons_of_pos (by simp)] at w1
      have : A.filter (fun x => x.1 == f || x.1 == f) = [] := by
        rw [List.filter_eq_nil_iff]
        intro x hx
        simp [(hA x hx).1]
      rw [this] at w1
      simp only [List.nil_append] at w1
      cases w1
      rfl
    subst hd
    have hdn : nrm (rd f) d' = d' ∧ d' ≠ 0 := hC (f, d') (by rw [eQ]; exact List.mem_append_right _ List.mem_cons_self)
    have fin : ∀ S : List (Nat × Int), (∀ g, (f = g ∨ (mk f).testBit g = true) → prj f g S = prj f g Q) → (∀ a b, a ≠ f → b ≠ f → prj a b S = prj a b Q) → EQ mk S Q := by
      intro S k1 k2 a b hab
      by_cases ha : a = f
      · subst ha
        exact k1 b hab
      · by_cases hb : b = f
        · subst hb
          have hab' : b = a ∨ (mk b).testBit a = true := by
            rcases hab with h | h
            · exact Or.inl h.symm
            · right
              rw [hs]
              exact h
          have h3 := k1 a hab'
          have sw : ∀ Q : List (Nat × Int), prj a b Q = prj b a Q := by
            intro Q
            unfold prj
            congr 1
            funext x
            exact Bool.or_comm _ _
          rw [sw, sw, h3]
        · exact k2 a b ha hb
    by_cases hz : nrm (rd f) (d' + c) = 0
    · -- it went out: put on top again
      rw [if_pos hz] at eP
      have hn : ¬ JO mk f P := by
        rw [eP, JO_app hA]
        have h3 : Red mk ((f, d') :: R) := by
          rw [eQ] at hQ
          exact Red_tail hQ
        exact h3.1
      have hj : jn mk rd f (-c) P = none := by
        cases h4 : jn mk rd f (-c) P with
        | none => rfl
        | some S => exact absurd (JO_some h4) hn
      have e2 : ps mk rd f (-c) P = (f, nrm (rd f) (-c)) :: P := by unfold ps; rw [hj]; rfl
      rw [e2]
      have hdc : nrm (rd f) (-c) = d' := by
        have h5 : nrm (rd f) (nrm (rd f) (d' + c) + -c) = nrm (rd f) (d' + c + -c) := nrm_add _ _ _
        rw [hz, show d' + c + -c = d' by omega, hdn.1] at h5
        rw [← h5]
        congr 1
        omega
      refine fin _ (fun g hg => ?_) (fun a b ha hb => ?_)
      · obtain ⟨tl, w1, w2⟩ := u1 g hg
        rw [prj_cons_in (f := f) (x := (f, nrm (rd f) (-c))) (Or.inl rfl), w1, w2, if_pos hz, hdc]
      · rw [prj_cons_out (fun e => ha e.symm) (fun e => hb e.symm), u2 a b ha hb]
    · have hJ : JO mk f P := by
        refine ⟨?_, fun g hg y tl hy => ?_⟩
        · obtain ⟨tl, w1, w2⟩ := u1 f (Or.inl rfl)
          rw [w2, if_neg hz]
          exact List.cons_ne_nil _ _
        · obtain ⟨tl2, w1, w2⟩ := u1 g (Or.inr hg)
          rw [w2, if_neg hz] at hy
          cases hy
          rfl
      cases h4 : jn mk rd f (-c) P with
      | none => exact absurd hJ (JO_none h4)
      | some S =>
        have e2 : ps mk rd f (-c) P = S := by unfold ps; rw [h4]; rfl
        rw [e2]
        obtain ⟨e, v1, v2⟩ := jn_some h4
        have he : e = nrm (rd f) (d' + c) := by
          obtain ⟨tl, w1, w2⟩ := u1 f (Or.inl rfl)
          obtain ⟨tl2, w3, -⟩ := v1 f (Or.inl rfl)
          rw [w2, if_neg hz] at w3
          cases w3
          rfl
        have hb : nrm (rd f) (e + -c) = d' := by
          rw [he, nrm_add, show d' + c + -c = d' by omega, hdn.1]
        refine fin _ (fun g hg => ?_) (fun a b ha hb => ?_)
        · obtain ⟨tl, w1, w2⟩ := u1 g hg
          obtain ⟨tl2, w3, w4⟩ := v1 g hg
          rw [w2, if_neg hz] at w3
          cases w3
          rw [w4, hb, if_neg hdn.2, w1]
        · rw [v2 a b ha hb, u2 a b ha hb]
