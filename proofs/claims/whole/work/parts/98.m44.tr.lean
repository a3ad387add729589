/-! PURE: traces: what EQ means, and pushing -/
abbrev cm (mk : Nat → Nat) (f g : Nat) : Prop := f ≠ g ∧ (mk f).testBit g = false
abbrev dpp (mk : Nat → Nat) (f g : Nat) : Prop := f = g ∨ (mk f).testBit g = true
abbrev symK (mk : Nat → Nat) : Prop := ∀ f g, (mk f).testBit g = (mk g).testBit f
theorem cm_sym {mk : Nat → Nat} (hs : symK mk) {f g : Nat} (h : cm mk f g) : cm mk g f := ⟨fun e => h.1 e.symm, by rw [hs]; exact h.2⟩
theorem dpp_sym {mk : Nat → Nat} (hs : symK mk) {f g : Nat} (h : dpp mk f g) : dpp mk g f := by
  rcases h with h | h
  · exact Or.inl h.symm
  · exact Or.inr (by rw [hs]; exact h)
theorem cm_dpp {mk : Nat → Nat} {f g : Nat} (h : cm mk f g) (h2 : dpp mk f g) : False := by
  rcases h2 with h2 | h2
  · exact h.1 h2
  · rw [h.2] at h2; cases h2
theorem not_cm {mk : Nat → Nat} {f g : Nat} (h : ¬ cm mk f g) : dpp mk f g := by
  by_cases e : f = g
  · exact Or.inl e
  · cases h2 : (mk f).testBit g
    · exact absurd ⟨e, h2⟩ h
    · exact Or.inr h2
theorem prj_app (f g : Nat) (A B : List (Nat × Int)) : prj f g (A ++ B) = prj f g A ++ prj f g B := List.filter_append ..
theorem prj_sw (f g : Nat) (Q : List (Nat × Int)) : prj f g Q = prj g f Q := by
  unfold prj
  congr 1
  funext x
  exact Bool.or_comm _ _
theorem prj_rev (f g : Nat) (A : List (Nat × Int)) : prj f g A.reverse = (prj f g A).reverse := List.filter_reverse ..
theorem prj_nil {f g : Nat} {A : List (Nat × Int)} (h : ∀ x ∈ A, x.1 ≠ f ∧ x.1 ≠ g) : prj f g A = [] := by
  unfold prj
  rw [List.filter_eq_nil_iff]
  intro x hx
  have := h x hx
  simp [this.1, this.2]
theorem prj_mem {f g : Nat} {A : List (Nat × Int)} {x : Nat × Int} : x ∈ prj f g A ↔ x ∈ A ∧ (x.1 = f ∨ x.1 = g) := by
  unfold prj
  rw [List.mem_filter]
  simp
theorem EQ_app {mk : Nat → Nat} {A A' B B' : List (Nat × Int)} (h1 : EQ mk A A') (h2 : EQ mk B B') : EQ mk (A ++ B) (A' ++ B') := by
  intro f g hf
  rw [prj_app, prj_app, h1 f g hf, h2 f g hf]
theorem EQ_cons {mk : Nat → Nat} {A A' : List (Nat × Int)} (x : Nat × Int) (h : EQ mk A A') : EQ mk (x :: A) (x :: A') := EQ_app (A := [x]) (A' := [x]) EQ.rfl9 h
theorem EQ_canR {mk : Nat → Nat} {A B C : List (Nat × Int)} (h : EQ mk (A ++ C) (B ++ C)) : EQ mk A B := by
  intro f g hf
  have := h f g hf
  rw [prj_app, prj_app] at this
  exact List.append_cancel_right this
theorem EQ_canL {mk : Nat → Nat} {A B C : List (Nat × Int)} (h : EQ mk (C ++ A) (C ++ B)) : EQ mk A B := by
  intro f g hf
  have := h f g hf
  rw [prj_app, prj_app] at this
  exact List.append_cancel_left this
theorem EQ_rev {mk : Nat → Nat} {A B : List (Nat × Int)} (h : EQ mk A B) : EQ mk A.reverse B.reverse := by
  intro f g hf
  rw [prj_rev, prj_rev, h f g hf]
theorem EQ_mv {mk : Nat → Nat} (hs : symK mk) {x : Nat × Int} {B : List (Nat × Int)} (h : ∀ b ∈ B, cm mk x.1 b.1) : EQ mk (x :: B) (B ++ [x]) := by
  intro f g hf
  rw [prj_app]
  by_cases hx : x.1 = f ∨ x.1 = g
  · have e : prj f g B = [] := by
      apply prj_nil
      intro b hb
      have hc := h b hb
      have key : ∀ a, dpp mk x.1 a → b.1 ≠ a := fun a ha e => cm_dpp hc (by rw [e]; exact ha)
      rcases hx with hx | hx
      · exact ⟨key f (Or.inl hx), key g (by rw [hx]; exact hf)⟩
      · exact ⟨key f (by rw [hx]; exact dpp_sym hs hf), key g (Or.inl hx)⟩
    rw [prj_cons_in hx, prj_cons_in hx, e]
    rfl
  · have h1 : x.1 ≠ f := fun e => hx (Or.inl e)
    have h2 : x.1 ≠ g := fun e => hx (Or.inr e)
    rw [prj_cons_out h1 h2, prj_cons_out h1 h2]
    show _ = prj f g B ++ []
    rw [List.append_nil]
theorem EQ_mid {mk : Nat → Nat} (hs : symK mk) {x : Nat × Int} {A B : List (Nat × Int)} (h : ∀ b ∈ A, cm mk x.1 b.1) : EQ mk (A ++ x :: B) (x :: (A ++ B)) := by
  have h1 := EQ_app (EQ_mv hs h).symm9 (EQ.rfl9 (mk := mk) (Q := B))
  rw [List.append_assoc] at h1
  exact h1
theorem EQ_mid2 {mk : Nat → Nat} (hs : symK mk) {x : Nat × Int} {A B : List (Nat × Int)} (h : ∀ b ∈ B, cm mk x.1 b.1) : EQ mk (A ++ x :: B) ((A ++ B) ++ [x]) := by
  rw [List.append_assoc]
  exact EQ_app EQ.rfl9 (EQ_mv hs h)
/-- what stands on top of one can come to the top of the other -/
theorem first_of {f : Nat} : ∀ {B : List (Nat × Int)}, (∃ y ∈ B, y.1 = f) → ∃ B1 y B2, B = B1 ++ y :: B2 ∧ y.1 = f ∧ ∀ b ∈ B1, b.1 ≠ f
  | [], h => by obtain ⟨y, hy, _⟩ := h; cases hy
  | x :: B, h => by
    by_cases hx : x.1 = f
    · exact ⟨[], x, B, rfl, hx, fun b hb => by cases hb⟩
    · obtain ⟨y, hy, e⟩ := h
      rcases List.mem_cons.mp hy with rfl | hy
      · exact absurd e hx
      · obtain ⟨B1, z, B2, e1, e2, e3⟩ := first_of (B := B) ⟨y, hy, e⟩
        refine ⟨x :: B1, z, B2, by rw [e1]; rfl, e2, ?_⟩
        intro b hb
        rcases List.mem_cons.mp hb with rfl | hb
        · exact hx
        · exact e3 b hb
theorem EQ_top {mk : Nat → Nat} (hs : symK mk) {x : Nat × Int} {A B : List (Nat × Int)} (h : EQ mk (x :: A) B) : ∃ B1 B2, B = B1 ++ x :: B2 ∧ (∀ b ∈ B1, cm mk x.1 b.1) ∧ EQ mk A (B1 ++ B2) := by
  have h1 := h x.1 x.1 (Or.inl rfl)
  rw [prj_cons_in (Or.inl rfl)] at h1
  have hm : x ∈ prj x.1 x.1 B := by rw [← h1]; exact List.mem_cons_self ..
  obtain ⟨B1, y, B2, e1, e2, e3⟩ := first_of (B := B) (f := x.1) ⟨x, (prj_mem.mp hm).1, rfl⟩
  have e4 : y = x := by
    rw [e1, prj_app, prj_nil (fun b hb => ⟨e3 b hb, e3 b hb⟩), prj_cons_in (Or.inl e2)] at h1
    have := (List.cons.inj h1).1
    exact this.symm
  subst e4
  have e5 : ∀ b ∈ B1, cm mk y.1 b.1 := by
    intro b hb
    refine ⟨fun e => e3 b hb e.symm, ?_⟩
    cases hk : (mk y.1).testBit b.1
    · rfl
    · exfalso
      have h2 := h y.1 b.1 (Or.inr hk)
      rw [e1, prj_cons_in (Or.inl rfl), prj_app] at h2
      have hb2 : b ∈ prj y.1 b.1 B1 := prj_mem.mpr ⟨hb, Or.inr rfl⟩
      cases hp : prj y.1 b.1 B1 with
      | nil => rw [hp] at hb2; cases hb2
      | cons z l =>
        rw [hp] at h2
        have hz := (List.cons.inj h2).1
        have hz2 : z ∈ prj y.1 b.1 B1 := by rw [hp]; exact List.mem_cons_self ..
        have := e3 z (prj_mem.mp hz2).1
        rw [← hz] at this
        exact this rfl
  refine ⟨B1, B2, e1, e5, ?_⟩
  have h3 : EQ mk (y :: A) (y :: (B1 ++ B2)) := (e1 ▸ h).trans9 (EQ_mid hs e5)
  exact EQ_canL (C := [y]) h3
theorem EQ_len {mk : Nat → Nat} (hs : symK mk) : ∀ {A B : List (Nat × Int)}, EQ mk A B → A.length = B.length
  | [], B, h => by rw [EQ.nil9 h.symm9]
  | x :: A, B, h => by
    obtain ⟨B1, B2, e1, _, e3⟩ := EQ_top hs h
    have := EQ_len hs e3
    rw [e1, List.length_cons, this, List.length_append, List.length_append, List.length_cons]
    omega
theorem EQ_memi {mk : Nat → Nat} {A B : List (Nat × Int)} (h : EQ mk A B) {x : Nat × Int} (hx : x ∈ A) : x ∈ B := by
  have h1 := h x.1 x.1 (Or.inl rfl)
  have : x ∈ prj x.1 x.1 A := prj_mem.mpr ⟨hx, Or.inl rfl⟩
  rw [h1] at this
  exact (prj_mem.mp this).1
theorem EQ_okC {mk rd : Nat → Nat} {A B : List (Nat × Int)} (h : EQ mk A B) (hC : okC rd A) : okC rd B := fun x hx => hC x (EQ_memi h.symm9 hx)
/-- the same at the bottom -/
theorem EQ_bot {mk : Nat → Nat} (hs : symK mk) {x : Nat × Int} {A B : List (Nat × Int)} (h : EQ mk (A ++ [x]) B) : ∃ B1 B2, B = B1 ++ x :: B2 ∧ (∀ b ∈ B2, cm mk x.1 b.1) ∧ EQ mk A (B1 ++ B2) := by
  have h1 := EQ_rev h
  rw [List.reverse_append] at h1
  obtain ⟨C1, C2, e1, e2, e3⟩ := EQ_top hs (x := x) (A := A.reverse) h1
  refine ⟨C2.reverse, C1.reverse, ?_, fun b hb => e2 b (List.mem_reverse.mp hb), ?_⟩
  · have := congrArg List.reverse e1
    rw [List.reverse_reverse, List.reverse_append, List.reverse_cons, List.append_assoc] at this
    exact this
  · have := EQ_rev e3
    rw [List.reverse_reverse, List.reverse_append] at this
    exact this
/-- two at the bottom -/
theorem EQ_bb {mk : Nat → Nat} (hs : symK mk) {x y : Nat × Int} {Y Z : List (Nat × Int)} (h : EQ mk (Y ++ [x]) (Z ++ [y])) : (x = y ∧ EQ mk Y Z) ∨ (cm mk x.1 y.1 ∧ ∃ V, EQ mk Y (V ++ [y]) ∧ EQ mk Z (V ++ [x])) := by
  obtain ⟨B1, B2, e1, e2, e3⟩ := EQ_bot hs h
  rcases List.eq_nil_or_concat B2 with rfl | ⟨C, z, rfl⟩
  · left
    have e4 : Z ++ [y] = B1 ++ [x] := e1
    obtain ⟨e5, e6⟩ := List.append_inj' e4 rfl
    have e7 : y = x := (List.cons.inj e6).1
    rw [List.append_nil] at e3
    exact ⟨e7.symm, e5 ▸ e3⟩
  · right
    rw [List.concat_eq_append] at e1 e2 e3
    have e4 : Z ++ [y] = (B1 ++ x :: C) ++ [z] := by rw [e1]; simp
    obtain ⟨e5, e6⟩ := List.append_inj' e4 rfl
    have e7 : y = z := (List.cons.inj e6).1
    subst e7
    refine ⟨e2 y (by simp), B1 ++ C, by rw [← List.append_assoc] at e3; exact e3, ?_⟩
    rw [e5]
    exact EQ_mid2 hs (fun b hb => e2 b (by simp [hb]))
theorem ps_J {mk rd : Nat → Nat} {f : Nat} {c : Int} {Q : List (Nat × Int)} (hJ : JO mk f Q) : ∃ d, ∀ h, dpp mk f h → ∃ tl, prj f h Q = (f, d) :: tl ∧ prj f h (ps mk rd f c Q) = if nrm (rd f) (d + c) = 0 then tl else (f, nrm (rd f) (d + c)) :: tl := by
  unfold ps
  cases hj : jn mk rd f c Q with
  | none => exact absurd hJ (JO_none hj)
  | some P =>
    obtain ⟨d, h1, _⟩ := jn_some hj
    exact ⟨d, h1⟩
theorem ps_N {mk rd : Nat → Nat} {f : Nat} {c : Int} {Q : List (Nat × Int)} (hJ : ¬ JO mk f Q) : ps mk rd f c Q = (f, nrm (rd f) c) :: Q := by
  unfold ps
  cases hj : jn mk rd f c Q with
  | none => rfl
  | some P => exact absurd (JO_some hj) hJ
theorem ps_o {mk rd : Nat → Nat} {f : Nat} {c : Int} {Q : List (Nat × Int)} {a b : Nat} (ha : a ≠ f) (hb : b ≠ f) : prj a b (ps mk rd f c Q) = prj a b Q := by
  unfold ps
  cases hj : jn mk rd f c Q with
  | none => exact prj_cons_out (Ne.symm ha) (Ne.symm hb)
  | some P =>
    obtain ⟨d, _, h2⟩ := jn_some hj
    exact h2 a b ha hb
theorem JO_ps {mk rd : Nat → Nat} (hs : symK mk) {f g : Nat} (h : cm mk f g) {d : Int} {Q : List (Nat × Int)} : JO mk f (ps mk rd g d Q) ↔ JO mk f Q := by
  apply JO_congr
  intro a ha
  exact ps_o h.1 (fun e => cm_dpp h (by rw [← e]; exact ha))
theorem ps_one {mk rd : Nat → Nat} {f h : Nat} {c : Int} {Q P : List (Nat × Int)} (hf : dpp mk f h) (hJ : JO mk f Q ↔ JO mk f P) (hp : prj f h Q = prj f h P) : prj f h (ps mk rd f c Q) = prj f h (ps mk rd f c P) := by
  by_cases hq : JO mk f Q
  · obtain ⟨d, h1⟩ := ps_J (rd := rd) (c := c) hq
    obtain ⟨d2, h2⟩ := ps_J (rd := rd) (c := c) (hJ.mp hq)
    obtain ⟨t1, a1, a2⟩ := h1 h hf
    obtain ⟨t2, b1, b2⟩ := h2 h hf
    rw [hp, b1] at a1
    have e := List.cons.inj a1
    have e2 : d2 = d := congrArg Prod.snd e.1
    rw [a2, b2, e2, e.2]
  · rw [ps_N hq, ps_N (fun h9 => hq (hJ.mpr h9)), prj_cons_in (x := (f, nrm (rd f) c)) (Or.inl rfl), prj_cons_in (x := (f, nrm (rd f) c)) (Or.inl rfl), hp]
theorem ps_comm {mk rd : Nat → Nat} (hs : symK mk) {f g : Nat} (h : cm mk f g) (c d : Int) (Q : List (Nat × Int)) : EQ mk (ps mk rd f c (ps mk rd g d Q)) (ps mk rd g d (ps mk rd f c Q)) := by
  have key : ∀ {f g : Nat}, cm mk f g → ∀ (c d : Int) (b : Nat), dpp mk f b → prj f b (ps mk rd f c (ps mk rd g d Q)) = prj f b (ps mk rd g d (ps mk rd f c Q)) := by
    intro f g h c d b hb
    have hbg : b ≠ g := fun e => cm_dpp h (by rw [← e]; exact hb)
    rw [ps_o (f := g) h.1 hbg]
    exact ps_one hb (JO_ps hs h) (ps_o h.1 hbg)
  intro a b hab
  by_cases ha : a = f
  · subst ha
    exact key h c d b hab
  · by_cases ha2 : a = g
    · subst ha2
      exact (key (cm_sym hs h) d c b hab).symm
    · by_cases hb : b = f
      · subst hb
        rw [prj_sw a b, prj_sw a b]
        exact key h c d a (dpp_sym hs hab)
      · by_cases hb2 : b = g
        · subst hb2
          rw [prj_sw a b, prj_sw a b]
          exact (key (cm_sym hs h) d c a (dpp_sym hs hab)).symm
        · rw [ps_o ha hb, ps_o ha2 hb2, ps_o ha2 hb2, ps_o ha hb]
/-- a row of bundles pushed, the first one first -/
def pW (mk rd : Nat → Nat) (Q : List (Nat × Int)) (W : List (Nat × Int)) : List (Nat × Int) := W.foldl (fun Q x => ps mk rd x.1 x.2 Q) Q
theorem pW_cons (mk rd : Nat → Nat) (Q : List (Nat × Int)) (x : Nat × Int) (W : List (Nat × Int)) : pW mk rd Q (x :: W) = pW mk rd (ps mk rd x.1 x.2 Q) W := rfl
theorem pW_app (mk rd : Nat → Nat) (Q V W : List (Nat × Int)) : pW mk rd Q (V ++ W) = pW mk rd (pW mk rd Q V) W := List.foldl_append
theorem pW_EQ {mk rd : Nat → Nat} (hs : symK mk) : ∀ {W Q P : List (Nat × Int)}, EQ mk Q P → EQ mk (pW mk rd Q W) (pW mk rd P W)
  | [], _, _, h => h
  | x :: W, _, _, h => pW_EQ hs (W := W) (ps_EQ hs h)
theorem pW_red {mk rd : Nat → Nat} (hs : symK mk) : ∀ {W Q : List (Nat × Int)}, Red mk Q → Red mk (pW mk rd Q W)
  | [], _, h => h
  | x :: W, _, h => pW_red hs (W := W) (ps_red hs h)
theorem pW_okC {mk rd : Nat → Nat} : ∀ {W Q : List (Nat × Int)}, okC rd W → okC rd Q → okC rd (pW mk rd Q W)
  | [], _, _, h => h
  | x :: W, Q, hw, h => by
    have hx := hw x (List.mem_cons_self ..)
    exact pW_okC (W := W) (fun y hy => hw y (List.mem_cons_of_mem _ hy)) (ps_okC (by rw [hx.1]; exact hx.2) h)
/-- a reduced pile, pushed anew from its bottom, is itself -/
theorem pW_self {mk rd : Nat → Nat} : ∀ {Q : List (Nat × Int)}, Red mk Q → okC rd Q → pW mk rd [] Q.reverse = Q
  | [], _, _ => rfl
  | x :: Q, h, hC => by
    rw [List.reverse_cons, pW_app, pW_self h.2 (fun y hy => hC y (List.mem_cons_of_mem _ hy)), pW_cons, ps_N h.1, (hC x (List.mem_cons_self ..)).1]
    rfl
theorem EQ_red {mk : Nat → Nat} (hs : symK mk) : ∀ {A B : List (Nat × Int)}, Red mk A → EQ mk A B → Red mk B := by
  have main : ∀ (n : Nat) {A B : List (Nat × Int)}, B.length = n → Red mk A → EQ mk A B → Red mk B := by
    intro n
    induction n with
    | zero => intro A B hn _ _; rw [List.eq_nil_of_length_eq_zero hn]; trivial
    | succ n ih =>
      intro A B hn hA h
      cases B with
      | nil => trivial
      | cons y B =>
        obtain ⟨A1, A2, e1, e2, e3⟩ := EQ_top hs h.symm9
        have hA2 : Red mk (A1 ++ A2) := by
          have hR : ∀ (C : List (Nat × Int)), (∀ b ∈ C, cm mk y.1 b.1) → Red mk (C ++ y :: A2) → Red mk (C ++ A2) := by
            intro C
            induction C with
            | nil => intro _ h9; exact h9.2
            | cons z C ihC =>
              intro hc h9
              refine ⟨?_, ihC (fun b hb => hc b (List.mem_cons_of_mem _ hb)) h9.2⟩
              intro hj
              apply h9.1
              have hz := hc z (List.mem_cons_self ..)
              have hC : EQ mk (C ++ y :: A2) (y :: (C ++ A2)) := EQ_mid hs (fun b hb => hc b (List.mem_cons_of_mem _ hb))
              refine JO_EQ hC.symm9 ?_
              exact (JO_app (A := [y]) (Q := C ++ A2) (fun x hx => by rw [List.mem_singleton.mp hx]; exact ⟨hz.1, by rw [hs]; exact hz.2⟩)).mpr hj
          exact hR A1 e2 (e1 ▸ hA)
        refine ⟨?_, ih (by rw [List.length_cons] at hn; omega) hA2 e3.symm9⟩
        intro hj
        have hj2 : JO mk y.1 (A1 ++ A2) := JO_EQ e3 hj
        have hj3 : JO mk y.1 A2 := (JO_app (fun x hx => ⟨fun e => (e2 x hx).1 e.symm, (e2 x hx).2⟩)).mp hj2
        have : Red mk (y :: A2) := Red_tail (A := A1) (e1 ▸ hA)
        exact this.1 hj3
  intro A B hA h
  exact main _ rfl hA h
