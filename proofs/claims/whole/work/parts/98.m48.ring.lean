/-! PURE: turns of rings that can't be made shorter; parties -/
theorem TS_GR {mk rd : Nat → Nat} {u T : List (Nat × Int)} (hu : GR mk rd u) (h : TS mk rd u T) : EQ mk u T ∨ ∃ f, RS mk f u T := by
  rcases h with h | ⟨f, k, Y, e1, e2⟩
  · exact Or.inl h
  · right
    have hJ := hu.2.2 f k Y e1
    have hk := (EQ_okC e1 hu.2.1) (f, k) (List.mem_append_right _ (List.mem_cons_self ..))
    rw [ps_N hJ, hk.1] at e2
    exact ⟨f, k, Y, e1, e2⟩
/-- m turns -/
def RT (mk : Nat → Nat) : Nat → List (Nat × Int) → List (Nat × Int) → Prop
  | 0, x, y => EQ mk x y
  | m + 1, x, y => ∃ f z, RS mk f x z ∧ RT mk m z y
theorem RT_l {mk : Nat → Nat} {m : Nat} {x x' y : List (Nat × Int)} (h : EQ mk x x') (h2 : RT mk m x y) : RT mk m x' y := by
  cases m with
  | zero => exact h.symm9.trans9 h2
  | succ m =>
    obtain ⟨f, z, a, b⟩ := h2
    exact ⟨f, z, RS_l h a, b⟩
theorem RT_r {mk : Nat → Nat} : ∀ {m : Nat} {x y y' : List (Nat × Int)}, EQ mk y y' → RT mk m x y → RT mk m x y'
  | 0, _, _, _, h, h2 => h2.trans9 h
  | m + 1, _, _, _, h, h2 => by
    obtain ⟨f, z, a, b⟩ := h2
    exact ⟨f, z, a, RT_r h b⟩
theorem RT_tr {mk : Nat → Nat} : ∀ {m n : Nat} {x y z : List (Nat × Int)}, RT mk m x y → RT mk n y z → RT mk (m + n) x z
  | 0, n, x, y, z, h1, h2 => by rw [Nat.zero_add]; exact RT_l (EQ.symm9 h1) h2
  | m + 1, n, x, y, z, h1, h2 => by
    obtain ⟨f, w, a, b⟩ := h1
    rw [show m + 1 + n = (m + n) + 1 by omega]
    exact ⟨f, w, a, RT_tr b h2⟩
theorem RT_RC {mk : Nat → Nat} (f0 : Nat) : ∀ {m : Nat} {x y : List (Nat × Int)}, RT mk m x y → ∃ j, RC mk f0 m j x y
  | 0, _, _, h => ⟨0, rfl, h⟩
  | m + 1, _, _, h => by
    obtain ⟨f, z, a, b⟩ := h
    obtain ⟨j, hj⟩ := RT_RC f0 b
    by_cases hf : f = f0
    · exact ⟨j + 1, f, z, a, Or.inl ⟨hf, j, rfl, hj⟩⟩
    · exact ⟨j, f, z, a, Or.inr ⟨hf, hj⟩⟩
theorem RC_RT {mk : Nat → Nat} {f0 : Nat} : ∀ {m j : Nat} {x y : List (Nat × Int)}, RC mk f0 m j x y → RT mk m x y
  | 0, _, _, _, h => h.2
  | m + 1, _, _, _, h => by
    obtain ⟨f, z, a, b⟩ := h
    rcases b with ⟨_, i, _, b⟩ | ⟨_, b⟩
    · exact ⟨f, z, a, RC_RT b⟩
    · exact ⟨f, z, a, RC_RT b⟩
theorem TN_RT {mk rd : Nat → Nat} (hs : symK mk) : ∀ (n : Nat) {u T : List (Nat × Int)}, GR mk rd u → TN mk rd n u T → ∃ m, RT mk m u T
  | 0, _, _, _, h => ⟨0, h⟩
  | n + 1, _, _, hu, h => by
    obtain ⟨z, a, b⟩ := h
    rcases TS_GR hu a with e | ⟨f, hf⟩
    · obtain ⟨m, hm⟩ := TN_RT hs n (GR_EQ hs e hu) b
      exact ⟨m, RT_l e.symm9 hm⟩
    · obtain ⟨m, hm⟩ := TN_RT hs n (GR_RS hs hu hf) b
      exact ⟨m + 1, f, z, hf, hm⟩
theorem RT_GR {mk rd : Nat → Nat} (hs : symK mk) : ∀ (n : Nat) {u T : List (Nat × Int)}, GR mk rd u → RT mk n u T → GR mk rd T
  | 0, _, _, hu, h => GR_EQ hs h hu
  | n + 1, _, _, hu, h => by
    obtain ⟨f, z, a, b⟩ := h
    exact RT_GR hs n (GR_RS hs hu a) b
theorem RT_TN {mk rd : Nat → Nat} (hs : symK mk) : ∀ (n : Nat) {u T : List (Nat × Int)}, GR mk rd u → RT mk n u T → TN mk rd n u T
  | 0, _, _, _, h => h
  | n + 1, _, _, hu, h => by
    obtain ⟨f, z, a, b⟩ := h
    refine ⟨z, ?_, RT_TN hs n (GR_RS hs hu a) b⟩
    obtain ⟨k, Y, e1, e2⟩ := a
    have hJ := hu.2.2 f k Y e1
    have hk := (EQ_okC e1 hu.2.1) (f, k) (List.mem_append_right _ (List.mem_cons_self ..))
    refine Or.inr ⟨f, k, Y, e1, ?_⟩
    rw [ps_N hJ, hk.1]
    exact e2
/-- two rings come to one by turns -/
def JR (mk : Nat → Nat) (a b : List (Nat × Int)) : Prop := ∃ z m n, RT mk m a z ∧ RT mk n b z
theorem JN_JR {mk rd : Nat → Nat} (hs : symK mk) {u v : List (Nat × Int)} (hu : GR mk rd u) (hv : GR mk rd v) : JN mk rd u v ↔ JR mk u v := by
  constructor
  · rintro ⟨c, n, m, h1, h2⟩
    obtain ⟨a, ha⟩ := TN_RT hs n hu h1
    obtain ⟨b, hb⟩ := TN_RT hs m hv h2
    exact ⟨c, a, b, ha, hb⟩
  · rintro ⟨z, m, n, h1, h2⟩
    exact ⟨z, m, n, RT_TN hs m hu h1, RT_TN hs n hv h2⟩
theorem JR_EQ {mk : Nat → Nat} {a b a' b' : List (Nat × Int)} (h1 : EQ mk a a') (h2 : EQ mk b b') (h : JR mk a b) : JR mk a' b' := by
  obtain ⟨z, m, n, x, y⟩ := h
  exact ⟨z, m, n, RT_l h1 x, RT_l h2 y⟩
theorem RS_mem {mk : Nat → Nat} {f : Nat} {x T : List (Nat × Int)} (h : RS mk f x T) {a : Nat × Int} : a ∈ x ↔ a ∈ T := by
  obtain ⟨k, Y, e1, e2⟩ := h
  have h3 : a ∈ Y ++ [(f, k)] ↔ a ∈ (f, k) :: Y := by simp [or_comm]
  exact ⟨fun h => EQ_memi e2.symm9 (h3.mp (EQ_memi e1 h)), fun h => EQ_memi e1.symm9 (h3.mpr (EQ_memi e2 h))⟩
theorem RT_mem {mk : Nat → Nat} : ∀ {n : Nat} {x T : List (Nat × Int)}, RT mk n x T → ∀ a, a ∈ x ↔ a ∈ T
  | 0, _, _, h, _ => ⟨EQ_memi h, EQ_memi (EQ.symm9 h)⟩
  | n + 1, _, _, h, a => by
    obtain ⟨f, z, h1, h2⟩ := h
    exact (RS_mem h1).trans (RT_mem h2 a)
theorem cnt_EQ {mk : Nat → Nat} {x y : List (Nat × Int)} (f : Nat) (h : EQ mk x y) : cnt0 f x = cnt0 f y := by
  have e : ∀ z : List (Nat × Int), cnt0 f z = (prj f f z).length := by
    intro z
    unfold cnt0 prj
    congr 2
    funext a
    exact (Bool.or_self _).symm
  rw [e, e, h f f (Or.inl rfl)]
theorem RT_cnt {mk : Nat → Nat} (g : Nat) : ∀ {n : Nat} {x T : List (Nat × Int)}, RT mk n x T → cnt0 g x = cnt0 g T
  | 0, _, _, h => cnt_EQ g h
  | n + 1, _, _, h => by
    obtain ⟨f, z, ⟨k, Y, e1, e2⟩, h2⟩ := h
    rw [cnt_EQ g e1, ← RT_cnt g h2, cnt_EQ g e2]
    show ((Y ++ [(f, k)]).filter _).length = ((([(f, k)] : List (Nat × Int)) ++ Y).filter _).length
    rw [List.filter_append, List.filter_append, List.length_append, List.length_append]
    omega
theorem RT_len {mk : Nat → Nat} (hs : symK mk) : ∀ {n : Nat} {x T : List (Nat × Int)}, RT mk n x T → x.length = T.length
  | 0, _, _, h => EQ_len hs h
  | n + 1, _, _, h => by
    obtain ⟨f, z, ⟨k, Y, e1, e2⟩, h2⟩ := h
    rw [EQ_len hs e1, ← RT_len hs h2, EQ_len hs e2]
    simp
/-- those of a party -/
def fl (P : Nat → Bool) (u : List (Nat × Int)) : List (Nat × Int) := u.filter (fun x => P x.1)
theorem fl_mem {P : Nat → Bool} {u : List (Nat × Int)} {x : Nat × Int} : x ∈ fl P u ↔ x ∈ u ∧ P x.1 = true := List.mem_filter
theorem fl_app (P : Nat → Bool) (A B : List (Nat × Int)) : fl P (A ++ B) = fl P A ++ fl P B := List.filter_append ..
theorem fl_1 {P : Nat → Bool} {x : Nat × Int} {u : List (Nat × Int)} (h : P x.1 = true) : fl P (x :: u) = x :: fl P u := List.filter_cons_of_pos h
theorem fl_0 {P : Nat → Bool} {x : Nat × Int} {u : List (Nat × Int)} (h : P x.1 = false) : fl P (x :: u) = fl P u := List.filter_cons_of_neg (by rw [h]; exact Bool.false_ne_true)
theorem prj_fl (P : Nat → Bool) (f g : Nat) (u : List (Nat × Int)) : prj f g (fl P u) = fl P (prj f g u) := by
  unfold prj fl
  rw [List.filter_filter, List.filter_filter]
  congr 1
  funext x
  exact Bool.and_comm _ _
theorem fl_EQ {mk : Nat → Nat} (P : Nat → Bool) {u v : List (Nat × Int)} (h : EQ mk u v) : EQ mk (fl P u) (fl P v) := by
  intro f g hf
  rw [prj_fl, prj_fl, h f g hf]
theorem fl_RS {mk : Nat → Nat} (P : Nat → Bool) {f : Nat} {u T : List (Nat × Int)} (h : RS mk f u T) : EQ mk (fl P u) (fl P T) ∨ RS mk f (fl P u) (fl P T) := by
  obtain ⟨k, Y, e1, e2⟩ := h
  have h1 := fl_EQ P e1
  have h2 := fl_EQ P e2
  rw [fl_app] at h1
  cases hP : P f
  · left
    rw [fl_0 (x := (f, k)) hP] at h1 h2
    have e : fl P ([] : List (Nat × Int)) = [] := rfl
    rw [e, List.append_nil] at h1
    exact h1.trans9 h2.symm9
  · right
    rw [fl_1 (x := (f, k)) hP] at h1 h2
    exact ⟨k, fl P Y, h1, h2⟩
theorem fl_RT {mk : Nat → Nat} (P : Nat → Bool) : ∀ {n : Nat} {u T : List (Nat × Int)}, RT mk n u T → ∃ m, RT mk m (fl P u) (fl P T)
  | 0, _, _, h => ⟨0, fl_EQ P h⟩
  | n + 1, _, _, h => by
    obtain ⟨f, z, a, b⟩ := h
    obtain ⟨m, hm⟩ := fl_RT P b
    rcases fl_RS P a with e | e
    · exact ⟨m, RT_l e.symm9 hm⟩
    · exact ⟨m + 1, f, _, e, hm⟩
theorem fl_JR {mk : Nat → Nat} (P : Nat → Bool) {u v : List (Nat × Int)} (h : JR mk u v) : JR mk (fl P u) (fl P v) := by
  obtain ⟨z, m, n, a, b⟩ := h
  obtain ⟨m', ha⟩ := fl_RT P a
  obtain ⟨n', hb⟩ := fl_RT P b
  exact ⟨_, m', n', ha, hb⟩
/-- no one of the party is kin to one outside -/
def clP (mk : Nat → Nat) (P : Nat → Bool) (u : List (Nat × Int)) : Prop := ∀ x ∈ u, ∀ y ∈ u, P x.1 = true → P y.1 = false → cm mk x.1 y.1
theorem fl_sp {mk : Nat → Nat} (hs : symK mk) {P : Nat → Bool} : ∀ {u : List (Nat × Int)}, clP mk P u → EQ mk u (fl P u ++ fl (fun f => !P f) u)
  | [], _ => EQ.rfl9
  | x :: u, h => by
    have hu : clP mk P u := fun a ha b hb => h a (List.mem_cons_of_mem _ ha) b (List.mem_cons_of_mem _ hb)
    have ih := fl_sp hs hu
    cases hP : P x.1
    · rw [fl_0 hP, fl_1 (P := fun f => !P f) (by rw [hP]; rfl)]
      refine (EQ_cons x ih).trans9 (EQ_mid hs ?_).symm9
      intro b hb
      have hb2 := fl_mem.mp hb
      exact cm_sym hs (h b (List.mem_cons_of_mem _ hb2.1) x (List.mem_cons_self ..) hb2.2 hP)
    · rw [fl_1 hP, fl_0 (P := fun f => !P f) (by rw [hP]; rfl)]
      exact EQ_cons x ih
theorem prj_flc {mk : Nat → Nat} {P : Nat → Bool} {f g : Nat} {u : List (Nat × Int)} (h : ∀ y ∈ u, dpp mk f y.1 → P y.1 = true) (hg : dpp mk f g) : prj f g (fl P u) = prj f g u := by
  rw [prj_fl]
  unfold fl
  rw [List.filter_eq_self]
  intro x hx
  have hx2 := prj_mem.mp hx
  refine h x hx2.1 ?_
  rcases hx2.2 with e | e
  · exact Or.inl e.symm
  · rw [e]; exact hg
theorem fl_Red {mk : Nat → Nat} {P : Nat → Bool} : ∀ {u : List (Nat × Int)}, clP mk P u → Red mk u → Red mk (fl P u)
  | [], _, _ => trivial
  | x :: u, h, hR => by
    have hu : clP mk P u := fun a ha b hb => h a (List.mem_cons_of_mem _ ha) b (List.mem_cons_of_mem _ hb)
    have ih := fl_Red hu hR.2
    cases hP : P x.1
    · rw [fl_0 hP]; exact ih
    · rw [fl_1 hP]
      refine ⟨fun hJ => hR.1 ((JO_congr (fun g hg => prj_flc ?_ hg)).mp hJ), ih⟩
      intro y hy hd
      cases hy2 : P y.1
      · exact absurd hd (fun hd => cm_dpp (h x (List.mem_cons_self ..) y (List.mem_cons_of_mem _ hy) hP hy2) hd)
      · rfl
theorem fl_GR {mk rd : Nat → Nat} (hs : symK mk) {P : Nat → Bool} {u : List (Nat × Int)} (h : clP mk P u) (hu : GR mk rd u) : GR mk rd (fl P u) := by
  refine ⟨fl_Red h hu.1, fun x hx => hu.2.1 x (fl_mem.mp hx).1, ?_⟩
  intro f k Y e hJ
  have h1 := (fl_sp hs h).trans9 (EQ_app e (EQ.rfl9 (Q := fl (fun f => !P f) u)))
  have hf : (f, k) ∈ fl P u := EQ_memi e.symm9 (List.mem_append_right _ (List.mem_cons_self ..))
  have h2 : EQ mk ((Y ++ [(f, k)]) ++ fl (fun f => !P f) u) ((Y ++ fl (fun f => !P f) u) ++ [(f, k)]) := by
    rw [List.append_assoc]
    refine EQ_mid2 hs (x := (f, k)) ?_
    intro b hb
    have hb2 := fl_mem.mp hb
    have hf2 := fl_mem.mp hf
    exact h (f, k) hf2.1 b hb2.1 hf2.2 (by simpa using hb2.2)
  exact hu.2.2 f k _ (h1.trans9 h2) (JO_apR hJ)
/-- turned beside others -/
theorem RS_ctR {mk : Nat → Nat} (hs : symK mk) {f : Nat} {x T R : List (Nat × Int)} (hR : ∀ r ∈ R, cm mk f r.1) (h : RS mk f x T) : RS mk f (x ++ R) (T ++ R) := by
  obtain ⟨k, Y, e1, e2⟩ := h
  refine ⟨k, Y ++ R, ?_, EQ_app e2 EQ.rfl9⟩
  refine (EQ_app e1 EQ.rfl9).trans9 ?_
  rw [List.append_assoc]
  exact EQ_mid2 hs (x := (f, k)) hR
theorem RS_ctL {mk : Nat → Nat} (hs : symK mk) {f : Nat} {x T R : List (Nat × Int)} (hR : ∀ r ∈ R, cm mk f r.1) (h : RS mk f x T) : RS mk f (R ++ x) (R ++ T) := by
  obtain ⟨k, Y, e1, e2⟩ := h
  refine ⟨k, R ++ Y, ?_, ?_⟩
  · rw [List.append_assoc]
    exact EQ_app EQ.rfl9 e1
  · exact (EQ_app EQ.rfl9 e2).trans9 (EQ_mid hs (x := (f, k)) hR)
theorem RS_in {mk : Nat → Nat} {f : Nat} {x T : List (Nat × Int)} (h : RS mk f x T) : ∃ a ∈ x, a.1 = f := by
  obtain ⟨k, Y, e1, e2⟩ := h
  exact ⟨(f, k), EQ_memi e1.symm9 (List.mem_append_right _ (List.mem_cons_self ..)), rfl⟩
theorem RT_ctR {mk : Nat → Nat} (hs : symK mk) {R : List (Nat × Int)} : ∀ {n : Nat} {x T : List (Nat × Int)}, (∀ a ∈ x, ∀ r ∈ R, cm mk a.1 r.1) → RT mk n x T → RT mk n (x ++ R) (T ++ R)
  | 0, _, _, _, h => EQ_app h EQ.rfl9
  | n + 1, _, _, hR, h => by
    obtain ⟨f, z, a, b⟩ := h
    obtain ⟨y, hy, e⟩ := RS_in a
    refine ⟨f, z ++ R, RS_ctR hs (fun r hr => by rw [← e]; exact hR y hy r hr) a, RT_ctR hs (fun c hc => hR c ((RS_mem a).mpr hc)) b⟩
theorem RT_ctL {mk : Nat → Nat} (hs : symK mk) {R : List (Nat × Int)} : ∀ {n : Nat} {x T : List (Nat × Int)}, (∀ a ∈ x, ∀ r ∈ R, cm mk a.1 r.1) → RT mk n x T → RT mk n (R ++ x) (R ++ T)
  | 0, _, _, _, h => EQ_app EQ.rfl9 h
  | n + 1, _, _, hR, h => by
    obtain ⟨f, z, a, b⟩ := h
    obtain ⟨y, hy, e⟩ := RS_in a
    refine ⟨f, R ++ z, RS_ctL hs (fun r hr => by rw [← e]; exact hR y hy r hr) a, RT_ctL hs (fun c hc => hR c ((RS_mem a).mpr hc)) b⟩
theorem RT_two {mk : Nat → Nat} (hs : symK mk) {m n : Nat} {a z c w : List (Nat × Int)} (hc : ∀ x ∈ a, ∀ y ∈ c, cm mk x.1 y.1) (h1 : RT mk m a z) (h2 : RT mk n c w) : RT mk (m + n) (a ++ c) (z ++ w) :=
  RT_tr (RT_ctR hs hc h1) (RT_ctL hs (fun x hx y hy => cm_sym hs (hc y ((RT_mem h1 y).mpr hy) x hx)) h2)
theorem JR_app {mk : Nat → Nat} (hs : symK mk) {a b c d : List (Nat × Int)} (h1 : ∀ x ∈ a, ∀ y ∈ c, cm mk x.1 y.1) (h2 : ∀ x ∈ b, ∀ y ∈ d, cm mk x.1 y.1) (hab : JR mk a b) (hcd : JR mk c d) : JR mk (a ++ c) (b ++ d) := by
  obtain ⟨z, m, n, x1, x2⟩ := hab
  obtain ⟨w, m', n', y1, y2⟩ := hcd
  exact ⟨z ++ w, m + m', n + n', RT_two hs h1 x1 y1, RT_two hs h2 x2 y2⟩
