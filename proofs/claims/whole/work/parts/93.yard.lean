/-! PURE: the class's shunting yard against the frames -/
def rkN (w : Nat) : Nat := if w = 14 then 1 else if w = 15 then 1 else if w = 42 then 4 else if w = 43 then 3 else if w = 45 then 3 else if w = 60 then 2 else if w = 61 then 2 else 0
def rcd (w : Nat) : Nat := if w = 14 then 26 else if w = 15 then 27 else if w = 42 then 22 else if w = 43 then 20 else if w = 45 then 21 else if w = 60 then 24 else if w = 61 then 25 else 30
def wvN (w : Nat) : Prop := w = 13 ∨ w = 40 ∨ w = 14 ∨ w = 15 ∨ w = 42 ∨ w = 43 ∨ w = 45 ∨ w = 60 ∨ w = 61
def rko (c : Nat) : Nat := if c = 22 then 4 else if c = 20 then 3 else if c = 21 then 3 else if c = 24 then 2 else if c = 25 then 2 else 1
theorem op_tk {c : Nat} (h : isOp c) : rkN (tkN c) = rko c ∧ rcd (tkN c) = c ∧ wvN (tkN c) ∧ 1 ≤ rko c := by
  rcases h with rfl | rfl | rfl | rfl | rfl | rfl | rfl
  · exact ⟨rfl, rfl, by unfold wvN; decide, by decide⟩
  · exact ⟨rfl, rfl, by unfold wvN; decide, by decide⟩
  · exact ⟨rfl, rfl, by unfold wvN; decide, by decide⟩
  · exact ⟨rfl, rfl, by unfold wvN; decide, by decide⟩
  · exact ⟨rfl, rfl, by unfold wvN; decide, by decide⟩
  · exact ⟨rfl, rfl, by unfold wvN; decide, by decide⟩
  · exact ⟨rfl, rfl, by unfold wvN; decide, by decide⟩
def relL (l : Nat) : List Nat → List Nat → List Nat × List Nat
  | [], P => ([], P)
  | w :: W, P => if l ≤ rkN w then relL l W (P ++ [rcd w]) else (w :: W, P)
def clL : List Nat → List Nat → List Nat × List Nat
  | [], P => ([], P)
  | w :: W, P => if w = 13 then clL W (P ++ [30]) else (w :: W, P)
def rWn (a : Nat → Int32) (W : List Nat) : Prop := rW a (W.map ii)
def rcO (co : Nat → Int32) (P : List Nat) : Prop := ∀ j, j < P.length → co j = pcI (P.getD j 0)
theorem last_eq {F w : Nat} {W : List Nat} {wa : Nat → Int32} (h : rWn wa (w :: W)) (hl : W.length < 64) : fX1_last F (ii (w :: W).length) 64 wa = some (ii w) := by
  unfold fX1_last bX1_last_L32
  have e1 : ii (w :: W).length - (1 : Int32) = ii W.length := by
    rw [k_1, ii_sub (by simp)]
    simp
  rw [e1, if_neg (by
    rw [k_0, ii_le (by simp; omega) (by omega)]
    simp), if_neg (by
    rw [show (64 : Int32) = ii 64 from rfl, ii_lt (by omega) (by simp; omega)]
    simp
    omega), if_neg (nidx (by omega) (by omega)), ii_nat (by omega)]
  have := h.1
  rw [List.length_map] at this
  rw [this]
theorem rank_eq {F w : Nat} (h : wvN w) : fX1_rankOf F (ii w) = some (ii (rkN w)) := by
  rcases h with rfl | rfl | rfl | rfl | rfl | rfl | rfl | rfl | rfl <;> rfl
theorem rcO_put {co : Nat → Int32} {P : List Nat} {c : Nat} (h : rcO co P) : rcO (upd co P.length (pcI c)) (P ++ [c]) := by
  intro j hj
  rw [List.length_append, List.length_singleton] at hj
  by_cases h1 : j < P.length
  · rw [upd_ne _ _ (by omega), getD_app1 h1]
    exact h j h1
  · have : j = P.length := by omega
    subst this
    rw [upd_same, getD_app2 (Nat.le_refl _), Nat.sub_self]
    rfl
theorem put_eq {F : Nat} {P : List Nat} (hl : P.length < 1000) (y : Int32) (co : Nat → Int32) : fX1_put F 1000 y (ii P.length) co = some (ii (P.length + 1), upd co P.length y) := by
  unfold fX1_put bX1_put_L30
  rw [if_neg (by
    rw [k_1000, ii_le (by omega) (by omega)]
    omega), if_neg (nidx (by omega) (by omega)), ii_nat (by omega), k_1, ii_add]
theorem pc_rcd {w : Nat} (h : wvN w) (h1 : 1 ≤ rkN w) : -(ii w) = pcI (rcd w) := by
  rcases h with rfl | rfl | rfl | rfl | rfl | rfl | rfl | rfl | rfl
  · exact absurd h1 (by decide)
  · exact absurd h1 (by decide)
  · rfl
  · rfl
  · rfl
  · rfl
  · rfl
  · rfl
  · rfl
theorem release_eq {F l : Nat} (h1 : 1 ≤ l) (h4 : l ≤ 4) {wa : Nat → Int32} : ∀ (W P : List Nat) (t : Nat) (co : Nat → Int32), W.length < t → W.length ≤ 64 → P.length + W.length ≤ 1000 → (∀ w ∈ W, wvN w) → rWn wa W → rcO co P → ∃ co', fX1_release_L0 F 1000 64 wa t (ii l) (ii P.length) (ii W.length) co = some (ii (relL l W P).2.length, ii (relL l W P).1.length, co') ∧ rcO co' (relL l W P).2 := by
  intro W
  induction W with
  | nil =>
    intro P t co ht _ _ _ _ hco
    obtain ⟨t, rfl⟩ : ∃ t', t = t' + 1 := ⟨t - 1, by simp at ht; omega⟩
    rw [sX1_release_L0]
    unfold bX1_release_L0 bX1_release_L40
    exact ⟨co, by rw [if_pos (by decide)]; rfl, hco⟩
  | cons w W ih =>
    intro P t co ht h64 hP hw hr hco
    simp only [List.length_cons] at ht h64 hP
    obtain ⟨t, rfl⟩ : ∃ t', t = t' + 1 := ⟨t - 1, by omega⟩
    rw [sX1_release_L0]
    unfold bX1_release_L0 bX1_release_L40
    have hwv := hw w (by simp)
    have hrk : rkN w ≤ 4 := by
      rcases hwv with rfl | rfl | rfl | rfl | rfl | rfl | rfl | rfl | rfl <;> decide
    rw [if_neg (by
      rw [k_0, ii_le (by simp; omega) (by omega)]
      simp), last_eq hr (by omega)]
    simp only [Option.bind_some]
    rw [rank_eq hwv]
    simp only [Option.bind_some]
    unfold relL
    by_cases h : l ≤ rkN w
    · rw [if_neg (by rw [ii_lt (by omega) (by omega)]; omega), if_pos h, pc_rcd hwv (by omega), put_eq (by omega)]
      simp only [Option.bind_some]
      have e1 : ii (w :: W).length - (1 : Int32) = ii W.length := by
        rw [k_1, ii_sub (by simp)]
        simp
      rw [e1]
      have := ih (P ++ [rcd w]) t _ (by omega) (by omega) (by simp; omega) (fun u hu => hw u (by simp [hu])) hr.2 (rcO_put (c := rcd w) hco)
      rw [List.length_append, List.length_singleton] at this
      exact this
    · rw [if_pos (by rw [ii_lt (by omega) (by omega)]; omega), if_neg h]
      exact ⟨co, rfl, hco⟩
theorem clL_len : ∀ (W P : List Nat), (clL W P).1.length ≤ W.length
  | [], _ => Nat.le_refl _
  | w :: W, P => by
    unfold clL
    by_cases h : w = 13
    · rw [if_pos h]
      have := clL_len W (P ++ [30])
      simp
      omega
    · rw [if_neg h]
      exact Nat.le_refl _
theorem endPart_eq {F : Nat} {wa : Nat → Int32} {pd : Int32} : ∀ (W P : List Nat) (t wi : Nat) (co : Nat → Int32), W.length < t → W.length ≤ 64 → P.length + W.length ≤ 1000 → (∀ w ∈ W, wvN w) → rWn wa W → rcO co P → W.length - (clL W P).1.length ≤ wi → wi < 100 → ∃ co', fX1_endPart_L0 F 1000 64 wa t (ii P.length) (ii W.length) (ii wi) pd co = some (ii (clL W P).2.length, ii (clL W P).1.length, ii (wi - (W.length - (clL W P).1.length)), 0, co') ∧ rcO co' (clL W P).2 := by
  intro W
  induction W with
  | nil =>
    intro P t wi co ht _ _ _ _ hco _ _
    obtain ⟨t, rfl⟩ : ∃ t', t = t' + 1 := ⟨t - 1, by simp at ht; omega⟩
    rw [sX1_endPart_L0]
    unfold bX1_endPart_L0 bX1_endPart_L45
    exact ⟨co, by rw [if_pos (by decide)]; rfl, hco⟩
  | cons w W ih =>
    intro P t wi co ht h64 hP hw hr hco hwi hwi2
    simp only [List.length_cons] at ht h64 hP
    obtain ⟨t, rfl⟩ : ∃ t', t = t' + 1 := ⟨t - 1, by omega⟩
    rw [sX1_endPart_L0]
    unfold bX1_endPart_L0 bX1_endPart_L45
    have hwv := hw w (by simp)
    rw [if_neg (by
      rw [k_0, ii_le (by simp; omega) (by omega)]
      simp), last_eq hr (by omega)]
    simp only [Option.bind_some]
    have hw100 : w < 100 := by
      rcases hwv with rfl | rfl | rfl | rfl | rfl | rfl | rfl | rfl | rfl <;> decide
    have e0 : (ii w = (13 : Int32)) = (w = 13) := by rw [k_13, ii_inj (by omega) (by omega)]
    by_cases h : w = 13
    · subst h
      have e2 : clL (13 :: W) P = clL W (P ++ [30]) := by
        show (if 13 = 13 then _ else _) = _
        rw [if_pos rfl]
      rw [e2] at hwi ⊢
      have hcl := clL_len W (P ++ [30])
      simp only [List.length_cons] at hwi
      rw [if_pos (by decide), show (-13 : Int32) = pcI 30 from rfl, put_eq (by omega)]
      simp only [Option.bind_some]
      have e1 : ii (13 :: W).length - (1 : Int32) = ii W.length := by
        rw [k_1, ii_sub (by simp)]
        simp
      have e3 : ii wi - (1 : Int32) = ii (wi - 1) := by rw [k_1, ii_sub (by omega)]
      rw [e1, e3]
      have := ih (P ++ [30]) t (wi - 1) _ (by omega) (by omega) (by simp; omega) (fun u hu => hw u (by simp [hu])) hr.2 (rcO_put (c := 30) hco) (by omega) (by omega)
      rw [List.length_append, List.length_singleton] at this
      obtain ⟨co', e4, e5⟩ := this
      refine ⟨co', ?_, e5⟩
      rw [e4]
      simp only [List.length_cons]
      rw [show wi - 1 - (W.length - (clL W (P ++ [30])).1.length) = wi - (W.length + 1 - (clL W (P ++ [30])).1.length) from by omega]
    · have e2 : clL (w :: W) P = (w :: W, P) := by
        show (if w = 13 then _ else _) = _
        rw [if_neg h]
      rw [if_neg (by rw [e0]; exact h), e2]
      refine ⟨co, ?_, hco⟩
      simp
/-- what a frame has pending, top first -/
def frO (f : Fm) : List Nat := (f.2.2.2.2.toList.map (fun _ => 42)) ++ (f.2.2.2.1.toList.map (fun p => tkN p.1)) ++ (f.2.2.1.toList.map (fun p => tkN p.1)) ++ (f.2.1.toList.map (fun p => tkN p.1))
def frV (f : Fm) : List VV := f.2.2.2.2.toList ++ (f.2.2.2.1.toList.map Prod.snd) ++ (f.2.2.1.toList.map Prod.snd) ++ (f.2.1.toList.map Prod.snd)
def wtS : List Fm → List Nat
  | [] => []
  | f :: fs => frO f ++ (match fs with
    | [] => []
    | _ :: _ => [if f.1 = true then 13 else 40]) ++ wtS fs
def vsS (fs : List Fm) : List VV := fs.flatMap frV
/-- codes and waiting tokens that the class has, against the state of the codes -/
def swS (st : List Fm × Option VV) (W P : List Nat) : Prop := W = wtS st.1 ∧ (∀ x, P.foldl (mc x) [] = (st.2.toList ++ vsS st.1).map (fun v => v x)) ∧ ∀ x, mlg x [] P
