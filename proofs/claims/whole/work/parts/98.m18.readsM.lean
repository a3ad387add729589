/-! PURE: the reference reads the law -/
theorem ite01 {P : Prop} [Decidable P] {α : Type} (x y : α) : (if (if P then (1 : Int32) else 0) = 0 then x else y) = if P then y else x := by
  by_cases h : P
  · rw [if_pos h, if_neg (by decide), if_pos h]
  · rw [if_neg h, if_pos rfl, if_neg h]
def rfO (op cm : Nat → Int32) : List Fm → Prop
  | [] => True
  | f :: fs => (fs ≠ [] → op fs.length = (if f.1 = true then 1 else 2)) ∧ cm fs.length = (if f.2.2.1.isNone = true then 0 else 1) ∧ rfO op cm fs
theorem rfO_congr {op cm op' cm' : Nat → Int32} : ∀ {fs : List Fm}, (∀ j, j < fs.length → op' j = op j ∧ cm' j = cm j) → rfO op cm fs → rfO op' cm' fs
  | [], _, _ => trivial
  | f :: fs, h, h2 => ⟨fun hne => (h fs.length (by simp)).1.trans (h2.1 hne), (h fs.length (by simp)).2.trans h2.2.1, rfO_congr (fun j hj => h j (by simp; omega)) h2.2.2⟩
theorem rfO_cl {op cm : Nat → Int32} : ∀ {fs : List Fm} {v : VV}, rfO op cm fs → rfO op cm (clN fs v).1
  | [], _, h => h
  | f :: fs, v, h => by
    unfold clN
    by_cases hf : f.1 = true
    · rw [if_pos hf]
      exact rfO_cl h.2.2
    · rw [if_neg hf]
      exact h
theorem puts_eq {F a : Nat} (ha : a < 2000) (y : Int32) (cs : Nat → Int32) : fX12_puts F 2000 y (ii a) cs = some (ii (a + 1), upd cs a y) := by
  unfold fX12_puts
  rw [if_neg (nidx ha (by omega)), ii_nat (by omega), k_1, ii_add]
theorem close152 {F : Nat} {tz : Int32} {tp : Nat → Int32} {k11 : Int32 → Int32 → Int32 → Int32 → Int32 → Int64 → Int32 → Int32 → Int32 → (Nat → Int32) → (Nat → Int32) → (Nat → Int32) → Option (Int32 × Int32 × Int32 × Int32 × Int64 × Int32 × Int32 × Int32 × (Nat → Int32) × (Nat → Int32) × (Nat → Int32))} {x2 pl bg tkn : Int32} {wd : Int64} {td wr cd : Int32} {cs op cm : Nat → Int32} :
    ∀ (fs : List Fm) (t : Nat) (v : VV), okFs fs → fs.length ≤ 6 → fs.length ≤ t → rfO op cm fs → fX12_reads_L152 F tz 1000 tp 2000 7 7 k11 t (ii (fs.length - 1)) x2 pl bg tkn wd td wr cd cs op cm = bX12_reads_L172 F tz 1000 tp 2000 7 7 k11 (ii ((clN fs v).1.length - 1)) x2 pl bg tkn wd td wr cd cs op cm := by
  intro fs
  induction fs with
  | nil => intro t v h; exact absurd h id
  | cons f fs ih =>
    intro t v hok h6 ht hr
    obtain ⟨t, rfl⟩ : ∃ t', t = t' + 1 := ⟨t - 1, by simp at ht; omega⟩
    simp only [List.length_cons] at h6 ht
    rw [sX12_reads_L152]
    unfold bX12_reads_L152
    rw [List.length_cons, Nat.add_sub_cancel]
    have e0 : (ii fs.length ≤ (0 : Int32)) = (fs.length = 0) := by
      rw [k_0, ii_le (by omega) (by omega)]
      apply propext
      omega
    unfold clN
    cases fs with
    | nil =>
      rw [if_pos (show ii ([] : List Fm).length ≤ (0 : Int32) by decide), if_neg (by rw [hok.2]; decide)]
      rfl
    | cons g gs =>
      rw [if_neg (show ¬ ii (g :: gs).length ≤ (0 : Int32) by rw [e0]; simp), if_neg (nidx (by omega) (by omega)), ii_nat (by omega), hr.1 (by simp)]
      by_cases hf : f.1 = true
      · have em : ii (g :: gs).length + (-1 : Int32) = ii ((g :: gs).length - 1) := ii_m1 (by simp)
        rw [if_pos hf, if_pos rfl, if_pos hf, em]
        exact ih t (ntV v) hok.2 (by omega) (by omega) hr.2.2
      · rw [if_neg hf, if_neg (by decide), if_neg hf]
        rfl
theorem close379 {F : Nat} {tz : Int32} {tp : Nat → Int32} {k11 : Int32 → Int32 → Int32 → Int32 → Int32 → Int64 → Int32 → Int32 → Int32 → (Nat → Int32) → (Nat → Int32) → (Nat → Int32) → Option (Int32 × Int32 × Int32 × Int32 × Int64 × Int32 × Int32 × Int32 × (Nat → Int32) × (Nat → Int32) × (Nat → Int32))} {x2 pl bg tkn : Int32} {wd : Int64} {td wr cd : Int32} {cs op cm : Nat → Int32} :
    ∀ (fs : List Fm) (t : Nat) (v : VV), okFs fs → fs.length ≤ 6 → fs.length ≤ t → rfO op cm fs → fX12_reads_L379 F tz 1000 tp 2000 7 7 k11 t (ii (fs.length - 1)) x2 pl bg tkn wd td wr cd cs op cm = bX12_reads_L424 F tz 1000 tp 2000 7 7 k11 (ii ((clN fs v).1.length - 1)) x2 pl bg tkn wd td wr cd cs op cm := by
  intro fs
  induction fs with
  | nil => intro t v h; exact absurd h id
  | cons f fs ih =>
    intro t v hok h6 ht hr
    obtain ⟨t, rfl⟩ : ∃ t', t = t' + 1 := ⟨t - 1, by simp at ht; omega⟩
    simp only [List.length_cons] at h6 ht
    rw [sX12_reads_L379]
    unfold bX12_reads_L379
    rw [List.length_cons, Nat.add_sub_cancel]
    have e0 : (ii fs.length ≤ (0 : Int32)) = (fs.length = 0) := by
      rw [k_0, ii_le (by omega) (by omega)]
      apply propext
      omega
    unfold clN
    cases fs with
    | nil =>
      rw [if_pos (show ii ([] : List Fm).length ≤ (0 : Int32) by decide), if_neg (by rw [hok.2]; decide)]
      rfl
    | cons g gs =>
      rw [if_neg (show ¬ ii (g :: gs).length ≤ (0 : Int32) by rw [e0]; simp), if_neg (nidx (by omega) (by omega)), ii_nat (by omega), hr.1 (by simp)]
      by_cases hf : f.1 = true
      · have em : ii (g :: gs).length + (-1 : Int32) = ii ((g :: gs).length - 1) := ii_m1 (by simp)
        rw [if_pos hf, if_pos rfl, if_pos hf, em]
        exact ih t (ntV v) hok.2 (by omega) (by omega) hr.2.2
      · rw [if_neg hf, if_neg (by decide), if_neg hf]
        rfl
/-- the reference has read these codes -/
def rdM (C : List Nat) (cd : Int32) (cs op cm : Nat → Int32) : Prop := cd = ii (1000 + C.length) ∧ (∀ j, j < C.length → cs (1000 + j) = ii (C.getD j 0)) ∧ rfO op cm (stC C).1
theorem rdM_put {C : List Nat} {c : Nat} {cs : Nat → Int32} (h : ∀ j, j < C.length → cs (1000 + j) = ii (C.getD j 0)) : ∀ j, j < (C ++ [c]).length → upd cs (1000 + C.length) (ii c) (1000 + j) = ii ((C ++ [c]).getD j 0) := by
  intro j hj
  rw [List.length_append, List.length_singleton] at hj
  by_cases h1 : j < C.length
  · rw [upd_ne _ _ (by omega), getD_app1 h1]
    exact h j h1
  · have : j = C.length := by omega
    subst this
    rw [upd_same, getD_app2 (Nat.le_refl _), Nat.sub_self]
    rfl
theorem readsW_M {F : Nat} (hF : 2000 ≤ F) {C : List Nat} (hC : C.length < 1000) (hok : okSt (stC C)) (hcur : (stC C).2 = none) {T : List Nat} (hT : okT T) {tp : Nat → Int32} (ht : rL tp T) {R : List Tk} {pl bg tkn : Int32} {wd : Int64} {td : Int32} (h : nsM T R pl bg tkn wd td) (wr : Int32) {cd : Int32} {cs op cm : Nat → Int32} (hr : rdM C cd cs op cm) {k11 : Int32 → Int32 → Int32 → Int32 → Int32 → Int64 → Int32 → Int32 → Int32 → (Nat → Int32) → (Nat → Int32) → (Nat → Int32) → Option (Int32 × Int32 × Int32 × Int32 × Int64 × Int32 × Int32 × Int32 × (Nat → Int32) × (Nat → Int32) × (Nat → Int32))} :
    (∀ e, tkS (stC C) R = .inl e → bX12_reads_L11 F (ii T.length) 1000 tp 2000 7 7 k11 (ii ((stC C).1.length - 1)) 1 pl bg tkn wd td wr cd cs op cm = some (0, pl, bg, tkn, wd, td, ii e, cd, cs, op, cm)) ∧ (∀ c, tkS (stC C) R = .inr (some c) → ∃ pl' bg' tkn' wd' td' cd' op' cm', bX12_reads_L11 F (ii T.length) 1000 tp 2000 7 7 k11 (ii ((stC C).1.length - 1)) 1 pl bg tkn wd td wr cd cs op cm = k11 (ii ((stC (C ++ [c])).1.length - 1)) (if (stC (C ++ [c])).2.isNone = true then 1 else 0) pl' bg' tkn' wd' td' wr cd' (upd cs (1000 + C.length) (ii c)) op' cm' ∧ nsM T (stp R) pl' bg' tkn' wd' td' ∧ rdM (C ++ [c]) cd' (upd cs (1000 + C.length) (ii c)) op' cm') := by
  obtain ⟨p1, b1, t1, w1, d1, e1, h1⟩ := nextToken_M hF hT ht h
  obtain ⟨g1, g2, g3, g4, g5, g6⟩ := nsM_ne h
  obtain ⟨m1, m2, m3, m4⟩ := tMk_eq g6
  obtain ⟨rfl, r2, r3⟩ := hr
  obtain ⟨o1, o2, o3⟩ := hok
  cases hfs : (stC C).1 with
  | nil =>
    rw [hfs] at o1
    exact absurd o1 id
  | cons f fs =>
    have hst0 : stC C = (f :: fs, none) := by rw [← hfs, ← hcur]
    have hlf : fs.length ≤ 5 := by rw [hfs] at o2; simp at o2; omega
    have hT9 : tkS (stC C) R = (if (16 ≤ kR R ∧ kR R ≤ 19) ∨ kR R = 13 ∨ kR R = 40 ∨ kR R = 21 then (if 5 ≤ fs.length then .inl (5 + 16 * sR R) else .inr (some (if kR R = 13 then 30 else if kR R = 40 then 28 else if kR R = 21 then 100 + dv (wR R) else kR R - 15))) else .inl (1 + 16 * sR R)) := by rw [hst0]; rfl
    rw [hT9, List.length_cons, Nat.add_sub_cancel]
    unfold bX12_reads_L11 bX12_reads_L65 bX12_reads_L86 bX12_reads_L99 bX12_reads_L120 bX12_reads_L147
    rw [factM h, isWordM (k := 13) (c := (10631 : Int64)) (by omega) rfl h, show fX12_isSign F bg tkn 1000 tp (40 : Int32) = _ from isSignM (c := 40) (by omega) (by omega) hT ht h, show fX12_fails F bg (1 : Int32) wr = _ from failsM (k := 1) h wr, show fX12_fails F bg (5 : Int32) wr = _ from failsM (k := 5) h wr, if_neg (show ¬ (1 : Int32) = 0 by decide)]
    simp only [Option.bind_some, ite01]
    have e5 : (ii fs.length = (5 : Int32)) = (fs.length = 5) := ii_inj (b := 5) (by omega) (by omega)
    have ok0 : ∀ {α : Type} (x y : α), (if (0 : Int32) = 0 ∨ (0 : Int32) = 1 then x else y) = x := fun x y => if_pos (Or.inl rfl)
    have e0F : ((if 16 ≤ kR R ∧ kR R ≤ 19 then kR R - 15 else 0) = 0) = ¬ (16 ≤ kR R ∧ kR R ≤ 19) := by
      apply propext
      by_cases hA : 16 ≤ kR R ∧ kR R ≤ 19
      · rw [if_pos hA]
        omega
      · rw [if_neg hA]
        simp [hA]
    have hsm : (if 16 ≤ kR R ∧ kR R ≤ 19 then kR R - 15 else 0) < 1000 := by
      split <;> omega
    have e0 : (ii (if 16 ≤ kR R ∧ kR R ≤ 19 then kR R - 15 else 0) = 0) = ¬ (16 ≤ kR R ∧ kR R ≤ 19) := by
      rw [← e0F]
      exact ii_inj (b := 0) (by omega) (by omega)
    have e0le : (ii (if 16 ≤ kR R ∧ kR R ≤ 19 then kR R - 15 else 0) ≤ (0 : Int32)) = ¬ (16 ≤ kR R ∧ kR R ≤ 19) := by
      rw [← e0F, k_0, ii_le (by omega) (by omega)]
      apply propext
      omega
    have e2 : (tkn = (2 : Int32)) = (kR R = 21) := by rw [g3, m2]
    have hsel : ∀ {α : Type} (x y : α), (if ii (if 16 ≤ kR R ∧ kR R ≤ 19 then kR R - 15 else 0) = 0 then (if kR R = 13 then x else if kR R = 40 then x else if tkn = (2 : Int32) then x else y) else x) = if (16 ≤ kR R ∧ kR R ≤ 19) ∨ kR R = 13 ∨ kR R = 40 ∨ kR R = 21 then x else y := by
      intro α x y
      by_cases hA : 16 ≤ kR R ∧ kR R ≤ 19
      · rw [if_neg (by rw [e0]; simp [hA]), if_pos (Or.inl hA)]
      · rw [if_pos (by rw [e0]; exact hA)]
        by_cases d1 : kR R = 13
        · rw [if_pos d1, if_pos (by omega)]
        · rw [if_neg d1]
          by_cases d2 : kR R = 40
          · rw [if_pos d2, if_pos (by omega)]
          · rw [if_neg d2]
            by_cases d3 : kR R = 21
            · rw [if_pos (by rw [e2]; exact d3), if_pos (by omega)]
            · rw [if_neg (by rw [e2]; exact d3), if_neg (by omega)]
    rw [hsel]
    by_cases c1 : (16 ≤ kR R ∧ kR R ≤ 19) ∨ kR R = 13 ∨ kR R = 40 ∨ kR R = 21
    · rw [if_pos c1, if_pos c1]
      by_cases c5 : 5 ≤ fs.length
      · rw [if_pos (show ii fs.length = (5 : Int32) by rw [e5]; omega), if_pos c5]
        refine ⟨fun e he => ?_, fun c hc => (by cases hc)⟩
        cases he
        exact if_pos (Or.inl trivial)
      · rw [if_neg (show ¬ ii fs.length = (5 : Int32) by rw [e5]; omega), if_neg c5]
        refine ⟨fun e he => (by cases he), fun c hc => ?_⟩
        have h2 : (if kR R = 13 then 30 else if kR R = 40 then 28 else if kR R = 21 then 100 + dv (wR R) else kR R - 15) = c := Option.some.inj (Sum.inr.inj hc)
        have e1k : ii fs.length + (1 : Int32) = ii (fs.length + 1) := by rw [k_1, ii_add]
        have n0 : vp_nar .boolean (0 : Int32) = 0 := by decide
        have hopen : ∀ (b : Bool) (z : Int32), z = (if b = true then 1 else 2) → rfO (upd op (fs.length + 1) z) (upd cm (fs.length + 1) 0) ((b, none, none, none, none) :: f :: fs) := by
          intro b z hz
          rw [hfs] at r3
          refine ⟨fun _ => ?_, ?_, ?_⟩
          · rw [show (f :: fs).length = fs.length + 1 from rfl, upd_same, hz]
          · rw [show (f :: fs).length = fs.length + 1 from rfl, upd_same]
            rfl
          · refine rfO_congr (fun j hj => ⟨upd_ne _ _ ?_, upd_ne _ _ ?_⟩) r3
            · simp only [List.length_cons] at hj
              omega
            · simp only [List.length_cons] at hj
              omega
        by_cases d1 : kR R = 13
        · rw [if_pos d1] at h2
          subst h2
          have hsy : stC (C ++ [30]) = ((true, none, none, none, none) :: f :: fs, none) := by rw [stC_snoc, hst0]; rfl
          simp only [if_pos d1]
          rw [show fX12_puts F 2000 (30 : Int32) (ii (1000 + C.length)) cs = _ from puts_eq (by omega) (ii 30) cs, Option.bind_some, e1k, if_neg (nidx (by omega) (by omega)), if_neg (nidx (by omega) (by omega)), ii_nat (by omega), n0]
          unfold bX12_reads_L172
          rw [e1, Option.bind_some, hsy]
          refine ⟨_, _, _, _, _, _, _, _, rfl, h1, ?_, rdM_put r2, ?_⟩
          · rw [List.length_append, List.length_singleton]
            rfl
          · rw [hsy]
            exact hopen true 1 rfl
        · rw [if_neg d1] at h2
          simp only [if_neg d1]
          by_cases d2 : kR R = 40
          · rw [if_pos d2] at h2
            subst h2
            have hsy : stC (C ++ [28]) = ((false, none, none, none, none) :: f :: fs, none) := by rw [stC_snoc, hst0]; rfl
            rw [if_pos d2, show fX12_puts F 2000 (28 : Int32) (ii (1000 + C.length)) cs = _ from puts_eq (by omega) (ii 28) cs, Option.bind_some, e1k, if_neg (nidx (by omega) (by omega)), if_neg (nidx (by omega) (by omega)), ii_nat (by omega), n0]
            unfold bX12_reads_L172
            rw [e1, Option.bind_some, hsy]
            refine ⟨_, _, _, _, _, _, _, _, rfl, h1, ?_, rdM_put r2, ?_⟩
            · rw [List.length_append, List.length_singleton]
              rfl
            · rw [hsy]
              exact hopen false 2 rfl
          · rw [if_neg d2] at h2
            rw [if_neg d2]
            have hval : ∀ y, y = ii c → isVl c → ∃ pl' bg' tkn' wd' td' cd' op' cm', ((fX12_puts F 2000 y (ii (1000 + C.length)) cs).bind fun R147 => fX12_reads_L152 F (ii T.length) 1000 tp 2000 7 7 k11 F (ii fs.length) 0 pl bg tkn wd td wr R147.1 R147.2 op cm) = k11 (ii ((stC (C ++ [c])).1.length - 1)) (if (stC (C ++ [c])).2.isNone = true then 1 else 0) pl' bg' tkn' wd' td' wr cd' (upd cs (1000 + C.length) (ii c)) op' cm' ∧ nsM T (stp R) pl' bg' tkn' wd' td' ∧ rdM (C ++ [c]) cd' (upd cs (1000 + C.length) (ii c)) op' cm' := by
              intro y hy hv
              rw [hfs] at o1 o2 r3
              have hsy : stC (C ++ [c]) = ((clN (f :: fs) (vcV c)).1, some (clN (f :: fs) (vcV c)).2) := by
                rw [stC_snoc, hst0]
                unfold isVl at hv
                show (if c = 28 then _ else if c = 30 then _ else _) = _
                rw [if_neg (by omega), if_neg (by omega)]
              rw [hy, puts_eq (by omega), Option.bind_some]
              dsimp only
              have hc152 := close152 (F := F) (tz := ii T.length) (tp := tp) (k11 := k11) (x2 := 0) (pl := pl) (bg := bg) (tkn := tkn) (wd := wd) (td := td) (wr := wr) (cd := ii (1000 + C.length + 1)) (cs := upd cs (1000 + C.length) (ii c)) (op := op) (cm := cm) (f :: fs) F (vcV c) o1 o2 (by simp; omega) r3
              rw [List.length_cons, Nat.add_sub_cancel] at hc152
              rw [hc152]
              unfold bX12_reads_L172
              rw [e1, Option.bind_some, hsy]
              refine ⟨_, _, _, _, _, _, _, _, rfl, h1, ?_, rdM_put r2, ?_⟩
              · rw [List.length_append, List.length_singleton]
                rfl
              · rw [hsy]
                exact rfO_cl r3
            by_cases d3 : kR R = 21
            · rw [if_pos d3] at h2
              obtain ⟨q1, q2⟩ := g1.2.2.1 d3
              have hd9 := dv_small q1 q2
              simp only at hd9
              rw [if_pos (show ii (if 16 ≤ kR R ∧ kR R ≤ 19 then kR R - 15 else 0) ≤ (0 : Int32) by rw [e0le]; omega)]
              exact hval _ (by rw [g5 d3, k_100, ii_add, h2]) (Or.inr ⟨by omega, by omega⟩)
            · rw [if_neg d3] at h2
              rw [if_neg (show ¬ ii (if 16 ≤ kR R ∧ kR R ≤ 19 then kR R - 15 else 0) ≤ (0 : Int32) by rw [e0le]; omega)]
              exact hval _ (by rw [if_pos (show 16 ≤ kR R ∧ kR R ≤ 19 by omega), h2]) (Or.inl ⟨by omega, by omega⟩)
    · rw [if_neg c1, if_neg c1]
      refine ⟨fun e he => ?_, fun c hc => (by cases hc)⟩
      cases he
      exact if_pos (Or.inl trivial)
