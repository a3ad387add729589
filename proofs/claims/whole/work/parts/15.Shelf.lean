theorem dX8_clear_0 : decode cX8_clear 0 = .ok (.aload_n 0, 1) := by decide +kernel
theorem dX8_clear_1 : decode cX8_clear 1 = .ok (.getfield 14, 3) := by decide +kernel
theorem dX8_clear_4 : decode cX8_clear 4 = .ok (.invokevirtual 33, 3) := by decide +kernel
theorem dX8_clear_7 : decode cX8_clear 7 = .ok (.aload_n 0, 1) := by decide +kernel
theorem dX8_clear_8 : decode cX8_clear 8 = .ok (.getfield 20, 3) := by decide +kernel
theorem dX8_clear_11 : decode cX8_clear 11 = .ok (.invokevirtual 33, 3) := by decide +kernel
theorem dX8_clear_14 : decode cX8_clear 14 = .ok (.aload_n 0, 1) := by decide +kernel
theorem dX8_clear_15 : decode cX8_clear 15 = .ok (.getfield 23, 3) := by decide +kernel
theorem dX8_clear_18 : decode cX8_clear 18 = .ok (.invokevirtual 33, 3) := by decide +kernel
theorem dX8_clear_21 : decode cX8_clear 21 = .ok (.aload_n 0, 1) := by decide +kernel
theorem dX8_clear_22 : decode cX8_clear 22 = .ok (.iconst 0, 1) := by decide +kernel
theorem dX8_clear_23 : decode cX8_clear 23 = .ok (.putfield 36, 3) := by decide +kernel
theorem dX8_clear_26 : decode cX8_clear 26 = .ok (.return_, 1) := by decide +kernel
def wX8_clear (cy : Nat → ClassId) (tA : Nat) (t_earlierV : Value) (t_laterV : Value) (t_aheads : Int32) (t_laid : Int32) (t_lineA : Nat) (t_line_tiesV : Value) (t_line_size : Int32) (t_yearA : Nat) (t_year_tiesV : Value) (t_year_size : Int32) (t_otherA : Nat) (t_other_tiesV : Value) (t_other_size : Int32) : va_W :=
  [(tA, .inr (8, [.ref t_lineA, .ref t_yearA, .ref t_otherA, t_earlierV, t_laterV, .int t_aheads, .int t_laid])), (t_lineA, .inr (7, [t_line_tiesV, .int t_line_size])), (t_yearA, .inr (7, [t_year_tiesV, .int t_year_size])), (t_otherA, .inr (7, [t_other_tiesV, .int t_other_size]))]
noncomputable def fX8_clear (F : Nat) (t_aheads : Int32) (t_line_size : Int32) (t_year_size : Int32) (t_other_size : Int32) : Option ((Int32) × (Int32) × (Int32) × (Int32)) :=
  (fX7_clear F t_line_size).bind fun R4 => ((fX7_clear F t_year_size).bind fun R11 => ((fX7_clear F t_other_size).bind fun R18 => (some ((0 : Int32), R4, R11, R18))))
theorem CX8_clear {l : Launch} {D : va_G} {cy : Nat → ClassId} (F : Nat) (tA : Nat) (t_earlierV : Value) (t_laterV : Value) (t_aheads : Int32) (t_laid : Int32) (t_lineA : Nat) (t_line_tiesV : Value) (t_line_size : Int32) (t_yearA : Nat) (t_year_tiesV : Value) (t_year_size : Int32) (t_otherA : Nat) (t_other_tiesV : Value) (t_other_size : Int32) (R : (Int32) × (Int32) × (Int32) × (Int32)) (h : fX8_clear F t_aheads t_line_size t_year_size t_other_size = some R) : vMet l D cy MX8_clear 1 0 0 [.ref tA] (wX8_clear cy tA t_earlierV t_laterV t_aheads t_laid t_lineA t_line_tiesV t_line_size t_yearA t_year_tiesV t_year_size t_otherA t_other_tiesV t_other_size) (fun (r : Option Value) (w : va_W) => r = none ∧ w = (wX8_clear cy tA t_earlierV t_laterV R.1 t_laid t_lineA t_line_tiesV R.2.1 t_yearA t_year_tiesV R.2.2.1 t_otherA t_other_tiesV R.2.2.2)) := by
  refine vMet.start (by decide +kernel) (Nat.le_of_ble_eq_true rfl) ?_
  generalize hQe : (fun (r : Option Value) (w : va_W) => r = none ∧ w = (wX8_clear cy tA t_earlierV t_laterV R.1 t_laid t_lineA t_line_tiesV R.2.1 t_yearA t_year_tiesV R.2.2.1 t_otherA t_other_tiesV R.2.2.2)) = Q
  have hQ : Q none (wX8_clear cy tA t_earlierV t_laterV R.1 t_laid t_lineA t_line_tiesV R.2.1 t_yearA t_year_tiesV R.2.2.1 t_otherA t_other_tiesV R.2.2.2) := by rw [← hQe]; exact ⟨rfl, rfl⟩
  show V l D cy MX8_clear 1 0 0 _ _ Q 0 [(0, .ref tA)] [] _ 0 0
  show V l D cy MX8_clear 1 0 0 [.ref tA] _ Q 0 [(0, .ref tA)] [] (wX8_clear cy tA t_earlierV t_laterV t_aheads t_laid t_lineA t_line_tiesV t_line_size t_yearA t_year_tiesV t_year_size t_otherA t_other_tiesV t_other_size) 0 0
  unfold fX8_clear at h
  refine V.aload_n dX8_clear_0 rfl 0 rfl ?_
  refine V.get kfX8 0 rfl rfl 0 (by decide) klX8_14 rfl dX8_clear_1 ?_
  obtain ⟨R4, hg4, h⟩ := Option.bind_eq_some_iff.mp h
  refine V.callV (As := []) (rest := []) (wc := (wX7_clear cy t_lineA t_line_tiesV t_line_size)) (wr := [(tA, .inr (8, [.ref t_lineA, .ref t_yearA, .ref t_otherA, t_earlierV, t_laterV, .int t_aheads, .int t_laid])), (t_yearA, .inr (7, [t_year_tiesV, .int t_year_size])), (t_otherA, .inr (7, [t_other_tiesV, .int t_other_size]))]) (q0 := 1) (CX7_clear F t_lineA t_line_tiesV t_line_size R4 hg4) kvX7_clear klX8_33 [1] [0, 2, 3] rfl rfl (by decide) (by decide) (by decide) rfl rfl rfl rfl dX8_clear_4 ⟨by decide, by decide, by decide, by decide⟩ (Nat.le_of_ble_eq_true rfl) (fun r w1 hq => ?_)
  obtain ⟨rfl, rfl⟩ := hq
  refine V.cells (ws' := (wX8_clear cy tA t_earlierV t_laterV t_aheads t_laid t_lineA t_line_tiesV R4 t_yearA t_year_tiesV t_year_size t_otherA t_other_tiesV t_other_size)) [0, 3, 1, 2] (by decide) rfl ?_
  show V l D cy MX8_clear 1 0 0 _ _ _ 7 [(0, .ref tA)] [] (wX8_clear cy tA t_earlierV t_laterV t_aheads t_laid t_lineA t_line_tiesV R4 t_yearA t_year_tiesV t_year_size t_otherA t_other_tiesV t_other_size) 0 0
  refine V.aload_n dX8_clear_7 rfl 0 rfl ?_
  refine V.get kfX8 0 rfl rfl 1 (by decide) klX8_20 rfl dX8_clear_8 ?_
  obtain ⟨R11, hg11, h⟩ := Option.bind_eq_some_iff.mp h
  refine V.callV (As := []) (rest := []) (wc := (wX7_clear cy t_yearA t_year_tiesV t_year_size)) (wr := [(tA, .inr (8, [.ref t_lineA, .ref t_yearA, .ref t_otherA, t_earlierV, t_laterV, .int t_aheads, .int t_laid])), (t_lineA, .inr (7, [t_line_tiesV, .int R4])), (t_otherA, .inr (7, [t_other_tiesV, .int t_other_size]))]) (q0 := 2) (CX7_clear F t_yearA t_year_tiesV t_year_size R11 hg11) kvX7_clear klX8_33 [2] [0, 1, 3] rfl rfl (by decide) (by decide) (by decide) rfl rfl rfl rfl dX8_clear_11 ⟨by decide, by decide, by decide, by decide⟩ (Nat.le_of_ble_eq_true rfl) (fun r w1 hq => ?_)
  obtain ⟨rfl, rfl⟩ := hq
  refine V.cells (ws' := (wX8_clear cy tA t_earlierV t_laterV t_aheads t_laid t_lineA t_line_tiesV R4 t_yearA t_year_tiesV R11 t_otherA t_other_tiesV t_other_size)) [0, 1, 3, 2] (by decide) rfl ?_
  show V l D cy MX8_clear 1 0 0 _ _ _ 14 [(0, .ref tA)] [] (wX8_clear cy tA t_earlierV t_laterV t_aheads t_laid t_lineA t_line_tiesV R4 t_yearA t_year_tiesV R11 t_otherA t_other_tiesV t_other_size) 0 0
  refine V.aload_n dX8_clear_14 rfl 0 rfl ?_
  refine V.get kfX8 0 rfl rfl 2 (by decide) klX8_23 rfl dX8_clear_15 ?_
  obtain ⟨R18, hg18, h⟩ := Option.bind_eq_some_iff.mp h
  refine V.callV (As := []) (rest := []) (wc := (wX7_clear cy t_otherA t_other_tiesV t_other_size)) (wr := [(tA, .inr (8, [.ref t_lineA, .ref t_yearA, .ref t_otherA, t_earlierV, t_laterV, .int t_aheads, .int t_laid])), (t_lineA, .inr (7, [t_line_tiesV, .int R4])), (t_yearA, .inr (7, [t_year_tiesV, .int R11]))]) (q0 := 3) (CX7_clear F t_otherA t_other_tiesV t_other_size R18 hg18) kvX7_clear klX8_33 [3] [0, 1, 2] rfl rfl (by decide) (by decide) (by decide) rfl rfl rfl rfl dX8_clear_18 ⟨by decide, by decide, by decide, by decide⟩ (Nat.le_of_ble_eq_true rfl) (fun r w1 hq => ?_)
  obtain ⟨rfl, rfl⟩ := hq
  refine V.cells (ws' := (wX8_clear cy tA t_earlierV t_laterV t_aheads t_laid t_lineA t_line_tiesV R4 t_yearA t_year_tiesV R11 t_otherA t_other_tiesV R18)) [0, 1, 2, 3] (by decide) rfl ?_
  show V l D cy MX8_clear 1 0 0 _ _ _ 21 [(0, .ref tA)] [] (wX8_clear cy tA t_earlierV t_laterV t_aheads t_laid t_lineA t_line_tiesV R4 t_yearA t_year_tiesV R11 t_otherA t_other_tiesV R18) 0 0
  refine V.aload_n dX8_clear_21 rfl 0 rfl ?_
  refine V.iconst (v := (0 : Int32)) dX8_clear_22 (by decide) ?_
  refine V.put (ws' := (wX8_clear cy tA t_earlierV t_laterV (0 : Int32) t_laid t_lineA t_line_tiesV R4 t_yearA t_year_tiesV R11 t_otherA t_other_tiesV R18)) kfX8 tyX8 tyX8_ok nmX8 0 rfl rfl 5 (by decide) klX8_36 rfl (tyX8_ok 5 (by decide)) rfl rfl (Nat.le_of_ble_eq_true rfl) dX8_clear_23 rfl ?_
  have e9 := Option.some.inj h; subst e9
  exact V.vret rfl dX8_clear_26 (Nat.le_refl _) (Nat.le_refl _) hQ
theorem dX8_addAhead_0 : decode cX8_addAhead 0 = .ok (.aload_n 0, 1) := by decide +kernel
theorem dX8_addAhead_1 : decode cX8_addAhead 1 = .ok (.getfield 36, 3) := by decide +kernel
theorem dX8_addAhead_4 : decode cX8_addAhead 4 = .ok (.bipush 8, 2) := by decide +kernel
theorem dX8_addAhead_6 : decode cX8_addAhead 6 = .ok (.if_icmp .lt 5, 3) := by decide +kernel
theorem dX8_addAhead_9 : decode cX8_addAhead 9 = .ok (.iconst 0, 1) := by decide +kernel
theorem dX8_addAhead_10 : decode cX8_addAhead 10 = .ok (.ireturn, 1) := by decide +kernel
theorem dX8_addAhead_11 : decode cX8_addAhead 11 = .ok (.aload_n 0, 1) := by decide +kernel
theorem dX8_addAhead_12 : decode cX8_addAhead 12 = .ok (.getfield 26, 3) := by decide +kernel
theorem dX8_addAhead_15 : decode cX8_addAhead 15 = .ok (.aload_n 0, 1) := by decide +kernel
theorem dX8_addAhead_16 : decode cX8_addAhead 16 = .ok (.getfield 36, 3) := by decide +kernel
theorem dX8_addAhead_19 : decode cX8_addAhead 19 = .ok (.iload_n 1, 1) := by decide +kernel
theorem dX8_addAhead_20 : decode cX8_addAhead 20 = .ok (.iastore, 1) := by decide +kernel
theorem dX8_addAhead_21 : decode cX8_addAhead 21 = .ok (.aload_n 0, 1) := by decide +kernel
theorem dX8_addAhead_22 : decode cX8_addAhead 22 = .ok (.getfield 30, 3) := by decide +kernel
theorem dX8_addAhead_25 : decode cX8_addAhead 25 = .ok (.aload_n 0, 1) := by decide +kernel
theorem dX8_addAhead_26 : decode cX8_addAhead 26 = .ok (.getfield 36, 3) := by decide +kernel
theorem dX8_addAhead_29 : decode cX8_addAhead 29 = .ok (.iload_n 2, 1) := by decide +kernel
theorem dX8_addAhead_30 : decode cX8_addAhead 30 = .ok (.iastore, 1) := by decide +kernel
theorem dX8_addAhead_31 : decode cX8_addAhead 31 = .ok (.aload_n 0, 1) := by decide +kernel
theorem dX8_addAhead_32 : decode cX8_addAhead 32 = .ok (.dup, 1) := by decide +kernel
theorem dX8_addAhead_33 : decode cX8_addAhead 33 = .ok (.getfield 36, 3) := by decide +kernel
theorem dX8_addAhead_36 : decode cX8_addAhead 36 = .ok (.iconst 1, 1) := by decide +kernel
theorem dX8_addAhead_37 : decode cX8_addAhead 37 = .ok (.iadd, 1) := by decide +kernel
theorem dX8_addAhead_38 : decode cX8_addAhead 38 = .ok (.putfield 36, 3) := by decide +kernel
theorem dX8_addAhead_41 : decode cX8_addAhead 41 = .ok (.iconst 1, 1) := by decide +kernel
theorem dX8_addAhead_42 : decode cX8_addAhead 42 = .ok (.ireturn, 1) := by decide +kernel
def wX8_addAhead (cy : Nat → ClassId) (tA : Nat) (t_lineV : Value) (t_yearV : Value) (t_otherV : Value) (t_aheads : Int32) (t_laid : Int32) (t_earlierA : Nat) (t_earlierN : Nat) (t_earlier : Nat → Int32) (t_laterA : Nat) (t_laterN : Nat) (t_later : Nat → Int32) : va_W :=
  [(tA, .inr (8, [t_lineV, t_yearV, t_otherV, .ref t_earlierA, .ref t_laterA, .int t_aheads, .int t_laid])), (t_earlierA, .inl (cy 1, t_earlierN, .inl t_earlier)), (t_laterA, .inl (cy 1, t_laterN, .inl t_later))]
noncomputable def fX8_addAhead (F : Nat) (t_earlierN : Nat) (t_laterN : Nat) (a1 : Int32) (a2 : Int32) (t_aheads : Int32) (t_earlier : Nat → Int32) (t_later : Nat → Int32) : Option (Int32 × (Int32) × (Nat → Int32) × (Nat → Int32)) :=
  if t_aheads < (8 : Int32) then (if t_aheads < 0 ∨ t_earlierN ≤ t_aheads.toNatClampNeg then none else (if t_aheads < 0 ∨ t_laterN ≤ t_aheads.toNatClampNeg then none else (some ((1 : Int32), t_aheads + (1 : Int32), upd t_earlier t_aheads.toNatClampNeg a1, upd t_later t_aheads.toNatClampNeg a2)))) else (some ((0 : Int32), t_aheads, t_earlier, t_later))
theorem CX8_addAhead {l : Launch} {D : va_G} {cy : Nat → ClassId} (F : Nat) (tA : Nat) (t_lineV : Value) (t_yearV : Value) (t_otherV : Value) (t_aheads : Int32) (t_laid : Int32) (t_earlierA : Nat) (t_earlierN : Nat) (t_earlier : Nat → Int32) (t_laterA : Nat) (t_laterN : Nat) (t_later : Nat → Int32) (a1 : Int32) (a2 : Int32) (R : Int32 × (Int32) × (Nat → Int32) × (Nat → Int32)) (h : fX8_addAhead F t_earlierN t_laterN a1 a2 t_aheads t_earlier t_later = some R) : vMet l D cy MX8_addAhead 0 0 0 [.ref tA, .int a1, .int a2] (wX8_addAhead cy tA t_lineV t_yearV t_otherV t_aheads t_laid t_earlierA t_earlierN t_earlier t_laterA t_laterN t_later) (fun (r : Option Value) (w : va_W) => r = (some (.int R.1)) ∧ w = (wX8_addAhead cy tA t_lineV t_yearV t_otherV R.2.1 t_laid t_earlierA t_earlierN R.2.2.1 t_laterA t_laterN R.2.2.2)) := by
  refine vMet.start (by decide +kernel) (Nat.le_of_ble_eq_true rfl) ?_
  generalize hQe : (fun (r : Option Value) (w : va_W) => r = (some (.int R.1)) ∧ w = (wX8_addAhead cy tA t_lineV t_yearV t_otherV R.2.1 t_laid t_earlierA t_earlierN R.2.2.1 t_laterA t_laterN R.2.2.2)) = Q
  have hQ : Q (some (.int R.1)) (wX8_addAhead cy tA t_lineV t_yearV t_otherV R.2.1 t_laid t_earlierA t_earlierN R.2.2.1 t_laterA t_laterN R.2.2.2) := by rw [← hQe]; exact ⟨rfl, rfl⟩
  show V l D cy MX8_addAhead 0 0 0 _ _ Q 0 [(0, .ref tA), (1, .int a1), (2, .int a2)] [] _ 0 0
  show V l D cy MX8_addAhead 0 0 0 [.ref tA, .int a1, .int a2] _ Q 0 [(0, .ref tA), (1, .int a1), (2, .int a2)] [] (wX8_addAhead cy tA t_lineV t_yearV t_otherV t_aheads t_laid t_earlierA t_earlierN t_earlier t_laterA t_laterN t_later) 0 0
  unfold fX8_addAhead at h
  refine V.aload_n dX8_addAhead_0 rfl 0 rfl ?_
  refine V.get kfX8 0 rfl rfl 5 (by decide) klX8_36 rfl dX8_addAhead_1 ?_
  refine V.bipush (v := (8 : Int32)) dX8_addAhead_4 (by decide) ?_
  refine V.icmp_lt (tgt := 11) dX8_addAhead_6 (by decide) (fun hc6 => ?_) (fun hc6 => ?_)
  · replace h := (if_pos hc6).symm.trans h
    refine V.aload_n dX8_addAhead_11 rfl 0 rfl ?_
    refine V.get kfX8 0 rfl rfl 3 (by decide) klX8_26 rfl dX8_addAhead_12 ?_
    refine V.aload_n dX8_addAhead_15 rfl 0 rfl ?_
    refine V.get kfX8 0 rfl rfl 5 (by decide) klX8_36 rfl dX8_addAhead_16 ?_
    refine V.iload_n dX8_addAhead_19 rfl 1 rfl ?_
    by_cases hb20 : t_aheads < 0 ∨ t_earlierN ≤ t_aheads.toNatClampNeg
    · exact vNone ((if_pos hb20).symm.trans h)
    replace h := (if_neg hb20).symm.trans h
    refine V.iast (ws' := (wX8_addAhead cy tA t_lineV t_yearV t_otherV t_aheads t_laid t_earlierA t_earlierN (upd t_earlier t_aheads.toNatClampNeg a1) t_laterA t_laterN t_later)) dX8_addAhead_20 1 rfl hb20 rfl ?_
    refine V.aload_n dX8_addAhead_21 rfl 0 rfl ?_
    refine V.get kfX8 0 rfl rfl 4 (by decide) klX8_30 rfl dX8_addAhead_22 ?_
    refine V.aload_n dX8_addAhead_25 rfl 0 rfl ?_
    refine V.get kfX8 0 rfl rfl 5 (by decide) klX8_36 rfl dX8_addAhead_26 ?_
    refine V.iload_n dX8_addAhead_29 rfl 2 rfl ?_
    by_cases hb30 : t_aheads < 0 ∨ t_laterN ≤ t_aheads.toNatClampNeg
    · exact vNone ((if_pos hb30).symm.trans h)
    replace h := (if_neg hb30).symm.trans h
    refine V.iast (ws' := (wX8_addAhead cy tA t_lineV t_yearV t_otherV t_aheads t_laid t_earlierA t_earlierN (upd t_earlier t_aheads.toNatClampNeg a1) t_laterA t_laterN (upd t_later t_aheads.toNatClampNeg a2))) dX8_addAhead_30 2 rfl hb30 rfl ?_
    refine V.aload_n dX8_addAhead_31 rfl 0 rfl ?_
    refine V.dup dX8_addAhead_32 rfl ?_
    refine V.get kfX8 0 rfl rfl 5 (by decide) klX8_36 rfl dX8_addAhead_33 ?_
    refine V.iconst (v := (1 : Int32)) dX8_addAhead_36 (by decide) ?_
    refine V.iadd dX8_addAhead_37 ?_
    refine V.put (ws' := (wX8_addAhead cy tA t_lineV t_yearV t_otherV (t_aheads + (1 : Int32)) t_laid t_earlierA t_earlierN (upd t_earlier t_aheads.toNatClampNeg a1) t_laterA t_laterN (upd t_later t_aheads.toNatClampNeg a2))) kfX8 tyX8 tyX8_ok nmX8 0 rfl rfl 5 (by decide) klX8_36 rfl (tyX8_ok 5 (by decide)) rfl rfl (Nat.le_of_ble_eq_true rfl) dX8_addAhead_38 rfl ?_
    refine V.iconst (v := (1 : Int32)) dX8_addAhead_41 (by decide) ?_
    have e9 := Option.some.inj h; subst e9
    exact V.iret (ty := .boolean) rfl rfl dX8_addAhead_42 (Nat.le_refl _) (Nat.le_refl _) hQ
  · replace h := (if_neg hc6).symm.trans h
    refine V.iconst (v := (0 : Int32)) dX8_addAhead_9 (by decide) ?_
    have e9 := Option.some.inj h; subst e9
    exact V.iret (ty := .boolean) rfl rfl dX8_addAhead_10 (Nat.le_refl _) (Nat.le_refl _) hQ
theorem dX8_copyFrom_0 : decode cX8_copyFrom 0 = .ok (.aload_n 0, 1) := by decide +kernel
theorem dX8_copyFrom_1 : decode cX8_copyFrom 1 = .ok (.getfield 14, 3) := by decide +kernel
theorem dX8_copyFrom_4 : decode cX8_copyFrom 4 = .ok (.aload_n 1, 1) := by decide +kernel
theorem dX8_copyFrom_5 : decode cX8_copyFrom 5 = .ok (.getfield 14, 3) := by decide +kernel
theorem dX8_copyFrom_8 : decode cX8_copyFrom 8 = .ok (.invokevirtual 40, 3) := by decide +kernel
theorem dX8_copyFrom_11 : decode cX8_copyFrom 11 = .ok (.aload_n 0, 1) := by decide +kernel
theorem dX8_copyFrom_12 : decode cX8_copyFrom 12 = .ok (.getfield 20, 3) := by decide +kernel
theorem dX8_copyFrom_15 : decode cX8_copyFrom 15 = .ok (.aload_n 1, 1) := by decide +kernel
theorem dX8_copyFrom_16 : decode cX8_copyFrom 16 = .ok (.getfield 20, 3) := by decide +kernel
theorem dX8_copyFrom_19 : decode cX8_copyFrom 19 = .ok (.invokevirtual 40, 3) := by decide +kernel
theorem dX8_copyFrom_22 : decode cX8_copyFrom 22 = .ok (.aload_n 0, 1) := by decide +kernel
theorem dX8_copyFrom_23 : decode cX8_copyFrom 23 = .ok (.getfield 23, 3) := by decide +kernel
theorem dX8_copyFrom_26 : decode cX8_copyFrom 26 = .ok (.aload_n 1, 1) := by decide +kernel
theorem dX8_copyFrom_27 : decode cX8_copyFrom 27 = .ok (.getfield 23, 3) := by decide +kernel
theorem dX8_copyFrom_30 : decode cX8_copyFrom 30 = .ok (.invokevirtual 40, 3) := by decide +kernel
theorem dX8_copyFrom_33 : decode cX8_copyFrom 33 = .ok (.aload_n 1, 1) := by decide +kernel
theorem dX8_copyFrom_34 : decode cX8_copyFrom 34 = .ok (.getfield 26, 3) := by decide +kernel
theorem dX8_copyFrom_37 : decode cX8_copyFrom 37 = .ok (.iconst 0, 1) := by decide +kernel
theorem dX8_copyFrom_38 : decode cX8_copyFrom 38 = .ok (.aload_n 0, 1) := by decide +kernel
theorem dX8_copyFrom_39 : decode cX8_copyFrom 39 = .ok (.getfield 26, 3) := by decide +kernel
theorem dX8_copyFrom_42 : decode cX8_copyFrom 42 = .ok (.iconst 0, 1) := by decide +kernel
theorem dX8_copyFrom_43 : decode cX8_copyFrom 43 = .ok (.bipush 8, 2) := by decide +kernel
theorem dX8_copyFrom_45 : decode cX8_copyFrom 45 = .ok (.invokestatic 44, 3) := by decide +kernel
theorem dX8_copyFrom_48 : decode cX8_copyFrom 48 = .ok (.aload_n 1, 1) := by decide +kernel
theorem dX8_copyFrom_49 : decode cX8_copyFrom 49 = .ok (.getfield 30, 3) := by decide +kernel
theorem dX8_copyFrom_52 : decode cX8_copyFrom 52 = .ok (.iconst 0, 1) := by decide +kernel
theorem dX8_copyFrom_53 : decode cX8_copyFrom 53 = .ok (.aload_n 0, 1) := by decide +kernel
theorem dX8_copyFrom_54 : decode cX8_copyFrom 54 = .ok (.getfield 30, 3) := by decide +kernel
theorem dX8_copyFrom_57 : decode cX8_copyFrom 57 = .ok (.iconst 0, 1) := by decide +kernel
theorem dX8_copyFrom_58 : decode cX8_copyFrom 58 = .ok (.bipush 8, 2) := by decide +kernel
theorem dX8_copyFrom_60 : decode cX8_copyFrom 60 = .ok (.invokestatic 44, 3) := by decide +kernel
theorem dX8_copyFrom_63 : decode cX8_copyFrom 63 = .ok (.aload_n 0, 1) := by decide +kernel
theorem dX8_copyFrom_64 : decode cX8_copyFrom 64 = .ok (.aload_n 1, 1) := by decide +kernel
theorem dX8_copyFrom_65 : decode cX8_copyFrom 65 = .ok (.getfield 36, 3) := by decide +kernel
theorem dX8_copyFrom_68 : decode cX8_copyFrom 68 = .ok (.putfield 36, 3) := by decide +kernel
theorem dX8_copyFrom_71 : decode cX8_copyFrom 71 = .ok (.return_, 1) := by decide +kernel
def wX8_copyFrom (cy : Nat → ClassId) (tA : Nat) (t_aheads : Int32) (t_laid : Int32) (t_lineA : Nat) (t_line_size : Int32) (t_line_tiesA : Nat) (t_line_tiesN : Nat) (t_line_ties : Nat → Int32) (t_yearA : Nat) (t_year_size : Int32) (t_year_tiesA : Nat) (t_year_tiesN : Nat) (t_year_ties : Nat → Int32) (t_otherA : Nat) (t_other_size : Int32) (t_other_tiesA : Nat) (t_other_tiesN : Nat) (t_other_ties : Nat → Int32) (t_earlierA : Nat) (t_earlierN : Nat) (t_earlier : Nat → Int32) (t_laterA : Nat) (t_laterN : Nat) (t_later : Nat → Int32) (p1A : Nat) (p1_aheads : Int32) (p1_laid : Int32) (p1_lineA : Nat) (p1_line_size : Int32) (p1_line_tiesA : Nat) (p1_line_tiesN : Nat) (p1_line_ties : Nat → Int32) (p1_yearA : Nat) (p1_year_size : Int32) (p1_year_tiesA : Nat) (p1_year_tiesN : Nat) (p1_year_ties : Nat → Int32) (p1_otherA : Nat) (p1_other_size : Int32) (p1_other_tiesA : Nat) (p1_other_tiesN : Nat) (p1_other_ties : Nat → Int32) (p1_earlierA : Nat) (p1_earlierN : Nat) (p1_earlier : Nat → Int32) (p1_laterA : Nat) (p1_laterN : Nat) (p1_later : Nat → Int32) : va_W :=
  [(tA, .inr (8, [.ref t_lineA, .ref t_yearA, .ref t_otherA, .ref t_earlierA, .ref t_laterA, .int t_aheads, .int t_laid])), (t_lineA, .inr (7, [.ref t_line_tiesA, .int t_line_size])), (t_line_tiesA, .inl (cy 1, t_line_tiesN, .inl t_line_ties)), (t_yearA, .inr (7, [.ref t_year_tiesA, .int t_year_size])), (t_year_tiesA, .inl (cy 1, t_year_tiesN, .inl t_year_ties)), (t_otherA, .inr (7, [.ref t_other_tiesA, .int t_other_size])), (t_other_tiesA, .inl (cy 1, t_other_tiesN, .inl t_other_ties)), (t_earlierA, .inl (cy 1, t_earlierN, .inl t_earlier)), (t_laterA, .inl (cy 1, t_laterN, .inl t_later)), (p1A, .inr (8, [.ref p1_lineA, .ref p1_yearA, .ref p1_otherA, .ref p1_earlierA, .ref p1_laterA, .int p1_aheads, .int p1_laid])), (p1_lineA, .inr (7, [.ref p1_line_tiesA, .int p1_line_size])), (p1_line_tiesA, .inl (cy 1, p1_line_tiesN, .inl p1_line_ties)), (p1_yearA, .inr (7, [.ref p1_year_tiesA, .int p1_year_size])), (p1_year_tiesA, .inl (cy 1, p1_year_tiesN, .inl p1_year_ties)), (p1_otherA, .inr (7, [.ref p1_other_tiesA, .int p1_other_size])), (p1_other_tiesA, .inl (cy 1, p1_other_tiesN, .inl p1_other_ties)), (p1_earlierA, .inl (cy 1, p1_earlierN, .inl p1_earlier)), (p1_laterA, .inl (cy 1, p1_laterN, .inl p1_later))]
noncomputable def fX8_copyFrom (F : Nat) (t_line_tiesN : Nat) (t_year_tiesN : Nat) (t_other_tiesN : Nat) (t_earlierN : Nat) (t_laterN : Nat) (p1_aheads : Int32) (p1_line_size : Int32) (p1_line_tiesN : Nat) (p1_line_ties : Nat → Int32) (p1_year_size : Int32) (p1_year_tiesN : Nat) (p1_year_ties : Nat → Int32) (p1_other_size : Int32) (p1_other_tiesN : Nat) (p1_other_ties : Nat → Int32) (p1_earlierN : Nat) (p1_earlier : Nat → Int32) (p1_laterN : Nat) (p1_later : Nat → Int32) (t_aheads : Int32) (t_line_size : Int32) (t_line_ties : Nat → Int32) (t_year_size : Int32) (t_year_ties : Nat → Int32) (t_other_size : Int32) (t_other_ties : Nat → Int32) (t_earlier : Nat → Int32) (t_later : Nat → Int32) : Option ((Int32) × (Int32) × (Nat → Int32) × (Int32) × (Nat → Int32) × (Int32) × (Nat → Int32) × (Nat → Int32) × (Nat → Int32)) :=
  (fX7_copyFrom F t_line_tiesN p1_line_size p1_line_tiesN p1_line_ties t_line_size t_line_ties).bind fun R8 => ((fX7_copyFrom F t_year_tiesN p1_year_size p1_year_tiesN p1_year_ties t_year_size t_year_ties).bind fun R19 => ((fX7_copyFrom F t_other_tiesN p1_other_size p1_other_tiesN p1_other_ties t_other_size t_other_ties).bind fun R30 => (if (0 : Int32) < 0 ∨ (0 : Int32) < 0 ∨ (8 : Int32) < 0 ∨ p1_earlierN < (0 : Int32).toNatClampNeg + (8 : Int32).toNatClampNeg ∨ t_earlierN < (0 : Int32).toNatClampNeg + (8 : Int32).toNatClampNeg then none else (if (0 : Int32) < 0 ∨ (0 : Int32) < 0 ∨ (8 : Int32) < 0 ∨ p1_laterN < (0 : Int32).toNatClampNeg + (8 : Int32).toNatClampNeg ∨ t_laterN < (0 : Int32).toNatClampNeg + (8 : Int32).toNatClampNeg then none else (some (p1_aheads, R8.1, R8.2, R19.1, R19.2, R30.1, R30.2, va_cpy p1_earlier t_earlier (0 : Int32).toNatClampNeg (0 : Int32).toNatClampNeg (8 : Int32).toNatClampNeg, va_cpy p1_later t_later (0 : Int32).toNatClampNeg (0 : Int32).toNatClampNeg (8 : Int32).toNatClampNeg))))))
theorem CX8_copyFrom {l : Launch} {D : va_G} {cy : Nat → ClassId} (F : Nat) (tA : Nat) (t_aheads : Int32) (t_laid : Int32) (t_lineA : Nat) (t_line_size : Int32) (t_line_tiesA : Nat) (t_line_tiesN : Nat) (t_line_ties : Nat → Int32) (t_yearA : Nat) (t_year_size : Int32) (t_year_tiesA : Nat) (t_year_tiesN : Nat) (t_year_ties : Nat → Int32) (t_otherA : Nat) (t_other_size : Int32) (t_other_tiesA : Nat) (t_other_tiesN : Nat) (t_other_ties : Nat → Int32) (t_earlierA : Nat) (t_earlierN : Nat) (t_earlier : Nat → Int32) (t_laterA : Nat) (t_laterN : Nat) (t_later : Nat → Int32) (p1A : Nat) (p1_aheads : Int32) (p1_laid : Int32) (p1_lineA : Nat) (p1_line_size : Int32) (p1_line_tiesA : Nat) (p1_line_tiesN : Nat) (p1_line_ties : Nat → Int32) (p1_yearA : Nat) (p1_year_size : Int32) (p1_year_tiesA : Nat) (p1_year_tiesN : Nat) (p1_year_ties : Nat → Int32) (p1_otherA : Nat) (p1_other_size : Int32) (p1_other_tiesA : Nat) (p1_other_tiesN : Nat) (p1_other_ties : Nat → Int32) (p1_earlierA : Nat) (p1_earlierN : Nat) (p1_earlier : Nat → Int32) (p1_laterA : Nat) (p1_laterN : Nat) (p1_later : Nat → Int32) (R : (Int32) × (Int32) × (Nat → Int32) × (Int32) × (Nat → Int32) × (Int32) × (Nat → Int32) × (Nat → Int32) × (Nat → Int32)) (h : fX8_copyFrom F t_line_tiesN t_year_tiesN t_other_tiesN t_earlierN t_laterN p1_aheads p1_line_size p1_line_tiesN p1_line_ties p1_year_size p1_year_tiesN p1_year_ties p1_other_size p1_other_tiesN p1_other_ties p1_earlierN p1_earlier p1_laterN p1_later t_aheads t_line_size t_line_ties t_year_size t_year_ties t_other_size t_other_ties t_earlier t_later = some R) : vMet l D cy MX8_copyFrom 1 0 0 [.ref tA, .ref p1A] (wX8_copyFrom cy tA t_aheads t_laid t_lineA t_line_size t_line_tiesA t_line_tiesN t_line_ties t_yearA t_year_size t_year_tiesA t_year_tiesN t_year_ties t_otherA t_other_size t_other_tiesA t_other_tiesN t_other_ties t_earlierA t_earlierN t_earlier t_laterA t_laterN t_later p1A p1_aheads p1_laid p1_lineA p1_line_size p1_line_tiesA p1_line_tiesN p1_line_ties p1_yearA p1_year_size p1_year_tiesA p1_year_tiesN p1_year_ties p1_otherA p1_other_size p1_other_tiesA p1_other_tiesN p1_other_ties p1_earlierA p1_earlierN p1_earlier p1_laterA p1_laterN p1_later) (fun (r : Option Value) (w : va_W) => r = none ∧ w = (wX8_copyFrom cy tA R.1 t_laid t_lineA R.2.1 t_line_tiesA t_line_tiesN R.2.2.1 t_yearA R.2.2.2.1 t_year_tiesA t_year_tiesN R.2.2.2.2.1 t_otherA R.2.2.2.2.2.1 t_other_tiesA t_other_tiesN R.2.2.2.2.2.2.1 t_earlierA t_earlierN R.2.2.2.2.2.2.2.1 t_laterA t_laterN R.2.2.2.2.2.2.2.2 p1A p1_aheads p1_laid p1_lineA p1_line_size p1_line_tiesA p1_line_tiesN p1_line_ties p1_yearA p1_year_size p1_year_tiesA p1_year_tiesN p1_year_ties p1_otherA p1_other_size p1_other_tiesA p1_other_tiesN p1_other_ties p1_earlierA p1_earlierN p1_earlier p1_laterA p1_laterN p1_later)) := by
  refine vMet.start (by decide +kernel) (Nat.le_of_ble_eq_true rfl) ?_
  generalize hQe : (fun (r : Option Value) (w : va_W) => r = none ∧ w = (wX8_copyFrom cy tA R.1 t_laid t_lineA R.2.1 t_line_tiesA t_line_tiesN R.2.2.1 t_yearA R.2.2.2.1 t_year_tiesA t_year_tiesN R.2.2.2.2.1 t_otherA R.2.2.2.2.2.1 t_other_tiesA t_other_tiesN R.2.2.2.2.2.2.1 t_earlierA t_earlierN R.2.2.2.2.2.2.2.1 t_laterA t_laterN R.2.2.2.2.2.2.2.2 p1A p1_aheads p1_laid p1_lineA p1_line_size p1_line_tiesA p1_line_tiesN p1_line_ties p1_yearA p1_year_size p1_year_tiesA p1_year_tiesN p1_year_ties p1_otherA p1_other_size p1_other_tiesA p1_other_tiesN p1_other_ties p1_earlierA p1_earlierN p1_earlier p1_laterA p1_laterN p1_later)) = Q
  have hQ : Q none (wX8_copyFrom cy tA R.1 t_laid t_lineA R.2.1 t_line_tiesA t_line_tiesN R.2.2.1 t_yearA R.2.2.2.1 t_year_tiesA t_year_tiesN R.2.2.2.2.1 t_otherA R.2.2.2.2.2.1 t_other_tiesA t_other_tiesN R.2.2.2.2.2.2.1 t_earlierA t_earlierN R.2.2.2.2.2.2.2.1 t_laterA t_laterN R.2.2.2.2.2.2.2.2 p1A p1_aheads p1_laid p1_lineA p1_line_size p1_line_tiesA p1_line_tiesN p1_line_ties p1_yearA p1_year_size p1_year_tiesA p1_year_tiesN p1_year_ties p1_otherA p1_other_size p1_other_tiesA p1_other_tiesN p1_other_ties p1_earlierA p1_earlierN p1_earlier p1_laterA p1_laterN p1_later) := by rw [← hQe]; exact ⟨rfl, rfl⟩
  show V l D cy MX8_copyFrom 1 0 0 _ _ Q 0 [(0, .ref tA), (1, .ref p1A)] [] _ 0 0
  show V l D cy MX8_copyFrom 1 0 0 [.ref tA, .ref p1A] _ Q 0 [(0, .ref tA), (1, .ref p1A)] [] (wX8_copyFrom cy tA t_aheads t_laid t_lineA t_line_size t_line_tiesA t_line_tiesN t_line_ties t_yearA t_year_size t_year_tiesA t_year_tiesN t_year_ties t_otherA t_other_size t_other_tiesA t_other_tiesN t_other_ties t_earlierA t_earlierN t_earlier t_laterA t_laterN t_later p1A p1_aheads p1_laid p1_lineA p1_line_size p1_line_tiesA p1_line_tiesN p1_line_ties p1_yearA p1_year_size p1_year_tiesA p1_year_tiesN p1_year_ties p1_otherA p1_other_size p1_other_tiesA p1_other_tiesN p1_other_ties p1_earlierA p1_earlierN p1_earlier p1_laterA p1_laterN p1_later) 0 0
  unfold fX8_copyFrom at h
  refine V.aload_n dX8_copyFrom_0 rfl 0 rfl ?_
  refine V.get kfX8 0 rfl rfl 0 (by decide) klX8_14 rfl dX8_copyFrom_1 ?_
  refine V.aload_n dX8_copyFrom_4 rfl 1 rfl ?_
  refine V.get kfX8 9 rfl rfl 0 (by decide) klX8_14 rfl dX8_copyFrom_5 ?_
  obtain ⟨R8, hg8, h⟩ := Option.bind_eq_some_iff.mp h
  refine V.callV (As := [.ref p1_lineA]) (rest := []) (wc := (wX7_copyFrom cy t_lineA t_line_size t_line_tiesA t_line_tiesN t_line_ties p1_lineA p1_line_size p1_line_tiesA p1_line_tiesN p1_line_ties)) (wr := [(tA, .inr (8, [.ref t_lineA, .ref t_yearA, .ref t_otherA, .ref t_earlierA, .ref t_laterA, .int t_aheads, .int t_laid])), (t_yearA, .inr (7, [.ref t_year_tiesA, .int t_year_size])), (t_year_tiesA, .inl (cy 1, t_year_tiesN, .inl t_year_ties)), (t_otherA, .inr (7, [.ref t_other_tiesA, .int t_other_size])), (t_other_tiesA, .inl (cy 1, t_other_tiesN, .inl t_other_ties)), (t_earlierA, .inl (cy 1, t_earlierN, .inl t_earlier)), (t_laterA, .inl (cy 1, t_laterN, .inl t_later)), (p1A, .inr (8, [.ref p1_lineA, .ref p1_yearA, .ref p1_otherA, .ref p1_earlierA, .ref p1_laterA, .int p1_aheads, .int p1_laid])), (p1_yearA, .inr (7, [.ref p1_year_tiesA, .int p1_year_size])), (p1_year_tiesA, .inl (cy 1, p1_year_tiesN, .inl p1_year_ties)), (p1_otherA, .inr (7, [.ref p1_other_tiesA, .int p1_other_size])), (p1_other_tiesA, .inl (cy 1, p1_other_tiesN, .inl p1_other_ties)), (p1_earlierA, .inl (cy 1, p1_earlierN, .inl p1_earlier)), (p1_laterA, .inl (cy 1, p1_laterN, .inl p1_later))]) (q0 := 1) (CX7_copyFrom F t_lineA t_line_size t_line_tiesA t_line_tiesN t_line_ties p1_lineA p1_line_size p1_line_tiesA p1_line_tiesN p1_line_ties R8 hg8) kvX7_copyFrom klX8_40 [1, 2, 10, 11] [0, 3, 4, 5, 6, 7, 8, 9, 12, 13, 14, 15, 16, 17] rfl rfl (by decide) (by decide) (by decide) rfl rfl rfl rfl dX8_copyFrom_8 ⟨by decide, by decide, by decide, by decide⟩ (Nat.le_of_ble_eq_true rfl) (fun r w1 hq => ?_)
  obtain ⟨rfl, rfl⟩ := hq
  refine V.cells (ws' := (wX8_copyFrom cy tA t_aheads t_laid t_lineA R8.1 t_line_tiesA t_line_tiesN R8.2 t_yearA t_year_size t_year_tiesA t_year_tiesN t_year_ties t_otherA t_other_size t_other_tiesA t_other_tiesN t_other_ties t_earlierA t_earlierN t_earlier t_laterA t_laterN t_later p1A p1_aheads p1_laid p1_lineA p1_line_size p1_line_tiesA p1_line_tiesN p1_line_ties p1_yearA p1_year_size p1_year_tiesA p1_year_tiesN p1_year_ties p1_otherA p1_other_size p1_other_tiesA p1_other_tiesN p1_other_ties p1_earlierA p1_earlierN p1_earlier p1_laterA p1_laterN p1_later)) [0, 14, 15, 1, 2, 3, 4, 5, 6, 7, 16, 17, 8, 9, 10, 11, 12, 13] (by decide) rfl ?_
  show V l D cy MX8_copyFrom 1 0 0 _ _ _ 11 [(0, .ref tA), (1, .ref p1A)] [] (wX8_copyFrom cy tA t_aheads t_laid t_lineA R8.1 t_line_tiesA t_line_tiesN R8.2 t_yearA t_year_size t_year_tiesA t_year_tiesN t_year_ties t_otherA t_other_size t_other_tiesA t_other_tiesN t_other_ties t_earlierA t_earlierN t_earlier t_laterA t_laterN t_later p1A p1_aheads p1_laid p1_lineA p1_line_size p1_line_tiesA p1_line_tiesN p1_line_ties p1_yearA p1_year_size p1_year_tiesA p1_year_tiesN p1_year_ties p1_otherA p1_other_size p1_other_tiesA p1_other_tiesN p1_other_ties p1_earlierA p1_earlierN p1_earlier p1_laterA p1_laterN p1_later) 0 0
  refine V.aload_n dX8_copyFrom_11 rfl 0 rfl ?_
  refine V.get kfX8 0 rfl rfl 1 (by decide) klX8_20 rfl dX8_copyFrom_12 ?_
  refine V.aload_n dX8_copyFrom_15 rfl 1 rfl ?_
  refine V.get kfX8 9 rfl rfl 1 (by decide) klX8_20 rfl dX8_copyFrom_16 ?_
  obtain ⟨R19, hg19, h⟩ := Option.bind_eq_some_iff.mp h
  refine V.callV (As := [.ref p1_yearA]) (rest := []) (wc := (wX7_copyFrom cy t_yearA t_year_size t_year_tiesA t_year_tiesN t_year_ties p1_yearA p1_year_size p1_year_tiesA p1_year_tiesN p1_year_ties)) (wr := [(tA, .inr (8, [.ref t_lineA, .ref t_yearA, .ref t_otherA, .ref t_earlierA, .ref t_laterA, .int t_aheads, .int t_laid])), (t_lineA, .inr (7, [.ref t_line_tiesA, .int R8.1])), (t_line_tiesA, .inl (cy 1, t_line_tiesN, .inl R8.2)), (t_otherA, .inr (7, [.ref t_other_tiesA, .int t_other_size])), (t_other_tiesA, .inl (cy 1, t_other_tiesN, .inl t_other_ties)), (t_earlierA, .inl (cy 1, t_earlierN, .inl t_earlier)), (t_laterA, .inl (cy 1, t_laterN, .inl t_later)), (p1A, .inr (8, [.ref p1_lineA, .ref p1_yearA, .ref p1_otherA, .ref p1_earlierA, .ref p1_laterA, .int p1_aheads, .int p1_laid])), (p1_lineA, .inr (7, [.ref p1_line_tiesA, .int p1_line_size])), (p1_line_tiesA, .inl (cy 1, p1_line_tiesN, .inl p1_line_ties)), (p1_otherA, .inr (7, [.ref p1_other_tiesA, .int p1_other_size])), (p1_other_tiesA, .inl (cy 1, p1_other_tiesN, .inl p1_other_ties)), (p1_earlierA, .inl (cy 1, p1_earlierN, .inl p1_earlier)), (p1_laterA, .inl (cy 1, p1_laterN, .inl p1_later))]) (q0 := 3) (CX7_copyFrom F t_yearA t_year_size t_year_tiesA t_year_tiesN t_year_ties p1_yearA p1_year_size p1_year_tiesA p1_year_tiesN p1_year_ties R19 hg19) kvX7_copyFrom klX8_40 [3, 4, 12, 13] [0, 1, 2, 5, 6, 7, 8, 9, 10, 11, 14, 15, 16, 17] rfl rfl (by decide) (by decide) (by decide) rfl rfl rfl rfl dX8_copyFrom_19 ⟨by decide, by decide, by decide, by decide⟩ (Nat.le_of_ble_eq_true rfl) (fun r w1 hq => ?_)
  obtain ⟨rfl, rfl⟩ := hq
  refine V.cells (ws' := (wX8_copyFrom cy tA t_aheads t_laid t_lineA R8.1 t_line_tiesA t_line_tiesN R8.2 t_yearA R19.1 t_year_tiesA t_year_tiesN R19.2 t_otherA t_other_size t_other_tiesA t_other_tiesN t_other_ties t_earlierA t_earlierN t_earlier t_laterA t_laterN t_later p1A p1_aheads p1_laid p1_lineA p1_line_size p1_line_tiesA p1_line_tiesN p1_line_ties p1_yearA p1_year_size p1_year_tiesA p1_year_tiesN p1_year_ties p1_otherA p1_other_size p1_other_tiesA p1_other_tiesN p1_other_ties p1_earlierA p1_earlierN p1_earlier p1_laterA p1_laterN p1_later)) [0, 1, 2, 14, 15, 3, 4, 5, 6, 7, 8, 9, 16, 17, 10, 11, 12, 13] (by decide) rfl ?_
  show V l D cy MX8_copyFrom 1 0 0 _ _ _ 22 [(0, .ref tA), (1, .ref p1A)] [] (wX8_copyFrom cy tA t_aheads t_laid t_lineA R8.1 t_line_tiesA t_line_tiesN R8.2 t_yearA R19.1 t_year_tiesA t_year_tiesN R19.2 t_otherA t_other_size t_other_tiesA t_other_tiesN t_other_ties t_earlierA t_earlierN t_earlier t_laterA t_laterN t_later p1A p1_aheads p1_laid p1_lineA p1_line_size p1_line_tiesA p1_line_tiesN p1_line_ties p1_yearA p1_year_size p1_year_tiesA p1_year_tiesN p1_year_ties p1_otherA p1_other_size p1_other_tiesA p1_other_tiesN p1_other_ties p1_earlierA p1_earlierN p1_earlier p1_laterA p1_laterN p1_later) 0 0
  refine V.aload_n dX8_copyFrom_22 rfl 0 rfl ?_
  refine V.get kfX8 0 rfl rfl 2 (by decide) klX8_23 rfl dX8_copyFrom_23 ?_
  refine V.aload_n dX8_copyFrom_26 rfl 1 rfl ?_
  refine V.get kfX8 9 rfl rfl 2 (by decide) klX8_23 rfl dX8_copyFrom_27 ?_
  obtain ⟨R30, hg30, h⟩ := Option.bind_eq_some_iff.mp h
  refine V.callV (As := [.ref p1_otherA]) (rest := []) (wc := (wX7_copyFrom cy t_otherA t_other_size t_other_tiesA t_other_tiesN t_other_ties p1_otherA p1_other_size p1_other_tiesA p1_other_tiesN p1_other_ties)) (wr := [(tA, .inr (8, [.ref t_lineA, .ref t_yearA, .ref t_otherA, .ref t_earlierA, .ref t_laterA, .int t_aheads, .int t_laid])), (t_lineA, .inr (7, [.ref t_line_tiesA, .int R8.1])), (t_line_tiesA, .inl (cy 1, t_line_tiesN, .inl R8.2)), (t_yearA, .inr (7, [.ref t_year_tiesA, .int R19.1])), (t_year_tiesA, .inl (cy 1, t_year_tiesN, .inl R19.2)), (t_earlierA, .inl (cy 1, t_earlierN, .inl t_earlier)), (t_laterA, .inl (cy 1, t_laterN, .inl t_later)), (p1A, .inr (8, [.ref p1_lineA, .ref p1_yearA, .ref p1_otherA, .ref p1_earlierA, .ref p1_laterA, .int p1_aheads, .int p1_laid])), (p1_lineA, .inr (7, [.ref p1_line_tiesA, .int p1_line_size])), (p1_line_tiesA, .inl (cy 1, p1_line_tiesN, .inl p1_line_ties)), (p1_yearA, .inr (7, [.ref p1_year_tiesA, .int p1_year_size])), (p1_year_tiesA, .inl (cy 1, p1_year_tiesN, .inl p1_year_ties)), (p1_earlierA, .inl (cy 1, p1_earlierN, .inl p1_earlier)), (p1_laterA, .inl (cy 1, p1_laterN, .inl p1_later))]) (q0 := 5) (CX7_copyFrom F t_otherA t_other_size t_other_tiesA t_other_tiesN t_other_ties p1_otherA p1_other_size p1_other_tiesA p1_other_tiesN p1_other_ties R30 hg30) kvX7_copyFrom klX8_40 [5, 6, 14, 15] [0, 1, 2, 3, 4, 7, 8, 9, 10, 11, 12, 13, 16, 17] rfl rfl (by decide) (by decide) (by decide) rfl rfl rfl rfl dX8_copyFrom_30 ⟨by decide, by decide, by decide, by decide⟩ (Nat.le_of_ble_eq_true rfl) (fun r w1 hq => ?_)
  obtain ⟨rfl, rfl⟩ := hq
  refine V.cells (ws' := (wX8_copyFrom cy tA t_aheads t_laid t_lineA R8.1 t_line_tiesA t_line_tiesN R8.2 t_yearA R19.1 t_year_tiesA t_year_tiesN R19.2 t_otherA R30.1 t_other_tiesA t_other_tiesN R30.2 t_earlierA t_earlierN t_earlier t_laterA t_laterN t_later p1A p1_aheads p1_laid p1_lineA p1_line_size p1_line_tiesA p1_line_tiesN p1_line_ties p1_yearA p1_year_size p1_year_tiesA p1_year_tiesN p1_year_ties p1_otherA p1_other_size p1_other_tiesA p1_other_tiesN p1_other_ties p1_earlierA p1_earlierN p1_earlier p1_laterA p1_laterN p1_later)) [0, 1, 2, 3, 4, 14, 15, 5, 6, 7, 8, 9, 10, 11, 16, 17, 12, 13] (by decide) rfl ?_
  show V l D cy MX8_copyFrom 1 0 0 _ _ _ 33 [(0, .ref tA), (1, .ref p1A)] [] (wX8_copyFrom cy tA t_aheads t_laid t_lineA R8.1 t_line_tiesA t_line_tiesN R8.2 t_yearA R19.1 t_year_tiesA t_year_tiesN R19.2 t_otherA R30.1 t_other_tiesA t_other_tiesN R30.2 t_earlierA t_earlierN t_earlier t_laterA t_laterN t_later p1A p1_aheads p1_laid p1_lineA p1_line_size p1_line_tiesA p1_line_tiesN p1_line_ties p1_yearA p1_year_size p1_year_tiesA p1_year_tiesN p1_year_ties p1_otherA p1_other_size p1_other_tiesA p1_other_tiesN p1_other_ties p1_earlierA p1_earlierN p1_earlier p1_laterA p1_laterN p1_later) 0 0
  refine V.aload_n dX8_copyFrom_33 rfl 1 rfl ?_
  refine V.get kfX8 9 rfl rfl 3 (by decide) klX8_26 rfl dX8_copyFrom_34 ?_
  refine V.iconst (v := (0 : Int32)) dX8_copyFrom_37 (by decide) ?_
  refine V.aload_n dX8_copyFrom_38 rfl 0 rfl ?_
  refine V.get kfX8 0 rfl rfl 3 (by decide) klX8_26 rfl dX8_copyFrom_39 ?_
  refine V.iconst (v := (0 : Int32)) dX8_copyFrom_42 (by decide) ?_
  refine V.bipush (v := (8 : Int32)) dX8_copyFrom_43 (by decide) ?_
  by_cases hb45 : (0 : Int32) < 0 ∨ (0 : Int32) < 0 ∨ (8 : Int32) < 0 ∨ p1_earlierN < (0 : Int32).toNatClampNeg + (8 : Int32).toNatClampNeg ∨ t_earlierN < (0 : Int32).toNatClampNeg + (8 : Int32).toNatClampNeg
  · exact vNone ((if_pos hb45).symm.trans h)
  replace h := (if_neg hb45).symm.trans h
  refine V.copyi (ws' := (wX8_copyFrom cy tA t_aheads t_laid t_lineA R8.1 t_line_tiesA t_line_tiesN R8.2 t_yearA R19.1 t_year_tiesA t_year_tiesN R19.2 t_otherA R30.1 t_other_tiesA t_other_tiesN R30.2 t_earlierA t_earlierN (va_cpy p1_earlier t_earlier (0 : Int32).toNatClampNeg (0 : Int32).toNatClampNeg (8 : Int32).toNatClampNeg) t_laterA t_laterN t_later p1A p1_aheads p1_laid p1_lineA p1_line_size p1_line_tiesA p1_line_tiesN p1_line_ties p1_yearA p1_year_size p1_year_tiesA p1_year_tiesN p1_year_ties p1_otherA p1_other_size p1_other_tiesA p1_other_tiesN p1_other_ties p1_earlierA p1_earlierN p1_earlier p1_laterA p1_laterN p1_later)) klX8_44 dX8_copyFrom_45 16 7 rfl rfl hb45 (Nat.le_of_ble_eq_true rfl) rfl ?_
  refine V.aload_n dX8_copyFrom_48 rfl 1 rfl ?_
  refine V.get kfX8 9 rfl rfl 4 (by decide) klX8_30 rfl dX8_copyFrom_49 ?_
  refine V.iconst (v := (0 : Int32)) dX8_copyFrom_52 (by decide) ?_
  refine V.aload_n dX8_copyFrom_53 rfl 0 rfl ?_
  refine V.get kfX8 0 rfl rfl 4 (by decide) klX8_30 rfl dX8_copyFrom_54 ?_
  refine V.iconst (v := (0 : Int32)) dX8_copyFrom_57 (by decide) ?_
  refine V.bipush (v := (8 : Int32)) dX8_copyFrom_58 (by decide) ?_
  by_cases hb60 : (0 : Int32) < 0 ∨ (0 : Int32) < 0 ∨ (8 : Int32) < 0 ∨ p1_laterN < (0 : Int32).toNatClampNeg + (8 : Int32).toNatClampNeg ∨ t_laterN < (0 : Int32).toNatClampNeg + (8 : Int32).toNatClampNeg
  · exact vNone ((if_pos hb60).symm.trans h)
  replace h := (if_neg hb60).symm.trans h
  refine V.copyi (ws' := (wX8_copyFrom cy tA t_aheads t_laid t_lineA R8.1 t_line_tiesA t_line_tiesN R8.2 t_yearA R19.1 t_year_tiesA t_year_tiesN R19.2 t_otherA R30.1 t_other_tiesA t_other_tiesN R30.2 t_earlierA t_earlierN (va_cpy p1_earlier t_earlier (0 : Int32).toNatClampNeg (0 : Int32).toNatClampNeg (8 : Int32).toNatClampNeg) t_laterA t_laterN (va_cpy p1_later t_later (0 : Int32).toNatClampNeg (0 : Int32).toNatClampNeg (8 : Int32).toNatClampNeg) p1A p1_aheads p1_laid p1_lineA p1_line_size p1_line_tiesA p1_line_tiesN p1_line_ties p1_yearA p1_year_size p1_year_tiesA p1_year_tiesN p1_year_ties p1_otherA p1_other_size p1_other_tiesA p1_other_tiesN p1_other_ties p1_earlierA p1_earlierN p1_earlier p1_laterA p1_laterN p1_later)) klX8_44 dX8_copyFrom_60 17 8 rfl rfl hb60 (Nat.le_of_ble_eq_true rfl) rfl ?_
  refine V.aload_n dX8_copyFrom_63 rfl 0 rfl ?_
  refine V.aload_n dX8_copyFrom_64 rfl 1 rfl ?_
  refine V.get kfX8 9 rfl rfl 5 (by decide) klX8_36 rfl dX8_copyFrom_65 ?_
  refine V.put (ws' := (wX8_copyFrom cy tA p1_aheads t_laid t_lineA R8.1 t_line_tiesA t_line_tiesN R8.2 t_yearA R19.1 t_year_tiesA t_year_tiesN R19.2 t_otherA R30.1 t_other_tiesA t_other_tiesN R30.2 t_earlierA t_earlierN (va_cpy p1_earlier t_earlier (0 : Int32).toNatClampNeg (0 : Int32).toNatClampNeg (8 : Int32).toNatClampNeg) t_laterA t_laterN (va_cpy p1_later t_later (0 : Int32).toNatClampNeg (0 : Int32).toNatClampNeg (8 : Int32).toNatClampNeg) p1A p1_aheads p1_laid p1_lineA p1_line_size p1_line_tiesA p1_line_tiesN p1_line_ties p1_yearA p1_year_size p1_year_tiesA p1_year_tiesN p1_year_ties p1_otherA p1_other_size p1_other_tiesA p1_other_tiesN p1_other_ties p1_earlierA p1_earlierN p1_earlier p1_laterA p1_laterN p1_later)) kfX8 tyX8 tyX8_ok nmX8 0 rfl rfl 5 (by decide) klX8_36 rfl (tyX8_ok 5 (by decide)) rfl rfl (Nat.le_of_ble_eq_true rfl) dX8_copyFrom_68 rfl ?_
  have e9 := Option.some.inj h; subst e9
  exact V.vret rfl dX8_copyFrom_71 (Nat.le_refl _) (Nat.le_refl _) hQ
