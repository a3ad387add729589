theorem dX5_clear_0 : decode cX5_clear 0 = .ok (.aload_n 0, 1) := by decide +kernel
theorem dX5_clear_1 : decode cX5_clear 1 = .ok (.iconst 0, 1) := by decide +kernel
theorem dX5_clear_2 : decode cX5_clear 2 = .ok (.putfield 22, 3) := by decide +kernel
theorem dX5_clear_5 : decode cX5_clear 5 = .ok (.return_, 1) := by decide +kernel
def wX5_clear (cy : Nat → ClassId) (tA : Nat) (t_folkV : Value) (t_countsV : Value) (t_writtenV : Value) (t_size : Int32) : va_W :=
  [(tA, .inr (5, [t_folkV, t_countsV, t_writtenV, .int t_size]))]
noncomputable def fX5_clear (F : Nat) (t_size : Int32) : Option ((Int32)) :=
  some (0 : Int32)
theorem CX5_clear {l : Launch} {D : va_G} {cy : Nat → ClassId} (F : Nat) (tA : Nat) (t_folkV : Value) (t_countsV : Value) (t_writtenV : Value) (t_size : Int32) (R : (Int32)) (h : fX5_clear F t_size = some R) : vMet l D cy MX5_clear 0 0 0 [.ref tA] (wX5_clear cy tA t_folkV t_countsV t_writtenV t_size) (fun (r : Option Value) (w : va_W) => r = none ∧ w = (wX5_clear cy tA t_folkV t_countsV t_writtenV R)) := by
  refine vMet.start (by decide +kernel) (Nat.le_of_ble_eq_true rfl) ?_
  generalize hQe : (fun (r : Option Value) (w : va_W) => r = none ∧ w = (wX5_clear cy tA t_folkV t_countsV t_writtenV R)) = Q
  have hQ : Q none (wX5_clear cy tA t_folkV t_countsV t_writtenV R) := by rw [← hQe]; exact ⟨rfl, rfl⟩
  show V l D cy MX5_clear 0 0 0 _ _ Q 0 [(0, .ref tA)] [] _ 0 0
  show V l D cy MX5_clear 0 0 0 [.ref tA] _ Q 0 [(0, .ref tA)] [] (wX5_clear cy tA t_folkV t_countsV t_writtenV t_size) 0 0
  unfold fX5_clear at h
  refine V.aload_n dX5_clear_0 rfl 0 rfl ?_
  refine V.iconst (v := (0 : Int32)) dX5_clear_1 (by decide) ?_
  refine V.put (ws' := (wX5_clear cy tA t_folkV t_countsV t_writtenV (0 : Int32))) kfX5 tyX5 tyX5_ok nmX5 0 rfl rfl 3 (by decide) klX5_22 rfl (tyX5_ok 3 (by decide)) rfl rfl (Nat.le_of_ble_eq_true rfl) dX5_clear_2 rfl ?_
  have e9 := Option.some.inj h; subst e9
  exact V.vret rfl dX5_clear_5 (Nat.le_refl _) (Nat.le_refl _) hQ
theorem dX5_copyFrom_0 : decode cX5_copyFrom 0 = .ok (.aload_n 0, 1) := by decide +kernel
theorem dX5_copyFrom_1 : decode cX5_copyFrom 1 = .ok (.aload_n 1, 1) := by decide +kernel
theorem dX5_copyFrom_2 : decode cX5_copyFrom 2 = .ok (.getfield 22, 3) := by decide +kernel
theorem dX5_copyFrom_5 : decode cX5_copyFrom 5 = .ok (.aload_n 0, 1) := by decide +kernel
theorem dX5_copyFrom_6 : decode cX5_copyFrom 6 = .ok (.getfield 9, 3) := by decide +kernel
theorem dX5_copyFrom_9 : decode cX5_copyFrom 9 = .ok (.arraylength, 1) := by decide +kernel
theorem dX5_copyFrom_10 : decode cX5_copyFrom 10 = .ok (.invokestatic 26, 3) := by decide +kernel
theorem dX5_copyFrom_13 : decode cX5_copyFrom 13 = .ok (.putfield 22, 3) := by decide +kernel
theorem dX5_copyFrom_16 : decode cX5_copyFrom 16 = .ok (.aload_n 1, 1) := by decide +kernel
theorem dX5_copyFrom_17 : decode cX5_copyFrom 17 = .ok (.getfield 9, 3) := by decide +kernel
theorem dX5_copyFrom_20 : decode cX5_copyFrom 20 = .ok (.iconst 0, 1) := by decide +kernel
theorem dX5_copyFrom_21 : decode cX5_copyFrom 21 = .ok (.aload_n 0, 1) := by decide +kernel
theorem dX5_copyFrom_22 : decode cX5_copyFrom 22 = .ok (.getfield 9, 3) := by decide +kernel
theorem dX5_copyFrom_25 : decode cX5_copyFrom 25 = .ok (.iconst 0, 1) := by decide +kernel
theorem dX5_copyFrom_26 : decode cX5_copyFrom 26 = .ok (.aload_n 0, 1) := by decide +kernel
theorem dX5_copyFrom_27 : decode cX5_copyFrom 27 = .ok (.getfield 22, 3) := by decide +kernel
theorem dX5_copyFrom_30 : decode cX5_copyFrom 30 = .ok (.invokestatic 32, 3) := by decide +kernel
theorem dX5_copyFrom_33 : decode cX5_copyFrom 33 = .ok (.aload_n 1, 1) := by decide +kernel
theorem dX5_copyFrom_34 : decode cX5_copyFrom 34 = .ok (.getfield 15, 3) := by decide +kernel
theorem dX5_copyFrom_37 : decode cX5_copyFrom 37 = .ok (.iconst 0, 1) := by decide +kernel
theorem dX5_copyFrom_38 : decode cX5_copyFrom 38 = .ok (.aload_n 0, 1) := by decide +kernel
theorem dX5_copyFrom_39 : decode cX5_copyFrom 39 = .ok (.getfield 15, 3) := by decide +kernel
theorem dX5_copyFrom_42 : decode cX5_copyFrom 42 = .ok (.iconst 0, 1) := by decide +kernel
theorem dX5_copyFrom_43 : decode cX5_copyFrom 43 = .ok (.aload_n 0, 1) := by decide +kernel
theorem dX5_copyFrom_44 : decode cX5_copyFrom 44 = .ok (.getfield 22, 3) := by decide +kernel
theorem dX5_copyFrom_47 : decode cX5_copyFrom 47 = .ok (.invokestatic 32, 3) := by decide +kernel
theorem dX5_copyFrom_50 : decode cX5_copyFrom 50 = .ok (.return_, 1) := by decide +kernel
def wX5_copyFrom (cy : Nat → ClassId) (tA : Nat) (t_writtenV : Value) (t_size : Int32) (t_folkA : Nat) (t_folkN : Nat) (t_folk : Nat → Int32) (t_countsA : Nat) (t_countsN : Nat) (t_counts : Nat → Int32) (p1A : Nat) (p1_writtenV : Value) (p1_size : Int32) (p1_folkA : Nat) (p1_folkN : Nat) (p1_folk : Nat → Int32) (p1_countsA : Nat) (p1_countsN : Nat) (p1_counts : Nat → Int32) : va_W :=
  [(tA, .inr (5, [.ref t_folkA, .ref t_countsA, t_writtenV, .int t_size])), (t_folkA, .inl (cy 1, t_folkN, .inl t_folk)), (t_countsA, .inl (cy 1, t_countsN, .inl t_counts)), (p1A, .inr (5, [.ref p1_folkA, .ref p1_countsA, p1_writtenV, .int p1_size])), (p1_folkA, .inl (cy 1, p1_folkN, .inl p1_folk)), (p1_countsA, .inl (cy 1, p1_countsN, .inl p1_counts))]
noncomputable def fX5_copyFrom (F : Nat) (t_folkN : Nat) (t_countsN : Nat) (p1_size : Int32) (p1_folkN : Nat) (p1_folk : Nat → Int32) (p1_countsN : Nat) (p1_counts : Nat → Int32) (t_size : Int32) (t_folk : Nat → Int32) (t_counts : Nat → Int32) : Option ((Int32) × (Nat → Int32) × (Nat → Int32)) :=
  if (0 : Int32) < 0 ∨ (0 : Int32) < 0 ∨ (if (Int32.ofNat t_folkN) < p1_size then (Int32.ofNat t_folkN) else p1_size) < 0 ∨ p1_folkN < (0 : Int32).toNatClampNeg + (if (Int32.ofNat t_folkN) < p1_size then (Int32.ofNat t_folkN) else p1_size).toNatClampNeg ∨ t_folkN < (0 : Int32).toNatClampNeg + (if (Int32.ofNat t_folkN) < p1_size then (Int32.ofNat t_folkN) else p1_size).toNatClampNeg then none else (if (0 : Int32) < 0 ∨ (0 : Int32) < 0 ∨ (if (Int32.ofNat t_folkN) < p1_size then (Int32.ofNat t_folkN) else p1_size) < 0 ∨ p1_countsN < (0 : Int32).toNatClampNeg + (if (Int32.ofNat t_folkN) < p1_size then (Int32.ofNat t_folkN) else p1_size).toNatClampNeg ∨ t_countsN < (0 : Int32).toNatClampNeg + (if (Int32.ofNat t_folkN) < p1_size then (Int32.ofNat t_folkN) else p1_size).toNatClampNeg then none else (some (if (Int32.ofNat t_folkN) < p1_size then (Int32.ofNat t_folkN) else p1_size, va_cpy p1_folk t_folk (0 : Int32).toNatClampNeg (0 : Int32).toNatClampNeg (if (Int32.ofNat t_folkN) < p1_size then (Int32.ofNat t_folkN) else p1_size).toNatClampNeg, va_cpy p1_counts t_counts (0 : Int32).toNatClampNeg (0 : Int32).toNatClampNeg (if (Int32.ofNat t_folkN) < p1_size then (Int32.ofNat t_folkN) else p1_size).toNatClampNeg)))
theorem CX5_copyFrom {l : Launch} {D : va_G} {cy : Nat → ClassId} (F : Nat) (tA : Nat) (t_writtenV : Value) (t_size : Int32) (t_folkA : Nat) (t_folkN : Nat) (t_folk : Nat → Int32) (t_countsA : Nat) (t_countsN : Nat) (t_counts : Nat → Int32) (p1A : Nat) (p1_writtenV : Value) (p1_size : Int32) (p1_folkA : Nat) (p1_folkN : Nat) (p1_folk : Nat → Int32) (p1_countsA : Nat) (p1_countsN : Nat) (p1_counts : Nat → Int32) (R : (Int32) × (Nat → Int32) × (Nat → Int32)) (h : fX5_copyFrom F t_folkN t_countsN p1_size p1_folkN p1_folk p1_countsN p1_counts t_size t_folk t_counts = some R) : vMet l D cy MX5_copyFrom 0 0 0 [.ref tA, .ref p1A] (wX5_copyFrom cy tA t_writtenV t_size t_folkA t_folkN t_folk t_countsA t_countsN t_counts p1A p1_writtenV p1_size p1_folkA p1_folkN p1_folk p1_countsA p1_countsN p1_counts) (fun (r : Option Value) (w : va_W) => r = none ∧ w = (wX5_copyFrom cy tA t_writtenV R.1 t_folkA t_folkN R.2.1 t_countsA t_countsN R.2.2 p1A p1_writtenV p1_size p1_folkA p1_folkN p1_folk p1_countsA p1_countsN p1_counts)) := by
  refine vMet.start (by decide +kernel) (Nat.le_of_ble_eq_true rfl) ?_
  generalize hQe : (fun (r : Option Value) (w : va_W) => r = none ∧ w = (wX5_copyFrom cy tA t_writtenV R.1 t_folkA t_folkN R.2.1 t_countsA t_countsN R.2.2 p1A p1_writtenV p1_size p1_folkA p1_folkN p1_folk p1_countsA p1_countsN p1_counts)) = Q
  have hQ : Q none (wX5_copyFrom cy tA t_writtenV R.1 t_folkA t_folkN R.2.1 t_countsA t_countsN R.2.2 p1A p1_writtenV p1_size p1_folkA p1_folkN p1_folk p1_countsA p1_countsN p1_counts) := by rw [← hQe]; exact ⟨rfl, rfl⟩
  show V l D cy MX5_copyFrom 0 0 0 _ _ Q 0 [(0, .ref tA), (1, .ref p1A)] [] _ 0 0
  show V l D cy MX5_copyFrom 0 0 0 [.ref tA, .ref p1A] _ Q 0 [(0, .ref tA), (1, .ref p1A)] [] (wX5_copyFrom cy tA t_writtenV t_size t_folkA t_folkN t_folk t_countsA t_countsN t_counts p1A p1_writtenV p1_size p1_folkA p1_folkN p1_folk p1_countsA p1_countsN p1_counts) 0 0
  unfold fX5_copyFrom at h
  refine V.aload_n dX5_copyFrom_0 rfl 0 rfl ?_
  refine V.aload_n dX5_copyFrom_1 rfl 1 rfl ?_
  refine V.get kfX5 3 rfl rfl 3 (by decide) klX5_22 rfl dX5_copyFrom_2 ?_
  refine V.aload_n dX5_copyFrom_5 rfl 0 rfl ?_
  refine V.get kfX5 0 rfl rfl 0 (by decide) klX5_9 rfl dX5_copyFrom_6 ?_
  refine V.alen (v := Int32.ofNat t_folkN) (t0 := 1) dX5_copyFrom_9 1 rfl rfl rfl ?_
  refine V.mmin klX5_26 dX5_copyFrom_10 (Nat.le_of_ble_eq_true rfl) ⟨Nat.le_refl _, Nat.le_refl _⟩ ?_
  refine V.put (ws' := (wX5_copyFrom cy tA t_writtenV (if (Int32.ofNat t_folkN) < p1_size then (Int32.ofNat t_folkN) else p1_size) t_folkA t_folkN t_folk t_countsA t_countsN t_counts p1A p1_writtenV p1_size p1_folkA p1_folkN p1_folk p1_countsA p1_countsN p1_counts)) kfX5 tyX5 tyX5_ok nmX5 0 rfl rfl 3 (by decide) klX5_22 rfl (tyX5_ok 3 (by decide)) rfl rfl (Nat.le_of_ble_eq_true rfl) dX5_copyFrom_13 rfl ?_
  refine V.aload_n dX5_copyFrom_16 rfl 1 rfl ?_
  refine V.get kfX5 3 rfl rfl 0 (by decide) klX5_9 rfl dX5_copyFrom_17 ?_
  refine V.iconst (v := (0 : Int32)) dX5_copyFrom_20 (by decide) ?_
  refine V.aload_n dX5_copyFrom_21 rfl 0 rfl ?_
  refine V.get kfX5 0 rfl rfl 0 (by decide) klX5_9 rfl dX5_copyFrom_22 ?_
  refine V.iconst (v := (0 : Int32)) dX5_copyFrom_25 (by decide) ?_
  refine V.aload_n dX5_copyFrom_26 rfl 0 rfl ?_
  refine V.get kfX5 0 rfl rfl 3 (by decide) klX5_22 rfl dX5_copyFrom_27 ?_
  by_cases hb30 : (0 : Int32) < 0 ∨ (0 : Int32) < 0 ∨ (if (Int32.ofNat t_folkN) < p1_size then (Int32.ofNat t_folkN) else p1_size) < 0 ∨ p1_folkN < (0 : Int32).toNatClampNeg + (if (Int32.ofNat t_folkN) < p1_size then (Int32.ofNat t_folkN) else p1_size).toNatClampNeg ∨ t_folkN < (0 : Int32).toNatClampNeg + (if (Int32.ofNat t_folkN) < p1_size then (Int32.ofNat t_folkN) else p1_size).toNatClampNeg
  · exact vNone ((if_pos hb30).symm.trans h)
  replace h := (if_neg hb30).symm.trans h
  refine V.copyi (ws' := (wX5_copyFrom cy tA t_writtenV (if (Int32.ofNat t_folkN) < p1_size then (Int32.ofNat t_folkN) else p1_size) t_folkA t_folkN (va_cpy p1_folk t_folk (0 : Int32).toNatClampNeg (0 : Int32).toNatClampNeg (if (Int32.ofNat t_folkN) < p1_size then (Int32.ofNat t_folkN) else p1_size).toNatClampNeg) t_countsA t_countsN t_counts p1A p1_writtenV p1_size p1_folkA p1_folkN p1_folk p1_countsA p1_countsN p1_counts)) klX5_32 dX5_copyFrom_30 4 1 rfl rfl hb30 (Nat.le_of_ble_eq_true rfl) rfl ?_
  refine V.aload_n dX5_copyFrom_33 rfl 1 rfl ?_
  refine V.get kfX5 3 rfl rfl 1 (by decide) klX5_15 rfl dX5_copyFrom_34 ?_
  refine V.iconst (v := (0 : Int32)) dX5_copyFrom_37 (by decide) ?_
  refine V.aload_n dX5_copyFrom_38 rfl 0 rfl ?_
  refine V.get kfX5 0 rfl rfl 1 (by decide) klX5_15 rfl dX5_copyFrom_39 ?_
  refine V.iconst (v := (0 : Int32)) dX5_copyFrom_42 (by decide) ?_
  refine V.aload_n dX5_copyFrom_43 rfl 0 rfl ?_
  refine V.get kfX5 0 rfl rfl 3 (by decide) klX5_22 rfl dX5_copyFrom_44 ?_
  by_cases hb47 : (0 : Int32) < 0 ∨ (0 : Int32) < 0 ∨ (if (Int32.ofNat t_folkN) < p1_size then (Int32.ofNat t_folkN) else p1_size) < 0 ∨ p1_countsN < (0 : Int32).toNatClampNeg + (if (Int32.ofNat t_folkN) < p1_size then (Int32.ofNat t_folkN) else p1_size).toNatClampNeg ∨ t_countsN < (0 : Int32).toNatClampNeg + (if (Int32.ofNat t_folkN) < p1_size then (Int32.ofNat t_folkN) else p1_size).toNatClampNeg
  · exact vNone ((if_pos hb47).symm.trans h)
  replace h := (if_neg hb47).symm.trans h
  refine V.copyi (ws' := (wX5_copyFrom cy tA t_writtenV (if (Int32.ofNat t_folkN) < p1_size then (Int32.ofNat t_folkN) else p1_size) t_folkA t_folkN (va_cpy p1_folk t_folk (0 : Int32).toNatClampNeg (0 : Int32).toNatClampNeg (if (Int32.ofNat t_folkN) < p1_size then (Int32.ofNat t_folkN) else p1_size).toNatClampNeg) t_countsA t_countsN (va_cpy p1_counts t_counts (0 : Int32).toNatClampNeg (0 : Int32).toNatClampNeg (if (Int32.ofNat t_folkN) < p1_size then (Int32.ofNat t_folkN) else p1_size).toNatClampNeg) p1A p1_writtenV p1_size p1_folkA p1_folkN p1_folk p1_countsA p1_countsN p1_counts)) klX5_32 dX5_copyFrom_47 5 2 rfl rfl hb47 (Nat.le_of_ble_eq_true rfl) rfl ?_
  have e9 := Option.some.inj h; subst e9
  exact V.vret rfl dX5_copyFrom_50 (Nat.le_refl _) (Nat.le_refl _) hQ
theorem dX5_append_0 : decode cX5_append 0 = .ok (.aload_n 0, 1) := by decide +kernel
theorem dX5_append_1 : decode cX5_append 1 = .ok (.getfield 22, 3) := by decide +kernel
theorem dX5_append_4 : decode cX5_append 4 = .ok (.aload_n 0, 1) := by decide +kernel
theorem dX5_append_5 : decode cX5_append 5 = .ok (.getfield 9, 3) := by decide +kernel
theorem dX5_append_8 : decode cX5_append 8 = .ok (.arraylength, 1) := by decide +kernel
theorem dX5_append_9 : decode cX5_append 9 = .ok (.if_icmp .ge 37, 3) := by decide +kernel
theorem dX5_append_12 : decode cX5_append 12 = .ok (.iload_n 2, 1) := by decide +kernel
theorem dX5_append_13 : decode cX5_append 13 = .ok (.ifCond .eq 33, 3) := by decide +kernel
theorem dX5_append_16 : decode cX5_append 16 = .ok (.aload_n 0, 1) := by decide +kernel
theorem dX5_append_17 : decode cX5_append 17 = .ok (.getfield 9, 3) := by decide +kernel
theorem dX5_append_20 : decode cX5_append 20 = .ok (.aload_n 0, 1) := by decide +kernel
theorem dX5_append_21 : decode cX5_append 21 = .ok (.getfield 22, 3) := by decide +kernel
theorem dX5_append_24 : decode cX5_append 24 = .ok (.iload_n 1, 1) := by decide +kernel
theorem dX5_append_25 : decode cX5_append 25 = .ok (.iastore, 1) := by decide +kernel
theorem dX5_append_26 : decode cX5_append 26 = .ok (.aload_n 0, 1) := by decide +kernel
theorem dX5_append_27 : decode cX5_append 27 = .ok (.getfield 15, 3) := by decide +kernel
theorem dX5_append_30 : decode cX5_append 30 = .ok (.aload_n 0, 1) := by decide +kernel
theorem dX5_append_31 : decode cX5_append 31 = .ok (.getfield 22, 3) := by decide +kernel
theorem dX5_append_34 : decode cX5_append 34 = .ok (.iload_n 2, 1) := by decide +kernel
theorem dX5_append_35 : decode cX5_append 35 = .ok (.iastore, 1) := by decide +kernel
theorem dX5_append_36 : decode cX5_append 36 = .ok (.aload_n 0, 1) := by decide +kernel
theorem dX5_append_37 : decode cX5_append 37 = .ok (.dup, 1) := by decide +kernel
theorem dX5_append_38 : decode cX5_append 38 = .ok (.getfield 22, 3) := by decide +kernel
theorem dX5_append_41 : decode cX5_append 41 = .ok (.iconst 1, 1) := by decide +kernel
theorem dX5_append_42 : decode cX5_append 42 = .ok (.iadd, 1) := by decide +kernel
theorem dX5_append_43 : decode cX5_append 43 = .ok (.putfield 22, 3) := by decide +kernel
theorem dX5_append_46 : decode cX5_append 46 = .ok (.return_, 1) := by decide +kernel
def wX5_append (cy : Nat → ClassId) (tA : Nat) (t_writtenV : Value) (t_size : Int32) (t_folkA : Nat) (t_folkN : Nat) (t_folk : Nat → Int32) (t_countsA : Nat) (t_countsN : Nat) (t_counts : Nat → Int32) : va_W :=
  [(tA, .inr (5, [.ref t_folkA, .ref t_countsA, t_writtenV, .int t_size])), (t_folkA, .inl (cy 1, t_folkN, .inl t_folk)), (t_countsA, .inl (cy 1, t_countsN, .inl t_counts))]
noncomputable def bX5_append_L46 (F : Nat) (t_folkN : Nat) (t_countsN : Nat)  (t_size : Int32) (t_folk : Nat → Int32) (t_counts : Nat → Int32) : Option ((Int32) × (Nat → Int32) × (Nat → Int32)) :=
  some (t_size, t_folk, t_counts)
theorem vX5_append_L46 {l : Launch} {D : va_G} {cy : Nat → ClassId} {av : List Value} {ws0 : va_W} {Q : Option Value → va_W → Prop} (F : Nat) (tA : Nat) (t_writtenV : Value) (t_folkA : Nat) (t_folkN : Nat) (t_countsA : Nat) (t_countsN : Nat)  (t_size : Int32) (t_folk : Nat → Int32) (t_counts : Nat → Int32) (R : (Int32) × (Nat → Int32) × (Nat → Int32)) (h : bX5_append_L46 F t_folkN t_countsN  t_size t_folk t_counts = some R) (hQ : Q none (wX5_append cy tA t_writtenV R.1 t_folkA t_folkN R.2.1 t_countsA t_countsN R.2.2)) : V l D cy MX5_append 0 0 0 av ws0 Q 46 [] [] (wX5_append cy tA t_writtenV t_size t_folkA t_folkN t_folk t_countsA t_countsN t_counts) 0 0 := by
  unfold bX5_append_L46 at h
  have e9 := Option.some.inj h; subst e9
  exact V.vret rfl dX5_append_46 (Nat.le_refl _) (Nat.le_refl _) hQ
noncomputable def fX5_append (F : Nat) (t_folkN : Nat) (t_countsN : Nat) (a1 : Int32) (a2 : Int32) (t_size : Int32) (t_folk : Nat → Int32) (t_counts : Nat → Int32) : Option ((Int32) × (Nat → Int32) × (Nat → Int32)) :=
  if (Int32.ofNat t_folkN) ≤ t_size then (bX5_append_L46 F t_folkN t_countsN t_size t_folk t_counts) else (if a2 = 0 then (bX5_append_L46 F t_folkN t_countsN t_size t_folk t_counts) else (if t_size < 0 ∨ t_folkN ≤ t_size.toNatClampNeg then none else (if t_size < 0 ∨ t_countsN ≤ t_size.toNatClampNeg then none else (bX5_append_L46 F t_folkN t_countsN (t_size + (1 : Int32)) (upd t_folk t_size.toNatClampNeg a1) (upd t_counts t_size.toNatClampNeg a2)))))
theorem CX5_append {l : Launch} {D : va_G} {cy : Nat → ClassId} (F : Nat) (tA : Nat) (t_writtenV : Value) (t_size : Int32) (t_folkA : Nat) (t_folkN : Nat) (t_folk : Nat → Int32) (t_countsA : Nat) (t_countsN : Nat) (t_counts : Nat → Int32) (a1 : Int32) (a2 : Int32) (R : (Int32) × (Nat → Int32) × (Nat → Int32)) (h : fX5_append F t_folkN t_countsN a1 a2 t_size t_folk t_counts = some R) : vMet l D cy MX5_append 0 0 0 [.ref tA, .int a1, .int a2] (wX5_append cy tA t_writtenV t_size t_folkA t_folkN t_folk t_countsA t_countsN t_counts) (fun (r : Option Value) (w : va_W) => r = none ∧ w = (wX5_append cy tA t_writtenV R.1 t_folkA t_folkN R.2.1 t_countsA t_countsN R.2.2)) := by
  refine vMet.start (by decide +kernel) (Nat.le_of_ble_eq_true rfl) ?_
  generalize hQe : (fun (r : Option Value) (w : va_W) => r = none ∧ w = (wX5_append cy tA t_writtenV R.1 t_folkA t_folkN R.2.1 t_countsA t_countsN R.2.2)) = Q
  have hQ : Q none (wX5_append cy tA t_writtenV R.1 t_folkA t_folkN R.2.1 t_countsA t_countsN R.2.2) := by rw [← hQe]; exact ⟨rfl, rfl⟩
  show V l D cy MX5_append 0 0 0 _ _ Q 0 [(0, .ref tA), (1, .int a1), (2, .int a2)] [] _ 0 0
  show V l D cy MX5_append 0 0 0 [.ref tA, .int a1, .int a2] _ Q 0 [(0, .ref tA), (1, .int a1), (2, .int a2)] [] (wX5_append cy tA t_writtenV t_size t_folkA t_folkN t_folk t_countsA t_countsN t_counts) 0 0
  unfold fX5_append at h
  refine V.aload_n dX5_append_0 rfl 0 rfl ?_
  refine V.get kfX5 0 rfl rfl 3 (by decide) klX5_22 rfl dX5_append_1 ?_
  refine V.aload_n dX5_append_4 rfl 0 rfl ?_
  refine V.get kfX5 0 rfl rfl 0 (by decide) klX5_9 rfl dX5_append_5 ?_
  refine V.alen (v := Int32.ofNat t_folkN) (t0 := 1) dX5_append_8 1 rfl rfl rfl ?_
  refine V.icmp_ge (tgt := 46) dX5_append_9 (by decide) (fun hc9 => ?_) (fun hc9 => ?_)
  · replace h := (if_pos hc9).symm.trans h
    refine V.lvs [] rfl ?_
    exact vX5_append_L46 _ _ _ _ _ _ _   _ _ _ R h hQ
  · replace h := (if_neg hc9).symm.trans h
    refine V.iload_n dX5_append_12 rfl 2 rfl ?_
    refine V.if_eq (tgt := 46) dX5_append_13 (by decide) (fun hc13 => ?_) (fun hc13 => ?_)
    · replace h := (if_pos hc13).symm.trans h
      refine V.lvs [] rfl ?_
      exact vX5_append_L46 _ _ _ _ _ _ _   _ _ _ R h hQ
    · replace h := (if_neg hc13).symm.trans h
      refine V.aload_n dX5_append_16 rfl 0 rfl ?_
      refine V.get kfX5 0 rfl rfl 0 (by decide) klX5_9 rfl dX5_append_17 ?_
      refine V.aload_n dX5_append_20 rfl 0 rfl ?_
      refine V.get kfX5 0 rfl rfl 3 (by decide) klX5_22 rfl dX5_append_21 ?_
      refine V.iload_n dX5_append_24 rfl 1 rfl ?_
      by_cases hb25 : t_size < 0 ∨ t_folkN ≤ t_size.toNatClampNeg
      · exact vNone ((if_pos hb25).symm.trans h)
      replace h := (if_neg hb25).symm.trans h
      refine V.iast (ws' := (wX5_append cy tA t_writtenV t_size t_folkA t_folkN (upd t_folk t_size.toNatClampNeg a1) t_countsA t_countsN t_counts)) dX5_append_25 1 rfl hb25 rfl ?_
      refine V.aload_n dX5_append_26 rfl 0 rfl ?_
      refine V.get kfX5 0 rfl rfl 1 (by decide) klX5_15 rfl dX5_append_27 ?_
      refine V.aload_n dX5_append_30 rfl 0 rfl ?_
      refine V.get kfX5 0 rfl rfl 3 (by decide) klX5_22 rfl dX5_append_31 ?_
      refine V.iload_n dX5_append_34 rfl 2 rfl ?_
      by_cases hb35 : t_size < 0 ∨ t_countsN ≤ t_size.toNatClampNeg
      · exact vNone ((if_pos hb35).symm.trans h)
      replace h := (if_neg hb35).symm.trans h
      refine V.iast (ws' := (wX5_append cy tA t_writtenV t_size t_folkA t_folkN (upd t_folk t_size.toNatClampNeg a1) t_countsA t_countsN (upd t_counts t_size.toNatClampNeg a2))) dX5_append_35 2 rfl hb35 rfl ?_
      refine V.aload_n dX5_append_36 rfl 0 rfl ?_
      refine V.dup dX5_append_37 rfl ?_
      refine V.get kfX5 0 rfl rfl 3 (by decide) klX5_22 rfl dX5_append_38 ?_
      refine V.iconst (v := (1 : Int32)) dX5_append_41 (by decide) ?_
      refine V.iadd dX5_append_42 ?_
      refine V.put (ws' := (wX5_append cy tA t_writtenV (t_size + (1 : Int32)) t_folkA t_folkN (upd t_folk t_size.toNatClampNeg a1) t_countsA t_countsN (upd t_counts t_size.toNatClampNeg a2))) kfX5 tyX5 tyX5_ok nmX5 0 rfl rfl 3 (by decide) klX5_22 rfl (tyX5_ok 3 (by decide)) rfl rfl (Nat.le_of_ble_eq_true rfl) dX5_append_43 rfl ?_
      refine V.lvs [] rfl ?_
      exact vX5_append_L46 _ _ _ _ _ _ _   _ _ _ R h hQ
theorem dX5_takeOut_0 : decode cX5_takeOut 0 = .ok (.iload_n 1, 1) := by decide +kernel
theorem dX5_takeOut_1 : decode cX5_takeOut 1 = .ok (.istore_n 2, 1) := by decide +kernel
theorem dX5_takeOut_2 : decode cX5_takeOut 2 = .ok (.iload_n 2, 1) := by decide +kernel
theorem dX5_takeOut_3 : decode cX5_takeOut 3 = .ok (.iconst 1, 1) := by decide +kernel
theorem dX5_takeOut_4 : decode cX5_takeOut 4 = .ok (.iadd, 1) := by decide +kernel
theorem dX5_takeOut_5 : decode cX5_takeOut 5 = .ok (.aload_n 0, 1) := by decide +kernel
theorem dX5_takeOut_6 : decode cX5_takeOut 6 = .ok (.getfield 22, 3) := by decide +kernel
theorem dX5_takeOut_9 : decode cX5_takeOut 9 = .ok (.if_icmp .ge 37, 3) := by decide +kernel
theorem dX5_takeOut_12 : decode cX5_takeOut 12 = .ok (.aload_n 0, 1) := by decide +kernel
theorem dX5_takeOut_13 : decode cX5_takeOut 13 = .ok (.getfield 9, 3) := by decide +kernel
theorem dX5_takeOut_16 : decode cX5_takeOut 16 = .ok (.iload_n 2, 1) := by decide +kernel
theorem dX5_takeOut_17 : decode cX5_takeOut 17 = .ok (.aload_n 0, 1) := by decide +kernel
theorem dX5_takeOut_18 : decode cX5_takeOut 18 = .ok (.getfield 9, 3) := by decide +kernel
theorem dX5_takeOut_21 : decode cX5_takeOut 21 = .ok (.iload_n 2, 1) := by decide +kernel
theorem dX5_takeOut_22 : decode cX5_takeOut 22 = .ok (.iconst 1, 1) := by decide +kernel
theorem dX5_takeOut_23 : decode cX5_takeOut 23 = .ok (.iadd, 1) := by decide +kernel
theorem dX5_takeOut_24 : decode cX5_takeOut 24 = .ok (.iaload, 1) := by decide +kernel
theorem dX5_takeOut_25 : decode cX5_takeOut 25 = .ok (.iastore, 1) := by decide +kernel
theorem dX5_takeOut_26 : decode cX5_takeOut 26 = .ok (.aload_n 0, 1) := by decide +kernel
theorem dX5_takeOut_27 : decode cX5_takeOut 27 = .ok (.getfield 15, 3) := by decide +kernel
theorem dX5_takeOut_30 : decode cX5_takeOut 30 = .ok (.iload_n 2, 1) := by decide +kernel
theorem dX5_takeOut_31 : decode cX5_takeOut 31 = .ok (.aload_n 0, 1) := by decide +kernel
theorem dX5_takeOut_32 : decode cX5_takeOut 32 = .ok (.getfield 15, 3) := by decide +kernel
theorem dX5_takeOut_35 : decode cX5_takeOut 35 = .ok (.iload_n 2, 1) := by decide +kernel
theorem dX5_takeOut_36 : decode cX5_takeOut 36 = .ok (.iconst 1, 1) := by decide +kernel
theorem dX5_takeOut_37 : decode cX5_takeOut 37 = .ok (.iadd, 1) := by decide +kernel
theorem dX5_takeOut_38 : decode cX5_takeOut 38 = .ok (.iaload, 1) := by decide +kernel
theorem dX5_takeOut_39 : decode cX5_takeOut 39 = .ok (.iastore, 1) := by decide +kernel
theorem dX5_takeOut_40 : decode cX5_takeOut 40 = .ok (.iinc 2 1, 3) := by decide +kernel
theorem dX5_takeOut_43 : decode cX5_takeOut 43 = .ok (.goto (-41), 3) := by decide +kernel
theorem dX5_takeOut_46 : decode cX5_takeOut 46 = .ok (.aload_n 0, 1) := by decide +kernel
theorem dX5_takeOut_47 : decode cX5_takeOut 47 = .ok (.dup, 1) := by decide +kernel
theorem dX5_takeOut_48 : decode cX5_takeOut 48 = .ok (.getfield 22, 3) := by decide +kernel
theorem dX5_takeOut_51 : decode cX5_takeOut 51 = .ok (.iconst 1, 1) := by decide +kernel
theorem dX5_takeOut_52 : decode cX5_takeOut 52 = .ok (.isub, 1) := by decide +kernel
theorem dX5_takeOut_53 : decode cX5_takeOut 53 = .ok (.putfield 22, 3) := by decide +kernel
theorem dX5_takeOut_56 : decode cX5_takeOut 56 = .ok (.return_, 1) := by decide +kernel
def wX5_takeOut (cy : Nat → ClassId) (tA : Nat) (t_writtenV : Value) (t_size : Int32) (t_folkA : Nat) (t_folkN : Nat) (t_folk : Nat → Int32) (t_countsA : Nat) (t_countsN : Nat) (t_counts : Nat → Int32) : va_W :=
  [(tA, .inr (5, [.ref t_folkA, .ref t_countsA, t_writtenV, .int t_size])), (t_folkA, .inl (cy 1, t_folkN, .inl t_folk)), (t_countsA, .inl (cy 1, t_countsN, .inl t_counts))]
noncomputable def bX5_takeOut_L2 (F : Nat) (t_folkN : Nat) (t_countsN : Nat) (k2 : Int32 → Int32 → (Nat → Int32) → (Nat → Int32) → Option ((Int32) × (Nat → Int32) × (Nat → Int32))) (x2 : Int32) (t_size : Int32) (t_folk : Nat → Int32) (t_counts : Nat → Int32) : Option ((Int32) × (Nat → Int32) × (Nat → Int32)) :=
  if t_size ≤ (x2 + (1 : Int32)) then (some (t_size - (1 : Int32), t_folk, t_counts)) else (if (x2 + (1 : Int32)) < 0 ∨ t_folkN ≤ (x2 + (1 : Int32)).toNatClampNeg then none else (if x2 < 0 ∨ t_folkN ≤ x2.toNatClampNeg then none else (if (x2 + (1 : Int32)) < 0 ∨ t_countsN ≤ (x2 + (1 : Int32)).toNatClampNeg then none else (if x2 < 0 ∨ t_countsN ≤ x2.toNatClampNeg then none else (k2 (x2 + (1 : Int32)) t_size (upd t_folk x2.toNatClampNeg (t_folk (x2 + (1 : Int32)).toNatClampNeg)) (upd t_counts x2.toNatClampNeg (t_counts (x2 + (1 : Int32)).toNatClampNeg)))))))
theorem vbX5_takeOut_L2 {l : Launch} {D : va_G} {cy : Nat → ClassId} {av : List Value} {ws0 : va_W} {Q : Option Value → va_W → Prop} (F : Nat) (tA : Nat) (t_writtenV : Value) (t_folkA : Nat) (t_folkN : Nat) (t_countsA : Nat) (t_countsN : Nat) (k2 : Int32 → Int32 → (Nat → Int32) → (Nat → Int32) → Option ((Int32) × (Nat → Int32) × (Nat → Int32))) (hk2 : ∀ (x2 : Int32) (t_size : Int32) (t_folk : Nat → Int32) (t_counts : Nat → Int32) (R : (Int32) × (Nat → Int32) × (Nat → Int32)), k2 x2 t_size t_folk t_counts = some R → Q none (wX5_takeOut cy tA t_writtenV R.1 t_folkA t_folkN R.2.1 t_countsA t_countsN R.2.2) → V l D cy MX5_takeOut 0 0 0 av ws0 Q 2 [(0, .ref tA), (2, .int x2)] [] (wX5_takeOut cy tA t_writtenV t_size t_folkA t_folkN t_folk t_countsA t_countsN t_counts) 0 0) (x2 : Int32) (t_size : Int32) (t_folk : Nat → Int32) (t_counts : Nat → Int32) (R : (Int32) × (Nat → Int32) × (Nat → Int32)) (h : bX5_takeOut_L2 F t_folkN t_countsN k2 x2 t_size t_folk t_counts = some R) (hQ : Q none (wX5_takeOut cy tA t_writtenV R.1 t_folkA t_folkN R.2.1 t_countsA t_countsN R.2.2)) : V l D cy MX5_takeOut 0 0 0 av ws0 Q 2 [(0, .ref tA), (2, .int x2)] [] (wX5_takeOut cy tA t_writtenV t_size t_folkA t_folkN t_folk t_countsA t_countsN t_counts) 0 0 := by
  unfold bX5_takeOut_L2 at h
  refine V.iload_n dX5_takeOut_2 rfl 1 rfl ?_
  refine V.iconst (v := (1 : Int32)) dX5_takeOut_3 (by decide) ?_
  refine V.iadd dX5_takeOut_4 ?_
  refine V.aload_n dX5_takeOut_5 rfl 0 rfl ?_
  refine V.get kfX5 0 rfl rfl 3 (by decide) klX5_22 rfl dX5_takeOut_6 ?_
  refine V.icmp_ge (tgt := 46) dX5_takeOut_9 (by decide) (fun hc9 => ?_) (fun hc9 => ?_)
  · replace h := (if_pos hc9).symm.trans h
    refine V.aload_n dX5_takeOut_46 rfl 0 rfl ?_
    refine V.dup dX5_takeOut_47 rfl ?_
    refine V.get kfX5 0 rfl rfl 3 (by decide) klX5_22 rfl dX5_takeOut_48 ?_
    refine V.iconst (v := (1 : Int32)) dX5_takeOut_51 (by decide) ?_
    refine V.isub dX5_takeOut_52 ?_
    refine V.put (ws' := (wX5_takeOut cy tA t_writtenV (t_size - (1 : Int32)) t_folkA t_folkN t_folk t_countsA t_countsN t_counts)) kfX5 tyX5 tyX5_ok nmX5 0 rfl rfl 3 (by decide) klX5_22 rfl (tyX5_ok 3 (by decide)) rfl rfl (Nat.le_of_ble_eq_true rfl) dX5_takeOut_53 rfl ?_
    have e9 := Option.some.inj h; subst e9
    exact V.vret rfl dX5_takeOut_56 (Nat.le_refl _) (Nat.le_refl _) hQ
  · replace h := (if_neg hc9).symm.trans h
    refine V.aload_n dX5_takeOut_12 rfl 0 rfl ?_
    refine V.get kfX5 0 rfl rfl 0 (by decide) klX5_9 rfl dX5_takeOut_13 ?_
    refine V.iload_n dX5_takeOut_16 rfl 1 rfl ?_
    refine V.aload_n dX5_takeOut_17 rfl 0 rfl ?_
    refine V.get kfX5 0 rfl rfl 0 (by decide) klX5_9 rfl dX5_takeOut_18 ?_
    refine V.iload_n dX5_takeOut_21 rfl 1 rfl ?_
    refine V.iconst (v := (1 : Int32)) dX5_takeOut_22 (by decide) ?_
    refine V.iadd dX5_takeOut_23 ?_
    by_cases hb24 : (x2 + (1 : Int32)) < 0 ∨ t_folkN ≤ (x2 + (1 : Int32)).toNatClampNeg
    · exact vNone ((if_pos hb24).symm.trans h)
    replace h := (if_neg hb24).symm.trans h
    refine V.iald dX5_takeOut_24 1 rfl hb24 ?_
    by_cases hb25 : x2 < 0 ∨ t_folkN ≤ x2.toNatClampNeg
    · exact vNone ((if_pos hb25).symm.trans h)
    replace h := (if_neg hb25).symm.trans h
    refine V.iast (ws' := (wX5_takeOut cy tA t_writtenV t_size t_folkA t_folkN (upd t_folk x2.toNatClampNeg (t_folk (x2 + (1 : Int32)).toNatClampNeg)) t_countsA t_countsN t_counts)) dX5_takeOut_25 1 rfl hb25 rfl ?_
    refine V.aload_n dX5_takeOut_26 rfl 0 rfl ?_
    refine V.get kfX5 0 rfl rfl 1 (by decide) klX5_15 rfl dX5_takeOut_27 ?_
    refine V.iload_n dX5_takeOut_30 rfl 1 rfl ?_
    refine V.aload_n dX5_takeOut_31 rfl 0 rfl ?_
    refine V.get kfX5 0 rfl rfl 1 (by decide) klX5_15 rfl dX5_takeOut_32 ?_
    refine V.iload_n dX5_takeOut_35 rfl 1 rfl ?_
    refine V.iconst (v := (1 : Int32)) dX5_takeOut_36 (by decide) ?_
    refine V.iadd dX5_takeOut_37 ?_
    by_cases hb38 : (x2 + (1 : Int32)) < 0 ∨ t_countsN ≤ (x2 + (1 : Int32)).toNatClampNeg
    · exact vNone ((if_pos hb38).symm.trans h)
    replace h := (if_neg hb38).symm.trans h
    refine V.iald dX5_takeOut_38 2 rfl hb38 ?_
    by_cases hb39 : x2 < 0 ∨ t_countsN ≤ x2.toNatClampNeg
    · exact vNone ((if_pos hb39).symm.trans h)
    replace h := (if_neg hb39).symm.trans h
    refine V.iast (ws' := (wX5_takeOut cy tA t_writtenV t_size t_folkA t_folkN (upd t_folk x2.toNatClampNeg (t_folk (x2 + (1 : Int32)).toNatClampNeg)) t_countsA t_countsN (upd t_counts x2.toNatClampNeg (t_counts (x2 + (1 : Int32)).toNatClampNeg)))) dX5_takeOut_39 2 rfl hb39 rfl ?_
    refine V.iinc (v := x2 + (1 : Int32)) (lv' := [(2, .int (x2 + (1 : Int32))), (0, .ref tA)]) dX5_takeOut_40 1 rfl rfl (by decide) rfl ?_
    refine V.goto (tgt := 2) dX5_takeOut_43 (by decide) ?_
    refine V.lvs [1, 0] rfl ?_
    exact hk2 _ _ _ _ R h hQ
noncomputable def fX5_takeOut_L2 (F : Nat) (t_folkN : Nat) (t_countsN : Nat)  : Nat → Int32 → Int32 → (Nat → Int32) → (Nat → Int32) → Option ((Int32) × (Nat → Int32) × (Nat → Int32))
  | 0 => fun _ _ _ _ => none
  | n + 1 => bX5_takeOut_L2 F t_folkN t_countsN (fX5_takeOut_L2 F t_folkN t_countsN  n)
theorem vX5_takeOut_L2 {l : Launch} {D : va_G} {cy : Nat → ClassId} {av : List Value} {ws0 : va_W} {Q : Option Value → va_W → Prop} (F : Nat) (tA : Nat) (t_writtenV : Value) (t_folkA : Nat) (t_folkN : Nat) (t_countsA : Nat) (t_countsN : Nat)  : ∀ (n : Nat) (x2 : Int32) (t_size : Int32) (t_folk : Nat → Int32) (t_counts : Nat → Int32) (R : (Int32) × (Nat → Int32) × (Nat → Int32)), fX5_takeOut_L2 F t_folkN t_countsN  n x2 t_size t_folk t_counts = some R → Q none (wX5_takeOut cy tA t_writtenV R.1 t_folkA t_folkN R.2.1 t_countsA t_countsN R.2.2) → V l D cy MX5_takeOut 0 0 0 av ws0 Q 2 [(0, .ref tA), (2, .int x2)] [] (wX5_takeOut cy tA t_writtenV t_size t_folkA t_folkN t_folk t_countsA t_countsN t_counts) 0 0 := by
  intro n
  induction n with
  | zero => intro x2 t_size t_folk t_counts R h; exact vNone h
  | succ n ih => intro x2 t_size t_folk t_counts R h hQ; exact vbX5_takeOut_L2 F tA t_writtenV t_folkA t_folkN t_countsA t_countsN _ ih x2 t_size t_folk t_counts R h hQ
noncomputable def fX5_takeOut (F : Nat) (t_folkN : Nat) (t_countsN : Nat) (a1 : Int32) (t_size : Int32) (t_folk : Nat → Int32) (t_counts : Nat → Int32) : Option ((Int32) × (Nat → Int32) × (Nat → Int32)) :=
  fX5_takeOut_L2 F t_folkN t_countsN F a1 t_size t_folk t_counts
theorem CX5_takeOut {l : Launch} {D : va_G} {cy : Nat → ClassId} (F : Nat) (tA : Nat) (t_writtenV : Value) (t_size : Int32) (t_folkA : Nat) (t_folkN : Nat) (t_folk : Nat → Int32) (t_countsA : Nat) (t_countsN : Nat) (t_counts : Nat → Int32) (a1 : Int32) (R : (Int32) × (Nat → Int32) × (Nat → Int32)) (h : fX5_takeOut F t_folkN t_countsN a1 t_size t_folk t_counts = some R) : vMet l D cy MX5_takeOut 0 0 0 [.ref tA, .int a1] (wX5_takeOut cy tA t_writtenV t_size t_folkA t_folkN t_folk t_countsA t_countsN t_counts) (fun (r : Option Value) (w : va_W) => r = none ∧ w = (wX5_takeOut cy tA t_writtenV R.1 t_folkA t_folkN R.2.1 t_countsA t_countsN R.2.2)) := by
  refine vMet.start (by decide +kernel) (Nat.le_of_ble_eq_true rfl) ?_
  generalize hQe : (fun (r : Option Value) (w : va_W) => r = none ∧ w = (wX5_takeOut cy tA t_writtenV R.1 t_folkA t_folkN R.2.1 t_countsA t_countsN R.2.2)) = Q
  have hQ : Q none (wX5_takeOut cy tA t_writtenV R.1 t_folkA t_folkN R.2.1 t_countsA t_countsN R.2.2) := by rw [← hQe]; exact ⟨rfl, rfl⟩
  show V l D cy MX5_takeOut 0 0 0 _ _ Q 0 [(0, .ref tA), (1, .int a1)] [] _ 0 0
  show V l D cy MX5_takeOut 0 0 0 [.ref tA, .int a1] _ Q 0 [(0, .ref tA), (1, .int a1)] [] (wX5_takeOut cy tA t_writtenV t_size t_folkA t_folkN t_folk t_countsA t_countsN t_counts) 0 0
  unfold fX5_takeOut at h
  refine V.iload_n dX5_takeOut_0 rfl 1 rfl ?_
  refine V.istore_n (lv' := [(2, .int a1), (0, .ref tA), (1, .int a1)]) dX5_takeOut_1 rfl (by decide) rfl ?_
  refine V.lvs [1, 0] rfl ?_
  exact vX5_takeOut_L2 _ _ _ _ _ _ _  _ _ _ _ _ R h hQ
theorem dX5_folkBits_0 : decode cX5_folkBits 0 = .ok (.iconst 0, 1) := by decide +kernel
theorem dX5_folkBits_1 : decode cX5_folkBits 1 = .ok (.istore_n 1, 1) := by decide +kernel
theorem dX5_folkBits_2 : decode cX5_folkBits 2 = .ok (.iconst 0, 1) := by decide +kernel
theorem dX5_folkBits_3 : decode cX5_folkBits 3 = .ok (.istore_n 2, 1) := by decide +kernel
theorem dX5_folkBits_4 : decode cX5_folkBits 4 = .ok (.iload_n 2, 1) := by decide +kernel
theorem dX5_folkBits_5 : decode cX5_folkBits 5 = .ok (.aload_n 0, 1) := by decide +kernel
theorem dX5_folkBits_6 : decode cX5_folkBits 6 = .ok (.getfield 22, 3) := by decide +kernel
theorem dX5_folkBits_9 : decode cX5_folkBits 9 = .ok (.if_icmp .ge 20, 3) := by decide +kernel
theorem dX5_folkBits_12 : decode cX5_folkBits 12 = .ok (.iload_n 1, 1) := by decide +kernel
theorem dX5_folkBits_13 : decode cX5_folkBits 13 = .ok (.iconst 1, 1) := by decide +kernel
theorem dX5_folkBits_14 : decode cX5_folkBits 14 = .ok (.aload_n 0, 1) := by decide +kernel
theorem dX5_folkBits_15 : decode cX5_folkBits 15 = .ok (.getfield 9, 3) := by decide +kernel
theorem dX5_folkBits_18 : decode cX5_folkBits 18 = .ok (.iload_n 2, 1) := by decide +kernel
theorem dX5_folkBits_19 : decode cX5_folkBits 19 = .ok (.iaload, 1) := by decide +kernel
theorem dX5_folkBits_20 : decode cX5_folkBits 20 = .ok (.ishl, 1) := by decide +kernel
theorem dX5_folkBits_21 : decode cX5_folkBits 21 = .ok (.ior, 1) := by decide +kernel
theorem dX5_folkBits_22 : decode cX5_folkBits 22 = .ok (.istore_n 1, 1) := by decide +kernel
theorem dX5_folkBits_23 : decode cX5_folkBits 23 = .ok (.iinc 2 1, 3) := by decide +kernel
theorem dX5_folkBits_26 : decode cX5_folkBits 26 = .ok (.goto (-22), 3) := by decide +kernel
theorem dX5_folkBits_29 : decode cX5_folkBits 29 = .ok (.iload_n 1, 1) := by decide +kernel
theorem dX5_folkBits_30 : decode cX5_folkBits 30 = .ok (.ireturn, 1) := by decide +kernel
def wX5_folkBits (cy : Nat → ClassId) (tA : Nat) (t_countsV : Value) (t_writtenV : Value) (t_size : Int32) (t_folkA : Nat) (t_folkN : Nat) (t_folk : Nat → Int32) : va_W :=
  [(tA, .inr (5, [.ref t_folkA, t_countsV, t_writtenV, .int t_size])), (t_folkA, .inl (cy 1, t_folkN, .inl t_folk))]
noncomputable def bX5_folkBits_L4 (F : Nat) (t_size : Int32) (t_folkN : Nat) (t_folk : Nat → Int32) (k4 : Int32 → Int32 → Option (Int32)) (x1 : Int32) (x2 : Int32) : Option (Int32) :=
  if t_size ≤ x2 then (some x1) else (if x2 < 0 ∨ t_folkN ≤ x2.toNatClampNeg then none else (k4 (x1 ||| ((1 : Int32) <<< ((t_folk (x2).toNatClampNeg) &&& 31))) (x2 + (1 : Int32))))
theorem vbX5_folkBits_L4 {l : Launch} {D : va_G} {cy : Nat → ClassId} {av : List Value} {ws0 : va_W} {Q : Option Value → va_W → Prop} (F : Nat) (tA : Nat) (t_countsV : Value) (t_writtenV : Value) (t_size : Int32) (t_folkA : Nat) (t_folkN : Nat) (t_folk : Nat → Int32) (k4 : Int32 → Int32 → Option (Int32)) (hk4 : ∀ (x1 : Int32) (x2 : Int32) (R : Int32), k4 x1 x2 = some R → Q (some (.int R)) (wX5_folkBits cy tA t_countsV t_writtenV t_size t_folkA t_folkN t_folk) → V l D cy MX5_folkBits 0 0 0 av ws0 Q 4 [(0, .ref tA), (1, .int x1), (2, .int x2)] [] (wX5_folkBits cy tA t_countsV t_writtenV t_size t_folkA t_folkN t_folk) 0 0) (x1 : Int32) (x2 : Int32) (R : Int32) (h : bX5_folkBits_L4 F t_size t_folkN t_folk k4 x1 x2 = some R) (hQ : Q (some (.int R)) (wX5_folkBits cy tA t_countsV t_writtenV t_size t_folkA t_folkN t_folk)) : V l D cy MX5_folkBits 0 0 0 av ws0 Q 4 [(0, .ref tA), (1, .int x1), (2, .int x2)] [] (wX5_folkBits cy tA t_countsV t_writtenV t_size t_folkA t_folkN t_folk) 0 0 := by
  unfold bX5_folkBits_L4 at h
  refine V.iload_n dX5_folkBits_4 rfl 2 rfl ?_
  refine V.aload_n dX5_folkBits_5 rfl 0 rfl ?_
  refine V.get kfX5 0 rfl rfl 3 (by decide) klX5_22 rfl dX5_folkBits_6 ?_
  refine V.icmp_ge (tgt := 29) dX5_folkBits_9 (by decide) (fun hc9 => ?_) (fun hc9 => ?_)
  · replace h := (if_pos hc9).symm.trans h
    refine V.iload_n dX5_folkBits_29 rfl 1 rfl ?_
    have e9 := Option.some.inj h; subst e9
    exact V.iret (ty := .int) rfl rfl dX5_folkBits_30 (Nat.le_refl _) (Nat.le_refl _) hQ
  · replace h := (if_neg hc9).symm.trans h
    refine V.iload_n dX5_folkBits_12 rfl 1 rfl ?_
    refine V.iconst (v := (1 : Int32)) dX5_folkBits_13 (by decide) ?_
    refine V.aload_n dX5_folkBits_14 rfl 0 rfl ?_
    refine V.get kfX5 0 rfl rfl 0 (by decide) klX5_9 rfl dX5_folkBits_15 ?_
    refine V.iload_n dX5_folkBits_18 rfl 2 rfl ?_
    by_cases hb19 : x2 < 0 ∨ t_folkN ≤ x2.toNatClampNeg
    · exact vNone ((if_pos hb19).symm.trans h)
    replace h := (if_neg hb19).symm.trans h
    refine V.iald dX5_folkBits_19 1 rfl hb19 ?_
    refine V.ishl dX5_folkBits_20 ?_
    refine V.ior dX5_folkBits_21 ?_
    refine V.istore_n (lv' := [(1, .int (x1 ||| ((1 : Int32) <<< ((t_folk (x2).toNatClampNeg) &&& 31)))), (0, .ref tA), (2, .int x2)]) dX5_folkBits_22 rfl (by decide) rfl ?_
    refine V.iinc (v := x2 + (1 : Int32)) (lv' := [(2, .int (x2 + (1 : Int32))), (1, .int (x1 ||| ((1 : Int32) <<< ((t_folk (x2).toNatClampNeg) &&& 31)))), (0, .ref tA)]) dX5_folkBits_23 2 rfl rfl (by decide) rfl ?_
    refine V.goto (tgt := 4) dX5_folkBits_26 (by decide) ?_
    refine V.lvs [2, 1, 0] rfl ?_
    exact hk4 _ _ R h hQ
noncomputable def fX5_folkBits_L4 (F : Nat) (t_size : Int32) (t_folkN : Nat) (t_folk : Nat → Int32)  : Nat → Int32 → Int32 → Option (Int32)
  | 0 => fun _ _ => none
  | n + 1 => bX5_folkBits_L4 F t_size t_folkN t_folk (fX5_folkBits_L4 F t_size t_folkN t_folk  n)
theorem vX5_folkBits_L4 {l : Launch} {D : va_G} {cy : Nat → ClassId} {av : List Value} {ws0 : va_W} {Q : Option Value → va_W → Prop} (F : Nat) (tA : Nat) (t_countsV : Value) (t_writtenV : Value) (t_size : Int32) (t_folkA : Nat) (t_folkN : Nat) (t_folk : Nat → Int32)  : ∀ (n : Nat) (x1 : Int32) (x2 : Int32) (R : Int32), fX5_folkBits_L4 F t_size t_folkN t_folk  n x1 x2 = some R → Q (some (.int R)) (wX5_folkBits cy tA t_countsV t_writtenV t_size t_folkA t_folkN t_folk) → V l D cy MX5_folkBits 0 0 0 av ws0 Q 4 [(0, .ref tA), (1, .int x1), (2, .int x2)] [] (wX5_folkBits cy tA t_countsV t_writtenV t_size t_folkA t_folkN t_folk) 0 0 := by
  intro n
  induction n with
  | zero => intro x1 x2 R h; exact vNone h
  | succ n ih => intro x1 x2 R h hQ; exact vbX5_folkBits_L4 F tA t_countsV t_writtenV t_size t_folkA t_folkN t_folk _ ih x1 x2 R h hQ
noncomputable def fX5_folkBits (F : Nat) (t_size : Int32) (t_folkN : Nat) (t_folk : Nat → Int32) : Option (Int32) :=
  fX5_folkBits_L4 F t_size t_folkN t_folk F (0 : Int32) (0 : Int32)
theorem CX5_folkBits {l : Launch} {D : va_G} {cy : Nat → ClassId} (F : Nat) (tA : Nat) (t_countsV : Value) (t_writtenV : Value) (t_size : Int32) (t_folkA : Nat) (t_folkN : Nat) (t_folk : Nat → Int32) (R : Int32) (h : fX5_folkBits F t_size t_folkN t_folk = some R) : vMet l D cy MX5_folkBits 0 0 0 [.ref tA] (wX5_folkBits cy tA t_countsV t_writtenV t_size t_folkA t_folkN t_folk) (fun (r : Option Value) (w : va_W) => r = (some (.int R)) ∧ w = (wX5_folkBits cy tA t_countsV t_writtenV t_size t_folkA t_folkN t_folk)) := by
  refine vMet.start (by decide +kernel) (Nat.le_of_ble_eq_true rfl) ?_
  generalize hQe : (fun (r : Option Value) (w : va_W) => r = (some (.int R)) ∧ w = (wX5_folkBits cy tA t_countsV t_writtenV t_size t_folkA t_folkN t_folk)) = Q
  have hQ : Q (some (.int R)) (wX5_folkBits cy tA t_countsV t_writtenV t_size t_folkA t_folkN t_folk) := by rw [← hQe]; exact ⟨rfl, rfl⟩
  show V l D cy MX5_folkBits 0 0 0 _ _ Q 0 [(0, .ref tA)] [] _ 0 0
  show V l D cy MX5_folkBits 0 0 0 [.ref tA] _ Q 0 [(0, .ref tA)] [] (wX5_folkBits cy tA t_countsV t_writtenV t_size t_folkA t_folkN t_folk) 0 0
  unfold fX5_folkBits at h
  refine V.iconst (v := (0 : Int32)) dX5_folkBits_0 (by decide) ?_
  refine V.istore_n (lv' := [(1, .int (0 : Int32)), (0, .ref tA)]) dX5_folkBits_1 rfl (by decide) rfl ?_
  refine V.iconst (v := (0 : Int32)) dX5_folkBits_2 (by decide) ?_
  refine V.istore_n (lv' := [(2, .int (0 : Int32)), (1, .int (0 : Int32)), (0, .ref tA)]) dX5_folkBits_3 rfl (by decide) rfl ?_
  refine V.lvs [2, 1, 0] rfl ?_
  exact vX5_folkBits_L4 _ _ _ _ _ _ _ _  _ _ _ R h hQ
theorem dX5_bundlesOf_0 : decode cX5_bundlesOf 0 = .ok (.iconst 0, 1) := by decide +kernel
theorem dX5_bundlesOf_1 : decode cX5_bundlesOf 1 = .ok (.istore_n 2, 1) := by decide +kernel
theorem dX5_bundlesOf_2 : decode cX5_bundlesOf 2 = .ok (.iconst 0, 1) := by decide +kernel
theorem dX5_bundlesOf_3 : decode cX5_bundlesOf 3 = .ok (.istore_n 3, 1) := by decide +kernel
theorem dX5_bundlesOf_4 : decode cX5_bundlesOf 4 = .ok (.iload_n 3, 1) := by decide +kernel
theorem dX5_bundlesOf_5 : decode cX5_bundlesOf 5 = .ok (.aload_n 0, 1) := by decide +kernel
theorem dX5_bundlesOf_6 : decode cX5_bundlesOf 6 = .ok (.getfield 22, 3) := by decide +kernel
theorem dX5_bundlesOf_9 : decode cX5_bundlesOf 9 = .ok (.if_icmp .ge 27, 3) := by decide +kernel
theorem dX5_bundlesOf_12 : decode cX5_bundlesOf 12 = .ok (.iload_n 2, 1) := by decide +kernel
theorem dX5_bundlesOf_13 : decode cX5_bundlesOf 13 = .ok (.aload_n 0, 1) := by decide +kernel
theorem dX5_bundlesOf_14 : decode cX5_bundlesOf 14 = .ok (.getfield 9, 3) := by decide +kernel
theorem dX5_bundlesOf_17 : decode cX5_bundlesOf 17 = .ok (.iload_n 3, 1) := by decide +kernel
theorem dX5_bundlesOf_18 : decode cX5_bundlesOf 18 = .ok (.iaload, 1) := by decide +kernel
theorem dX5_bundlesOf_19 : decode cX5_bundlesOf 19 = .ok (.iload_n 1, 1) := by decide +kernel
theorem dX5_bundlesOf_20 : decode cX5_bundlesOf 20 = .ok (.if_icmp .ne 7, 3) := by decide +kernel
theorem dX5_bundlesOf_23 : decode cX5_bundlesOf 23 = .ok (.iconst 1, 1) := by decide +kernel
theorem dX5_bundlesOf_24 : decode cX5_bundlesOf 24 = .ok (.goto 4, 3) := by decide +kernel
theorem dX5_bundlesOf_27 : decode cX5_bundlesOf 27 = .ok (.iconst 0, 1) := by decide +kernel
theorem dX5_bundlesOf_28 : decode cX5_bundlesOf 28 = .ok (.iadd, 1) := by decide +kernel
theorem dX5_bundlesOf_29 : decode cX5_bundlesOf 29 = .ok (.istore_n 2, 1) := by decide +kernel
theorem dX5_bundlesOf_30 : decode cX5_bundlesOf 30 = .ok (.iinc 3 1, 3) := by decide +kernel
theorem dX5_bundlesOf_33 : decode cX5_bundlesOf 33 = .ok (.goto (-29), 3) := by decide +kernel
theorem dX5_bundlesOf_36 : decode cX5_bundlesOf 36 = .ok (.iload_n 2, 1) := by decide +kernel
theorem dX5_bundlesOf_37 : decode cX5_bundlesOf 37 = .ok (.ireturn, 1) := by decide +kernel
def wX5_bundlesOf (cy : Nat → ClassId) (tA : Nat) (t_countsV : Value) (t_writtenV : Value) (t_size : Int32) (t_folkA : Nat) (t_folkN : Nat) (t_folk : Nat → Int32) : va_W :=
  [(tA, .inr (5, [.ref t_folkA, t_countsV, t_writtenV, .int t_size])), (t_folkA, .inl (cy 1, t_folkN, .inl t_folk))]
noncomputable def bX5_bundlesOf_L28 (F : Nat) (t_size : Int32) (t_folkN : Nat) (t_folk : Nat → Int32) (k4 : Int32 → Int32 → Int32 → Option (Int32)) (x1 : Int32) (x3 : Int32) (s0 : Int32) (s1 : Int32) : Option (Int32) :=
  k4 x1 (s0 + s1) (x3 + (1 : Int32))
theorem vX5_bundlesOf_L28 {l : Launch} {D : va_G} {cy : Nat → ClassId} {av : List Value} {ws0 : va_W} {Q : Option Value → va_W → Prop} (F : Nat) (tA : Nat) (t_countsV : Value) (t_writtenV : Value) (t_size : Int32) (t_folkA : Nat) (t_folkN : Nat) (t_folk : Nat → Int32) (k4 : Int32 → Int32 → Int32 → Option (Int32)) (hk4 : ∀ (x1 : Int32) (x2 : Int32) (x3 : Int32) (R : Int32), k4 x1 x2 x3 = some R → Q (some (.int R)) (wX5_bundlesOf cy tA t_countsV t_writtenV t_size t_folkA t_folkN t_folk) → V l D cy MX5_bundlesOf 0 0 0 av ws0 Q 4 [(0, .ref tA), (1, .int x1), (2, .int x2), (3, .int x3)] [] (wX5_bundlesOf cy tA t_countsV t_writtenV t_size t_folkA t_folkN t_folk) 0 0) (x1 : Int32) (x3 : Int32) (s0 : Int32) (s1 : Int32) (R : Int32) (h : bX5_bundlesOf_L28 F t_size t_folkN t_folk k4 x1 x3 s0 s1 = some R) (hQ : Q (some (.int R)) (wX5_bundlesOf cy tA t_countsV t_writtenV t_size t_folkA t_folkN t_folk)) : V l D cy MX5_bundlesOf 0 0 0 av ws0 Q 28 [(0, .ref tA), (1, .int x1), (3, .int x3)] [.int s1, .int s0] (wX5_bundlesOf cy tA t_countsV t_writtenV t_size t_folkA t_folkN t_folk) 0 0 := by
  unfold bX5_bundlesOf_L28 at h
  refine V.iadd dX5_bundlesOf_28 ?_
  refine V.istore_n (lv' := [(2, .int (s0 + s1)), (0, .ref tA), (1, .int x1), (3, .int x3)]) dX5_bundlesOf_29 rfl (by decide) rfl ?_
  refine V.iinc (v := x3 + (1 : Int32)) (lv' := [(3, .int (x3 + (1 : Int32))), (2, .int (s0 + s1)), (0, .ref tA), (1, .int x1)]) dX5_bundlesOf_30 3 rfl rfl (by decide) rfl ?_
  refine V.goto (tgt := 4) dX5_bundlesOf_33 (by decide) ?_
  refine V.lvs [2, 3, 1, 0] rfl ?_
  exact hk4 _ _ _ R h hQ
noncomputable def bX5_bundlesOf_L4 (F : Nat) (t_size : Int32) (t_folkN : Nat) (t_folk : Nat → Int32) (k4 : Int32 → Int32 → Int32 → Option (Int32)) (x1 : Int32) (x2 : Int32) (x3 : Int32) : Option (Int32) :=
  if t_size ≤ x3 then (some x2) else (if x3 < 0 ∨ t_folkN ≤ x3.toNatClampNeg then none else (if (t_folk (x3).toNatClampNeg) = x1 then (bX5_bundlesOf_L28 F t_size t_folkN t_folk k4 x1 x3 x2 (1 : Int32)) else (bX5_bundlesOf_L28 F t_size t_folkN t_folk k4 x1 x3 x2 (0 : Int32))))
theorem vbX5_bundlesOf_L4 {l : Launch} {D : va_G} {cy : Nat → ClassId} {av : List Value} {ws0 : va_W} {Q : Option Value → va_W → Prop} (F : Nat) (tA : Nat) (t_countsV : Value) (t_writtenV : Value) (t_size : Int32) (t_folkA : Nat) (t_folkN : Nat) (t_folk : Nat → Int32) (k4 : Int32 → Int32 → Int32 → Option (Int32)) (hk4 : ∀ (x1 : Int32) (x2 : Int32) (x3 : Int32) (R : Int32), k4 x1 x2 x3 = some R → Q (some (.int R)) (wX5_bundlesOf cy tA t_countsV t_writtenV t_size t_folkA t_folkN t_folk) → V l D cy MX5_bundlesOf 0 0 0 av ws0 Q 4 [(0, .ref tA), (1, .int x1), (2, .int x2), (3, .int x3)] [] (wX5_bundlesOf cy tA t_countsV t_writtenV t_size t_folkA t_folkN t_folk) 0 0) (x1 : Int32) (x2 : Int32) (x3 : Int32) (R : Int32) (h : bX5_bundlesOf_L4 F t_size t_folkN t_folk k4 x1 x2 x3 = some R) (hQ : Q (some (.int R)) (wX5_bundlesOf cy tA t_countsV t_writtenV t_size t_folkA t_folkN t_folk)) : V l D cy MX5_bundlesOf 0 0 0 av ws0 Q 4 [(0, .ref tA), (1, .int x1), (2, .int x2), (3, .int x3)] [] (wX5_bundlesOf cy tA t_countsV t_writtenV t_size t_folkA t_folkN t_folk) 0 0 := by
  unfold bX5_bundlesOf_L4 at h
  refine V.iload_n dX5_bundlesOf_4 rfl 3 rfl ?_
  refine V.aload_n dX5_bundlesOf_5 rfl 0 rfl ?_
  refine V.get kfX5 0 rfl rfl 3 (by decide) klX5_22 rfl dX5_bundlesOf_6 ?_
  refine V.icmp_ge (tgt := 36) dX5_bundlesOf_9 (by decide) (fun hc9 => ?_) (fun hc9 => ?_)
  · replace h := (if_pos hc9).symm.trans h
    refine V.iload_n dX5_bundlesOf_36 rfl 2 rfl ?_
    have e9 := Option.some.inj h; subst e9
    exact V.iret (ty := .int) rfl rfl dX5_bundlesOf_37 (Nat.le_refl _) (Nat.le_refl _) hQ
  · replace h := (if_neg hc9).symm.trans h
    refine V.iload_n dX5_bundlesOf_12 rfl 2 rfl ?_
    refine V.aload_n dX5_bundlesOf_13 rfl 0 rfl ?_
    refine V.get kfX5 0 rfl rfl 0 (by decide) klX5_9 rfl dX5_bundlesOf_14 ?_
    refine V.iload_n dX5_bundlesOf_17 rfl 3 rfl ?_
    by_cases hb18 : x3 < 0 ∨ t_folkN ≤ x3.toNatClampNeg
    · exact vNone ((if_pos hb18).symm.trans h)
    replace h := (if_neg hb18).symm.trans h
    refine V.iald dX5_bundlesOf_18 1 rfl hb18 ?_
    refine V.iload_n dX5_bundlesOf_19 rfl 1 rfl ?_
    refine V.icmp_ne (tgt := 27) dX5_bundlesOf_20 (by decide) (fun hc20 => ?_) (fun hc20 => ?_)
    · replace h := (if_neg hc20).symm.trans h
      refine V.iconst (v := (0 : Int32)) dX5_bundlesOf_27 (by decide) ?_
      refine V.lvs [0, 1, 3] rfl ?_
      exact vX5_bundlesOf_L28 _ _ _ _ _ _ _ _ _ hk4  _ _ _ _ R h hQ
    · replace h := (if_pos hc20).symm.trans h
      refine V.iconst (v := (1 : Int32)) dX5_bundlesOf_23 (by decide) ?_
      refine V.goto (tgt := 28) dX5_bundlesOf_24 (by decide) ?_
      refine V.lvs [0, 1, 3] rfl ?_
      exact vX5_bundlesOf_L28 _ _ _ _ _ _ _ _ _ hk4  _ _ _ _ R h hQ
noncomputable def fX5_bundlesOf_L4 (F : Nat) (t_size : Int32) (t_folkN : Nat) (t_folk : Nat → Int32)  : Nat → Int32 → Int32 → Int32 → Option (Int32)
  | 0 => fun _ _ _ => none
  | n + 1 => bX5_bundlesOf_L4 F t_size t_folkN t_folk (fX5_bundlesOf_L4 F t_size t_folkN t_folk  n)
theorem vX5_bundlesOf_L4 {l : Launch} {D : va_G} {cy : Nat → ClassId} {av : List Value} {ws0 : va_W} {Q : Option Value → va_W → Prop} (F : Nat) (tA : Nat) (t_countsV : Value) (t_writtenV : Value) (t_size : Int32) (t_folkA : Nat) (t_folkN : Nat) (t_folk : Nat → Int32)  : ∀ (n : Nat) (x1 : Int32) (x2 : Int32) (x3 : Int32) (R : Int32), fX5_bundlesOf_L4 F t_size t_folkN t_folk  n x1 x2 x3 = some R → Q (some (.int R)) (wX5_bundlesOf cy tA t_countsV t_writtenV t_size t_folkA t_folkN t_folk) → V l D cy MX5_bundlesOf 0 0 0 av ws0 Q 4 [(0, .ref tA), (1, .int x1), (2, .int x2), (3, .int x3)] [] (wX5_bundlesOf cy tA t_countsV t_writtenV t_size t_folkA t_folkN t_folk) 0 0 := by
  intro n
  induction n with
  | zero => intro x1 x2 x3 R h; exact vNone h
  | succ n ih => intro x1 x2 x3 R h hQ; exact vbX5_bundlesOf_L4 F tA t_countsV t_writtenV t_size t_folkA t_folkN t_folk _ ih x1 x2 x3 R h hQ
noncomputable def fX5_bundlesOf (F : Nat) (t_size : Int32) (t_folkN : Nat) (t_folk : Nat → Int32) (a1 : Int32) : Option (Int32) :=
  fX5_bundlesOf_L4 F t_size t_folkN t_folk F a1 (0 : Int32) (0 : Int32)
theorem CX5_bundlesOf {l : Launch} {D : va_G} {cy : Nat → ClassId} (F : Nat) (tA : Nat) (t_countsV : Value) (t_writtenV : Value) (t_size : Int32) (t_folkA : Nat) (t_folkN : Nat) (t_folk : Nat → Int32) (a1 : Int32) (R : Int32) (h : fX5_bundlesOf F t_size t_folkN t_folk a1 = some R) : vMet l D cy MX5_bundlesOf 0 0 0 [.ref tA, .int a1] (wX5_bundlesOf cy tA t_countsV t_writtenV t_size t_folkA t_folkN t_folk) (fun (r : Option Value) (w : va_W) => r = (some (.int R)) ∧ w = (wX5_bundlesOf cy tA t_countsV t_writtenV t_size t_folkA t_folkN t_folk)) := by
  refine vMet.start (by decide +kernel) (Nat.le_of_ble_eq_true rfl) ?_
  generalize hQe : (fun (r : Option Value) (w : va_W) => r = (some (.int R)) ∧ w = (wX5_bundlesOf cy tA t_countsV t_writtenV t_size t_folkA t_folkN t_folk)) = Q
  have hQ : Q (some (.int R)) (wX5_bundlesOf cy tA t_countsV t_writtenV t_size t_folkA t_folkN t_folk) := by rw [← hQe]; exact ⟨rfl, rfl⟩
  show V l D cy MX5_bundlesOf 0 0 0 _ _ Q 0 [(0, .ref tA), (1, .int a1)] [] _ 0 0
  show V l D cy MX5_bundlesOf 0 0 0 [.ref tA, .int a1] _ Q 0 [(0, .ref tA), (1, .int a1)] [] (wX5_bundlesOf cy tA t_countsV t_writtenV t_size t_folkA t_folkN t_folk) 0 0
  unfold fX5_bundlesOf at h
  refine V.iconst (v := (0 : Int32)) dX5_bundlesOf_0 (by decide) ?_
  refine V.istore_n (lv' := [(2, .int (0 : Int32)), (0, .ref tA), (1, .int a1)]) dX5_bundlesOf_1 rfl (by decide) rfl ?_
  refine V.iconst (v := (0 : Int32)) dX5_bundlesOf_2 (by decide) ?_
  refine V.istore_n (lv' := [(3, .int (0 : Int32)), (2, .int (0 : Int32)), (0, .ref tA), (1, .int a1)]) dX5_bundlesOf_3 rfl (by decide) rfl ?_
  refine V.lvs [2, 3, 1, 0] rfl ?_
  exact vX5_bundlesOf_L4 _ _ _ _ _ _ _ _  _ _ _ _ R h hQ
theorem dX5_firstOf_0 : decode cX5_firstOf 0 = .ok (.iconst 0, 1) := by decide +kernel
theorem dX5_firstOf_1 : decode cX5_firstOf 1 = .ok (.istore_n 2, 1) := by decide +kernel
theorem dX5_firstOf_2 : decode cX5_firstOf 2 = .ok (.iload_n 2, 1) := by decide +kernel
theorem dX5_firstOf_3 : decode cX5_firstOf 3 = .ok (.aload_n 0, 1) := by decide +kernel
theorem dX5_firstOf_4 : decode cX5_firstOf 4 = .ok (.getfield 22, 3) := by decide +kernel
theorem dX5_firstOf_7 : decode cX5_firstOf 7 = .ok (.if_icmp .ge 21, 3) := by decide +kernel
theorem dX5_firstOf_10 : decode cX5_firstOf 10 = .ok (.aload_n 0, 1) := by decide +kernel
theorem dX5_firstOf_11 : decode cX5_firstOf 11 = .ok (.getfield 9, 3) := by decide +kernel
theorem dX5_firstOf_14 : decode cX5_firstOf 14 = .ok (.iload_n 2, 1) := by decide +kernel
theorem dX5_firstOf_15 : decode cX5_firstOf 15 = .ok (.iaload, 1) := by decide +kernel
theorem dX5_firstOf_16 : decode cX5_firstOf 16 = .ok (.iload_n 1, 1) := by decide +kernel
theorem dX5_firstOf_17 : decode cX5_firstOf 17 = .ok (.if_icmp .ne 5, 3) := by decide +kernel
theorem dX5_firstOf_20 : decode cX5_firstOf 20 = .ok (.iload_n 2, 1) := by decide +kernel
theorem dX5_firstOf_21 : decode cX5_firstOf 21 = .ok (.ireturn, 1) := by decide +kernel
theorem dX5_firstOf_22 : decode cX5_firstOf 22 = .ok (.iinc 2 1, 3) := by decide +kernel
theorem dX5_firstOf_25 : decode cX5_firstOf 25 = .ok (.goto (-23), 3) := by decide +kernel
theorem dX5_firstOf_28 : decode cX5_firstOf 28 = .ok (.iconst (-1), 1) := by decide +kernel
theorem dX5_firstOf_29 : decode cX5_firstOf 29 = .ok (.ireturn, 1) := by decide +kernel
def wX5_firstOf (cy : Nat → ClassId) (tA : Nat) (t_countsV : Value) (t_writtenV : Value) (t_size : Int32) (t_folkA : Nat) (t_folkN : Nat) (t_folk : Nat → Int32) : va_W :=
  [(tA, .inr (5, [.ref t_folkA, t_countsV, t_writtenV, .int t_size])), (t_folkA, .inl (cy 1, t_folkN, .inl t_folk))]
noncomputable def bX5_firstOf_L2 (F : Nat) (t_size : Int32) (t_folkN : Nat) (t_folk : Nat → Int32) (k2 : Int32 → Int32 → Option (Int32)) (x1 : Int32) (x2 : Int32) : Option (Int32) :=
  if t_size ≤ x2 then (some (-1 : Int32)) else (if x2 < 0 ∨ t_folkN ≤ x2.toNatClampNeg then none else (if (t_folk (x2).toNatClampNeg) = x1 then (some x2) else (k2 x1 (x2 + (1 : Int32)))))
theorem vbX5_firstOf_L2 {l : Launch} {D : va_G} {cy : Nat → ClassId} {av : List Value} {ws0 : va_W} {Q : Option Value → va_W → Prop} (F : Nat) (tA : Nat) (t_countsV : Value) (t_writtenV : Value) (t_size : Int32) (t_folkA : Nat) (t_folkN : Nat) (t_folk : Nat → Int32) (k2 : Int32 → Int32 → Option (Int32)) (hk2 : ∀ (x1 : Int32) (x2 : Int32) (R : Int32), k2 x1 x2 = some R → Q (some (.int R)) (wX5_firstOf cy tA t_countsV t_writtenV t_size t_folkA t_folkN t_folk) → V l D cy MX5_firstOf 0 0 0 av ws0 Q 2 [(0, .ref tA), (1, .int x1), (2, .int x2)] [] (wX5_firstOf cy tA t_countsV t_writtenV t_size t_folkA t_folkN t_folk) 0 0) (x1 : Int32) (x2 : Int32) (R : Int32) (h : bX5_firstOf_L2 F t_size t_folkN t_folk k2 x1 x2 = some R) (hQ : Q (some (.int R)) (wX5_firstOf cy tA t_countsV t_writtenV t_size t_folkA t_folkN t_folk)) : V l D cy MX5_firstOf 0 0 0 av ws0 Q 2 [(0, .ref tA), (1, .int x1), (2, .int x2)] [] (wX5_firstOf cy tA t_countsV t_writtenV t_size t_folkA t_folkN t_folk) 0 0 := by
  unfold bX5_firstOf_L2 at h
  refine V.iload_n dX5_firstOf_2 rfl 2 rfl ?_
  refine V.aload_n dX5_firstOf_3 rfl 0 rfl ?_
  refine V.get kfX5 0 rfl rfl 3 (by decide) klX5_22 rfl dX5_firstOf_4 ?_
  refine V.icmp_ge (tgt := 28) dX5_firstOf_7 (by decide) (fun hc7 => ?_) (fun hc7 => ?_)
  · replace h := (if_pos hc7).symm.trans h
    refine V.iconst (v := (-1 : Int32)) dX5_firstOf_28 (by decide) ?_
    have e9 := Option.some.inj h; subst e9
    exact V.iret (ty := .int) rfl rfl dX5_firstOf_29 (Nat.le_refl _) (Nat.le_refl _) hQ
  · replace h := (if_neg hc7).symm.trans h
    refine V.aload_n dX5_firstOf_10 rfl 0 rfl ?_
    refine V.get kfX5 0 rfl rfl 0 (by decide) klX5_9 rfl dX5_firstOf_11 ?_
    refine V.iload_n dX5_firstOf_14 rfl 2 rfl ?_
    by_cases hb15 : x2 < 0 ∨ t_folkN ≤ x2.toNatClampNeg
    · exact vNone ((if_pos hb15).symm.trans h)
    replace h := (if_neg hb15).symm.trans h
    refine V.iald dX5_firstOf_15 1 rfl hb15 ?_
    refine V.iload_n dX5_firstOf_16 rfl 1 rfl ?_
    refine V.icmp_ne (tgt := 22) dX5_firstOf_17 (by decide) (fun hc17 => ?_) (fun hc17 => ?_)
    · replace h := (if_neg hc17).symm.trans h
      refine V.iinc (v := x2 + (1 : Int32)) (lv' := [(2, .int (x2 + (1 : Int32))), (0, .ref tA), (1, .int x1)]) dX5_firstOf_22 2 rfl rfl (by decide) rfl ?_
      refine V.goto (tgt := 2) dX5_firstOf_25 (by decide) ?_
      refine V.lvs [1, 2, 0] rfl ?_
      exact hk2 _ _ R h hQ
    · replace h := (if_pos hc17).symm.trans h
      refine V.iload_n dX5_firstOf_20 rfl 2 rfl ?_
      have e9 := Option.some.inj h; subst e9
      exact V.iret (ty := .int) rfl rfl dX5_firstOf_21 (Nat.le_refl _) (Nat.le_refl _) hQ
noncomputable def fX5_firstOf_L2 (F : Nat) (t_size : Int32) (t_folkN : Nat) (t_folk : Nat → Int32)  : Nat → Int32 → Int32 → Option (Int32)
  | 0 => fun _ _ => none
  | n + 1 => bX5_firstOf_L2 F t_size t_folkN t_folk (fX5_firstOf_L2 F t_size t_folkN t_folk  n)
theorem vX5_firstOf_L2 {l : Launch} {D : va_G} {cy : Nat → ClassId} {av : List Value} {ws0 : va_W} {Q : Option Value → va_W → Prop} (F : Nat) (tA : Nat) (t_countsV : Value) (t_writtenV : Value) (t_size : Int32) (t_folkA : Nat) (t_folkN : Nat) (t_folk : Nat → Int32)  : ∀ (n : Nat) (x1 : Int32) (x2 : Int32) (R : Int32), fX5_firstOf_L2 F t_size t_folkN t_folk  n x1 x2 = some R → Q (some (.int R)) (wX5_firstOf cy tA t_countsV t_writtenV t_size t_folkA t_folkN t_folk) → V l D cy MX5_firstOf 0 0 0 av ws0 Q 2 [(0, .ref tA), (1, .int x1), (2, .int x2)] [] (wX5_firstOf cy tA t_countsV t_writtenV t_size t_folkA t_folkN t_folk) 0 0 := by
  intro n
  induction n with
  | zero => intro x1 x2 R h; exact vNone h
  | succ n ih => intro x1 x2 R h hQ; exact vbX5_firstOf_L2 F tA t_countsV t_writtenV t_size t_folkA t_folkN t_folk _ ih x1 x2 R h hQ
noncomputable def fX5_firstOf (F : Nat) (t_size : Int32) (t_folkN : Nat) (t_folk : Nat → Int32) (a1 : Int32) : Option (Int32) :=
  fX5_firstOf_L2 F t_size t_folkN t_folk F a1 (0 : Int32)
theorem CX5_firstOf {l : Launch} {D : va_G} {cy : Nat → ClassId} (F : Nat) (tA : Nat) (t_countsV : Value) (t_writtenV : Value) (t_size : Int32) (t_folkA : Nat) (t_folkN : Nat) (t_folk : Nat → Int32) (a1 : Int32) (R : Int32) (h : fX5_firstOf F t_size t_folkN t_folk a1 = some R) : vMet l D cy MX5_firstOf 0 0 0 [.ref tA, .int a1] (wX5_firstOf cy tA t_countsV t_writtenV t_size t_folkA t_folkN t_folk) (fun (r : Option Value) (w : va_W) => r = (some (.int R)) ∧ w = (wX5_firstOf cy tA t_countsV t_writtenV t_size t_folkA t_folkN t_folk)) := by
  refine vMet.start (by decide +kernel) (Nat.le_of_ble_eq_true rfl) ?_
  generalize hQe : (fun (r : Option Value) (w : va_W) => r = (some (.int R)) ∧ w = (wX5_firstOf cy tA t_countsV t_writtenV t_size t_folkA t_folkN t_folk)) = Q
  have hQ : Q (some (.int R)) (wX5_firstOf cy tA t_countsV t_writtenV t_size t_folkA t_folkN t_folk) := by rw [← hQe]; exact ⟨rfl, rfl⟩
  show V l D cy MX5_firstOf 0 0 0 _ _ Q 0 [(0, .ref tA), (1, .int a1)] [] _ 0 0
  show V l D cy MX5_firstOf 0 0 0 [.ref tA, .int a1] _ Q 0 [(0, .ref tA), (1, .int a1)] [] (wX5_firstOf cy tA t_countsV t_writtenV t_size t_folkA t_folkN t_folk) 0 0
  unfold fX5_firstOf at h
  refine V.iconst (v := (0 : Int32)) dX5_firstOf_0 (by decide) ?_
  refine V.istore_n (lv' := [(2, .int (0 : Int32)), (0, .ref tA), (1, .int a1)]) dX5_firstOf_1 rfl (by decide) rfl ?_
  refine V.lvs [1, 2, 0] rfl ?_
  exact vX5_firstOf_L2 _ _ _ _ _ _ _ _  _ _ _ R h hQ
theorem dX5_tiesIn_0 : decode cX5_tiesIn 0 = .ok (.iload_n 2, 1) := by decide +kernel
theorem dX5_tiesIn_1 : decode cX5_tiesIn 1 = .ok (.ifCond .lt 11, 3) := by decide +kernel
theorem dX5_tiesIn_4 : decode cX5_tiesIn 4 = .ok (.iload_n 2, 1) := by decide +kernel
theorem dX5_tiesIn_5 : decode cX5_tiesIn 5 = .ok (.aload_n 0, 1) := by decide +kernel
theorem dX5_tiesIn_6 : decode cX5_tiesIn 6 = .ok (.getfield 22, 3) := by decide +kernel
theorem dX5_tiesIn_9 : decode cX5_tiesIn 9 = .ok (.if_icmp .lt 5, 3) := by decide +kernel
theorem dX5_tiesIn_12 : decode cX5_tiesIn 12 = .ok (.iconst 0, 1) := by decide +kernel
theorem dX5_tiesIn_13 : decode cX5_tiesIn 13 = .ok (.ireturn, 1) := by decide +kernel
theorem dX5_tiesIn_14 : decode cX5_tiesIn 14 = .ok (.aload_n 1, 1) := by decide +kernel
theorem dX5_tiesIn_15 : decode cX5_tiesIn 15 = .ok (.getfield 74, 3) := by decide +kernel
theorem dX5_tiesIn_18 : decode cX5_tiesIn 18 = .ok (.aload_n 0, 1) := by decide +kernel
theorem dX5_tiesIn_19 : decode cX5_tiesIn 19 = .ok (.getfield 9, 3) := by decide +kernel
theorem dX5_tiesIn_22 : decode cX5_tiesIn 22 = .ok (.iload_n 2, 1) := by decide +kernel
theorem dX5_tiesIn_23 : decode cX5_tiesIn 23 = .ok (.iaload, 1) := by decide +kernel
theorem dX5_tiesIn_24 : decode cX5_tiesIn 24 = .ok (.iaload, 1) := by decide +kernel
theorem dX5_tiesIn_25 : decode cX5_tiesIn 25 = .ok (.istore_n 3, 1) := by decide +kernel
theorem dX5_tiesIn_26 : decode cX5_tiesIn 26 = .ok (.aload_n 0, 1) := by decide +kernel
theorem dX5_tiesIn_27 : decode cX5_tiesIn 27 = .ok (.getfield 15, 3) := by decide +kernel
theorem dX5_tiesIn_30 : decode cX5_tiesIn 30 = .ok (.iload_n 2, 1) := by decide +kernel
theorem dX5_tiesIn_31 : decode cX5_tiesIn 31 = .ok (.iaload, 1) := by decide +kernel
theorem dX5_tiesIn_32 : decode cX5_tiesIn 32 = .ok (.istore 4, 2) := by decide +kernel
theorem dX5_tiesIn_34 : decode cX5_tiesIn 34 = .ok (.iload_n 3, 1) := by decide +kernel
theorem dX5_tiesIn_35 : decode cX5_tiesIn 35 = .ok (.ifCond .le 18, 3) := by decide +kernel
theorem dX5_tiesIn_38 : decode cX5_tiesIn 38 = .ok (.iconst 2, 1) := by decide +kernel
theorem dX5_tiesIn_39 : decode cX5_tiesIn 39 = .ok (.iload 4, 2) := by decide +kernel
theorem dX5_tiesIn_41 : decode cX5_tiesIn 41 = .ok (.imul, 1) := by decide +kernel
theorem dX5_tiesIn_42 : decode cX5_tiesIn 42 = .ok (.iload_n 3, 1) := by decide +kernel
theorem dX5_tiesIn_43 : decode cX5_tiesIn 43 = .ok (.if_icmp .le 10, 3) := by decide +kernel
theorem dX5_tiesIn_46 : decode cX5_tiesIn 46 = .ok (.iload 4, 2) := by decide +kernel
theorem dX5_tiesIn_48 : decode cX5_tiesIn 48 = .ok (.iload_n 3, 1) := by decide +kernel
theorem dX5_tiesIn_49 : decode cX5_tiesIn 49 = .ok (.isub, 1) := by decide +kernel
theorem dX5_tiesIn_50 : decode cX5_tiesIn 50 = .ok (.goto 5, 3) := by decide +kernel
theorem dX5_tiesIn_53 : decode cX5_tiesIn 53 = .ok (.iload 4, 2) := by decide +kernel
theorem dX5_tiesIn_55 : decode cX5_tiesIn 55 = .ok (.ireturn, 1) := by decide +kernel
def wX5_tiesIn (cy : Nat → ClassId) (tA : Nat) (t_writtenV : Value) (t_size : Int32) (t_folkA : Nat) (t_folkN : Nat) (t_folk : Nat → Int32) (t_countsA : Nat) (t_countsN : Nat) (t_counts : Nat → Int32) (p1A : Nat) (p1_namesV : Value) (p1_kindsV : Value) (p1_kinV : Value) (p1_stopsV : Value) (p1_folks : Int32) (p1_pairs : Int32) (p1_line : Int32) (p1_rope : Int32) (p1_lineTold : Int32) (p1_ropeTold : Int32) (p1_lawV : Value) (p1_takenV : Value) (p1_roundsA : Nat) (p1_roundsN : Nat) (p1_rounds : Nat → Int32) : va_W :=
  [(tA, .inr (5, [.ref t_folkA, .ref t_countsA, t_writtenV, .int t_size])), (t_folkA, .inl (cy 1, t_folkN, .inl t_folk)), (t_countsA, .inl (cy 1, t_countsN, .inl t_counts)), (p1A, .inr (2, [p1_namesV, p1_kindsV, p1_kinV, p1_stopsV, .ref p1_roundsA, .int p1_folks, .int p1_pairs, .int p1_line, .int p1_rope, .int p1_lineTold, .int p1_ropeTold, p1_lawV, p1_takenV])), (p1_roundsA, .inl (cy 1, p1_roundsN, .inl p1_rounds))]
noncomputable def bX5_tiesIn_L55 (F : Nat) (t_size : Int32) (t_folkN : Nat) (t_folk : Nat → Int32) (t_countsN : Nat) (t_counts : Nat → Int32) (p1_roundsN : Nat) (p1_rounds : Nat → Int32)  (s0 : Int32) : Option (Int32) :=
  some s0
theorem vX5_tiesIn_L55 {l : Launch} {D : va_G} {cy : Nat → ClassId} {av : List Value} {ws0 : va_W} {Q : Option Value → va_W → Prop} (F : Nat) (tA : Nat) (t_writtenV : Value) (t_size : Int32) (t_folkA : Nat) (t_folkN : Nat) (t_folk : Nat → Int32) (t_countsA : Nat) (t_countsN : Nat) (t_counts : Nat → Int32) (p1A : Nat) (p1_namesV : Value) (p1_kindsV : Value) (p1_kinV : Value) (p1_stopsV : Value) (p1_folks : Int32) (p1_pairs : Int32) (p1_line : Int32) (p1_rope : Int32) (p1_lineTold : Int32) (p1_ropeTold : Int32) (p1_lawV : Value) (p1_takenV : Value) (p1_roundsA : Nat) (p1_roundsN : Nat) (p1_rounds : Nat → Int32)  (s0 : Int32) (R : Int32) (h : bX5_tiesIn_L55 F t_size t_folkN t_folk t_countsN t_counts p1_roundsN p1_rounds  s0 = some R) (hQ : Q (some (.int R)) (wX5_tiesIn cy tA t_writtenV t_size t_folkA t_folkN t_folk t_countsA t_countsN t_counts p1A p1_namesV p1_kindsV p1_kinV p1_stopsV p1_folks p1_pairs p1_line p1_rope p1_lineTold p1_ropeTold p1_lawV p1_takenV p1_roundsA p1_roundsN p1_rounds)) : V l D cy MX5_tiesIn 0 0 0 av ws0 Q 55 [] [.int s0] (wX5_tiesIn cy tA t_writtenV t_size t_folkA t_folkN t_folk t_countsA t_countsN t_counts p1A p1_namesV p1_kindsV p1_kinV p1_stopsV p1_folks p1_pairs p1_line p1_rope p1_lineTold p1_ropeTold p1_lawV p1_takenV p1_roundsA p1_roundsN p1_rounds) 0 0 := by
  unfold bX5_tiesIn_L55 at h
  have e9 := Option.some.inj h; subst e9
  exact V.iret (ty := .int) rfl rfl dX5_tiesIn_55 (Nat.le_refl _) (Nat.le_refl _) hQ
noncomputable def bX5_tiesIn_L53 (F : Nat) (t_size : Int32) (t_folkN : Nat) (t_folk : Nat → Int32) (t_countsN : Nat) (t_counts : Nat → Int32) (p1_roundsN : Nat) (p1_rounds : Nat → Int32)  (x4 : Int32) : Option (Int32) :=
  bX5_tiesIn_L55 F t_size t_folkN t_folk t_countsN t_counts p1_roundsN p1_rounds x4
theorem vX5_tiesIn_L53 {l : Launch} {D : va_G} {cy : Nat → ClassId} {av : List Value} {ws0 : va_W} {Q : Option Value → va_W → Prop} (F : Nat) (tA : Nat) (t_writtenV : Value) (t_size : Int32) (t_folkA : Nat) (t_folkN : Nat) (t_folk : Nat → Int32) (t_countsA : Nat) (t_countsN : Nat) (t_counts : Nat → Int32) (p1A : Nat) (p1_namesV : Value) (p1_kindsV : Value) (p1_kinV : Value) (p1_stopsV : Value) (p1_folks : Int32) (p1_pairs : Int32) (p1_line : Int32) (p1_rope : Int32) (p1_lineTold : Int32) (p1_ropeTold : Int32) (p1_lawV : Value) (p1_takenV : Value) (p1_roundsA : Nat) (p1_roundsN : Nat) (p1_rounds : Nat → Int32)  (x4 : Int32) (R : Int32) (h : bX5_tiesIn_L53 F t_size t_folkN t_folk t_countsN t_counts p1_roundsN p1_rounds  x4 = some R) (hQ : Q (some (.int R)) (wX5_tiesIn cy tA t_writtenV t_size t_folkA t_folkN t_folk t_countsA t_countsN t_counts p1A p1_namesV p1_kindsV p1_kinV p1_stopsV p1_folks p1_pairs p1_line p1_rope p1_lineTold p1_ropeTold p1_lawV p1_takenV p1_roundsA p1_roundsN p1_rounds)) : V l D cy MX5_tiesIn 0 0 0 av ws0 Q 53 [(4, .int x4)] [] (wX5_tiesIn cy tA t_writtenV t_size t_folkA t_folkN t_folk t_countsA t_countsN t_counts p1A p1_namesV p1_kindsV p1_kinV p1_stopsV p1_folks p1_pairs p1_line p1_rope p1_lineTold p1_ropeTold p1_lawV p1_takenV p1_roundsA p1_roundsN p1_rounds) 0 0 := by
  unfold bX5_tiesIn_L53 at h
  refine V.iload dX5_tiesIn_53 0 rfl ?_
  refine V.lvs [] rfl ?_
  exact vX5_tiesIn_L55 _ _ _ _ _ _ _ _ _ _ _ _ _ _ _ _ _ _ _ _ _ _ _ _ _ _   _ R h hQ
noncomputable def bX5_tiesIn_L12 (F : Nat) (t_size : Int32) (t_folkN : Nat) (t_folk : Nat → Int32) (t_countsN : Nat) (t_counts : Nat → Int32) (p1_roundsN : Nat) (p1_rounds : Nat → Int32)   : Option (Int32) :=
  some (0 : Int32)
theorem vX5_tiesIn_L12 {l : Launch} {D : va_G} {cy : Nat → ClassId} {av : List Value} {ws0 : va_W} {Q : Option Value → va_W → Prop} (F : Nat) (tA : Nat) (t_writtenV : Value) (t_size : Int32) (t_folkA : Nat) (t_folkN : Nat) (t_folk : Nat → Int32) (t_countsA : Nat) (t_countsN : Nat) (t_counts : Nat → Int32) (p1A : Nat) (p1_namesV : Value) (p1_kindsV : Value) (p1_kinV : Value) (p1_stopsV : Value) (p1_folks : Int32) (p1_pairs : Int32) (p1_line : Int32) (p1_rope : Int32) (p1_lineTold : Int32) (p1_ropeTold : Int32) (p1_lawV : Value) (p1_takenV : Value) (p1_roundsA : Nat) (p1_roundsN : Nat) (p1_rounds : Nat → Int32)   (R : Int32) (h : bX5_tiesIn_L12 F t_size t_folkN t_folk t_countsN t_counts p1_roundsN p1_rounds   = some R) (hQ : Q (some (.int R)) (wX5_tiesIn cy tA t_writtenV t_size t_folkA t_folkN t_folk t_countsA t_countsN t_counts p1A p1_namesV p1_kindsV p1_kinV p1_stopsV p1_folks p1_pairs p1_line p1_rope p1_lineTold p1_ropeTold p1_lawV p1_takenV p1_roundsA p1_roundsN p1_rounds)) : V l D cy MX5_tiesIn 0 0 0 av ws0 Q 12 [] [] (wX5_tiesIn cy tA t_writtenV t_size t_folkA t_folkN t_folk t_countsA t_countsN t_counts p1A p1_namesV p1_kindsV p1_kinV p1_stopsV p1_folks p1_pairs p1_line p1_rope p1_lineTold p1_ropeTold p1_lawV p1_takenV p1_roundsA p1_roundsN p1_rounds) 0 0 := by
  unfold bX5_tiesIn_L12 at h
  refine V.iconst (v := (0 : Int32)) dX5_tiesIn_12 (by decide) ?_
  have e9 := Option.some.inj h; subst e9
  exact V.iret (ty := .int) rfl rfl dX5_tiesIn_13 (Nat.le_refl _) (Nat.le_refl _) hQ
noncomputable def fX5_tiesIn (F : Nat) (t_size : Int32) (t_folkN : Nat) (t_folk : Nat → Int32) (t_countsN : Nat) (t_counts : Nat → Int32) (p1_roundsN : Nat) (p1_rounds : Nat → Int32) (a2 : Int32) : Option (Int32) :=
  if a2 < 0 then (bX5_tiesIn_L12 F t_size t_folkN t_folk t_countsN t_counts p1_roundsN p1_rounds) else (if a2 < t_size then (if a2 < 0 ∨ t_folkN ≤ a2.toNatClampNeg then none else (if (t_folk (a2).toNatClampNeg) < 0 ∨ p1_roundsN ≤ (t_folk (a2).toNatClampNeg).toNatClampNeg then none else (if a2 < 0 ∨ t_countsN ≤ a2.toNatClampNeg then none else (if (p1_rounds (t_folk (a2).toNatClampNeg).toNatClampNeg) ≤ 0 then (bX5_tiesIn_L53 F t_size t_folkN t_folk t_countsN t_counts p1_roundsN p1_rounds (t_counts (a2).toNatClampNeg)) else (if ((2 : Int32) * (t_counts (a2).toNatClampNeg)) ≤ (p1_rounds (t_folk (a2).toNatClampNeg).toNatClampNeg) then (bX5_tiesIn_L53 F t_size t_folkN t_folk t_countsN t_counts p1_roundsN p1_rounds (t_counts (a2).toNatClampNeg)) else (bX5_tiesIn_L55 F t_size t_folkN t_folk t_countsN t_counts p1_roundsN p1_rounds ((t_counts (a2).toNatClampNeg) - (p1_rounds (t_folk (a2).toNatClampNeg).toNatClampNeg)))))))) else (bX5_tiesIn_L12 F t_size t_folkN t_folk t_countsN t_counts p1_roundsN p1_rounds))
theorem CX5_tiesIn {l : Launch} {D : va_G} {cy : Nat → ClassId} (F : Nat) (tA : Nat) (t_writtenV : Value) (t_size : Int32) (t_folkA : Nat) (t_folkN : Nat) (t_folk : Nat → Int32) (t_countsA : Nat) (t_countsN : Nat) (t_counts : Nat → Int32) (p1A : Nat) (p1_namesV : Value) (p1_kindsV : Value) (p1_kinV : Value) (p1_stopsV : Value) (p1_folks : Int32) (p1_pairs : Int32) (p1_line : Int32) (p1_rope : Int32) (p1_lineTold : Int32) (p1_ropeTold : Int32) (p1_lawV : Value) (p1_takenV : Value) (p1_roundsA : Nat) (p1_roundsN : Nat) (p1_rounds : Nat → Int32) (a2 : Int32) (R : Int32) (h : fX5_tiesIn F t_size t_folkN t_folk t_countsN t_counts p1_roundsN p1_rounds a2 = some R) : vMet l D cy MX5_tiesIn 0 0 0 [.ref tA, .ref p1A, .int a2] (wX5_tiesIn cy tA t_writtenV t_size t_folkA t_folkN t_folk t_countsA t_countsN t_counts p1A p1_namesV p1_kindsV p1_kinV p1_stopsV p1_folks p1_pairs p1_line p1_rope p1_lineTold p1_ropeTold p1_lawV p1_takenV p1_roundsA p1_roundsN p1_rounds) (fun (r : Option Value) (w : va_W) => r = (some (.int R)) ∧ w = (wX5_tiesIn cy tA t_writtenV t_size t_folkA t_folkN t_folk t_countsA t_countsN t_counts p1A p1_namesV p1_kindsV p1_kinV p1_stopsV p1_folks p1_pairs p1_line p1_rope p1_lineTold p1_ropeTold p1_lawV p1_takenV p1_roundsA p1_roundsN p1_rounds)) := by
  refine vMet.start (by decide +kernel) (Nat.le_of_ble_eq_true rfl) ?_
  generalize hQe : (fun (r : Option Value) (w : va_W) => r = (some (.int R)) ∧ w = (wX5_tiesIn cy tA t_writtenV t_size t_folkA t_folkN t_folk t_countsA t_countsN t_counts p1A p1_namesV p1_kindsV p1_kinV p1_stopsV p1_folks p1_pairs p1_line p1_rope p1_lineTold p1_ropeTold p1_lawV p1_takenV p1_roundsA p1_roundsN p1_rounds)) = Q
  have hQ : Q (some (.int R)) (wX5_tiesIn cy tA t_writtenV t_size t_folkA t_folkN t_folk t_countsA t_countsN t_counts p1A p1_namesV p1_kindsV p1_kinV p1_stopsV p1_folks p1_pairs p1_line p1_rope p1_lineTold p1_ropeTold p1_lawV p1_takenV p1_roundsA p1_roundsN p1_rounds) := by rw [← hQe]; exact ⟨rfl, rfl⟩
  show V l D cy MX5_tiesIn 0 0 0 _ _ Q 0 [(0, .ref tA), (1, .ref p1A), (2, .int a2)] [] _ 0 0
  show V l D cy MX5_tiesIn 0 0 0 [.ref tA, .ref p1A, .int a2] _ Q 0 [(0, .ref tA), (1, .ref p1A), (2, .int a2)] [] (wX5_tiesIn cy tA t_writtenV t_size t_folkA t_folkN t_folk t_countsA t_countsN t_counts p1A p1_namesV p1_kindsV p1_kinV p1_stopsV p1_folks p1_pairs p1_line p1_rope p1_lineTold p1_ropeTold p1_lawV p1_takenV p1_roundsA p1_roundsN p1_rounds) 0 0
  unfold fX5_tiesIn at h
  refine V.iload_n dX5_tiesIn_0 rfl 2 rfl ?_
  refine V.if_lt (tgt := 12) dX5_tiesIn_1 (by decide) (fun hc1 => ?_) (fun hc1 => ?_)
  · replace h := (if_pos hc1).symm.trans h
    refine V.lvs [] rfl ?_
    exact vX5_tiesIn_L12 _ _ _ _ _ _ _ _ _ _ _ _ _ _ _ _ _ _ _ _ _ _ _ _ _ _    R h hQ
  · replace h := (if_neg hc1).symm.trans h
    refine V.iload_n dX5_tiesIn_4 rfl 2 rfl ?_
    refine V.aload_n dX5_tiesIn_5 rfl 0 rfl ?_
    refine V.get kfX5 0 rfl rfl 3 (by decide) klX5_22 rfl dX5_tiesIn_6 ?_
    refine V.icmp_lt (tgt := 14) dX5_tiesIn_9 (by decide) (fun hc9 => ?_) (fun hc9 => ?_)
    · replace h := (if_pos hc9).symm.trans h
      refine V.aload_n dX5_tiesIn_14 rfl 1 rfl ?_
      refine V.get kfX2 3 rfl rfl 4 (by decide) klX5_74 rfl dX5_tiesIn_15 ?_
      refine V.aload_n dX5_tiesIn_18 rfl 0 rfl ?_
      refine V.get kfX5 0 rfl rfl 0 (by decide) klX5_9 rfl dX5_tiesIn_19 ?_
      refine V.iload_n dX5_tiesIn_22 rfl 2 rfl ?_
      by_cases hb23 : a2 < 0 ∨ t_folkN ≤ a2.toNatClampNeg
      · exact vNone ((if_pos hb23).symm.trans h)
      replace h := (if_neg hb23).symm.trans h
      refine V.iald dX5_tiesIn_23 1 rfl hb23 ?_
      by_cases hb24 : (t_folk (a2).toNatClampNeg) < 0 ∨ p1_roundsN ≤ (t_folk (a2).toNatClampNeg).toNatClampNeg
      · exact vNone ((if_pos hb24).symm.trans h)
      replace h := (if_neg hb24).symm.trans h
      refine V.iald dX5_tiesIn_24 4 rfl hb24 ?_
      refine V.istore_n (lv' := [(3, .int (p1_rounds (t_folk (a2).toNatClampNeg).toNatClampNeg)), (0, .ref tA), (1, .ref p1A), (2, .int a2)]) dX5_tiesIn_25 rfl (by decide) rfl ?_
      refine V.aload_n dX5_tiesIn_26 rfl 1 rfl ?_
      refine V.get kfX5 0 rfl rfl 1 (by decide) klX5_15 rfl dX5_tiesIn_27 ?_
      refine V.iload_n dX5_tiesIn_30 rfl 3 rfl ?_
      by_cases hb31 : a2 < 0 ∨ t_countsN ≤ a2.toNatClampNeg
      · exact vNone ((if_pos hb31).symm.trans h)
      replace h := (if_neg hb31).symm.trans h
      refine V.iald dX5_tiesIn_31 2 rfl hb31 ?_
      refine V.istore (lv' := [(4, .int (t_counts (a2).toNatClampNeg)), (3, .int (p1_rounds (t_folk (a2).toNatClampNeg).toNatClampNeg)), (0, .ref tA), (1, .ref p1A), (2, .int a2)]) dX5_tiesIn_32 (by decide) rfl ?_
      refine V.iload_n dX5_tiesIn_34 rfl 1 rfl ?_
      refine V.if_le (tgt := 53) dX5_tiesIn_35 (by decide) (fun hc35 => ?_) (fun hc35 => ?_)
      · replace h := (if_pos hc35).symm.trans h
        refine V.lvs [0] rfl ?_
        exact vX5_tiesIn_L53 _ _ _ _ _ _ _ _ _ _ _ _ _ _ _ _ _ _ _ _ _ _ _ _ _ _   _ R h hQ
      · replace h := (if_neg hc35).symm.trans h
        refine V.iconst (v := (2 : Int32)) dX5_tiesIn_38 (by decide) ?_
        refine V.iload dX5_tiesIn_39 0 rfl ?_
        refine V.imul dX5_tiesIn_41 ?_
        refine V.iload_n dX5_tiesIn_42 rfl 1 rfl ?_
        refine V.icmp_le (tgt := 53) dX5_tiesIn_43 (by decide) (fun hc43 => ?_) (fun hc43 => ?_)
        · replace h := (if_pos hc43).symm.trans h
          refine V.lvs [0] rfl ?_
          exact vX5_tiesIn_L53 _ _ _ _ _ _ _ _ _ _ _ _ _ _ _ _ _ _ _ _ _ _ _ _ _ _   _ R h hQ
        · replace h := (if_neg hc43).symm.trans h
          refine V.iload dX5_tiesIn_46 0 rfl ?_
          refine V.iload_n dX5_tiesIn_48 rfl 1 rfl ?_
          refine V.isub dX5_tiesIn_49 ?_
          refine V.goto (tgt := 55) dX5_tiesIn_50 (by decide) ?_
          refine V.lvs [] rfl ?_
          exact vX5_tiesIn_L55 _ _ _ _ _ _ _ _ _ _ _ _ _ _ _ _ _ _ _ _ _ _ _ _ _ _   _ R h hQ
    · replace h := (if_neg hc9).symm.trans h
      refine V.lvs [] rfl ?_
      exact vX5_tiesIn_L12 _ _ _ _ _ _ _ _ _ _ _ _ _ _ _ _ _ _ _ _ _ _ _ _ _ _    R h hQ
theorem dX5_leastInFront_0 : decode cX5_leastInFront 0 = .ok (.iconst 0, 1) := by decide +kernel
theorem dX5_leastInFront_1 : decode cX5_leastInFront 1 = .ok (.istore_n 2, 1) := by decide +kernel
theorem dX5_leastInFront_2 : decode cX5_leastInFront 2 = .ok (.iconst (-1), 1) := by decide +kernel
theorem dX5_leastInFront_3 : decode cX5_leastInFront 3 = .ok (.istore_n 3, 1) := by decide +kernel
theorem dX5_leastInFront_4 : decode cX5_leastInFront 4 = .ok (.iconst 0, 1) := by decide +kernel
theorem dX5_leastInFront_5 : decode cX5_leastInFront 5 = .ok (.istore 4, 2) := by decide +kernel
theorem dX5_leastInFront_7 : decode cX5_leastInFront 7 = .ok (.iload 4, 2) := by decide +kernel
theorem dX5_leastInFront_9 : decode cX5_leastInFront 9 = .ok (.aload_n 0, 1) := by decide +kernel
theorem dX5_leastInFront_10 : decode cX5_leastInFront 10 = .ok (.getfield 22, 3) := by decide +kernel
theorem dX5_leastInFront_13 : decode cX5_leastInFront 13 = .ok (.if_icmp .ge 84, 3) := by decide +kernel
theorem dX5_leastInFront_16 : decode cX5_leastInFront 16 = .ok (.aload_n 0, 1) := by decide +kernel
theorem dX5_leastInFront_17 : decode cX5_leastInFront 17 = .ok (.getfield 18, 3) := by decide +kernel
theorem dX5_leastInFront_20 : decode cX5_leastInFront 20 = .ok (.iload 4, 2) := by decide +kernel
theorem dX5_leastInFront_22 : decode cX5_leastInFront 22 = .ok (.baload, 1) := by decide +kernel
theorem dX5_leastInFront_23 : decode cX5_leastInFront 23 = .ok (.ifCond .ne 68, 3) := by decide +kernel
theorem dX5_leastInFront_26 : decode cX5_leastInFront 26 = .ok (.iload_n 2, 1) := by decide +kernel
theorem dX5_leastInFront_27 : decode cX5_leastInFront 27 = .ok (.aload_n 0, 1) := by decide +kernel
theorem dX5_leastInFront_28 : decode cX5_leastInFront 28 = .ok (.getfield 9, 3) := by decide +kernel
theorem dX5_leastInFront_31 : decode cX5_leastInFront 31 = .ok (.iload 4, 2) := by decide +kernel
theorem dX5_leastInFront_33 : decode cX5_leastInFront 33 = .ok (.iaload, 1) := by decide +kernel
theorem dX5_leastInFront_34 : decode cX5_leastInFront 34 = .ok (.ishr, 1) := by decide +kernel
theorem dX5_leastInFront_35 : decode cX5_leastInFront 35 = .ok (.iconst 1, 1) := by decide +kernel
theorem dX5_leastInFront_36 : decode cX5_leastInFront 36 = .ok (.iand, 1) := by decide +kernel
theorem dX5_leastInFront_37 : decode cX5_leastInFront 37 = .ok (.ifCond .ne 7, 3) := by decide +kernel
theorem dX5_leastInFront_40 : decode cX5_leastInFront 40 = .ok (.iconst 1, 1) := by decide +kernel
theorem dX5_leastInFront_41 : decode cX5_leastInFront 41 = .ok (.goto 4, 3) := by decide +kernel
theorem dX5_leastInFront_44 : decode cX5_leastInFront 44 = .ok (.iconst 0, 1) := by decide +kernel
theorem dX5_leastInFront_45 : decode cX5_leastInFront 45 = .ok (.istore 5, 2) := by decide +kernel
theorem dX5_leastInFront_47 : decode cX5_leastInFront 47 = .ok (.iload 5, 2) := by decide +kernel
theorem dX5_leastInFront_49 : decode cX5_leastInFront 49 = .ok (.ifCond .eq 27, 3) := by decide +kernel
theorem dX5_leastInFront_52 : decode cX5_leastInFront 52 = .ok (.iload_n 3, 1) := by decide +kernel
theorem dX5_leastInFront_53 : decode cX5_leastInFront 53 = .ok (.iconst (-1), 1) := by decide +kernel
theorem dX5_leastInFront_54 : decode cX5_leastInFront 54 = .ok (.if_icmp .eq 19, 3) := by decide +kernel
theorem dX5_leastInFront_57 : decode cX5_leastInFront 57 = .ok (.aload_n 0, 1) := by decide +kernel
theorem dX5_leastInFront_58 : decode cX5_leastInFront 58 = .ok (.getfield 9, 3) := by decide +kernel
theorem dX5_leastInFront_61 : decode cX5_leastInFront 61 = .ok (.iload 4, 2) := by decide +kernel
theorem dX5_leastInFront_63 : decode cX5_leastInFront 63 = .ok (.iaload, 1) := by decide +kernel
theorem dX5_leastInFront_64 : decode cX5_leastInFront 64 = .ok (.aload_n 0, 1) := by decide +kernel
theorem dX5_leastInFront_65 : decode cX5_leastInFront 65 = .ok (.getfield 9, 3) := by decide +kernel
theorem dX5_leastInFront_68 : decode cX5_leastInFront 68 = .ok (.iload_n 3, 1) := by decide +kernel
theorem dX5_leastInFront_69 : decode cX5_leastInFront 69 = .ok (.iaload, 1) := by decide +kernel
theorem dX5_leastInFront_70 : decode cX5_leastInFront 70 = .ok (.if_icmp .ge 6, 3) := by decide +kernel
theorem dX5_leastInFront_73 : decode cX5_leastInFront 73 = .ok (.iload 4, 2) := by decide +kernel
theorem dX5_leastInFront_75 : decode cX5_leastInFront 75 = .ok (.istore_n 3, 1) := by decide +kernel
theorem dX5_leastInFront_76 : decode cX5_leastInFront 76 = .ok (.iload_n 2, 1) := by decide +kernel
theorem dX5_leastInFront_77 : decode cX5_leastInFront 77 = .ok (.aload_n 1, 1) := by decide +kernel
theorem dX5_leastInFront_78 : decode cX5_leastInFront 78 = .ok (.getfield 71, 3) := by decide +kernel
theorem dX5_leastInFront_81 : decode cX5_leastInFront 81 = .ok (.aload_n 0, 1) := by decide +kernel
theorem dX5_leastInFront_82 : decode cX5_leastInFront 82 = .ok (.getfield 9, 3) := by decide +kernel
theorem dX5_leastInFront_85 : decode cX5_leastInFront 85 = .ok (.iload 4, 2) := by decide +kernel
theorem dX5_leastInFront_87 : decode cX5_leastInFront 87 = .ok (.iaload, 1) := by decide +kernel
theorem dX5_leastInFront_88 : decode cX5_leastInFront 88 = .ok (.iaload, 1) := by decide +kernel
theorem dX5_leastInFront_89 : decode cX5_leastInFront 89 = .ok (.ior, 1) := by decide +kernel
theorem dX5_leastInFront_90 : decode cX5_leastInFront 90 = .ok (.istore_n 2, 1) := by decide +kernel
theorem dX5_leastInFront_91 : decode cX5_leastInFront 91 = .ok (.iinc 4 1, 3) := by decide +kernel
theorem dX5_leastInFront_94 : decode cX5_leastInFront 94 = .ok (.goto (-87), 3) := by decide +kernel
theorem dX5_leastInFront_97 : decode cX5_leastInFront 97 = .ok (.iload_n 3, 1) := by decide +kernel
theorem dX5_leastInFront_98 : decode cX5_leastInFront 98 = .ok (.ireturn, 1) := by decide +kernel
def wX5_leastInFront (cy : Nat → ClassId) (tA : Nat) (t_countsV : Value) (t_size : Int32) (t_folkA : Nat) (t_folkN : Nat) (t_folk : Nat → Int32) (t_writtenA : Nat) (t_writtenN : Nat) (t_written : Nat → Int32) (p1A : Nat) (p1_namesV : Value) (p1_kindsV : Value) (p1_kinV : Value) (p1_roundsV : Value) (p1_folks : Int32) (p1_pairs : Int32) (p1_line : Int32) (p1_rope : Int32) (p1_lineTold : Int32) (p1_ropeTold : Int32) (p1_lawV : Value) (p1_takenV : Value) (p1_stopsA : Nat) (p1_stopsN : Nat) (p1_stops : Nat → Int32) : va_W :=
  [(tA, .inr (5, [.ref t_folkA, t_countsV, .ref t_writtenA, .int t_size])), (t_folkA, .inl (cy 1, t_folkN, .inl t_folk)), (t_writtenA, .inl (cy 3, t_writtenN, .inl t_written)), (p1A, .inr (2, [p1_namesV, p1_kindsV, p1_kinV, .ref p1_stopsA, p1_roundsV, .int p1_folks, .int p1_pairs, .int p1_line, .int p1_rope, .int p1_lineTold, .int p1_ropeTold, p1_lawV, p1_takenV])), (p1_stopsA, .inl (cy 1, p1_stopsN, .inl p1_stops))]
noncomputable def bX5_leastInFront_L91 (F : Nat) (t_size : Int32) (t_folkN : Nat) (t_folk : Nat → Int32) (t_writtenN : Nat) (t_written : Nat → Int32) (p1_stopsN : Nat) (p1_stops : Nat → Int32) (k7 : Int32 → Int32 → Int32 → Option (Int32)) (x2 : Int32) (x3 : Int32) (x4 : Int32) : Option (Int32) :=
  k7 x2 x3 (x4 + (1 : Int32))
theorem vX5_leastInFront_L91 {l : Launch} {D : va_G} {cy : Nat → ClassId} {av : List Value} {ws0 : va_W} {Q : Option Value → va_W → Prop} (F : Nat) (tA : Nat) (t_countsV : Value) (t_size : Int32) (t_folkA : Nat) (t_folkN : Nat) (t_folk : Nat → Int32) (t_writtenA : Nat) (t_writtenN : Nat) (t_written : Nat → Int32) (p1A : Nat) (p1_namesV : Value) (p1_kindsV : Value) (p1_kinV : Value) (p1_roundsV : Value) (p1_folks : Int32) (p1_pairs : Int32) (p1_line : Int32) (p1_rope : Int32) (p1_lineTold : Int32) (p1_ropeTold : Int32) (p1_lawV : Value) (p1_takenV : Value) (p1_stopsA : Nat) (p1_stopsN : Nat) (p1_stops : Nat → Int32) (k7 : Int32 → Int32 → Int32 → Option (Int32)) (hk7 : ∀ (x2 : Int32) (x3 : Int32) (x4 : Int32) (R : Int32), k7 x2 x3 x4 = some R → Q (some (.int R)) (wX5_leastInFront cy tA t_countsV t_size t_folkA t_folkN t_folk t_writtenA t_writtenN t_written p1A p1_namesV p1_kindsV p1_kinV p1_roundsV p1_folks p1_pairs p1_line p1_rope p1_lineTold p1_ropeTold p1_lawV p1_takenV p1_stopsA p1_stopsN p1_stops) → V l D cy MX5_leastInFront 0 0 0 av ws0 Q 7 [(0, .ref tA), (1, .ref p1A), (2, .int x2), (3, .int x3), (4, .int x4)] [] (wX5_leastInFront cy tA t_countsV t_size t_folkA t_folkN t_folk t_writtenA t_writtenN t_written p1A p1_namesV p1_kindsV p1_kinV p1_roundsV p1_folks p1_pairs p1_line p1_rope p1_lineTold p1_ropeTold p1_lawV p1_takenV p1_stopsA p1_stopsN p1_stops) 0 0) (x2 : Int32) (x3 : Int32) (x4 : Int32) (R : Int32) (h : bX5_leastInFront_L91 F t_size t_folkN t_folk t_writtenN t_written p1_stopsN p1_stops k7 x2 x3 x4 = some R) (hQ : Q (some (.int R)) (wX5_leastInFront cy tA t_countsV t_size t_folkA t_folkN t_folk t_writtenA t_writtenN t_written p1A p1_namesV p1_kindsV p1_kinV p1_roundsV p1_folks p1_pairs p1_line p1_rope p1_lineTold p1_ropeTold p1_lawV p1_takenV p1_stopsA p1_stopsN p1_stops)) : V l D cy MX5_leastInFront 0 0 0 av ws0 Q 91 [(0, .ref tA), (1, .ref p1A), (2, .int x2), (3, .int x3), (4, .int x4)] [] (wX5_leastInFront cy tA t_countsV t_size t_folkA t_folkN t_folk t_writtenA t_writtenN t_written p1A p1_namesV p1_kindsV p1_kinV p1_roundsV p1_folks p1_pairs p1_line p1_rope p1_lineTold p1_ropeTold p1_lawV p1_takenV p1_stopsA p1_stopsN p1_stops) 0 0 := by
  unfold bX5_leastInFront_L91 at h
  refine V.iinc (v := x4 + (1 : Int32)) (lv' := [(4, .int (x4 + (1 : Int32))), (0, .ref tA), (1, .ref p1A), (2, .int x2), (3, .int x3)]) dX5_leastInFront_91 4 rfl rfl (by decide) rfl ?_
  refine V.goto (tgt := 7) dX5_leastInFront_94 (by decide) ?_
  refine V.lvs [1, 2, 3, 4, 0] rfl ?_
  exact hk7 _ _ _ R h hQ
noncomputable def bX5_leastInFront_L76 (F : Nat) (t_size : Int32) (t_folkN : Nat) (t_folk : Nat → Int32) (t_writtenN : Nat) (t_written : Nat → Int32) (p1_stopsN : Nat) (p1_stops : Nat → Int32) (k7 : Int32 → Int32 → Int32 → Option (Int32)) (x2 : Int32) (x3 : Int32) (x4 : Int32) : Option (Int32) :=
  if x4 < 0 ∨ t_folkN ≤ x4.toNatClampNeg then none else (if (t_folk (x4).toNatClampNeg) < 0 ∨ p1_stopsN ≤ (t_folk (x4).toNatClampNeg).toNatClampNeg then none else (bX5_leastInFront_L91 F t_size t_folkN t_folk t_writtenN t_written p1_stopsN p1_stops k7 (x2 ||| (p1_stops (t_folk (x4).toNatClampNeg).toNatClampNeg)) x3 x4))
theorem vX5_leastInFront_L76 {l : Launch} {D : va_G} {cy : Nat → ClassId} {av : List Value} {ws0 : va_W} {Q : Option Value → va_W → Prop} (F : Nat) (tA : Nat) (t_countsV : Value) (t_size : Int32) (t_folkA : Nat) (t_folkN : Nat) (t_folk : Nat → Int32) (t_writtenA : Nat) (t_writtenN : Nat) (t_written : Nat → Int32) (p1A : Nat) (p1_namesV : Value) (p1_kindsV : Value) (p1_kinV : Value) (p1_roundsV : Value) (p1_folks : Int32) (p1_pairs : Int32) (p1_line : Int32) (p1_rope : Int32) (p1_lineTold : Int32) (p1_ropeTold : Int32) (p1_lawV : Value) (p1_takenV : Value) (p1_stopsA : Nat) (p1_stopsN : Nat) (p1_stops : Nat → Int32) (k7 : Int32 → Int32 → Int32 → Option (Int32)) (hk7 : ∀ (x2 : Int32) (x3 : Int32) (x4 : Int32) (R : Int32), k7 x2 x3 x4 = some R → Q (some (.int R)) (wX5_leastInFront cy tA t_countsV t_size t_folkA t_folkN t_folk t_writtenA t_writtenN t_written p1A p1_namesV p1_kindsV p1_kinV p1_roundsV p1_folks p1_pairs p1_line p1_rope p1_lineTold p1_ropeTold p1_lawV p1_takenV p1_stopsA p1_stopsN p1_stops) → V l D cy MX5_leastInFront 0 0 0 av ws0 Q 7 [(0, .ref tA), (1, .ref p1A), (2, .int x2), (3, .int x3), (4, .int x4)] [] (wX5_leastInFront cy tA t_countsV t_size t_folkA t_folkN t_folk t_writtenA t_writtenN t_written p1A p1_namesV p1_kindsV p1_kinV p1_roundsV p1_folks p1_pairs p1_line p1_rope p1_lineTold p1_ropeTold p1_lawV p1_takenV p1_stopsA p1_stopsN p1_stops) 0 0) (x2 : Int32) (x3 : Int32) (x4 : Int32) (R : Int32) (h : bX5_leastInFront_L76 F t_size t_folkN t_folk t_writtenN t_written p1_stopsN p1_stops k7 x2 x3 x4 = some R) (hQ : Q (some (.int R)) (wX5_leastInFront cy tA t_countsV t_size t_folkA t_folkN t_folk t_writtenA t_writtenN t_written p1A p1_namesV p1_kindsV p1_kinV p1_roundsV p1_folks p1_pairs p1_line p1_rope p1_lineTold p1_ropeTold p1_lawV p1_takenV p1_stopsA p1_stopsN p1_stops)) : V l D cy MX5_leastInFront 0 0 0 av ws0 Q 76 [(0, .ref tA), (1, .ref p1A), (2, .int x2), (3, .int x3), (4, .int x4)] [] (wX5_leastInFront cy tA t_countsV t_size t_folkA t_folkN t_folk t_writtenA t_writtenN t_written p1A p1_namesV p1_kindsV p1_kinV p1_roundsV p1_folks p1_pairs p1_line p1_rope p1_lineTold p1_ropeTold p1_lawV p1_takenV p1_stopsA p1_stopsN p1_stops) 0 0 := by
  unfold bX5_leastInFront_L76 at h
  refine V.iload_n dX5_leastInFront_76 rfl 2 rfl ?_
  refine V.aload_n dX5_leastInFront_77 rfl 1 rfl ?_
  refine V.get kfX2 3 rfl rfl 3 (by decide) klX5_71 rfl dX5_leastInFront_78 ?_
  refine V.aload_n dX5_leastInFront_81 rfl 0 rfl ?_
  refine V.get kfX5 0 rfl rfl 0 (by decide) klX5_9 rfl dX5_leastInFront_82 ?_
  refine V.iload dX5_leastInFront_85 4 rfl ?_
  by_cases hb87 : x4 < 0 ∨ t_folkN ≤ x4.toNatClampNeg
  · exact vNone ((if_pos hb87).symm.trans h)
  replace h := (if_neg hb87).symm.trans h
  refine V.iald dX5_leastInFront_87 1 rfl hb87 ?_
  by_cases hb88 : (t_folk (x4).toNatClampNeg) < 0 ∨ p1_stopsN ≤ (t_folk (x4).toNatClampNeg).toNatClampNeg
  · exact vNone ((if_pos hb88).symm.trans h)
  replace h := (if_neg hb88).symm.trans h
  refine V.iald dX5_leastInFront_88 4 rfl hb88 ?_
  refine V.ior dX5_leastInFront_89 ?_
  refine V.istore_n (lv' := [(2, .int (x2 ||| (p1_stops (t_folk (x4).toNatClampNeg).toNatClampNeg))), (0, .ref tA), (1, .ref p1A), (3, .int x3), (4, .int x4)]) dX5_leastInFront_90 rfl (by decide) rfl ?_
  refine V.lvs [1, 2, 0, 3, 4] rfl ?_
  exact vX5_leastInFront_L91 _ _ _ _ _ _ _ _ _ _ _ _ _ _ _ _ _ _ _ _ _ _ _ _ _ _ _ hk7  _ _ _ R h hQ
noncomputable def bX5_leastInFront_L73 (F : Nat) (t_size : Int32) (t_folkN : Nat) (t_folk : Nat → Int32) (t_writtenN : Nat) (t_written : Nat → Int32) (p1_stopsN : Nat) (p1_stops : Nat → Int32) (k7 : Int32 → Int32 → Int32 → Option (Int32)) (x2 : Int32) (x4 : Int32) : Option (Int32) :=
  bX5_leastInFront_L76 F t_size t_folkN t_folk t_writtenN t_written p1_stopsN p1_stops k7 x2 x4 x4
theorem vX5_leastInFront_L73 {l : Launch} {D : va_G} {cy : Nat → ClassId} {av : List Value} {ws0 : va_W} {Q : Option Value → va_W → Prop} (F : Nat) (tA : Nat) (t_countsV : Value) (t_size : Int32) (t_folkA : Nat) (t_folkN : Nat) (t_folk : Nat → Int32) (t_writtenA : Nat) (t_writtenN : Nat) (t_written : Nat → Int32) (p1A : Nat) (p1_namesV : Value) (p1_kindsV : Value) (p1_kinV : Value) (p1_roundsV : Value) (p1_folks : Int32) (p1_pairs : Int32) (p1_line : Int32) (p1_rope : Int32) (p1_lineTold : Int32) (p1_ropeTold : Int32) (p1_lawV : Value) (p1_takenV : Value) (p1_stopsA : Nat) (p1_stopsN : Nat) (p1_stops : Nat → Int32) (k7 : Int32 → Int32 → Int32 → Option (Int32)) (hk7 : ∀ (x2 : Int32) (x3 : Int32) (x4 : Int32) (R : Int32), k7 x2 x3 x4 = some R → Q (some (.int R)) (wX5_leastInFront cy tA t_countsV t_size t_folkA t_folkN t_folk t_writtenA t_writtenN t_written p1A p1_namesV p1_kindsV p1_kinV p1_roundsV p1_folks p1_pairs p1_line p1_rope p1_lineTold p1_ropeTold p1_lawV p1_takenV p1_stopsA p1_stopsN p1_stops) → V l D cy MX5_leastInFront 0 0 0 av ws0 Q 7 [(0, .ref tA), (1, .ref p1A), (2, .int x2), (3, .int x3), (4, .int x4)] [] (wX5_leastInFront cy tA t_countsV t_size t_folkA t_folkN t_folk t_writtenA t_writtenN t_written p1A p1_namesV p1_kindsV p1_kinV p1_roundsV p1_folks p1_pairs p1_line p1_rope p1_lineTold p1_ropeTold p1_lawV p1_takenV p1_stopsA p1_stopsN p1_stops) 0 0) (x2 : Int32) (x4 : Int32) (R : Int32) (h : bX5_leastInFront_L73 F t_size t_folkN t_folk t_writtenN t_written p1_stopsN p1_stops k7 x2 x4 = some R) (hQ : Q (some (.int R)) (wX5_leastInFront cy tA t_countsV t_size t_folkA t_folkN t_folk t_writtenA t_writtenN t_written p1A p1_namesV p1_kindsV p1_kinV p1_roundsV p1_folks p1_pairs p1_line p1_rope p1_lineTold p1_ropeTold p1_lawV p1_takenV p1_stopsA p1_stopsN p1_stops)) : V l D cy MX5_leastInFront 0 0 0 av ws0 Q 73 [(0, .ref tA), (1, .ref p1A), (2, .int x2), (4, .int x4)] [] (wX5_leastInFront cy tA t_countsV t_size t_folkA t_folkN t_folk t_writtenA t_writtenN t_written p1A p1_namesV p1_kindsV p1_kinV p1_roundsV p1_folks p1_pairs p1_line p1_rope p1_lineTold p1_ropeTold p1_lawV p1_takenV p1_stopsA p1_stopsN p1_stops) 0 0 := by
  unfold bX5_leastInFront_L73 at h
  refine V.iload dX5_leastInFront_73 3 rfl ?_
  refine V.istore_n (lv' := [(3, .int x4), (0, .ref tA), (1, .ref p1A), (2, .int x2), (4, .int x4)]) dX5_leastInFront_75 rfl (by decide) rfl ?_
  refine V.lvs [1, 2, 3, 0, 4] rfl ?_
  exact vX5_leastInFront_L76 _ _ _ _ _ _ _ _ _ _ _ _ _ _ _ _ _ _ _ _ _ _ _ _ _ _ _ hk7  _ _ _ R h hQ
noncomputable def bX5_leastInFront_L45 (F : Nat) (t_size : Int32) (t_folkN : Nat) (t_folk : Nat → Int32) (t_writtenN : Nat) (t_written : Nat → Int32) (p1_stopsN : Nat) (p1_stops : Nat → Int32) (k7 : Int32 → Int32 → Int32 → Option (Int32)) (x2 : Int32) (x3 : Int32) (x4 : Int32) (s0 : Int32) : Option (Int32) :=
  if s0 = 0 then (bX5_leastInFront_L76 F t_size t_folkN t_folk t_writtenN t_written p1_stopsN p1_stops k7 x2 x3 x4) else (if x3 = (-1 : Int32) then (bX5_leastInFront_L73 F t_size t_folkN t_folk t_writtenN t_written p1_stopsN p1_stops k7 x2 x4) else (if x4 < 0 ∨ t_folkN ≤ x4.toNatClampNeg then none else (if x3 < 0 ∨ t_folkN ≤ x3.toNatClampNeg then none else (if (t_folk (x3).toNatClampNeg) ≤ (t_folk (x4).toNatClampNeg) then (bX5_leastInFront_L76 F t_size t_folkN t_folk t_writtenN t_written p1_stopsN p1_stops k7 x2 x3 x4) else (bX5_leastInFront_L73 F t_size t_folkN t_folk t_writtenN t_written p1_stopsN p1_stops k7 x2 x4)))))
theorem vX5_leastInFront_L45 {l : Launch} {D : va_G} {cy : Nat → ClassId} {av : List Value} {ws0 : va_W} {Q : Option Value → va_W → Prop} (F : Nat) (tA : Nat) (t_countsV : Value) (t_size : Int32) (t_folkA : Nat) (t_folkN : Nat) (t_folk : Nat → Int32) (t_writtenA : Nat) (t_writtenN : Nat) (t_written : Nat → Int32) (p1A : Nat) (p1_namesV : Value) (p1_kindsV : Value) (p1_kinV : Value) (p1_roundsV : Value) (p1_folks : Int32) (p1_pairs : Int32) (p1_line : Int32) (p1_rope : Int32) (p1_lineTold : Int32) (p1_ropeTold : Int32) (p1_lawV : Value) (p1_takenV : Value) (p1_stopsA : Nat) (p1_stopsN : Nat) (p1_stops : Nat → Int32) (k7 : Int32 → Int32 → Int32 → Option (Int32)) (hk7 : ∀ (x2 : Int32) (x3 : Int32) (x4 : Int32) (R : Int32), k7 x2 x3 x4 = some R → Q (some (.int R)) (wX5_leastInFront cy tA t_countsV t_size t_folkA t_folkN t_folk t_writtenA t_writtenN t_written p1A p1_namesV p1_kindsV p1_kinV p1_roundsV p1_folks p1_pairs p1_line p1_rope p1_lineTold p1_ropeTold p1_lawV p1_takenV p1_stopsA p1_stopsN p1_stops) → V l D cy MX5_leastInFront 0 0 0 av ws0 Q 7 [(0, .ref tA), (1, .ref p1A), (2, .int x2), (3, .int x3), (4, .int x4)] [] (wX5_leastInFront cy tA t_countsV t_size t_folkA t_folkN t_folk t_writtenA t_writtenN t_written p1A p1_namesV p1_kindsV p1_kinV p1_roundsV p1_folks p1_pairs p1_line p1_rope p1_lineTold p1_ropeTold p1_lawV p1_takenV p1_stopsA p1_stopsN p1_stops) 0 0) (x2 : Int32) (x3 : Int32) (x4 : Int32) (s0 : Int32) (R : Int32) (h : bX5_leastInFront_L45 F t_size t_folkN t_folk t_writtenN t_written p1_stopsN p1_stops k7 x2 x3 x4 s0 = some R) (hQ : Q (some (.int R)) (wX5_leastInFront cy tA t_countsV t_size t_folkA t_folkN t_folk t_writtenA t_writtenN t_written p1A p1_namesV p1_kindsV p1_kinV p1_roundsV p1_folks p1_pairs p1_line p1_rope p1_lineTold p1_ropeTold p1_lawV p1_takenV p1_stopsA p1_stopsN p1_stops)) : V l D cy MX5_leastInFront 0 0 0 av ws0 Q 45 [(0, .ref tA), (1, .ref p1A), (2, .int x2), (3, .int x3), (4, .int x4)] [.int s0] (wX5_leastInFront cy tA t_countsV t_size t_folkA t_folkN t_folk t_writtenA t_writtenN t_written p1A p1_namesV p1_kindsV p1_kinV p1_roundsV p1_folks p1_pairs p1_line p1_rope p1_lineTold p1_ropeTold p1_lawV p1_takenV p1_stopsA p1_stopsN p1_stops) 0 0 := by
  unfold bX5_leastInFront_L45 at h
  refine V.istore (lv' := [(5, .int s0), (0, .ref tA), (1, .ref p1A), (2, .int x2), (3, .int x3), (4, .int x4)]) dX5_leastInFront_45 (by decide) rfl ?_
  refine V.iload dX5_leastInFront_47 0 rfl ?_
  refine V.if_eq (tgt := 76) dX5_leastInFront_49 (by decide) (fun hc49 => ?_) (fun hc49 => ?_)
  · replace h := (if_pos hc49).symm.trans h
    refine V.lvs [1, 2, 3, 4, 5] rfl ?_
    exact vX5_leastInFront_L76 _ _ _ _ _ _ _ _ _ _ _ _ _ _ _ _ _ _ _ _ _ _ _ _ _ _ _ hk7  _ _ _ R h hQ
  · replace h := (if_neg hc49).symm.trans h
    refine V.iload_n dX5_leastInFront_52 rfl 4 rfl ?_
    refine V.iconst (v := (-1 : Int32)) dX5_leastInFront_53 (by decide) ?_
    refine V.icmp_eq (tgt := 73) dX5_leastInFront_54 (by decide) (fun hc54 => ?_) (fun hc54 => ?_)
    · replace h := (if_pos hc54).symm.trans h
      refine V.lvs [1, 2, 3, 5] rfl ?_
      exact vX5_leastInFront_L73 _ _ _ _ _ _ _ _ _ _ _ _ _ _ _ _ _ _ _ _ _ _ _ _ _ _ _ hk7  _ _ R h hQ
    · replace h := (if_neg hc54).symm.trans h
      refine V.aload_n dX5_leastInFront_57 rfl 1 rfl ?_
      refine V.get kfX5 0 rfl rfl 0 (by decide) klX5_9 rfl dX5_leastInFront_58 ?_
      refine V.iload dX5_leastInFront_61 5 rfl ?_
      by_cases hb63 : x4 < 0 ∨ t_folkN ≤ x4.toNatClampNeg
      · exact vNone ((if_pos hb63).symm.trans h)
      replace h := (if_neg hb63).symm.trans h
      refine V.iald dX5_leastInFront_63 1 rfl hb63 ?_
      refine V.aload_n dX5_leastInFront_64 rfl 1 rfl ?_
      refine V.get kfX5 0 rfl rfl 0 (by decide) klX5_9 rfl dX5_leastInFront_65 ?_
      refine V.iload_n dX5_leastInFront_68 rfl 4 rfl ?_
      by_cases hb69 : x3 < 0 ∨ t_folkN ≤ x3.toNatClampNeg
      · exact vNone ((if_pos hb69).symm.trans h)
      replace h := (if_neg hb69).symm.trans h
      refine V.iald dX5_leastInFront_69 1 rfl hb69 ?_
      refine V.icmp_ge (tgt := 76) dX5_leastInFront_70 (by decide) (fun hc70 => ?_) (fun hc70 => ?_)
      · replace h := (if_pos hc70).symm.trans h
        refine V.lvs [1, 2, 3, 4, 5] rfl ?_
        exact vX5_leastInFront_L76 _ _ _ _ _ _ _ _ _ _ _ _ _ _ _ _ _ _ _ _ _ _ _ _ _ _ _ hk7  _ _ _ R h hQ
      · replace h := (if_neg hc70).symm.trans h
        refine V.lvs [1, 2, 3, 5] rfl ?_
        exact vX5_leastInFront_L73 _ _ _ _ _ _ _ _ _ _ _ _ _ _ _ _ _ _ _ _ _ _ _ _ _ _ _ hk7  _ _ R h hQ
noncomputable def bX5_leastInFront_L7 (F : Nat) (t_size : Int32) (t_folkN : Nat) (t_folk : Nat → Int32) (t_writtenN : Nat) (t_written : Nat → Int32) (p1_stopsN : Nat) (p1_stops : Nat → Int32) (k7 : Int32 → Int32 → Int32 → Option (Int32)) (x2 : Int32) (x3 : Int32) (x4 : Int32) : Option (Int32) :=
  if t_size ≤ x4 then (some x3) else (if x4 < 0 ∨ t_writtenN ≤ x4.toNatClampNeg then none else (if (t_written (x4).toNatClampNeg) = 0 then (if x4 < 0 ∨ t_folkN ≤ x4.toNatClampNeg then none else (if ((x2 >>> ((t_folk (x4).toNatClampNeg) &&& 31)) &&& (1 : Int32)) = 0 then (bX5_leastInFront_L45 F t_size t_folkN t_folk t_writtenN t_written p1_stopsN p1_stops k7 x2 x3 x4 (1 : Int32)) else (bX5_leastInFront_L45 F t_size t_folkN t_folk t_writtenN t_written p1_stopsN p1_stops k7 x2 x3 x4 (0 : Int32)))) else (bX5_leastInFront_L91 F t_size t_folkN t_folk t_writtenN t_written p1_stopsN p1_stops k7 x2 x3 x4)))
theorem vbX5_leastInFront_L7 {l : Launch} {D : va_G} {cy : Nat → ClassId} {av : List Value} {ws0 : va_W} {Q : Option Value → va_W → Prop} (F : Nat) (tA : Nat) (t_countsV : Value) (t_size : Int32) (t_folkA : Nat) (t_folkN : Nat) (t_folk : Nat → Int32) (t_writtenA : Nat) (t_writtenN : Nat) (t_written : Nat → Int32) (p1A : Nat) (p1_namesV : Value) (p1_kindsV : Value) (p1_kinV : Value) (p1_roundsV : Value) (p1_folks : Int32) (p1_pairs : Int32) (p1_line : Int32) (p1_rope : Int32) (p1_lineTold : Int32) (p1_ropeTold : Int32) (p1_lawV : Value) (p1_takenV : Value) (p1_stopsA : Nat) (p1_stopsN : Nat) (p1_stops : Nat → Int32) (k7 : Int32 → Int32 → Int32 → Option (Int32)) (hk7 : ∀ (x2 : Int32) (x3 : Int32) (x4 : Int32) (R : Int32), k7 x2 x3 x4 = some R → Q (some (.int R)) (wX5_leastInFront cy tA t_countsV t_size t_folkA t_folkN t_folk t_writtenA t_writtenN t_written p1A p1_namesV p1_kindsV p1_kinV p1_roundsV p1_folks p1_pairs p1_line p1_rope p1_lineTold p1_ropeTold p1_lawV p1_takenV p1_stopsA p1_stopsN p1_stops) → V l D cy MX5_leastInFront 0 0 0 av ws0 Q 7 [(0, .ref tA), (1, .ref p1A), (2, .int x2), (3, .int x3), (4, .int x4)] [] (wX5_leastInFront cy tA t_countsV t_size t_folkA t_folkN t_folk t_writtenA t_writtenN t_written p1A p1_namesV p1_kindsV p1_kinV p1_roundsV p1_folks p1_pairs p1_line p1_rope p1_lineTold p1_ropeTold p1_lawV p1_takenV p1_stopsA p1_stopsN p1_stops) 0 0) (x2 : Int32) (x3 : Int32) (x4 : Int32) (R : Int32) (h : bX5_leastInFront_L7 F t_size t_folkN t_folk t_writtenN t_written p1_stopsN p1_stops k7 x2 x3 x4 = some R) (hQ : Q (some (.int R)) (wX5_leastInFront cy tA t_countsV t_size t_folkA t_folkN t_folk t_writtenA t_writtenN t_written p1A p1_namesV p1_kindsV p1_kinV p1_roundsV p1_folks p1_pairs p1_line p1_rope p1_lineTold p1_ropeTold p1_lawV p1_takenV p1_stopsA p1_stopsN p1_stops)) : V l D cy MX5_leastInFront 0 0 0 av ws0 Q 7 [(0, .ref tA), (1, .ref p1A), (2, .int x2), (3, .int x3), (4, .int x4)] [] (wX5_leastInFront cy tA t_countsV t_size t_folkA t_folkN t_folk t_writtenA t_writtenN t_written p1A p1_namesV p1_kindsV p1_kinV p1_roundsV p1_folks p1_pairs p1_line p1_rope p1_lineTold p1_ropeTold p1_lawV p1_takenV p1_stopsA p1_stopsN p1_stops) 0 0 := by
  unfold bX5_leastInFront_L7 at h
  refine V.iload dX5_leastInFront_7 4 rfl ?_
  refine V.aload_n dX5_leastInFront_9 rfl 0 rfl ?_
  refine V.get kfX5 0 rfl rfl 3 (by decide) klX5_22 rfl dX5_leastInFront_10 ?_
  refine V.icmp_ge (tgt := 97) dX5_leastInFront_13 (by decide) (fun hc13 => ?_) (fun hc13 => ?_)
  · replace h := (if_pos hc13).symm.trans h
    refine V.iload_n dX5_leastInFront_97 rfl 3 rfl ?_
    have e9 := Option.some.inj h; subst e9
    exact V.iret (ty := .int) rfl rfl dX5_leastInFront_98 (Nat.le_refl _) (Nat.le_refl _) hQ
  · replace h := (if_neg hc13).symm.trans h
    refine V.aload_n dX5_leastInFront_16 rfl 0 rfl ?_
    refine V.get kfX5 0 rfl rfl 2 (by decide) klX5_18 rfl dX5_leastInFront_17 ?_
    refine V.iload dX5_leastInFront_20 4 rfl ?_
    by_cases hb22 : x4 < 0 ∨ t_writtenN ≤ x4.toNatClampNeg
    · exact vNone ((if_pos hb22).symm.trans h)
    replace h := (if_neg hb22).symm.trans h
    refine V.zald dX5_leastInFront_22 2 rfl hb22 ?_
    refine V.if_ne (tgt := 91) dX5_leastInFront_23 (by decide) (fun hc23 => ?_) (fun hc23 => ?_)
    · replace h := (if_neg hc23).symm.trans h
      exact vX5_leastInFront_L91 _ _ _ _ _ _ _ _ _ _ _ _ _ _ _ _ _ _ _ _ _ _ _ _ _ _ _ hk7  _ _ _ R h hQ
    · replace h := (if_pos hc23).symm.trans h
      refine V.iload_n dX5_leastInFront_26 rfl 2 rfl ?_
      refine V.aload_n dX5_leastInFront_27 rfl 0 rfl ?_
      refine V.get kfX5 0 rfl rfl 0 (by decide) klX5_9 rfl dX5_leastInFront_28 ?_
      refine V.iload dX5_leastInFront_31 4 rfl ?_
      by_cases hb33 : x4 < 0 ∨ t_folkN ≤ x4.toNatClampNeg
      · exact vNone ((if_pos hb33).symm.trans h)
      replace h := (if_neg hb33).symm.trans h
      refine V.iald dX5_leastInFront_33 1 rfl hb33 ?_
      refine V.ishr dX5_leastInFront_34 ?_
      refine V.iconst (v := (1 : Int32)) dX5_leastInFront_35 (by decide) ?_
      refine V.iand dX5_leastInFront_36 ?_
      refine V.if_ne (tgt := 44) dX5_leastInFront_37 (by decide) (fun hc37 => ?_) (fun hc37 => ?_)
      · replace h := (if_neg hc37).symm.trans h
        refine V.iconst (v := (0 : Int32)) dX5_leastInFront_44 (by decide) ?_
        exact vX5_leastInFront_L45 _ _ _ _ _ _ _ _ _ _ _ _ _ _ _ _ _ _ _ _ _ _ _ _ _ _ _ hk7  _ _ _ _ R h hQ
      · replace h := (if_pos hc37).symm.trans h
        refine V.iconst (v := (1 : Int32)) dX5_leastInFront_40 (by decide) ?_
        refine V.goto (tgt := 45) dX5_leastInFront_41 (by decide) ?_
        exact vX5_leastInFront_L45 _ _ _ _ _ _ _ _ _ _ _ _ _ _ _ _ _ _ _ _ _ _ _ _ _ _ _ hk7  _ _ _ _ R h hQ
noncomputable def fX5_leastInFront_L7 (F : Nat) (t_size : Int32) (t_folkN : Nat) (t_folk : Nat → Int32) (t_writtenN : Nat) (t_written : Nat → Int32) (p1_stopsN : Nat) (p1_stops : Nat → Int32)  : Nat → Int32 → Int32 → Int32 → Option (Int32)
  | 0 => fun _ _ _ => none
  | n + 1 => bX5_leastInFront_L7 F t_size t_folkN t_folk t_writtenN t_written p1_stopsN p1_stops (fX5_leastInFront_L7 F t_size t_folkN t_folk t_writtenN t_written p1_stopsN p1_stops  n)
theorem vX5_leastInFront_L7 {l : Launch} {D : va_G} {cy : Nat → ClassId} {av : List Value} {ws0 : va_W} {Q : Option Value → va_W → Prop} (F : Nat) (tA : Nat) (t_countsV : Value) (t_size : Int32) (t_folkA : Nat) (t_folkN : Nat) (t_folk : Nat → Int32) (t_writtenA : Nat) (t_writtenN : Nat) (t_written : Nat → Int32) (p1A : Nat) (p1_namesV : Value) (p1_kindsV : Value) (p1_kinV : Value) (p1_roundsV : Value) (p1_folks : Int32) (p1_pairs : Int32) (p1_line : Int32) (p1_rope : Int32) (p1_lineTold : Int32) (p1_ropeTold : Int32) (p1_lawV : Value) (p1_takenV : Value) (p1_stopsA : Nat) (p1_stopsN : Nat) (p1_stops : Nat → Int32)  : ∀ (n : Nat) (x2 : Int32) (x3 : Int32) (x4 : Int32) (R : Int32), fX5_leastInFront_L7 F t_size t_folkN t_folk t_writtenN t_written p1_stopsN p1_stops  n x2 x3 x4 = some R → Q (some (.int R)) (wX5_leastInFront cy tA t_countsV t_size t_folkA t_folkN t_folk t_writtenA t_writtenN t_written p1A p1_namesV p1_kindsV p1_kinV p1_roundsV p1_folks p1_pairs p1_line p1_rope p1_lineTold p1_ropeTold p1_lawV p1_takenV p1_stopsA p1_stopsN p1_stops) → V l D cy MX5_leastInFront 0 0 0 av ws0 Q 7 [(0, .ref tA), (1, .ref p1A), (2, .int x2), (3, .int x3), (4, .int x4)] [] (wX5_leastInFront cy tA t_countsV t_size t_folkA t_folkN t_folk t_writtenA t_writtenN t_written p1A p1_namesV p1_kindsV p1_kinV p1_roundsV p1_folks p1_pairs p1_line p1_rope p1_lineTold p1_ropeTold p1_lawV p1_takenV p1_stopsA p1_stopsN p1_stops) 0 0 := by
  intro n
  induction n with
  | zero => intro x2 x3 x4 R h; exact vNone h
  | succ n ih => intro x2 x3 x4 R h hQ; exact vbX5_leastInFront_L7 F tA t_countsV t_size t_folkA t_folkN t_folk t_writtenA t_writtenN t_written p1A p1_namesV p1_kindsV p1_kinV p1_roundsV p1_folks p1_pairs p1_line p1_rope p1_lineTold p1_ropeTold p1_lawV p1_takenV p1_stopsA p1_stopsN p1_stops _ ih x2 x3 x4 R h hQ
noncomputable def fX5_leastInFront (F : Nat) (t_size : Int32) (t_folkN : Nat) (t_folk : Nat → Int32) (t_writtenN : Nat) (t_written : Nat → Int32) (p1_stopsN : Nat) (p1_stops : Nat → Int32) : Option (Int32) :=
  fX5_leastInFront_L7 F t_size t_folkN t_folk t_writtenN t_written p1_stopsN p1_stops F (0 : Int32) (-1 : Int32) (0 : Int32)
theorem CX5_leastInFront {l : Launch} {D : va_G} {cy : Nat → ClassId} (F : Nat) (tA : Nat) (t_countsV : Value) (t_size : Int32) (t_folkA : Nat) (t_folkN : Nat) (t_folk : Nat → Int32) (t_writtenA : Nat) (t_writtenN : Nat) (t_written : Nat → Int32) (p1A : Nat) (p1_namesV : Value) (p1_kindsV : Value) (p1_kinV : Value) (p1_roundsV : Value) (p1_folks : Int32) (p1_pairs : Int32) (p1_line : Int32) (p1_rope : Int32) (p1_lineTold : Int32) (p1_ropeTold : Int32) (p1_lawV : Value) (p1_takenV : Value) (p1_stopsA : Nat) (p1_stopsN : Nat) (p1_stops : Nat → Int32) (R : Int32) (h : fX5_leastInFront F t_size t_folkN t_folk t_writtenN t_written p1_stopsN p1_stops = some R) : vMet l D cy MX5_leastInFront 0 0 0 [.ref tA, .ref p1A] (wX5_leastInFront cy tA t_countsV t_size t_folkA t_folkN t_folk t_writtenA t_writtenN t_written p1A p1_namesV p1_kindsV p1_kinV p1_roundsV p1_folks p1_pairs p1_line p1_rope p1_lineTold p1_ropeTold p1_lawV p1_takenV p1_stopsA p1_stopsN p1_stops) (fun (r : Option Value) (w : va_W) => r = (some (.int R)) ∧ w = (wX5_leastInFront cy tA t_countsV t_size t_folkA t_folkN t_folk t_writtenA t_writtenN t_written p1A p1_namesV p1_kindsV p1_kinV p1_roundsV p1_folks p1_pairs p1_line p1_rope p1_lineTold p1_ropeTold p1_lawV p1_takenV p1_stopsA p1_stopsN p1_stops)) := by
  refine vMet.start (by decide +kernel) (Nat.le_of_ble_eq_true rfl) ?_
  generalize hQe : (fun (r : Option Value) (w : va_W) => r = (some (.int R)) ∧ w = (wX5_leastInFront cy tA t_countsV t_size t_folkA t_folkN t_folk t_writtenA t_writtenN t_written p1A p1_namesV p1_kindsV p1_kinV p1_roundsV p1_folks p1_pairs p1_line p1_rope p1_lineTold p1_ropeTold p1_lawV p1_takenV p1_stopsA p1_stopsN p1_stops)) = Q
  have hQ : Q (some (.int R)) (wX5_leastInFront cy tA t_countsV t_size t_folkA t_folkN t_folk t_writtenA t_writtenN t_written p1A p1_namesV p1_kindsV p1_kinV p1_roundsV p1_folks p1_pairs p1_line p1_rope p1_lineTold p1_ropeTold p1_lawV p1_takenV p1_stopsA p1_stopsN p1_stops) := by rw [← hQe]; exact ⟨rfl, rfl⟩
  show V l D cy MX5_leastInFront 0 0 0 _ _ Q 0 [(0, .ref tA), (1, .ref p1A)] [] _ 0 0
  show V l D cy MX5_leastInFront 0 0 0 [.ref tA, .ref p1A] _ Q 0 [(0, .ref tA), (1, .ref p1A)] [] (wX5_leastInFront cy tA t_countsV t_size t_folkA t_folkN t_folk t_writtenA t_writtenN t_written p1A p1_namesV p1_kindsV p1_kinV p1_roundsV p1_folks p1_pairs p1_line p1_rope p1_lineTold p1_ropeTold p1_lawV p1_takenV p1_stopsA p1_stopsN p1_stops) 0 0
  unfold fX5_leastInFront at h
  refine V.iconst (v := (0 : Int32)) dX5_leastInFront_0 (by decide) ?_
  refine V.istore_n (lv' := [(2, .int (0 : Int32)), (0, .ref tA), (1, .ref p1A)]) dX5_leastInFront_1 rfl (by decide) rfl ?_
  refine V.iconst (v := (-1 : Int32)) dX5_leastInFront_2 (by decide) ?_
  refine V.istore_n (lv' := [(3, .int (-1 : Int32)), (2, .int (0 : Int32)), (0, .ref tA), (1, .ref p1A)]) dX5_leastInFront_3 rfl (by decide) rfl ?_
  refine V.iconst (v := (0 : Int32)) dX5_leastInFront_4 (by decide) ?_
  refine V.istore (lv' := [(4, .int (0 : Int32)), (3, .int (-1 : Int32)), (2, .int (0 : Int32)), (0, .ref tA), (1, .ref p1A)]) dX5_leastInFront_5 (by decide) rfl ?_
  refine V.lvs [3, 4, 2, 1, 0] rfl ?_
  exact vX5_leastInFront_L7 _ _ _ _ _ _ _ _ _ _ _ _ _ _ _ _ _ _ _ _ _ _ _ _ _ _  _ _ _ _ R h hQ
theorem dX5_push_0 : decode cX5_push 0 = .ok (.aload_n 1, 1) := by decide +kernel
theorem dX5_push_1 : decode cX5_push 1 = .ok (.iload_n 2, 1) := by decide +kernel
theorem dX5_push_2 : decode cX5_push 2 = .ok (.invokevirtual 65, 3) := by decide +kernel
theorem dX5_push_5 : decode cX5_push 5 = .ok (.ifCond .ne 4, 3) := by decide +kernel
theorem dX5_push_8 : decode cX5_push 8 = .ok (.return_, 1) := by decide +kernel
theorem dX5_push_9 : decode cX5_push 9 = .ok (.aload_n 1, 1) := by decide +kernel
theorem dX5_push_10 : decode cX5_push 10 = .ok (.getfield 71, 3) := by decide +kernel
theorem dX5_push_13 : decode cX5_push 13 = .ok (.iload_n 2, 1) := by decide +kernel
theorem dX5_push_14 : decode cX5_push 14 = .ok (.iaload, 1) := by decide +kernel
theorem dX5_push_15 : decode cX5_push 15 = .ok (.istore 4, 2) := by decide +kernel
theorem dX5_push_17 : decode cX5_push 17 = .ok (.aload_n 0, 1) := by decide +kernel
theorem dX5_push_18 : decode cX5_push 18 = .ok (.getfield 22, 3) := by decide +kernel
theorem dX5_push_21 : decode cX5_push 21 = .ok (.iconst 1, 1) := by decide +kernel
theorem dX5_push_22 : decode cX5_push 22 = .ok (.isub, 1) := by decide +kernel
theorem dX5_push_23 : decode cX5_push 23 = .ok (.istore 5, 2) := by decide +kernel
theorem dX5_push_25 : decode cX5_push 25 = .ok (.iload 5, 2) := by decide +kernel
theorem dX5_push_27 : decode cX5_push 27 = .ok (.ifCond .lt 24, 3) := by decide +kernel
theorem dX5_push_30 : decode cX5_push 30 = .ok (.iload 4, 2) := by decide +kernel
theorem dX5_push_32 : decode cX5_push 32 = .ok (.aload_n 0, 1) := by decide +kernel
theorem dX5_push_33 : decode cX5_push 33 = .ok (.getfield 9, 3) := by decide +kernel
theorem dX5_push_36 : decode cX5_push 36 = .ok (.iload 5, 2) := by decide +kernel
theorem dX5_push_38 : decode cX5_push 38 = .ok (.iaload, 1) := by decide +kernel
theorem dX5_push_39 : decode cX5_push 39 = .ok (.ishr, 1) := by decide +kernel
theorem dX5_push_40 : decode cX5_push 40 = .ok (.iconst 1, 1) := by decide +kernel
theorem dX5_push_41 : decode cX5_push 41 = .ok (.iand, 1) := by decide +kernel
theorem dX5_push_42 : decode cX5_push 42 = .ok (.ifCond .ne 9, 3) := by decide +kernel
theorem dX5_push_45 : decode cX5_push 45 = .ok (.iinc 5 (-1), 3) := by decide +kernel
theorem dX5_push_48 : decode cX5_push 48 = .ok (.goto (-23), 3) := by decide +kernel
theorem dX5_push_51 : decode cX5_push 51 = .ok (.iload 5, 2) := by decide +kernel
theorem dX5_push_53 : decode cX5_push 53 = .ok (.ifCond .lt 18, 3) := by decide +kernel
theorem dX5_push_56 : decode cX5_push 56 = .ok (.aload_n 0, 1) := by decide +kernel
theorem dX5_push_57 : decode cX5_push 57 = .ok (.getfield 9, 3) := by decide +kernel
theorem dX5_push_60 : decode cX5_push 60 = .ok (.iload 5, 2) := by decide +kernel
theorem dX5_push_62 : decode cX5_push 62 = .ok (.iaload, 1) := by decide +kernel
theorem dX5_push_63 : decode cX5_push 63 = .ok (.iload_n 2, 1) := by decide +kernel
theorem dX5_push_64 : decode cX5_push 64 = .ok (.if_icmp .ne 7, 3) := by decide +kernel
theorem dX5_push_67 : decode cX5_push 67 = .ok (.iconst 1, 1) := by decide +kernel
theorem dX5_push_68 : decode cX5_push 68 = .ok (.goto 4, 3) := by decide +kernel
theorem dX5_push_71 : decode cX5_push 71 = .ok (.iconst 0, 1) := by decide +kernel
theorem dX5_push_72 : decode cX5_push 72 = .ok (.istore 6, 2) := by decide +kernel
theorem dX5_push_74 : decode cX5_push 74 = .ok (.iload 6, 2) := by decide +kernel
theorem dX5_push_76 : decode cX5_push 76 = .ok (.ifCond .eq 15, 3) := by decide +kernel
theorem dX5_push_79 : decode cX5_push 79 = .ok (.aload_n 0, 1) := by decide +kernel
theorem dX5_push_80 : decode cX5_push 80 = .ok (.getfield 15, 3) := by decide +kernel
theorem dX5_push_83 : decode cX5_push 83 = .ok (.iload 5, 2) := by decide +kernel
theorem dX5_push_85 : decode cX5_push 85 = .ok (.iaload, 1) := by decide +kernel
theorem dX5_push_86 : decode cX5_push 86 = .ok (.iload_n 3, 1) := by decide +kernel
theorem dX5_push_87 : decode cX5_push 87 = .ok (.iadd, 1) := by decide +kernel
theorem dX5_push_88 : decode cX5_push 88 = .ok (.goto 4, 3) := by decide +kernel
theorem dX5_push_91 : decode cX5_push 91 = .ok (.iload_n 3, 1) := by decide +kernel
theorem dX5_push_92 : decode cX5_push 92 = .ok (.istore 7, 2) := by decide +kernel
theorem dX5_push_94 : decode cX5_push 94 = .ok (.aload_n 1, 1) := by decide +kernel
theorem dX5_push_95 : decode cX5_push 95 = .ok (.getfield 74, 3) := by decide +kernel
theorem dX5_push_98 : decode cX5_push 98 = .ok (.iload_n 2, 1) := by decide +kernel
theorem dX5_push_99 : decode cX5_push 99 = .ok (.iaload, 1) := by decide +kernel
theorem dX5_push_100 : decode cX5_push 100 = .ok (.istore 8, 2) := by decide +kernel
theorem dX5_push_102 : decode cX5_push 102 = .ok (.iload 8, 2) := by decide +kernel
theorem dX5_push_104 : decode cX5_push 104 = .ok (.ifCond .le 12, 3) := by decide +kernel
theorem dX5_push_107 : decode cX5_push 107 = .ok (.iload 7, 2) := by decide +kernel
theorem dX5_push_109 : decode cX5_push 109 = .ok (.iload 8, 2) := by decide +kernel
theorem dX5_push_111 : decode cX5_push 111 = .ok (.invokestatic 77, 3) := by decide +kernel
theorem dX5_push_114 : decode cX5_push 114 = .ok (.istore 7, 2) := by decide +kernel
theorem dX5_push_116 : decode cX5_push 116 = .ok (.iload 6, 2) := by decide +kernel
theorem dX5_push_118 : decode cX5_push 118 = .ok (.ifCond .ne 13, 3) := by decide +kernel
theorem dX5_push_121 : decode cX5_push 121 = .ok (.aload_n 0, 1) := by decide +kernel
theorem dX5_push_122 : decode cX5_push 122 = .ok (.iload_n 2, 1) := by decide +kernel
theorem dX5_push_123 : decode cX5_push 123 = .ok (.iload 7, 2) := by decide +kernel
theorem dX5_push_125 : decode cX5_push 125 = .ok (.invokevirtual 80, 3) := by decide +kernel
theorem dX5_push_128 : decode cX5_push 128 = .ok (.goto 26, 3) := by decide +kernel
theorem dX5_push_131 : decode cX5_push 131 = .ok (.iload 7, 2) := by decide +kernel
theorem dX5_push_133 : decode cX5_push 133 = .ok (.ifCond .ne 12, 3) := by decide +kernel
theorem dX5_push_136 : decode cX5_push 136 = .ok (.aload_n 0, 1) := by decide +kernel
theorem dX5_push_137 : decode cX5_push 137 = .ok (.iload 5, 2) := by decide +kernel
theorem dX5_push_139 : decode cX5_push 139 = .ok (.invokevirtual 84, 3) := by decide +kernel
theorem dX5_push_142 : decode cX5_push 142 = .ok (.goto 12, 3) := by decide +kernel
theorem dX5_push_145 : decode cX5_push 145 = .ok (.aload_n 0, 1) := by decide +kernel
theorem dX5_push_146 : decode cX5_push 146 = .ok (.getfield 15, 3) := by decide +kernel
theorem dX5_push_149 : decode cX5_push 149 = .ok (.iload 5, 2) := by decide +kernel
theorem dX5_push_151 : decode cX5_push 151 = .ok (.iload 7, 2) := by decide +kernel
theorem dX5_push_153 : decode cX5_push 153 = .ok (.iastore, 1) := by decide +kernel
theorem dX5_push_154 : decode cX5_push 154 = .ok (.return_, 1) := by decide +kernel
def wX5_push (cy : Nat → ClassId) (tA : Nat) (t_writtenV : Value) (t_size : Int32) (t_folkA : Nat) (t_folkN : Nat) (t_folk : Nat → Int32) (t_countsA : Nat) (t_countsN : Nat) (t_counts : Nat → Int32) (p1A : Nat) (p1_namesV : Value) (p1_kindsV : Value) (p1_kinV : Value) (p1_folks : Int32) (p1_pairs : Int32) (p1_line : Int32) (p1_rope : Int32) (p1_lineTold : Int32) (p1_ropeTold : Int32) (p1_lawV : Value) (p1_takenV : Value) (p1_stopsA : Nat) (p1_stopsN : Nat) (p1_stops : Nat → Int32) (p1_roundsA : Nat) (p1_roundsN : Nat) (p1_rounds : Nat → Int32) : va_W :=
  [(tA, .inr (5, [.ref t_folkA, .ref t_countsA, t_writtenV, .int t_size])), (t_folkA, .inl (cy 1, t_folkN, .inl t_folk)), (t_countsA, .inl (cy 1, t_countsN, .inl t_counts)), (p1A, .inr (2, [p1_namesV, p1_kindsV, p1_kinV, .ref p1_stopsA, .ref p1_roundsA, .int p1_folks, .int p1_pairs, .int p1_line, .int p1_rope, .int p1_lineTold, .int p1_ropeTold, p1_lawV, p1_takenV])), (p1_stopsA, .inl (cy 1, p1_stopsN, .inl p1_stops)), (p1_roundsA, .inl (cy 1, p1_roundsN, .inl p1_rounds))]
noncomputable def bX5_push_L154 (F : Nat) (t_folkN : Nat) (t_countsN : Nat) (p1_folks : Int32) (p1_stopsN : Nat) (p1_stops : Nat → Int32) (p1_roundsN : Nat) (p1_rounds : Nat → Int32)  (t_size : Int32) (t_folk : Nat → Int32) (t_counts : Nat → Int32) : Option ((Int32) × (Nat → Int32) × (Nat → Int32)) :=
  some (t_size, t_folk, t_counts)
theorem vX5_push_L154 {l : Launch} {D : va_G} {cy : Nat → ClassId} {av : List Value} {ws0 : va_W} {Q : Option Value → va_W → Prop} (F : Nat) (tA : Nat) (t_writtenV : Value) (t_folkA : Nat) (t_folkN : Nat) (t_countsA : Nat) (t_countsN : Nat) (p1A : Nat) (p1_namesV : Value) (p1_kindsV : Value) (p1_kinV : Value) (p1_folks : Int32) (p1_pairs : Int32) (p1_line : Int32) (p1_rope : Int32) (p1_lineTold : Int32) (p1_ropeTold : Int32) (p1_lawV : Value) (p1_takenV : Value) (p1_stopsA : Nat) (p1_stopsN : Nat) (p1_stops : Nat → Int32) (p1_roundsA : Nat) (p1_roundsN : Nat) (p1_rounds : Nat → Int32)  (t_size : Int32) (t_folk : Nat → Int32) (t_counts : Nat → Int32) (R : (Int32) × (Nat → Int32) × (Nat → Int32)) (h : bX5_push_L154 F t_folkN t_countsN p1_folks p1_stopsN p1_stops p1_roundsN p1_rounds  t_size t_folk t_counts = some R) (hQ : Q none (wX5_push cy tA t_writtenV R.1 t_folkA t_folkN R.2.1 t_countsA t_countsN R.2.2 p1A p1_namesV p1_kindsV p1_kinV p1_folks p1_pairs p1_line p1_rope p1_lineTold p1_ropeTold p1_lawV p1_takenV p1_stopsA p1_stopsN p1_stops p1_roundsA p1_roundsN p1_rounds)) : V l D cy MX5_push 1 0 0 av ws0 Q 154 [] [] (wX5_push cy tA t_writtenV t_size t_folkA t_folkN t_folk t_countsA t_countsN t_counts p1A p1_namesV p1_kindsV p1_kinV p1_folks p1_pairs p1_line p1_rope p1_lineTold p1_ropeTold p1_lawV p1_takenV p1_stopsA p1_stopsN p1_stops p1_roundsA p1_roundsN p1_rounds) 0 0 := by
  unfold bX5_push_L154 at h
  have e9 := Option.some.inj h; subst e9
  exact V.vret rfl dX5_push_154 (Nat.le_refl _) (Nat.le_refl _) hQ
noncomputable def bX5_push_L116 (F : Nat) (t_folkN : Nat) (t_countsN : Nat) (p1_folks : Int32) (p1_stopsN : Nat) (p1_stops : Nat → Int32) (p1_roundsN : Nat) (p1_rounds : Nat → Int32)  (x2 : Int32) (x5 : Int32) (x6 : Int32) (x7 : Int32) (t_size : Int32) (t_folk : Nat → Int32) (t_counts : Nat → Int32) : Option ((Int32) × (Nat → Int32) × (Nat → Int32)) :=
  if x6 = 0 then ((fX5_append F t_folkN t_countsN x2 x7 t_size t_folk t_counts).bind fun R125 => (bX5_push_L154 F t_folkN t_countsN p1_folks p1_stopsN p1_stops p1_roundsN p1_rounds R125.1 R125.2.1 R125.2.2)) else (if x7 = 0 then ((fX5_takeOut F t_folkN t_countsN x5 t_size t_folk t_counts).bind fun R139 => (bX5_push_L154 F t_folkN t_countsN p1_folks p1_stopsN p1_stops p1_roundsN p1_rounds R139.1 R139.2.1 R139.2.2)) else (if x5 < 0 ∨ t_countsN ≤ x5.toNatClampNeg then none else (bX5_push_L154 F t_folkN t_countsN p1_folks p1_stopsN p1_stops p1_roundsN p1_rounds t_size t_folk (upd t_counts x5.toNatClampNeg x7))))
theorem vX5_push_L116 {l : Launch} {D : va_G} {cy : Nat → ClassId} {av : List Value} {ws0 : va_W} {Q : Option Value → va_W → Prop} (F : Nat) (tA : Nat) (t_writtenV : Value) (t_folkA : Nat) (t_folkN : Nat) (t_countsA : Nat) (t_countsN : Nat) (p1A : Nat) (p1_namesV : Value) (p1_kindsV : Value) (p1_kinV : Value) (p1_folks : Int32) (p1_pairs : Int32) (p1_line : Int32) (p1_rope : Int32) (p1_lineTold : Int32) (p1_ropeTold : Int32) (p1_lawV : Value) (p1_takenV : Value) (p1_stopsA : Nat) (p1_stopsN : Nat) (p1_stops : Nat → Int32) (p1_roundsA : Nat) (p1_roundsN : Nat) (p1_rounds : Nat → Int32)  (x2 : Int32) (x5 : Int32) (x6 : Int32) (x7 : Int32) (t_size : Int32) (t_folk : Nat → Int32) (t_counts : Nat → Int32) (R : (Int32) × (Nat → Int32) × (Nat → Int32)) (h : bX5_push_L116 F t_folkN t_countsN p1_folks p1_stopsN p1_stops p1_roundsN p1_rounds  x2 x5 x6 x7 t_size t_folk t_counts = some R) (hQ : Q none (wX5_push cy tA t_writtenV R.1 t_folkA t_folkN R.2.1 t_countsA t_countsN R.2.2 p1A p1_namesV p1_kindsV p1_kinV p1_folks p1_pairs p1_line p1_rope p1_lineTold p1_ropeTold p1_lawV p1_takenV p1_stopsA p1_stopsN p1_stops p1_roundsA p1_roundsN p1_rounds)) : V l D cy MX5_push 1 0 0 av ws0 Q 116 [(0, .ref tA), (2, .int x2), (5, .int x5), (6, .int x6), (7, .int x7)] [] (wX5_push cy tA t_writtenV t_size t_folkA t_folkN t_folk t_countsA t_countsN t_counts p1A p1_namesV p1_kindsV p1_kinV p1_folks p1_pairs p1_line p1_rope p1_lineTold p1_ropeTold p1_lawV p1_takenV p1_stopsA p1_stopsN p1_stops p1_roundsA p1_roundsN p1_rounds) 0 0 := by
  unfold bX5_push_L116 at h
  refine V.iload dX5_push_116 3 rfl ?_
  refine V.if_ne (tgt := 131) dX5_push_118 (by decide) (fun hc118 => ?_) (fun hc118 => ?_)
  · replace h := (if_neg hc118).symm.trans h
    refine V.iload dX5_push_131 4 rfl ?_
    refine V.if_ne (tgt := 145) dX5_push_133 (by decide) (fun hc133 => ?_) (fun hc133 => ?_)
    · replace h := (if_neg hc133).symm.trans h
      refine V.aload_n dX5_push_145 rfl 0 rfl ?_
      refine V.get kfX5 0 rfl rfl 1 (by decide) klX5_15 rfl dX5_push_146 ?_
      refine V.iload dX5_push_149 2 rfl ?_
      refine V.iload dX5_push_151 4 rfl ?_
      by_cases hb153 : x5 < 0 ∨ t_countsN ≤ x5.toNatClampNeg
      · exact vNone ((if_pos hb153).symm.trans h)
      replace h := (if_neg hb153).symm.trans h
      refine V.iast (ws' := (wX5_push cy tA t_writtenV t_size t_folkA t_folkN t_folk t_countsA t_countsN (upd t_counts x5.toNatClampNeg x7) p1A p1_namesV p1_kindsV p1_kinV p1_folks p1_pairs p1_line p1_rope p1_lineTold p1_ropeTold p1_lawV p1_takenV p1_stopsA p1_stopsN p1_stops p1_roundsA p1_roundsN p1_rounds)) dX5_push_153 2 rfl hb153 rfl ?_
      refine V.lvs [] rfl ?_
      exact vX5_push_L154 _ _ _ _ _ _ _ _ _ _ _ _ _ _ _ _ _ _ _ _ _ _ _ _ _   _ _ _ R h hQ
    · replace h := (if_pos hc133).symm.trans h
      refine V.aload_n dX5_push_136 rfl 0 rfl ?_
      refine V.iload dX5_push_137 2 rfl ?_
      obtain ⟨R139, hg139, h⟩ := Option.bind_eq_some_iff.mp h
      refine V.callV (As := [.int x5]) (rest := []) (wc := (wX5_takeOut cy tA t_writtenV t_size t_folkA t_folkN t_folk t_countsA t_countsN t_counts)) (wr := [(p1A, .inr (2, [p1_namesV, p1_kindsV, p1_kinV, .ref p1_stopsA, .ref p1_roundsA, .int p1_folks, .int p1_pairs, .int p1_line, .int p1_rope, .int p1_lineTold, .int p1_ropeTold, p1_lawV, p1_takenV])), (p1_stopsA, .inl (cy 1, p1_stopsN, .inl p1_stops)), (p1_roundsA, .inl (cy 1, p1_roundsN, .inl p1_rounds))]) (q0 := 0) (CX5_takeOut F tA t_writtenV t_size t_folkA t_folkN t_folk t_countsA t_countsN t_counts x5 R139 hg139) kvX5_takeOut klX5_84 [0, 1, 2] [3, 4, 5] rfl rfl (by decide) (by decide) (by decide) rfl rfl rfl rfl dX5_push_139 ⟨by decide, by decide, by decide, by decide⟩ (Nat.le_of_ble_eq_true rfl) (fun r w1 hq => ?_)
      obtain ⟨rfl, rfl⟩ := hq
      refine V.cells (ws' := (wX5_push cy tA t_writtenV R139.1 t_folkA t_folkN R139.2.1 t_countsA t_countsN R139.2.2 p1A p1_namesV p1_kindsV p1_kinV p1_folks p1_pairs p1_line p1_rope p1_lineTold p1_ropeTold p1_lawV p1_takenV p1_stopsA p1_stopsN p1_stops p1_roundsA p1_roundsN p1_rounds)) [3, 4, 5, 0, 1, 2] (by decide) rfl ?_
      show V l D cy MX5_push 1 0 0 _ _ _ 142 [(0, .ref tA), (2, .int x2), (5, .int x5), (6, .int x6), (7, .int x7)] [] (wX5_push cy tA t_writtenV R139.1 t_folkA t_folkN R139.2.1 t_countsA t_countsN R139.2.2 p1A p1_namesV p1_kindsV p1_kinV p1_folks p1_pairs p1_line p1_rope p1_lineTold p1_ropeTold p1_lawV p1_takenV p1_stopsA p1_stopsN p1_stops p1_roundsA p1_roundsN p1_rounds) 0 0
      refine V.goto (tgt := 154) dX5_push_142 (by decide) ?_
      refine V.lvs [] rfl ?_
      exact vX5_push_L154 _ _ _ _ _ _ _ _ _ _ _ _ _ _ _ _ _ _ _ _ _ _ _ _ _   _ _ _ R h hQ
  · replace h := (if_pos hc118).symm.trans h
    refine V.aload_n dX5_push_121 rfl 0 rfl ?_
    refine V.iload_n dX5_push_122 rfl 1 rfl ?_
    refine V.iload dX5_push_123 4 rfl ?_
    obtain ⟨R125, hg125, h⟩ := Option.bind_eq_some_iff.mp h
    refine V.callV (As := [.int x2, .int x7]) (rest := []) (wc := (wX5_append cy tA t_writtenV t_size t_folkA t_folkN t_folk t_countsA t_countsN t_counts)) (wr := [(p1A, .inr (2, [p1_namesV, p1_kindsV, p1_kinV, .ref p1_stopsA, .ref p1_roundsA, .int p1_folks, .int p1_pairs, .int p1_line, .int p1_rope, .int p1_lineTold, .int p1_ropeTold, p1_lawV, p1_takenV])), (p1_stopsA, .inl (cy 1, p1_stopsN, .inl p1_stops)), (p1_roundsA, .inl (cy 1, p1_roundsN, .inl p1_rounds))]) (q0 := 0) (CX5_append F tA t_writtenV t_size t_folkA t_folkN t_folk t_countsA t_countsN t_counts x2 x7 R125 hg125) kvX5_append klX5_80 [0, 1, 2] [3, 4, 5] rfl rfl (by decide) (by decide) (by decide) rfl rfl rfl rfl dX5_push_125 ⟨by decide, by decide, by decide, by decide⟩ (Nat.le_of_ble_eq_true rfl) (fun r w1 hq => ?_)
    obtain ⟨rfl, rfl⟩ := hq
    refine V.cells (ws' := (wX5_push cy tA t_writtenV R125.1 t_folkA t_folkN R125.2.1 t_countsA t_countsN R125.2.2 p1A p1_namesV p1_kindsV p1_kinV p1_folks p1_pairs p1_line p1_rope p1_lineTold p1_ropeTold p1_lawV p1_takenV p1_stopsA p1_stopsN p1_stops p1_roundsA p1_roundsN p1_rounds)) [3, 4, 5, 0, 1, 2] (by decide) rfl ?_
    show V l D cy MX5_push 1 0 0 _ _ _ 128 [(0, .ref tA), (2, .int x2), (5, .int x5), (6, .int x6), (7, .int x7)] [] (wX5_push cy tA t_writtenV R125.1 t_folkA t_folkN R125.2.1 t_countsA t_countsN R125.2.2 p1A p1_namesV p1_kindsV p1_kinV p1_folks p1_pairs p1_line p1_rope p1_lineTold p1_ropeTold p1_lawV p1_takenV p1_stopsA p1_stopsN p1_stops p1_roundsA p1_roundsN p1_rounds) 0 0
    refine V.goto (tgt := 154) dX5_push_128 (by decide) ?_
    refine V.lvs [] rfl ?_
    exact vX5_push_L154 _ _ _ _ _ _ _ _ _ _ _ _ _ _ _ _ _ _ _ _ _ _ _ _ _   _ _ _ R h hQ
noncomputable def bX5_push_L92 (F : Nat) (t_folkN : Nat) (t_countsN : Nat) (p1_folks : Int32) (p1_stopsN : Nat) (p1_stops : Nat → Int32) (p1_roundsN : Nat) (p1_rounds : Nat → Int32)  (x2 : Int32) (x5 : Int32) (x6 : Int32) (s0 : Int32) (t_size : Int32) (t_folk : Nat → Int32) (t_counts : Nat → Int32) : Option ((Int32) × (Nat → Int32) × (Nat → Int32)) :=
  if x2 < 0 ∨ p1_roundsN ≤ x2.toNatClampNeg then none else (if (p1_rounds (x2).toNatClampNeg) ≤ 0 then (bX5_push_L116 F t_folkN t_countsN p1_folks p1_stopsN p1_stops p1_roundsN p1_rounds x2 x5 x6 s0 t_size t_folk t_counts) else ((fJ9_floorMod_7cf53 F s0 (p1_rounds (x2).toNatClampNeg)).bind fun R111 => (bX5_push_L116 F t_folkN t_countsN p1_folks p1_stopsN p1_stops p1_roundsN p1_rounds x2 x5 x6 R111 t_size t_folk t_counts)))
theorem vX5_push_L92 {l : Launch} {D : va_G} {cy : Nat → ClassId} {av : List Value} {ws0 : va_W} {Q : Option Value → va_W → Prop} (F : Nat) (tA : Nat) (t_writtenV : Value) (t_folkA : Nat) (t_folkN : Nat) (t_countsA : Nat) (t_countsN : Nat) (p1A : Nat) (p1_namesV : Value) (p1_kindsV : Value) (p1_kinV : Value) (p1_folks : Int32) (p1_pairs : Int32) (p1_line : Int32) (p1_rope : Int32) (p1_lineTold : Int32) (p1_ropeTold : Int32) (p1_lawV : Value) (p1_takenV : Value) (p1_stopsA : Nat) (p1_stopsN : Nat) (p1_stops : Nat → Int32) (p1_roundsA : Nat) (p1_roundsN : Nat) (p1_rounds : Nat → Int32)  (x2 : Int32) (x5 : Int32) (x6 : Int32) (s0 : Int32) (t_size : Int32) (t_folk : Nat → Int32) (t_counts : Nat → Int32) (R : (Int32) × (Nat → Int32) × (Nat → Int32)) (h : bX5_push_L92 F t_folkN t_countsN p1_folks p1_stopsN p1_stops p1_roundsN p1_rounds  x2 x5 x6 s0 t_size t_folk t_counts = some R) (hQ : Q none (wX5_push cy tA t_writtenV R.1 t_folkA t_folkN R.2.1 t_countsA t_countsN R.2.2 p1A p1_namesV p1_kindsV p1_kinV p1_folks p1_pairs p1_line p1_rope p1_lineTold p1_ropeTold p1_lawV p1_takenV p1_stopsA p1_stopsN p1_stops p1_roundsA p1_roundsN p1_rounds)) : V l D cy MX5_push 1 0 0 av ws0 Q 92 [(0, .ref tA), (1, .ref p1A), (2, .int x2), (5, .int x5), (6, .int x6)] [.int s0] (wX5_push cy tA t_writtenV t_size t_folkA t_folkN t_folk t_countsA t_countsN t_counts p1A p1_namesV p1_kindsV p1_kinV p1_folks p1_pairs p1_line p1_rope p1_lineTold p1_ropeTold p1_lawV p1_takenV p1_stopsA p1_stopsN p1_stops p1_roundsA p1_roundsN p1_rounds) 0 0 := by
  unfold bX5_push_L92 at h
  refine V.istore (lv' := [(7, .int s0), (0, .ref tA), (1, .ref p1A), (2, .int x2), (5, .int x5), (6, .int x6)]) dX5_push_92 (by decide) rfl ?_
  refine V.aload_n dX5_push_94 rfl 2 rfl ?_
  refine V.get kfX2 3 rfl rfl 4 (by decide) klX5_74 rfl dX5_push_95 ?_
  refine V.iload_n dX5_push_98 rfl 3 rfl ?_
  by_cases hb99 : x2 < 0 ∨ p1_roundsN ≤ x2.toNatClampNeg
  · exact vNone ((if_pos hb99).symm.trans h)
  replace h := (if_neg hb99).symm.trans h
  refine V.iald dX5_push_99 5 rfl hb99 ?_
  refine V.istore (lv' := [(8, .int (p1_rounds (x2).toNatClampNeg)), (7, .int s0), (0, .ref tA), (1, .ref p1A), (2, .int x2), (5, .int x5), (6, .int x6)]) dX5_push_100 (by decide) rfl ?_
  refine V.iload dX5_push_102 0 rfl ?_
  refine V.if_le (tgt := 116) dX5_push_104 (by decide) (fun hc104 => ?_) (fun hc104 => ?_)
  · replace h := (if_pos hc104).symm.trans h
    refine V.lvs [2, 4, 5, 6, 1] rfl ?_
    exact vX5_push_L116 _ _ _ _ _ _ _ _ _ _ _ _ _ _ _ _ _ _ _ _ _ _ _ _ _   _ _ _ _ _ _ _ R h hQ
  · replace h := (if_neg hc104).symm.trans h
    refine V.iload dX5_push_107 1 rfl ?_
    refine V.iload dX5_push_109 0 rfl ?_
    obtain ⟨R111, hg111, h⟩ := Option.bind_eq_some_iff.mp h
    refine V.callS (As := [.int s0, .int (p1_rounds (x2).toNatClampNeg)]) (rest := []) (wc := (wJ9_floorMod_7cf53 cy )) (wr := [(tA, .inr (5, [.ref t_folkA, .ref t_countsA, t_writtenV, .int t_size])), (t_folkA, .inl (cy 1, t_folkN, .inl t_folk)), (t_countsA, .inl (cy 1, t_countsN, .inl t_counts)), (p1A, .inr (2, [p1_namesV, p1_kindsV, p1_kinV, .ref p1_stopsA, .ref p1_roundsA, .int p1_folks, .int p1_pairs, .int p1_line, .int p1_rope, .int p1_lineTold, .int p1_ropeTold, p1_lawV, p1_takenV])), (p1_stopsA, .inl (cy 1, p1_stopsN, .inl p1_stops)), (p1_roundsA, .inl (cy 1, p1_roundsN, .inl p1_rounds))]) (CJ9_floorMod_7cf53 F s0 (p1_rounds (x2).toNatClampNeg) R111 hg111) kvJ9_floorMod_7cf53 klX5_77 [] [0, 1, 2, 3, 4, 5] rfl rfl (by decide) (by decide) (by decide) rfl dX5_push_111 ⟨by decide, by decide, by decide, by decide⟩ (Nat.le_of_ble_eq_true rfl) (fun r w1 hq => ?_)
    obtain ⟨rfl, rfl⟩ := hq
    refine V.cells (ws' := (wX5_push cy tA t_writtenV t_size t_folkA t_folkN t_folk t_countsA t_countsN t_counts p1A p1_namesV p1_kindsV p1_kinV p1_folks p1_pairs p1_line p1_rope p1_lineTold p1_ropeTold p1_lawV p1_takenV p1_stopsA p1_stopsN p1_stops p1_roundsA p1_roundsN p1_rounds)) [0, 1, 2, 3, 4, 5] (by decide) rfl ?_
    show V l D cy MX5_push 1 0 0 _ _ _ 114 [(8, .int (p1_rounds (x2).toNatClampNeg)), (7, .int s0), (0, .ref tA), (1, .ref p1A), (2, .int x2), (5, .int x5), (6, .int x6)] [.int R111] (wX5_push cy tA t_writtenV t_size t_folkA t_folkN t_folk t_countsA t_countsN t_counts p1A p1_namesV p1_kindsV p1_kinV p1_folks p1_pairs p1_line p1_rope p1_lineTold p1_ropeTold p1_lawV p1_takenV p1_stopsA p1_stopsN p1_stops p1_roundsA p1_roundsN p1_rounds) 0 0
    refine V.istore (lv' := [(7, .int R111), (8, .int (p1_rounds (x2).toNatClampNeg)), (0, .ref tA), (1, .ref p1A), (2, .int x2), (5, .int x5), (6, .int x6)]) dX5_push_114 (by decide) rfl ?_
    refine V.lvs [2, 4, 5, 6, 0] rfl ?_
    exact vX5_push_L116 _ _ _ _ _ _ _ _ _ _ _ _ _ _ _ _ _ _ _ _ _ _ _ _ _   _ _ _ _ _ _ _ R h hQ
noncomputable def bX5_push_L72 (F : Nat) (t_folkN : Nat) (t_countsN : Nat) (p1_folks : Int32) (p1_stopsN : Nat) (p1_stops : Nat → Int32) (p1_roundsN : Nat) (p1_rounds : Nat → Int32)  (x2 : Int32) (x3 : Int32) (x5 : Int32) (s0 : Int32) (t_size : Int32) (t_folk : Nat → Int32) (t_counts : Nat → Int32) : Option ((Int32) × (Nat → Int32) × (Nat → Int32)) :=
  if s0 = 0 then (bX5_push_L92 F t_folkN t_countsN p1_folks p1_stopsN p1_stops p1_roundsN p1_rounds x2 x5 s0 x3 t_size t_folk t_counts) else (if x5 < 0 ∨ t_countsN ≤ x5.toNatClampNeg then none else (bX5_push_L92 F t_folkN t_countsN p1_folks p1_stopsN p1_stops p1_roundsN p1_rounds x2 x5 s0 ((t_counts (x5).toNatClampNeg) + x3) t_size t_folk t_counts))
theorem vX5_push_L72 {l : Launch} {D : va_G} {cy : Nat → ClassId} {av : List Value} {ws0 : va_W} {Q : Option Value → va_W → Prop} (F : Nat) (tA : Nat) (t_writtenV : Value) (t_folkA : Nat) (t_folkN : Nat) (t_countsA : Nat) (t_countsN : Nat) (p1A : Nat) (p1_namesV : Value) (p1_kindsV : Value) (p1_kinV : Value) (p1_folks : Int32) (p1_pairs : Int32) (p1_line : Int32) (p1_rope : Int32) (p1_lineTold : Int32) (p1_ropeTold : Int32) (p1_lawV : Value) (p1_takenV : Value) (p1_stopsA : Nat) (p1_stopsN : Nat) (p1_stops : Nat → Int32) (p1_roundsA : Nat) (p1_roundsN : Nat) (p1_rounds : Nat → Int32)  (x2 : Int32) (x3 : Int32) (x5 : Int32) (s0 : Int32) (t_size : Int32) (t_folk : Nat → Int32) (t_counts : Nat → Int32) (R : (Int32) × (Nat → Int32) × (Nat → Int32)) (h : bX5_push_L72 F t_folkN t_countsN p1_folks p1_stopsN p1_stops p1_roundsN p1_rounds  x2 x3 x5 s0 t_size t_folk t_counts = some R) (hQ : Q none (wX5_push cy tA t_writtenV R.1 t_folkA t_folkN R.2.1 t_countsA t_countsN R.2.2 p1A p1_namesV p1_kindsV p1_kinV p1_folks p1_pairs p1_line p1_rope p1_lineTold p1_ropeTold p1_lawV p1_takenV p1_stopsA p1_stopsN p1_stops p1_roundsA p1_roundsN p1_rounds)) : V l D cy MX5_push 1 0 0 av ws0 Q 72 [(0, .ref tA), (1, .ref p1A), (2, .int x2), (3, .int x3), (5, .int x5)] [.int s0] (wX5_push cy tA t_writtenV t_size t_folkA t_folkN t_folk t_countsA t_countsN t_counts p1A p1_namesV p1_kindsV p1_kinV p1_folks p1_pairs p1_line p1_rope p1_lineTold p1_ropeTold p1_lawV p1_takenV p1_stopsA p1_stopsN p1_stops p1_roundsA p1_roundsN p1_rounds) 0 0 := by
  unfold bX5_push_L72 at h
  refine V.istore (lv' := [(6, .int s0), (0, .ref tA), (1, .ref p1A), (2, .int x2), (3, .int x3), (5, .int x5)]) dX5_push_72 (by decide) rfl ?_
  refine V.iload dX5_push_74 0 rfl ?_
  refine V.if_eq (tgt := 91) dX5_push_76 (by decide) (fun hc76 => ?_) (fun hc76 => ?_)
  · replace h := (if_pos hc76).symm.trans h
    refine V.iload_n dX5_push_91 rfl 4 rfl ?_
    refine V.lvs [1, 2, 3, 5, 0] rfl ?_
    exact vX5_push_L92 _ _ _ _ _ _ _ _ _ _ _ _ _ _ _ _ _ _ _ _ _ _ _ _ _   _ _ _ _ _ _ _ R h hQ
  · replace h := (if_neg hc76).symm.trans h
    refine V.aload_n dX5_push_79 rfl 1 rfl ?_
    refine V.get kfX5 0 rfl rfl 1 (by decide) klX5_15 rfl dX5_push_80 ?_
    refine V.iload dX5_push_83 5 rfl ?_
    by_cases hb85 : x5 < 0 ∨ t_countsN ≤ x5.toNatClampNeg
    · exact vNone ((if_pos hb85).symm.trans h)
    replace h := (if_neg hb85).symm.trans h
    refine V.iald dX5_push_85 2 rfl hb85 ?_
    refine V.iload_n dX5_push_86 rfl 4 rfl ?_
    refine V.iadd dX5_push_87 ?_
    refine V.goto (tgt := 92) dX5_push_88 (by decide) ?_
    refine V.lvs [1, 2, 3, 5, 0] rfl ?_
    exact vX5_push_L92 _ _ _ _ _ _ _ _ _ _ _ _ _ _ _ _ _ _ _ _ _ _ _ _ _   _ _ _ _ _ _ _ R h hQ
noncomputable def bX5_push_L71 (F : Nat) (t_folkN : Nat) (t_countsN : Nat) (p1_folks : Int32) (p1_stopsN : Nat) (p1_stops : Nat → Int32) (p1_roundsN : Nat) (p1_rounds : Nat → Int32)  (x2 : Int32) (x3 : Int32) (x5 : Int32) (t_size : Int32) (t_folk : Nat → Int32) (t_counts : Nat → Int32) : Option ((Int32) × (Nat → Int32) × (Nat → Int32)) :=
  bX5_push_L72 F t_folkN t_countsN p1_folks p1_stopsN p1_stops p1_roundsN p1_rounds x2 x3 x5 (0 : Int32) t_size t_folk t_counts
theorem vX5_push_L71 {l : Launch} {D : va_G} {cy : Nat → ClassId} {av : List Value} {ws0 : va_W} {Q : Option Value → va_W → Prop} (F : Nat) (tA : Nat) (t_writtenV : Value) (t_folkA : Nat) (t_folkN : Nat) (t_countsA : Nat) (t_countsN : Nat) (p1A : Nat) (p1_namesV : Value) (p1_kindsV : Value) (p1_kinV : Value) (p1_folks : Int32) (p1_pairs : Int32) (p1_line : Int32) (p1_rope : Int32) (p1_lineTold : Int32) (p1_ropeTold : Int32) (p1_lawV : Value) (p1_takenV : Value) (p1_stopsA : Nat) (p1_stopsN : Nat) (p1_stops : Nat → Int32) (p1_roundsA : Nat) (p1_roundsN : Nat) (p1_rounds : Nat → Int32)  (x2 : Int32) (x3 : Int32) (x5 : Int32) (t_size : Int32) (t_folk : Nat → Int32) (t_counts : Nat → Int32) (R : (Int32) × (Nat → Int32) × (Nat → Int32)) (h : bX5_push_L71 F t_folkN t_countsN p1_folks p1_stopsN p1_stops p1_roundsN p1_rounds  x2 x3 x5 t_size t_folk t_counts = some R) (hQ : Q none (wX5_push cy tA t_writtenV R.1 t_folkA t_folkN R.2.1 t_countsA t_countsN R.2.2 p1A p1_namesV p1_kindsV p1_kinV p1_folks p1_pairs p1_line p1_rope p1_lineTold p1_ropeTold p1_lawV p1_takenV p1_stopsA p1_stopsN p1_stops p1_roundsA p1_roundsN p1_rounds)) : V l D cy MX5_push 1 0 0 av ws0 Q 71 [(0, .ref tA), (1, .ref p1A), (2, .int x2), (3, .int x3), (5, .int x5)] [] (wX5_push cy tA t_writtenV t_size t_folkA t_folkN t_folk t_countsA t_countsN t_counts p1A p1_namesV p1_kindsV p1_kinV p1_folks p1_pairs p1_line p1_rope p1_lineTold p1_ropeTold p1_lawV p1_takenV p1_stopsA p1_stopsN p1_stops p1_roundsA p1_roundsN p1_rounds) 0 0 := by
  unfold bX5_push_L71 at h
  refine V.iconst (v := (0 : Int32)) dX5_push_71 (by decide) ?_
  exact vX5_push_L72 _ _ _ _ _ _ _ _ _ _ _ _ _ _ _ _ _ _ _ _ _ _ _ _ _   _ _ _ _ _ _ _ R h hQ
noncomputable def bX5_push_L51 (F : Nat) (t_folkN : Nat) (t_countsN : Nat) (p1_folks : Int32) (p1_stopsN : Nat) (p1_stops : Nat → Int32) (p1_roundsN : Nat) (p1_rounds : Nat → Int32)  (x2 : Int32) (x3 : Int32) (x5 : Int32) (t_size : Int32) (t_folk : Nat → Int32) (t_counts : Nat → Int32) : Option ((Int32) × (Nat → Int32) × (Nat → Int32)) :=
  if x5 < 0 then (bX5_push_L71 F t_folkN t_countsN p1_folks p1_stopsN p1_stops p1_roundsN p1_rounds x2 x3 x5 t_size t_folk t_counts) else (if x5 < 0 ∨ t_folkN ≤ x5.toNatClampNeg then none else (if (t_folk (x5).toNatClampNeg) = x2 then (bX5_push_L72 F t_folkN t_countsN p1_folks p1_stopsN p1_stops p1_roundsN p1_rounds x2 x3 x5 (1 : Int32) t_size t_folk t_counts) else (bX5_push_L71 F t_folkN t_countsN p1_folks p1_stopsN p1_stops p1_roundsN p1_rounds x2 x3 x5 t_size t_folk t_counts)))
theorem vX5_push_L51 {l : Launch} {D : va_G} {cy : Nat → ClassId} {av : List Value} {ws0 : va_W} {Q : Option Value → va_W → Prop} (F : Nat) (tA : Nat) (t_writtenV : Value) (t_folkA : Nat) (t_folkN : Nat) (t_countsA : Nat) (t_countsN : Nat) (p1A : Nat) (p1_namesV : Value) (p1_kindsV : Value) (p1_kinV : Value) (p1_folks : Int32) (p1_pairs : Int32) (p1_line : Int32) (p1_rope : Int32) (p1_lineTold : Int32) (p1_ropeTold : Int32) (p1_lawV : Value) (p1_takenV : Value) (p1_stopsA : Nat) (p1_stopsN : Nat) (p1_stops : Nat → Int32) (p1_roundsA : Nat) (p1_roundsN : Nat) (p1_rounds : Nat → Int32)  (x2 : Int32) (x3 : Int32) (x5 : Int32) (t_size : Int32) (t_folk : Nat → Int32) (t_counts : Nat → Int32) (R : (Int32) × (Nat → Int32) × (Nat → Int32)) (h : bX5_push_L51 F t_folkN t_countsN p1_folks p1_stopsN p1_stops p1_roundsN p1_rounds  x2 x3 x5 t_size t_folk t_counts = some R) (hQ : Q none (wX5_push cy tA t_writtenV R.1 t_folkA t_folkN R.2.1 t_countsA t_countsN R.2.2 p1A p1_namesV p1_kindsV p1_kinV p1_folks p1_pairs p1_line p1_rope p1_lineTold p1_ropeTold p1_lawV p1_takenV p1_stopsA p1_stopsN p1_stops p1_roundsA p1_roundsN p1_rounds)) : V l D cy MX5_push 1 0 0 av ws0 Q 51 [(0, .ref tA), (1, .ref p1A), (2, .int x2), (3, .int x3), (5, .int x5)] [] (wX5_push cy tA t_writtenV t_size t_folkA t_folkN t_folk t_countsA t_countsN t_counts p1A p1_namesV p1_kindsV p1_kinV p1_folks p1_pairs p1_line p1_rope p1_lineTold p1_ropeTold p1_lawV p1_takenV p1_stopsA p1_stopsN p1_stops p1_roundsA p1_roundsN p1_rounds) 0 0 := by
  unfold bX5_push_L51 at h
  refine V.iload dX5_push_51 4 rfl ?_
  refine V.if_lt (tgt := 71) dX5_push_53 (by decide) (fun hc53 => ?_) (fun hc53 => ?_)
  · replace h := (if_pos hc53).symm.trans h
    exact vX5_push_L71 _ _ _ _ _ _ _ _ _ _ _ _ _ _ _ _ _ _ _ _ _ _ _ _ _   _ _ _ _ _ _ R h hQ
  · replace h := (if_neg hc53).symm.trans h
    refine V.aload_n dX5_push_56 rfl 0 rfl ?_
    refine V.get kfX5 0 rfl rfl 0 (by decide) klX5_9 rfl dX5_push_57 ?_
    refine V.iload dX5_push_60 4 rfl ?_
    by_cases hb62 : x5 < 0 ∨ t_folkN ≤ x5.toNatClampNeg
    · exact vNone ((if_pos hb62).symm.trans h)
    replace h := (if_neg hb62).symm.trans h
    refine V.iald dX5_push_62 1 rfl hb62 ?_
    refine V.iload_n dX5_push_63 rfl 2 rfl ?_
    refine V.icmp_ne (tgt := 71) dX5_push_64 (by decide) (fun hc64 => ?_) (fun hc64 => ?_)
    · replace h := (if_neg hc64).symm.trans h
      exact vX5_push_L71 _ _ _ _ _ _ _ _ _ _ _ _ _ _ _ _ _ _ _ _ _ _ _ _ _   _ _ _ _ _ _ R h hQ
    · replace h := (if_pos hc64).symm.trans h
      refine V.iconst (v := (1 : Int32)) dX5_push_67 (by decide) ?_
      refine V.goto (tgt := 72) dX5_push_68 (by decide) ?_
      exact vX5_push_L72 _ _ _ _ _ _ _ _ _ _ _ _ _ _ _ _ _ _ _ _ _ _ _ _ _   _ _ _ _ _ _ _ R h hQ
noncomputable def bX5_push_L25 (F : Nat) (t_folkN : Nat) (t_countsN : Nat) (p1_folks : Int32) (p1_stopsN : Nat) (p1_stops : Nat → Int32) (p1_roundsN : Nat) (p1_rounds : Nat → Int32) (k25 : Int32 → Int32 → Int32 → Int32 → Int32 → (Nat → Int32) → (Nat → Int32) → Option ((Int32) × (Nat → Int32) × (Nat → Int32))) (x2 : Int32) (x3 : Int32) (x4 : Int32) (x5 : Int32) (t_size : Int32) (t_folk : Nat → Int32) (t_counts : Nat → Int32) : Option ((Int32) × (Nat → Int32) × (Nat → Int32)) :=
  if x5 < 0 then (bX5_push_L51 F t_folkN t_countsN p1_folks p1_stopsN p1_stops p1_roundsN p1_rounds x2 x3 x5 t_size t_folk t_counts) else (if x5 < 0 ∨ t_folkN ≤ x5.toNatClampNeg then none else (if ((x4 >>> ((t_folk (x5).toNatClampNeg) &&& 31)) &&& (1 : Int32)) = 0 then (k25 x2 x3 x4 (x5 + (-1 : Int32)) t_size t_folk t_counts) else (bX5_push_L51 F t_folkN t_countsN p1_folks p1_stopsN p1_stops p1_roundsN p1_rounds x2 x3 x5 t_size t_folk t_counts)))
theorem vbX5_push_L25 {l : Launch} {D : va_G} {cy : Nat → ClassId} {av : List Value} {ws0 : va_W} {Q : Option Value → va_W → Prop} (F : Nat) (tA : Nat) (t_writtenV : Value) (t_folkA : Nat) (t_folkN : Nat) (t_countsA : Nat) (t_countsN : Nat) (p1A : Nat) (p1_namesV : Value) (p1_kindsV : Value) (p1_kinV : Value) (p1_folks : Int32) (p1_pairs : Int32) (p1_line : Int32) (p1_rope : Int32) (p1_lineTold : Int32) (p1_ropeTold : Int32) (p1_lawV : Value) (p1_takenV : Value) (p1_stopsA : Nat) (p1_stopsN : Nat) (p1_stops : Nat → Int32) (p1_roundsA : Nat) (p1_roundsN : Nat) (p1_rounds : Nat → Int32) (k25 : Int32 → Int32 → Int32 → Int32 → Int32 → (Nat → Int32) → (Nat → Int32) → Option ((Int32) × (Nat → Int32) × (Nat → Int32))) (hk25 : ∀ (x2 : Int32) (x3 : Int32) (x4 : Int32) (x5 : Int32) (t_size : Int32) (t_folk : Nat → Int32) (t_counts : Nat → Int32) (R : (Int32) × (Nat → Int32) × (Nat → Int32)), k25 x2 x3 x4 x5 t_size t_folk t_counts = some R → Q none (wX5_push cy tA t_writtenV R.1 t_folkA t_folkN R.2.1 t_countsA t_countsN R.2.2 p1A p1_namesV p1_kindsV p1_kinV p1_folks p1_pairs p1_line p1_rope p1_lineTold p1_ropeTold p1_lawV p1_takenV p1_stopsA p1_stopsN p1_stops p1_roundsA p1_roundsN p1_rounds) → V l D cy MX5_push 1 0 0 av ws0 Q 25 [(0, .ref tA), (1, .ref p1A), (2, .int x2), (3, .int x3), (4, .int x4), (5, .int x5)] [] (wX5_push cy tA t_writtenV t_size t_folkA t_folkN t_folk t_countsA t_countsN t_counts p1A p1_namesV p1_kindsV p1_kinV p1_folks p1_pairs p1_line p1_rope p1_lineTold p1_ropeTold p1_lawV p1_takenV p1_stopsA p1_stopsN p1_stops p1_roundsA p1_roundsN p1_rounds) 0 0) (x2 : Int32) (x3 : Int32) (x4 : Int32) (x5 : Int32) (t_size : Int32) (t_folk : Nat → Int32) (t_counts : Nat → Int32) (R : (Int32) × (Nat → Int32) × (Nat → Int32)) (h : bX5_push_L25 F t_folkN t_countsN p1_folks p1_stopsN p1_stops p1_roundsN p1_rounds k25 x2 x3 x4 x5 t_size t_folk t_counts = some R) (hQ : Q none (wX5_push cy tA t_writtenV R.1 t_folkA t_folkN R.2.1 t_countsA t_countsN R.2.2 p1A p1_namesV p1_kindsV p1_kinV p1_folks p1_pairs p1_line p1_rope p1_lineTold p1_ropeTold p1_lawV p1_takenV p1_stopsA p1_stopsN p1_stops p1_roundsA p1_roundsN p1_rounds)) : V l D cy MX5_push 1 0 0 av ws0 Q 25 [(0, .ref tA), (1, .ref p1A), (2, .int x2), (3, .int x3), (4, .int x4), (5, .int x5)] [] (wX5_push cy tA t_writtenV t_size t_folkA t_folkN t_folk t_countsA t_countsN t_counts p1A p1_namesV p1_kindsV p1_kinV p1_folks p1_pairs p1_line p1_rope p1_lineTold p1_ropeTold p1_lawV p1_takenV p1_stopsA p1_stopsN p1_stops p1_roundsA p1_roundsN p1_rounds) 0 0 := by
  unfold bX5_push_L25 at h
  refine V.iload dX5_push_25 5 rfl ?_
  refine V.if_lt (tgt := 51) dX5_push_27 (by decide) (fun hc27 => ?_) (fun hc27 => ?_)
  · replace h := (if_pos hc27).symm.trans h
    refine V.lvs [0, 1, 2, 3, 5] rfl ?_
    exact vX5_push_L51 _ _ _ _ _ _ _ _ _ _ _ _ _ _ _ _ _ _ _ _ _ _ _ _ _   _ _ _ _ _ _ R h hQ
  · replace h := (if_neg hc27).symm.trans h
    refine V.iload dX5_push_30 4 rfl ?_
    refine V.aload_n dX5_push_32 rfl 0 rfl ?_
    refine V.get kfX5 0 rfl rfl 0 (by decide) klX5_9 rfl dX5_push_33 ?_
    refine V.iload dX5_push_36 5 rfl ?_
    by_cases hb38 : x5 < 0 ∨ t_folkN ≤ x5.toNatClampNeg
    · exact vNone ((if_pos hb38).symm.trans h)
    replace h := (if_neg hb38).symm.trans h
    refine V.iald dX5_push_38 1 rfl hb38 ?_
    refine V.ishr dX5_push_39 ?_
    refine V.iconst (v := (1 : Int32)) dX5_push_40 (by decide) ?_
    refine V.iand dX5_push_41 ?_
    refine V.if_ne (tgt := 51) dX5_push_42 (by decide) (fun hc42 => ?_) (fun hc42 => ?_)
    · replace h := (if_neg hc42).symm.trans h
      refine V.lvs [0, 1, 2, 3, 5] rfl ?_
      exact vX5_push_L51 _ _ _ _ _ _ _ _ _ _ _ _ _ _ _ _ _ _ _ _ _ _ _ _ _   _ _ _ _ _ _ R h hQ
    · replace h := (if_pos hc42).symm.trans h
      refine V.iinc (v := x5 + (-1 : Int32)) (lv' := [(5, .int (x5 + (-1 : Int32))), (0, .ref tA), (1, .ref p1A), (2, .int x2), (3, .int x3), (4, .int x4)]) dX5_push_45 5 rfl rfl (by decide) rfl ?_
      refine V.goto (tgt := 25) dX5_push_48 (by decide) ?_
      refine V.lvs [1, 2, 3, 4, 5, 0] rfl ?_
      exact hk25 _ _ _ _ _ _ _ R h hQ
noncomputable def fX5_push_L25 (F : Nat) (t_folkN : Nat) (t_countsN : Nat) (p1_folks : Int32) (p1_stopsN : Nat) (p1_stops : Nat → Int32) (p1_roundsN : Nat) (p1_rounds : Nat → Int32)  : Nat → Int32 → Int32 → Int32 → Int32 → Int32 → (Nat → Int32) → (Nat → Int32) → Option ((Int32) × (Nat → Int32) × (Nat → Int32))
  | 0 => fun _ _ _ _ _ _ _ => none
  | n + 1 => bX5_push_L25 F t_folkN t_countsN p1_folks p1_stopsN p1_stops p1_roundsN p1_rounds (fX5_push_L25 F t_folkN t_countsN p1_folks p1_stopsN p1_stops p1_roundsN p1_rounds  n)
theorem vX5_push_L25 {l : Launch} {D : va_G} {cy : Nat → ClassId} {av : List Value} {ws0 : va_W} {Q : Option Value → va_W → Prop} (F : Nat) (tA : Nat) (t_writtenV : Value) (t_folkA : Nat) (t_folkN : Nat) (t_countsA : Nat) (t_countsN : Nat) (p1A : Nat) (p1_namesV : Value) (p1_kindsV : Value) (p1_kinV : Value) (p1_folks : Int32) (p1_pairs : Int32) (p1_line : Int32) (p1_rope : Int32) (p1_lineTold : Int32) (p1_ropeTold : Int32) (p1_lawV : Value) (p1_takenV : Value) (p1_stopsA : Nat) (p1_stopsN : Nat) (p1_stops : Nat → Int32) (p1_roundsA : Nat) (p1_roundsN : Nat) (p1_rounds : Nat → Int32)  : ∀ (n : Nat) (x2 : Int32) (x3 : Int32) (x4 : Int32) (x5 : Int32) (t_size : Int32) (t_folk : Nat → Int32) (t_counts : Nat → Int32) (R : (Int32) × (Nat → Int32) × (Nat → Int32)), fX5_push_L25 F t_folkN t_countsN p1_folks p1_stopsN p1_stops p1_roundsN p1_rounds  n x2 x3 x4 x5 t_size t_folk t_counts = some R → Q none (wX5_push cy tA t_writtenV R.1 t_folkA t_folkN R.2.1 t_countsA t_countsN R.2.2 p1A p1_namesV p1_kindsV p1_kinV p1_folks p1_pairs p1_line p1_rope p1_lineTold p1_ropeTold p1_lawV p1_takenV p1_stopsA p1_stopsN p1_stops p1_roundsA p1_roundsN p1_rounds) → V l D cy MX5_push 1 0 0 av ws0 Q 25 [(0, .ref tA), (1, .ref p1A), (2, .int x2), (3, .int x3), (4, .int x4), (5, .int x5)] [] (wX5_push cy tA t_writtenV t_size t_folkA t_folkN t_folk t_countsA t_countsN t_counts p1A p1_namesV p1_kindsV p1_kinV p1_folks p1_pairs p1_line p1_rope p1_lineTold p1_ropeTold p1_lawV p1_takenV p1_stopsA p1_stopsN p1_stops p1_roundsA p1_roundsN p1_rounds) 0 0 := by
  intro n
  induction n with
  | zero => intro x2 x3 x4 x5 t_size t_folk t_counts R h; exact vNone h
  | succ n ih => intro x2 x3 x4 x5 t_size t_folk t_counts R h hQ; exact vbX5_push_L25 F tA t_writtenV t_folkA t_folkN t_countsA t_countsN p1A p1_namesV p1_kindsV p1_kinV p1_folks p1_pairs p1_line p1_rope p1_lineTold p1_ropeTold p1_lawV p1_takenV p1_stopsA p1_stopsN p1_stops p1_roundsA p1_roundsN p1_rounds _ ih x2 x3 x4 x5 t_size t_folk t_counts R h hQ
noncomputable def fX5_push (F : Nat) (t_folkN : Nat) (t_countsN : Nat) (p1_folks : Int32) (p1_stopsN : Nat) (p1_stops : Nat → Int32) (p1_roundsN : Nat) (p1_rounds : Nat → Int32) (a2 : Int32) (a3 : Int32) (t_size : Int32) (t_folk : Nat → Int32) (t_counts : Nat → Int32) : Option ((Int32) × (Nat → Int32) × (Nat → Int32)) :=
  (fX2_hasFolk F p1_folks a2).bind fun R2 => (if R2 = 0 then (some (t_size, t_folk, t_counts)) else (if a2 < 0 ∨ p1_stopsN ≤ a2.toNatClampNeg then none else (fX5_push_L25 F t_folkN t_countsN p1_folks p1_stopsN p1_stops p1_roundsN p1_rounds F a2 a3 (p1_stops (a2).toNatClampNeg) (t_size - (1 : Int32)) t_size t_folk t_counts)))
theorem CX5_push {l : Launch} {D : va_G} {cy : Nat → ClassId} (F : Nat) (tA : Nat) (t_writtenV : Value) (t_size : Int32) (t_folkA : Nat) (t_folkN : Nat) (t_folk : Nat → Int32) (t_countsA : Nat) (t_countsN : Nat) (t_counts : Nat → Int32) (p1A : Nat) (p1_namesV : Value) (p1_kindsV : Value) (p1_kinV : Value) (p1_folks : Int32) (p1_pairs : Int32) (p1_line : Int32) (p1_rope : Int32) (p1_lineTold : Int32) (p1_ropeTold : Int32) (p1_lawV : Value) (p1_takenV : Value) (p1_stopsA : Nat) (p1_stopsN : Nat) (p1_stops : Nat → Int32) (p1_roundsA : Nat) (p1_roundsN : Nat) (p1_rounds : Nat → Int32) (a2 : Int32) (a3 : Int32) (R : (Int32) × (Nat → Int32) × (Nat → Int32)) (h : fX5_push F t_folkN t_countsN p1_folks p1_stopsN p1_stops p1_roundsN p1_rounds a2 a3 t_size t_folk t_counts = some R) : vMet l D cy MX5_push 1 0 0 [.ref tA, .ref p1A, .int a2, .int a3] (wX5_push cy tA t_writtenV t_size t_folkA t_folkN t_folk t_countsA t_countsN t_counts p1A p1_namesV p1_kindsV p1_kinV p1_folks p1_pairs p1_line p1_rope p1_lineTold p1_ropeTold p1_lawV p1_takenV p1_stopsA p1_stopsN p1_stops p1_roundsA p1_roundsN p1_rounds) (fun (r : Option Value) (w : va_W) => r = none ∧ w = (wX5_push cy tA t_writtenV R.1 t_folkA t_folkN R.2.1 t_countsA t_countsN R.2.2 p1A p1_namesV p1_kindsV p1_kinV p1_folks p1_pairs p1_line p1_rope p1_lineTold p1_ropeTold p1_lawV p1_takenV p1_stopsA p1_stopsN p1_stops p1_roundsA p1_roundsN p1_rounds)) := by
  refine vMet.start (by decide +kernel) (Nat.le_of_ble_eq_true rfl) ?_
  generalize hQe : (fun (r : Option Value) (w : va_W) => r = none ∧ w = (wX5_push cy tA t_writtenV R.1 t_folkA t_folkN R.2.1 t_countsA t_countsN R.2.2 p1A p1_namesV p1_kindsV p1_kinV p1_folks p1_pairs p1_line p1_rope p1_lineTold p1_ropeTold p1_lawV p1_takenV p1_stopsA p1_stopsN p1_stops p1_roundsA p1_roundsN p1_rounds)) = Q
  have hQ : Q none (wX5_push cy tA t_writtenV R.1 t_folkA t_folkN R.2.1 t_countsA t_countsN R.2.2 p1A p1_namesV p1_kindsV p1_kinV p1_folks p1_pairs p1_line p1_rope p1_lineTold p1_ropeTold p1_lawV p1_takenV p1_stopsA p1_stopsN p1_stops p1_roundsA p1_roundsN p1_rounds) := by rw [← hQe]; exact ⟨rfl, rfl⟩
  show V l D cy MX5_push 1 0 0 _ _ Q 0 [(0, .ref tA), (1, .ref p1A), (2, .int a2), (3, .int a3)] [] _ 0 0
  show V l D cy MX5_push 1 0 0 [.ref tA, .ref p1A, .int a2, .int a3] _ Q 0 [(0, .ref tA), (1, .ref p1A), (2, .int a2), (3, .int a3)] [] (wX5_push cy tA t_writtenV t_size t_folkA t_folkN t_folk t_countsA t_countsN t_counts p1A p1_namesV p1_kindsV p1_kinV p1_folks p1_pairs p1_line p1_rope p1_lineTold p1_ropeTold p1_lawV p1_takenV p1_stopsA p1_stopsN p1_stops p1_roundsA p1_roundsN p1_rounds) 0 0
  unfold fX5_push at h
  refine V.aload_n dX5_push_0 rfl 1 rfl ?_
  refine V.iload_n dX5_push_1 rfl 2 rfl ?_
  obtain ⟨R2, hg2, h⟩ := Option.bind_eq_some_iff.mp h
  refine V.callV (As := [.int a2]) (rest := []) (wc := (wX2_hasFolk cy p1A p1_namesV p1_kindsV p1_kinV (.ref p1_stopsA) (.ref p1_roundsA) p1_folks p1_pairs p1_line p1_rope p1_lineTold p1_ropeTold p1_lawV p1_takenV)) (wr := [(tA, .inr (5, [.ref t_folkA, .ref t_countsA, t_writtenV, .int t_size])), (t_folkA, .inl (cy 1, t_folkN, .inl t_folk)), (t_countsA, .inl (cy 1, t_countsN, .inl t_counts)), (p1_stopsA, .inl (cy 1, p1_stopsN, .inl p1_stops)), (p1_roundsA, .inl (cy 1, p1_roundsN, .inl p1_rounds))]) (q0 := 3) (CX2_hasFolk F p1A p1_namesV p1_kindsV p1_kinV (.ref p1_stopsA) (.ref p1_roundsA) p1_folks p1_pairs p1_line p1_rope p1_lineTold p1_ropeTold p1_lawV p1_takenV a2 R2 hg2) kvX2_hasFolk klX5_65 [3] [0, 1, 2, 4, 5] rfl rfl (by decide) (by decide) (by decide) rfl rfl rfl rfl dX5_push_2 ⟨by decide, by decide, by decide, by decide⟩ (Nat.le_of_ble_eq_true rfl) (fun r w1 hq => ?_)
  obtain ⟨rfl, rfl⟩ := hq
  refine V.cells (ws' := (wX5_push cy tA t_writtenV t_size t_folkA t_folkN t_folk t_countsA t_countsN t_counts p1A p1_namesV p1_kindsV p1_kinV p1_folks p1_pairs p1_line p1_rope p1_lineTold p1_ropeTold p1_lawV p1_takenV p1_stopsA p1_stopsN p1_stops p1_roundsA p1_roundsN p1_rounds)) [0, 1, 2, 5, 3, 4] (by decide) rfl ?_
  show V l D cy MX5_push 1 0 0 _ _ _ 5 [(0, .ref tA), (1, .ref p1A), (2, .int a2), (3, .int a3)] [.int R2] (wX5_push cy tA t_writtenV t_size t_folkA t_folkN t_folk t_countsA t_countsN t_counts p1A p1_namesV p1_kindsV p1_kinV p1_folks p1_pairs p1_line p1_rope p1_lineTold p1_ropeTold p1_lawV p1_takenV p1_stopsA p1_stopsN p1_stops p1_roundsA p1_roundsN p1_rounds) 0 0
  refine V.if_ne (tgt := 9) dX5_push_5 (by decide) (fun hc5 => ?_) (fun hc5 => ?_)
  · replace h := (if_neg hc5).symm.trans h
    refine V.aload_n dX5_push_9 rfl 1 rfl ?_
    refine V.get kfX2 3 rfl rfl 3 (by decide) klX5_71 rfl dX5_push_10 ?_
    refine V.iload_n dX5_push_13 rfl 2 rfl ?_
    by_cases hb14 : a2 < 0 ∨ p1_stopsN ≤ a2.toNatClampNeg
    · exact vNone ((if_pos hb14).symm.trans h)
    replace h := (if_neg hb14).symm.trans h
    refine V.iald dX5_push_14 4 rfl hb14 ?_
    refine V.istore (lv' := [(4, .int (p1_stops (a2).toNatClampNeg)), (0, .ref tA), (1, .ref p1A), (2, .int a2), (3, .int a3)]) dX5_push_15 (by decide) rfl ?_
    refine V.aload_n dX5_push_17 rfl 1 rfl ?_
    refine V.get kfX5 0 rfl rfl 3 (by decide) klX5_22 rfl dX5_push_18 ?_
    refine V.iconst (v := (1 : Int32)) dX5_push_21 (by decide) ?_
    refine V.isub dX5_push_22 ?_
    refine V.istore (lv' := [(5, .int (t_size - (1 : Int32))), (4, .int (p1_stops (a2).toNatClampNeg)), (0, .ref tA), (1, .ref p1A), (2, .int a2), (3, .int a3)]) dX5_push_23 (by decide) rfl ?_
    refine V.lvs [2, 3, 4, 5, 1, 0] rfl ?_
    exact vX5_push_L25 _ _ _ _ _ _ _ _ _ _ _ _ _ _ _ _ _ _ _ _ _ _ _ _ _  _ _ _ _ _ _ _ _ R h hQ
  · replace h := (if_pos hc5).symm.trans h
    have e9 := Option.some.inj h; subst e9
    exact V.vret rfl dX5_push_8 (Nat.le_refl _) (Nat.le_refl _) hQ
theorem dX5_writeBundle_0 : decode cX5_writeBundle 0 = .ok (.aload_n 0, 1) := by decide +kernel
theorem dX5_writeBundle_1 : decode cX5_writeBundle 1 = .ok (.aload_n 1, 1) := by decide +kernel
theorem dX5_writeBundle_2 : decode cX5_writeBundle 2 = .ok (.iload_n 2, 1) := by decide +kernel
theorem dX5_writeBundle_3 : decode cX5_writeBundle 3 = .ok (.invokevirtual 97, 3) := by decide +kernel
theorem dX5_writeBundle_6 : decode cX5_writeBundle 6 = .ok (.istore 4, 2) := by decide +kernel
theorem dX5_writeBundle_8 : decode cX5_writeBundle 8 = .ok (.iconst 2, 1) := by decide +kernel
theorem dX5_writeBundle_9 : decode cX5_writeBundle 9 = .ok (.aload_n 0, 1) := by decide +kernel
theorem dX5_writeBundle_10 : decode cX5_writeBundle 10 = .ok (.getfield 9, 3) := by decide +kernel
theorem dX5_writeBundle_13 : decode cX5_writeBundle 13 = .ok (.iload_n 2, 1) := by decide +kernel
theorem dX5_writeBundle_14 : decode cX5_writeBundle 14 = .ok (.iaload, 1) := by decide +kernel
theorem dX5_writeBundle_15 : decode cX5_writeBundle 15 = .ok (.imul, 1) := by decide +kernel
theorem dX5_writeBundle_16 : decode cX5_writeBundle 16 = .ok (.iload 4, 2) := by decide +kernel
theorem dX5_writeBundle_18 : decode cX5_writeBundle 18 = .ok (.ifCond .ge 7, 3) := by decide +kernel
theorem dX5_writeBundle_21 : decode cX5_writeBundle 21 = .ok (.iconst 1, 1) := by decide +kernel
theorem dX5_writeBundle_22 : decode cX5_writeBundle 22 = .ok (.goto 4, 3) := by decide +kernel
theorem dX5_writeBundle_25 : decode cX5_writeBundle 25 = .ok (.iconst 0, 1) := by decide +kernel
theorem dX5_writeBundle_26 : decode cX5_writeBundle 26 = .ok (.iadd, 1) := by decide +kernel
theorem dX5_writeBundle_27 : decode cX5_writeBundle 27 = .ok (.istore 5, 2) := by decide +kernel
theorem dX5_writeBundle_29 : decode cX5_writeBundle 29 = .ok (.iload 4, 2) := by decide +kernel
theorem dX5_writeBundle_31 : decode cX5_writeBundle 31 = .ok (.invokestatic 101, 3) := by decide +kernel
theorem dX5_writeBundle_34 : decode cX5_writeBundle 34 = .ok (.istore 6, 2) := by decide +kernel
theorem dX5_writeBundle_36 : decode cX5_writeBundle 36 = .ok (.iload 6, 2) := by decide +kernel
theorem dX5_writeBundle_38 : decode cX5_writeBundle 38 = .ok (.ifCond .le 15, 3) := by decide +kernel
theorem dX5_writeBundle_41 : decode cX5_writeBundle 41 = .ok (.aload_n 3, 1) := by decide +kernel
theorem dX5_writeBundle_42 : decode cX5_writeBundle 42 = .ok (.iload 5, 2) := by decide +kernel
theorem dX5_writeBundle_44 : decode cX5_writeBundle 44 = .ok (.invokevirtual 104, 3) := by decide +kernel
theorem dX5_writeBundle_47 : decode cX5_writeBundle 47 = .ok (.iinc 6 (-1), 3) := by decide +kernel
theorem dX5_writeBundle_50 : decode cX5_writeBundle 50 = .ok (.goto (-14), 3) := by decide +kernel
theorem dX5_writeBundle_53 : decode cX5_writeBundle 53 = .ok (.return_, 1) := by decide +kernel
def wX5_writeBundle (cy : Nat → ClassId) (tA : Nat) (t_writtenV : Value) (t_size : Int32) (t_folkA : Nat) (t_folkN : Nat) (t_folk : Nat → Int32) (t_countsA : Nat) (t_countsN : Nat) (t_counts : Nat → Int32) (p1A : Nat) (p1_namesV : Value) (p1_kindsV : Value) (p1_kinV : Value) (p1_stopsV : Value) (p1_folks : Int32) (p1_pairs : Int32) (p1_line : Int32) (p1_rope : Int32) (p1_lineTold : Int32) (p1_ropeTold : Int32) (p1_lawV : Value) (p1_takenV : Value) (p1_roundsA : Nat) (p1_roundsN : Nat) (p1_rounds : Nat → Int32) (p3A : Nat) (p3_size : Int32) (p3_tiesA : Nat) (p3_tiesN : Nat) (p3_ties : Nat → Int32) : va_W :=
  [(tA, .inr (5, [.ref t_folkA, .ref t_countsA, t_writtenV, .int t_size])), (t_folkA, .inl (cy 1, t_folkN, .inl t_folk)), (t_countsA, .inl (cy 1, t_countsN, .inl t_counts)), (p1A, .inr (2, [p1_namesV, p1_kindsV, p1_kinV, p1_stopsV, .ref p1_roundsA, .int p1_folks, .int p1_pairs, .int p1_line, .int p1_rope, .int p1_lineTold, .int p1_ropeTold, p1_lawV, p1_takenV])), (p1_roundsA, .inl (cy 1, p1_roundsN, .inl p1_rounds)), (p3A, .inr (7, [.ref p3_tiesA, .int p3_size])), (p3_tiesA, .inl (cy 1, p3_tiesN, .inl p3_ties))]
noncomputable def bX5_writeBundle_L36 (F : Nat) (t_size : Int32) (t_folkN : Nat) (t_folk : Nat → Int32) (t_countsN : Nat) (t_counts : Nat → Int32) (p1_roundsN : Nat) (p1_rounds : Nat → Int32) (p3_tiesN : Nat) (k36 : Int32 → Int32 → Int32 → (Nat → Int32) → Option ((Int32) × (Nat → Int32))) (x5 : Int32) (x6 : Int32) (p3_size : Int32) (p3_ties : Nat → Int32) : Option ((Int32) × (Nat → Int32)) :=
  if x6 ≤ 0 then (some (p3_size, p3_ties)) else ((fX7_add F p3_tiesN x5 p3_size p3_ties).bind fun R44 => (k36 x5 (x6 + (-1 : Int32)) R44.1 R44.2))
theorem vbX5_writeBundle_L36 {l : Launch} {D : va_G} {cy : Nat → ClassId} {av : List Value} {ws0 : va_W} {Q : Option Value → va_W → Prop} (F : Nat) (tA : Nat) (t_writtenV : Value) (t_size : Int32) (t_folkA : Nat) (t_folkN : Nat) (t_folk : Nat → Int32) (t_countsA : Nat) (t_countsN : Nat) (t_counts : Nat → Int32) (p1A : Nat) (p1_namesV : Value) (p1_kindsV : Value) (p1_kinV : Value) (p1_stopsV : Value) (p1_folks : Int32) (p1_pairs : Int32) (p1_line : Int32) (p1_rope : Int32) (p1_lineTold : Int32) (p1_ropeTold : Int32) (p1_lawV : Value) (p1_takenV : Value) (p1_roundsA : Nat) (p1_roundsN : Nat) (p1_rounds : Nat → Int32) (p3A : Nat) (p3_tiesA : Nat) (p3_tiesN : Nat) (k36 : Int32 → Int32 → Int32 → (Nat → Int32) → Option ((Int32) × (Nat → Int32))) (hk36 : ∀ (x5 : Int32) (x6 : Int32) (p3_size : Int32) (p3_ties : Nat → Int32) (R : (Int32) × (Nat → Int32)), k36 x5 x6 p3_size p3_ties = some R → Q none (wX5_writeBundle cy tA t_writtenV t_size t_folkA t_folkN t_folk t_countsA t_countsN t_counts p1A p1_namesV p1_kindsV p1_kinV p1_stopsV p1_folks p1_pairs p1_line p1_rope p1_lineTold p1_ropeTold p1_lawV p1_takenV p1_roundsA p1_roundsN p1_rounds p3A R.1 p3_tiesA p3_tiesN R.2) → V l D cy MX5_writeBundle 1 0 0 av ws0 Q 36 [(3, .ref p3A), (5, .int x5), (6, .int x6)] [] (wX5_writeBundle cy tA t_writtenV t_size t_folkA t_folkN t_folk t_countsA t_countsN t_counts p1A p1_namesV p1_kindsV p1_kinV p1_stopsV p1_folks p1_pairs p1_line p1_rope p1_lineTold p1_ropeTold p1_lawV p1_takenV p1_roundsA p1_roundsN p1_rounds p3A p3_size p3_tiesA p3_tiesN p3_ties) 0 0) (x5 : Int32) (x6 : Int32) (p3_size : Int32) (p3_ties : Nat → Int32) (R : (Int32) × (Nat → Int32)) (h : bX5_writeBundle_L36 F t_size t_folkN t_folk t_countsN t_counts p1_roundsN p1_rounds p3_tiesN k36 x5 x6 p3_size p3_ties = some R) (hQ : Q none (wX5_writeBundle cy tA t_writtenV t_size t_folkA t_folkN t_folk t_countsA t_countsN t_counts p1A p1_namesV p1_kindsV p1_kinV p1_stopsV p1_folks p1_pairs p1_line p1_rope p1_lineTold p1_ropeTold p1_lawV p1_takenV p1_roundsA p1_roundsN p1_rounds p3A R.1 p3_tiesA p3_tiesN R.2)) : V l D cy MX5_writeBundle 1 0 0 av ws0 Q 36 [(3, .ref p3A), (5, .int x5), (6, .int x6)] [] (wX5_writeBundle cy tA t_writtenV t_size t_folkA t_folkN t_folk t_countsA t_countsN t_counts p1A p1_namesV p1_kindsV p1_kinV p1_stopsV p1_folks p1_pairs p1_line p1_rope p1_lineTold p1_ropeTold p1_lawV p1_takenV p1_roundsA p1_roundsN p1_rounds p3A p3_size p3_tiesA p3_tiesN p3_ties) 0 0 := by
  unfold bX5_writeBundle_L36 at h
  refine V.iload dX5_writeBundle_36 2 rfl ?_
  refine V.if_le (tgt := 53) dX5_writeBundle_38 (by decide) (fun hc38 => ?_) (fun hc38 => ?_)
  · replace h := (if_pos hc38).symm.trans h
    have e9 := Option.some.inj h; subst e9
    exact V.vret rfl dX5_writeBundle_53 (Nat.le_refl _) (Nat.le_refl _) hQ
  · replace h := (if_neg hc38).symm.trans h
    refine V.aload_n dX5_writeBundle_41 rfl 0 rfl ?_
    refine V.iload dX5_writeBundle_42 1 rfl ?_
    obtain ⟨R44, hg44, h⟩ := Option.bind_eq_some_iff.mp h
    refine V.callV (As := [.int x5]) (rest := []) (wc := (wX7_add cy p3A p3_size p3_tiesA p3_tiesN p3_ties)) (wr := [(tA, .inr (5, [.ref t_folkA, .ref t_countsA, t_writtenV, .int t_size])), (t_folkA, .inl (cy 1, t_folkN, .inl t_folk)), (t_countsA, .inl (cy 1, t_countsN, .inl t_counts)), (p1A, .inr (2, [p1_namesV, p1_kindsV, p1_kinV, p1_stopsV, .ref p1_roundsA, .int p1_folks, .int p1_pairs, .int p1_line, .int p1_rope, .int p1_lineTold, .int p1_ropeTold, p1_lawV, p1_takenV])), (p1_roundsA, .inl (cy 1, p1_roundsN, .inl p1_rounds))]) (q0 := 5) (CX7_add F p3A p3_size p3_tiesA p3_tiesN p3_ties x5 R44 hg44) kvX7_add klX5_104 [5, 6] [0, 1, 2, 3, 4] rfl rfl (by decide) (by decide) (by decide) rfl rfl rfl rfl dX5_writeBundle_44 ⟨by decide, by decide, by decide, by decide⟩ (Nat.le_of_ble_eq_true rfl) (fun r w1 hq => ?_)
    obtain ⟨rfl, rfl⟩ := hq
    refine V.cells (ws' := (wX5_writeBundle cy tA t_writtenV t_size t_folkA t_folkN t_folk t_countsA t_countsN t_counts p1A p1_namesV p1_kindsV p1_kinV p1_stopsV p1_folks p1_pairs p1_line p1_rope p1_lineTold p1_ropeTold p1_lawV p1_takenV p1_roundsA p1_roundsN p1_rounds p3A R44.1 p3_tiesA p3_tiesN R44.2)) [0, 1, 2, 3, 4, 5, 6] (by decide) rfl ?_
    show V l D cy MX5_writeBundle 1 0 0 _ _ _ 47 [(3, .ref p3A), (5, .int x5), (6, .int x6)] [] (wX5_writeBundle cy tA t_writtenV t_size t_folkA t_folkN t_folk t_countsA t_countsN t_counts p1A p1_namesV p1_kindsV p1_kinV p1_stopsV p1_folks p1_pairs p1_line p1_rope p1_lineTold p1_ropeTold p1_lawV p1_takenV p1_roundsA p1_roundsN p1_rounds p3A R44.1 p3_tiesA p3_tiesN R44.2) 0 0
    refine V.iinc (v := x6 + (-1 : Int32)) (lv' := [(6, .int (x6 + (-1 : Int32))), (3, .ref p3A), (5, .int x5)]) dX5_writeBundle_47 2 rfl rfl (by decide) rfl ?_
    refine V.goto (tgt := 36) dX5_writeBundle_50 (by decide) ?_
    refine V.lvs [1, 2, 0] rfl ?_
    exact hk36 _ _ _ _ R h hQ
noncomputable def fX5_writeBundle_L36 (F : Nat) (t_size : Int32) (t_folkN : Nat) (t_folk : Nat → Int32) (t_countsN : Nat) (t_counts : Nat → Int32) (p1_roundsN : Nat) (p1_rounds : Nat → Int32) (p3_tiesN : Nat)  : Nat → Int32 → Int32 → Int32 → (Nat → Int32) → Option ((Int32) × (Nat → Int32))
  | 0 => fun _ _ _ _ => none
  | n + 1 => bX5_writeBundle_L36 F t_size t_folkN t_folk t_countsN t_counts p1_roundsN p1_rounds p3_tiesN (fX5_writeBundle_L36 F t_size t_folkN t_folk t_countsN t_counts p1_roundsN p1_rounds p3_tiesN  n)
theorem vX5_writeBundle_L36 {l : Launch} {D : va_G} {cy : Nat → ClassId} {av : List Value} {ws0 : va_W} {Q : Option Value → va_W → Prop} (F : Nat) (tA : Nat) (t_writtenV : Value) (t_size : Int32) (t_folkA : Nat) (t_folkN : Nat) (t_folk : Nat → Int32) (t_countsA : Nat) (t_countsN : Nat) (t_counts : Nat → Int32) (p1A : Nat) (p1_namesV : Value) (p1_kindsV : Value) (p1_kinV : Value) (p1_stopsV : Value) (p1_folks : Int32) (p1_pairs : Int32) (p1_line : Int32) (p1_rope : Int32) (p1_lineTold : Int32) (p1_ropeTold : Int32) (p1_lawV : Value) (p1_takenV : Value) (p1_roundsA : Nat) (p1_roundsN : Nat) (p1_rounds : Nat → Int32) (p3A : Nat) (p3_tiesA : Nat) (p3_tiesN : Nat)  : ∀ (n : Nat) (x5 : Int32) (x6 : Int32) (p3_size : Int32) (p3_ties : Nat → Int32) (R : (Int32) × (Nat → Int32)), fX5_writeBundle_L36 F t_size t_folkN t_folk t_countsN t_counts p1_roundsN p1_rounds p3_tiesN  n x5 x6 p3_size p3_ties = some R → Q none (wX5_writeBundle cy tA t_writtenV t_size t_folkA t_folkN t_folk t_countsA t_countsN t_counts p1A p1_namesV p1_kindsV p1_kinV p1_stopsV p1_folks p1_pairs p1_line p1_rope p1_lineTold p1_ropeTold p1_lawV p1_takenV p1_roundsA p1_roundsN p1_rounds p3A R.1 p3_tiesA p3_tiesN R.2) → V l D cy MX5_writeBundle 1 0 0 av ws0 Q 36 [(3, .ref p3A), (5, .int x5), (6, .int x6)] [] (wX5_writeBundle cy tA t_writtenV t_size t_folkA t_folkN t_folk t_countsA t_countsN t_counts p1A p1_namesV p1_kindsV p1_kinV p1_stopsV p1_folks p1_pairs p1_line p1_rope p1_lineTold p1_ropeTold p1_lawV p1_takenV p1_roundsA p1_roundsN p1_rounds p3A p3_size p3_tiesA p3_tiesN p3_ties) 0 0 := by
  intro n
  induction n with
  | zero => intro x5 x6 p3_size p3_ties R h; exact vNone h
  | succ n ih => intro x5 x6 p3_size p3_ties R h hQ; exact vbX5_writeBundle_L36 F tA t_writtenV t_size t_folkA t_folkN t_folk t_countsA t_countsN t_counts p1A p1_namesV p1_kindsV p1_kinV p1_stopsV p1_folks p1_pairs p1_line p1_rope p1_lineTold p1_ropeTold p1_lawV p1_takenV p1_roundsA p1_roundsN p1_rounds p3A p3_tiesA p3_tiesN _ ih x5 x6 p3_size p3_ties R h hQ
noncomputable def bX5_writeBundle_L26 (F : Nat) (t_size : Int32) (t_folkN : Nat) (t_folk : Nat → Int32) (t_countsN : Nat) (t_counts : Nat → Int32) (p1_roundsN : Nat) (p1_rounds : Nat → Int32) (p3_tiesN : Nat)  (x4 : Int32) (s0 : Int32) (s1 : Int32) (p3_size : Int32) (p3_ties : Nat → Int32) : Option ((Int32) × (Nat → Int32)) :=
  fX5_writeBundle_L36 F t_size t_folkN t_folk t_countsN t_counts p1_roundsN p1_rounds p3_tiesN F (s0 + s1) (if 0 ≤ x4 then x4 else 0 - x4) p3_size p3_ties
theorem vX5_writeBundle_L26 {l : Launch} {D : va_G} {cy : Nat → ClassId} {av : List Value} {ws0 : va_W} {Q : Option Value → va_W → Prop} (F : Nat) (tA : Nat) (t_writtenV : Value) (t_size : Int32) (t_folkA : Nat) (t_folkN : Nat) (t_folk : Nat → Int32) (t_countsA : Nat) (t_countsN : Nat) (t_counts : Nat → Int32) (p1A : Nat) (p1_namesV : Value) (p1_kindsV : Value) (p1_kinV : Value) (p1_stopsV : Value) (p1_folks : Int32) (p1_pairs : Int32) (p1_line : Int32) (p1_rope : Int32) (p1_lineTold : Int32) (p1_ropeTold : Int32) (p1_lawV : Value) (p1_takenV : Value) (p1_roundsA : Nat) (p1_roundsN : Nat) (p1_rounds : Nat → Int32) (p3A : Nat) (p3_tiesA : Nat) (p3_tiesN : Nat)  (x4 : Int32) (s0 : Int32) (s1 : Int32) (p3_size : Int32) (p3_ties : Nat → Int32) (R : (Int32) × (Nat → Int32)) (h : bX5_writeBundle_L26 F t_size t_folkN t_folk t_countsN t_counts p1_roundsN p1_rounds p3_tiesN  x4 s0 s1 p3_size p3_ties = some R) (hQ : Q none (wX5_writeBundle cy tA t_writtenV t_size t_folkA t_folkN t_folk t_countsA t_countsN t_counts p1A p1_namesV p1_kindsV p1_kinV p1_stopsV p1_folks p1_pairs p1_line p1_rope p1_lineTold p1_ropeTold p1_lawV p1_takenV p1_roundsA p1_roundsN p1_rounds p3A R.1 p3_tiesA p3_tiesN R.2)) : V l D cy MX5_writeBundle 1 0 0 av ws0 Q 26 [(3, .ref p3A), (4, .int x4)] [.int s1, .int s0] (wX5_writeBundle cy tA t_writtenV t_size t_folkA t_folkN t_folk t_countsA t_countsN t_counts p1A p1_namesV p1_kindsV p1_kinV p1_stopsV p1_folks p1_pairs p1_line p1_rope p1_lineTold p1_ropeTold p1_lawV p1_takenV p1_roundsA p1_roundsN p1_rounds p3A p3_size p3_tiesA p3_tiesN p3_ties) 0 0 := by
  unfold bX5_writeBundle_L26 at h
  refine V.iadd dX5_writeBundle_26 ?_
  refine V.istore (lv' := [(5, .int (s0 + s1)), (3, .ref p3A), (4, .int x4)]) dX5_writeBundle_27 (by decide) rfl ?_
  refine V.iload dX5_writeBundle_29 2 rfl ?_
  refine V.mabs klX5_101 dX5_writeBundle_31 (Nat.le_of_ble_eq_true rfl) ⟨Nat.le_refl _, Nat.le_refl _⟩ ?_
  refine V.istore (lv' := [(6, .int (if 0 ≤ x4 then x4 else 0 - x4)), (5, .int (s0 + s1)), (3, .ref p3A), (4, .int x4)]) dX5_writeBundle_34 (by decide) rfl ?_
  refine V.lvs [2, 1, 0] rfl ?_
  exact vX5_writeBundle_L36 _ _ _ _ _ _ _ _ _ _ _ _ _ _ _ _ _ _ _ _ _ _ _ _ _ _ _ _ _  _ _ _ _ _ R h hQ
noncomputable def fX5_writeBundle (F : Nat) (t_size : Int32) (t_folkN : Nat) (t_folk : Nat → Int32) (t_countsN : Nat) (t_counts : Nat → Int32) (p1_roundsN : Nat) (p1_rounds : Nat → Int32) (p3_tiesN : Nat) (a2 : Int32) (p3_size : Int32) (p3_ties : Nat → Int32) : Option ((Int32) × (Nat → Int32)) :=
  (fX5_tiesIn F t_size t_folkN t_folk t_countsN t_counts p1_roundsN p1_rounds a2).bind fun R3 => (if a2 < 0 ∨ t_folkN ≤ a2.toNatClampNeg then none else (if 0 ≤ R3 then (bX5_writeBundle_L26 F t_size t_folkN t_folk t_countsN t_counts p1_roundsN p1_rounds p3_tiesN R3 ((2 : Int32) * (t_folk (a2).toNatClampNeg)) (0 : Int32) p3_size p3_ties) else (bX5_writeBundle_L26 F t_size t_folkN t_folk t_countsN t_counts p1_roundsN p1_rounds p3_tiesN R3 ((2 : Int32) * (t_folk (a2).toNatClampNeg)) (1 : Int32) p3_size p3_ties)))
theorem CX5_writeBundle {l : Launch} {D : va_G} {cy : Nat → ClassId} (F : Nat) (tA : Nat) (t_writtenV : Value) (t_size : Int32) (t_folkA : Nat) (t_folkN : Nat) (t_folk : Nat → Int32) (t_countsA : Nat) (t_countsN : Nat) (t_counts : Nat → Int32) (p1A : Nat) (p1_namesV : Value) (p1_kindsV : Value) (p1_kinV : Value) (p1_stopsV : Value) (p1_folks : Int32) (p1_pairs : Int32) (p1_line : Int32) (p1_rope : Int32) (p1_lineTold : Int32) (p1_ropeTold : Int32) (p1_lawV : Value) (p1_takenV : Value) (p1_roundsA : Nat) (p1_roundsN : Nat) (p1_rounds : Nat → Int32) (p3A : Nat) (p3_size : Int32) (p3_tiesA : Nat) (p3_tiesN : Nat) (p3_ties : Nat → Int32) (a2 : Int32) (R : (Int32) × (Nat → Int32)) (h : fX5_writeBundle F t_size t_folkN t_folk t_countsN t_counts p1_roundsN p1_rounds p3_tiesN a2 p3_size p3_ties = some R) : vMet l D cy MX5_writeBundle 1 0 0 [.ref tA, .ref p1A, .int a2, .ref p3A] (wX5_writeBundle cy tA t_writtenV t_size t_folkA t_folkN t_folk t_countsA t_countsN t_counts p1A p1_namesV p1_kindsV p1_kinV p1_stopsV p1_folks p1_pairs p1_line p1_rope p1_lineTold p1_ropeTold p1_lawV p1_takenV p1_roundsA p1_roundsN p1_rounds p3A p3_size p3_tiesA p3_tiesN p3_ties) (fun (r : Option Value) (w : va_W) => r = none ∧ w = (wX5_writeBundle cy tA t_writtenV t_size t_folkA t_folkN t_folk t_countsA t_countsN t_counts p1A p1_namesV p1_kindsV p1_kinV p1_stopsV p1_folks p1_pairs p1_line p1_rope p1_lineTold p1_ropeTold p1_lawV p1_takenV p1_roundsA p1_roundsN p1_rounds p3A R.1 p3_tiesA p3_tiesN R.2)) := by
  refine vMet.start (by decide +kernel) (Nat.le_of_ble_eq_true rfl) ?_
  generalize hQe : (fun (r : Option Value) (w : va_W) => r = none ∧ w = (wX5_writeBundle cy tA t_writtenV t_size t_folkA t_folkN t_folk t_countsA t_countsN t_counts p1A p1_namesV p1_kindsV p1_kinV p1_stopsV p1_folks p1_pairs p1_line p1_rope p1_lineTold p1_ropeTold p1_lawV p1_takenV p1_roundsA p1_roundsN p1_rounds p3A R.1 p3_tiesA p3_tiesN R.2)) = Q
  have hQ : Q none (wX5_writeBundle cy tA t_writtenV t_size t_folkA t_folkN t_folk t_countsA t_countsN t_counts p1A p1_namesV p1_kindsV p1_kinV p1_stopsV p1_folks p1_pairs p1_line p1_rope p1_lineTold p1_ropeTold p1_lawV p1_takenV p1_roundsA p1_roundsN p1_rounds p3A R.1 p3_tiesA p3_tiesN R.2) := by rw [← hQe]; exact ⟨rfl, rfl⟩
  show V l D cy MX5_writeBundle 1 0 0 _ _ Q 0 [(0, .ref tA), (1, .ref p1A), (2, .int a2), (3, .ref p3A)] [] _ 0 0
  show V l D cy MX5_writeBundle 1 0 0 [.ref tA, .ref p1A, .int a2, .ref p3A] _ Q 0 [(0, .ref tA), (1, .ref p1A), (2, .int a2), (3, .ref p3A)] [] (wX5_writeBundle cy tA t_writtenV t_size t_folkA t_folkN t_folk t_countsA t_countsN t_counts p1A p1_namesV p1_kindsV p1_kinV p1_stopsV p1_folks p1_pairs p1_line p1_rope p1_lineTold p1_ropeTold p1_lawV p1_takenV p1_roundsA p1_roundsN p1_rounds p3A p3_size p3_tiesA p3_tiesN p3_ties) 0 0
  unfold fX5_writeBundle at h
  refine V.aload_n dX5_writeBundle_0 rfl 0 rfl ?_
  refine V.aload_n dX5_writeBundle_1 rfl 1 rfl ?_
  refine V.iload_n dX5_writeBundle_2 rfl 2 rfl ?_
  obtain ⟨R3, hg3, h⟩ := Option.bind_eq_some_iff.mp h
  refine V.callV (As := [.ref p1A, .int a2]) (rest := []) (wc := (wX5_tiesIn cy tA t_writtenV t_size t_folkA t_folkN t_folk t_countsA t_countsN t_counts p1A p1_namesV p1_kindsV p1_kinV p1_stopsV p1_folks p1_pairs p1_line p1_rope p1_lineTold p1_ropeTold p1_lawV p1_takenV p1_roundsA p1_roundsN p1_rounds)) (wr := [(p3A, .inr (7, [.ref p3_tiesA, .int p3_size])), (p3_tiesA, .inl (cy 1, p3_tiesN, .inl p3_ties))]) (q0 := 0) (CX5_tiesIn F tA t_writtenV t_size t_folkA t_folkN t_folk t_countsA t_countsN t_counts p1A p1_namesV p1_kindsV p1_kinV p1_stopsV p1_folks p1_pairs p1_line p1_rope p1_lineTold p1_ropeTold p1_lawV p1_takenV p1_roundsA p1_roundsN p1_rounds a2 R3 hg3) kvX5_tiesIn klX5_97 [0, 1, 2, 3, 4] [5, 6] rfl rfl (by decide) (by decide) (by decide) rfl rfl rfl rfl dX5_writeBundle_3 ⟨by decide, by decide, by decide, by decide⟩ (Nat.le_of_ble_eq_true rfl) (fun r w1 hq => ?_)
  obtain ⟨rfl, rfl⟩ := hq
  refine V.cells (ws' := (wX5_writeBundle cy tA t_writtenV t_size t_folkA t_folkN t_folk t_countsA t_countsN t_counts p1A p1_namesV p1_kindsV p1_kinV p1_stopsV p1_folks p1_pairs p1_line p1_rope p1_lineTold p1_ropeTold p1_lawV p1_takenV p1_roundsA p1_roundsN p1_rounds p3A p3_size p3_tiesA p3_tiesN p3_ties)) [2, 3, 4, 5, 6, 0, 1] (by decide) rfl ?_
  show V l D cy MX5_writeBundle 1 0 0 _ _ _ 6 [(0, .ref tA), (1, .ref p1A), (2, .int a2), (3, .ref p3A)] [.int R3] (wX5_writeBundle cy tA t_writtenV t_size t_folkA t_folkN t_folk t_countsA t_countsN t_counts p1A p1_namesV p1_kindsV p1_kinV p1_stopsV p1_folks p1_pairs p1_line p1_rope p1_lineTold p1_ropeTold p1_lawV p1_takenV p1_roundsA p1_roundsN p1_rounds p3A p3_size p3_tiesA p3_tiesN p3_ties) 0 0
  refine V.istore (lv' := [(4, .int R3), (0, .ref tA), (1, .ref p1A), (2, .int a2), (3, .ref p3A)]) dX5_writeBundle_6 (by decide) rfl ?_
  refine V.iconst (v := (2 : Int32)) dX5_writeBundle_8 (by decide) ?_
  refine V.aload_n dX5_writeBundle_9 rfl 1 rfl ?_
  refine V.get kfX5 0 rfl rfl 0 (by decide) klX5_9 rfl dX5_writeBundle_10 ?_
  refine V.iload_n dX5_writeBundle_13 rfl 3 rfl ?_
  by_cases hb14 : a2 < 0 ∨ t_folkN ≤ a2.toNatClampNeg
  · exact vNone ((if_pos hb14).symm.trans h)
  replace h := (if_neg hb14).symm.trans h
  refine V.iald dX5_writeBundle_14 1 rfl hb14 ?_
  refine V.imul dX5_writeBundle_15 ?_
  refine V.iload dX5_writeBundle_16 0 rfl ?_
  refine V.if_ge (tgt := 25) dX5_writeBundle_18 (by decide) (fun hc18 => ?_) (fun hc18 => ?_)
  · replace h := (if_pos hc18).symm.trans h
    refine V.iconst (v := (0 : Int32)) dX5_writeBundle_25 (by decide) ?_
    refine V.lvs [4, 0] rfl ?_
    exact vX5_writeBundle_L26 _ _ _ _ _ _ _ _ _ _ _ _ _ _ _ _ _ _ _ _ _ _ _ _ _ _ _ _ _   _ _ _ _ _ R h hQ
  · replace h := (if_neg hc18).symm.trans h
    refine V.iconst (v := (1 : Int32)) dX5_writeBundle_21 (by decide) ?_
    refine V.goto (tgt := 26) dX5_writeBundle_22 (by decide) ?_
    refine V.lvs [4, 0] rfl ?_
    exact vX5_writeBundle_L26 _ _ _ _ _ _ _ _ _ _ _ _ _ _ _ _ _ _ _ _ _ _ _ _ _ _ _ _ _   _ _ _ _ _ R h hQ
theorem dX5_pushRow_0 : decode cX5_pushRow 0 = .ok (.iconst 0, 1) := by decide +kernel
theorem dX5_pushRow_1 : decode cX5_pushRow 1 = .ok (.istore_n 3, 1) := by decide +kernel
theorem dX5_pushRow_2 : decode cX5_pushRow 2 = .ok (.iload_n 3, 1) := by decide +kernel
theorem dX5_pushRow_3 : decode cX5_pushRow 3 = .ok (.aload_n 2, 1) := by decide +kernel
theorem dX5_pushRow_4 : decode cX5_pushRow 4 = .ok (.getfield 48, 3) := by decide +kernel
theorem dX5_pushRow_7 : decode cX5_pushRow 7 = .ok (.if_icmp .ge 32, 3) := by decide +kernel
theorem dX5_pushRow_10 : decode cX5_pushRow 10 = .ok (.aload_n 0, 1) := by decide +kernel
theorem dX5_pushRow_11 : decode cX5_pushRow 11 = .ok (.aload_n 1, 1) := by decide +kernel
theorem dX5_pushRow_12 : decode cX5_pushRow 12 = .ok (.aload_n 2, 1) := by decide +kernel
theorem dX5_pushRow_13 : decode cX5_pushRow 13 = .ok (.getfield 51, 3) := by decide +kernel
theorem dX5_pushRow_16 : decode cX5_pushRow 16 = .ok (.iload_n 3, 1) := by decide +kernel
theorem dX5_pushRow_17 : decode cX5_pushRow 17 = .ok (.iaload, 1) := by decide +kernel
theorem dX5_pushRow_18 : decode cX5_pushRow 18 = .ok (.invokestatic 54, 3) := by decide +kernel
theorem dX5_pushRow_21 : decode cX5_pushRow 21 = .ok (.aload_n 2, 1) := by decide +kernel
theorem dX5_pushRow_22 : decode cX5_pushRow 22 = .ok (.getfield 51, 3) := by decide +kernel
theorem dX5_pushRow_25 : decode cX5_pushRow 25 = .ok (.iload_n 3, 1) := by decide +kernel
theorem dX5_pushRow_26 : decode cX5_pushRow 26 = .ok (.iaload, 1) := by decide +kernel
theorem dX5_pushRow_27 : decode cX5_pushRow 27 = .ok (.invokestatic 58, 3) := by decide +kernel
theorem dX5_pushRow_30 : decode cX5_pushRow 30 = .ok (.invokevirtual 61, 3) := by decide +kernel
theorem dX5_pushRow_33 : decode cX5_pushRow 33 = .ok (.iinc 3 1, 3) := by decide +kernel
theorem dX5_pushRow_36 : decode cX5_pushRow 36 = .ok (.goto (-34), 3) := by decide +kernel
theorem dX5_pushRow_39 : decode cX5_pushRow 39 = .ok (.return_, 1) := by decide +kernel
def wX5_pushRow (cy : Nat → ClassId) (tA : Nat) (t_writtenV : Value) (t_size : Int32) (t_folkA : Nat) (t_folkN : Nat) (t_folk : Nat → Int32) (t_countsA : Nat) (t_countsN : Nat) (t_counts : Nat → Int32) (p1A : Nat) (p1_namesV : Value) (p1_kindsV : Value) (p1_kinV : Value) (p1_folks : Int32) (p1_pairs : Int32) (p1_line : Int32) (p1_rope : Int32) (p1_lineTold : Int32) (p1_ropeTold : Int32) (p1_lawV : Value) (p1_takenV : Value) (p1_stopsA : Nat) (p1_stopsN : Nat) (p1_stops : Nat → Int32) (p1_roundsA : Nat) (p1_roundsN : Nat) (p1_rounds : Nat → Int32) (p2A : Nat) (p2_size : Int32) (p2_tiesA : Nat) (p2_tiesN : Nat) (p2_ties : Nat → Int32) : va_W :=
  [(tA, .inr (5, [.ref t_folkA, .ref t_countsA, t_writtenV, .int t_size])), (t_folkA, .inl (cy 1, t_folkN, .inl t_folk)), (t_countsA, .inl (cy 1, t_countsN, .inl t_counts)), (p1A, .inr (2, [p1_namesV, p1_kindsV, p1_kinV, .ref p1_stopsA, .ref p1_roundsA, .int p1_folks, .int p1_pairs, .int p1_line, .int p1_rope, .int p1_lineTold, .int p1_ropeTold, p1_lawV, p1_takenV])), (p1_stopsA, .inl (cy 1, p1_stopsN, .inl p1_stops)), (p1_roundsA, .inl (cy 1, p1_roundsN, .inl p1_rounds)), (p2A, .inr (7, [.ref p2_tiesA, .int p2_size])), (p2_tiesA, .inl (cy 1, p2_tiesN, .inl p2_ties))]
noncomputable def bX5_pushRow_L2 (F : Nat) (t_folkN : Nat) (t_countsN : Nat) (p1_folks : Int32) (p1_stopsN : Nat) (p1_stops : Nat → Int32) (p1_roundsN : Nat) (p1_rounds : Nat → Int32) (p2_size : Int32) (p2_tiesN : Nat) (p2_ties : Nat → Int32) (k2 : Int32 → Int32 → (Nat → Int32) → (Nat → Int32) → Option ((Int32) × (Nat → Int32) × (Nat → Int32))) (x3 : Int32) (t_size : Int32) (t_folk : Nat → Int32) (t_counts : Nat → Int32) : Option ((Int32) × (Nat → Int32) × (Nat → Int32)) :=
  if p2_size ≤ x3 then (some (t_size, t_folk, t_counts)) else (if x3 < 0 ∨ p2_tiesN ≤ x3.toNatClampNeg then none else ((fX7_folkOf F (p2_ties (x3).toNatClampNeg)).bind fun R18 => (if x3 < 0 ∨ p2_tiesN ≤ x3.toNatClampNeg then none else ((fX7_countOf F (p2_ties (x3).toNatClampNeg)).bind fun R27 => ((fX5_push F t_folkN t_countsN p1_folks p1_stopsN p1_stops p1_roundsN p1_rounds R18 R27 t_size t_folk t_counts).bind fun R30 => (k2 (x3 + (1 : Int32)) R30.1 R30.2.1 R30.2.2))))))
theorem vbX5_pushRow_L2 {l : Launch} {D : va_G} {cy : Nat → ClassId} {av : List Value} {ws0 : va_W} {Q : Option Value → va_W → Prop} (F : Nat) (tA : Nat) (t_writtenV : Value) (t_folkA : Nat) (t_folkN : Nat) (t_countsA : Nat) (t_countsN : Nat) (p1A : Nat) (p1_namesV : Value) (p1_kindsV : Value) (p1_kinV : Value) (p1_folks : Int32) (p1_pairs : Int32) (p1_line : Int32) (p1_rope : Int32) (p1_lineTold : Int32) (p1_ropeTold : Int32) (p1_lawV : Value) (p1_takenV : Value) (p1_stopsA : Nat) (p1_stopsN : Nat) (p1_stops : Nat → Int32) (p1_roundsA : Nat) (p1_roundsN : Nat) (p1_rounds : Nat → Int32) (p2A : Nat) (p2_size : Int32) (p2_tiesA : Nat) (p2_tiesN : Nat) (p2_ties : Nat → Int32) (k2 : Int32 → Int32 → (Nat → Int32) → (Nat → Int32) → Option ((Int32) × (Nat → Int32) × (Nat → Int32))) (hk2 : ∀ (x3 : Int32) (t_size : Int32) (t_folk : Nat → Int32) (t_counts : Nat → Int32) (R : (Int32) × (Nat → Int32) × (Nat → Int32)), k2 x3 t_size t_folk t_counts = some R → Q none (wX5_pushRow cy tA t_writtenV R.1 t_folkA t_folkN R.2.1 t_countsA t_countsN R.2.2 p1A p1_namesV p1_kindsV p1_kinV p1_folks p1_pairs p1_line p1_rope p1_lineTold p1_ropeTold p1_lawV p1_takenV p1_stopsA p1_stopsN p1_stops p1_roundsA p1_roundsN p1_rounds p2A p2_size p2_tiesA p2_tiesN p2_ties) → V l D cy MX5_pushRow 2 0 0 av ws0 Q 2 [(0, .ref tA), (1, .ref p1A), (2, .ref p2A), (3, .int x3)] [] (wX5_pushRow cy tA t_writtenV t_size t_folkA t_folkN t_folk t_countsA t_countsN t_counts p1A p1_namesV p1_kindsV p1_kinV p1_folks p1_pairs p1_line p1_rope p1_lineTold p1_ropeTold p1_lawV p1_takenV p1_stopsA p1_stopsN p1_stops p1_roundsA p1_roundsN p1_rounds p2A p2_size p2_tiesA p2_tiesN p2_ties) 0 0) (x3 : Int32) (t_size : Int32) (t_folk : Nat → Int32) (t_counts : Nat → Int32) (R : (Int32) × (Nat → Int32) × (Nat → Int32)) (h : bX5_pushRow_L2 F t_folkN t_countsN p1_folks p1_stopsN p1_stops p1_roundsN p1_rounds p2_size p2_tiesN p2_ties k2 x3 t_size t_folk t_counts = some R) (hQ : Q none (wX5_pushRow cy tA t_writtenV R.1 t_folkA t_folkN R.2.1 t_countsA t_countsN R.2.2 p1A p1_namesV p1_kindsV p1_kinV p1_folks p1_pairs p1_line p1_rope p1_lineTold p1_ropeTold p1_lawV p1_takenV p1_stopsA p1_stopsN p1_stops p1_roundsA p1_roundsN p1_rounds p2A p2_size p2_tiesA p2_tiesN p2_ties)) : V l D cy MX5_pushRow 2 0 0 av ws0 Q 2 [(0, .ref tA), (1, .ref p1A), (2, .ref p2A), (3, .int x3)] [] (wX5_pushRow cy tA t_writtenV t_size t_folkA t_folkN t_folk t_countsA t_countsN t_counts p1A p1_namesV p1_kindsV p1_kinV p1_folks p1_pairs p1_line p1_rope p1_lineTold p1_ropeTold p1_lawV p1_takenV p1_stopsA p1_stopsN p1_stops p1_roundsA p1_roundsN p1_rounds p2A p2_size p2_tiesA p2_tiesN p2_ties) 0 0 := by
  unfold bX5_pushRow_L2 at h
  refine V.iload_n dX5_pushRow_2 rfl 3 rfl ?_
  refine V.aload_n dX5_pushRow_3 rfl 2 rfl ?_
  refine V.get kfX7 6 rfl rfl 1 (by decide) klX5_48 rfl dX5_pushRow_4 ?_
  refine V.icmp_ge (tgt := 39) dX5_pushRow_7 (by decide) (fun hc7 => ?_) (fun hc7 => ?_)
  · replace h := (if_pos hc7).symm.trans h
    have e9 := Option.some.inj h; subst e9
    exact V.vret rfl dX5_pushRow_39 (Nat.le_refl _) (Nat.le_refl _) hQ
  · replace h := (if_neg hc7).symm.trans h
    refine V.aload_n dX5_pushRow_10 rfl 0 rfl ?_
    refine V.aload_n dX5_pushRow_11 rfl 1 rfl ?_
    refine V.aload_n dX5_pushRow_12 rfl 2 rfl ?_
    refine V.get kfX7 6 rfl rfl 0 (by decide) klX5_51 rfl dX5_pushRow_13 ?_
    refine V.iload_n dX5_pushRow_16 rfl 3 rfl ?_
    by_cases hb17 : x3 < 0 ∨ p2_tiesN ≤ x3.toNatClampNeg
    · exact vNone ((if_pos hb17).symm.trans h)
    replace h := (if_neg hb17).symm.trans h
    refine V.iald dX5_pushRow_17 7 rfl hb17 ?_
    obtain ⟨R18, hg18, h⟩ := Option.bind_eq_some_iff.mp h
    refine V.callS (As := [.int (p2_ties (x3).toNatClampNeg)]) (rest := [.ref p1A, .ref tA]) (wc := (wX7_folkOf cy )) (wr := [(tA, .inr (5, [.ref t_folkA, .ref t_countsA, t_writtenV, .int t_size])), (t_folkA, .inl (cy 1, t_folkN, .inl t_folk)), (t_countsA, .inl (cy 1, t_countsN, .inl t_counts)), (p1A, .inr (2, [p1_namesV, p1_kindsV, p1_kinV, .ref p1_stopsA, .ref p1_roundsA, .int p1_folks, .int p1_pairs, .int p1_line, .int p1_rope, .int p1_lineTold, .int p1_ropeTold, p1_lawV, p1_takenV])), (p1_stopsA, .inl (cy 1, p1_stopsN, .inl p1_stops)), (p1_roundsA, .inl (cy 1, p1_roundsN, .inl p1_rounds)), (p2A, .inr (7, [.ref p2_tiesA, .int p2_size])), (p2_tiesA, .inl (cy 1, p2_tiesN, .inl p2_ties))]) (CX7_folkOf F (p2_ties (x3).toNatClampNeg) R18 hg18) kvX7_folkOf klX5_54 [] [0, 1, 2, 3, 4, 5, 6, 7] rfl rfl (by decide) (by decide) (by decide) rfl dX5_pushRow_18 ⟨by decide, by decide, by decide, by decide⟩ (Nat.le_of_ble_eq_true rfl) (fun r w1 hq => ?_)
    obtain ⟨rfl, rfl⟩ := hq
    refine V.cells (ws' := (wX5_pushRow cy tA t_writtenV t_size t_folkA t_folkN t_folk t_countsA t_countsN t_counts p1A p1_namesV p1_kindsV p1_kinV p1_folks p1_pairs p1_line p1_rope p1_lineTold p1_ropeTold p1_lawV p1_takenV p1_stopsA p1_stopsN p1_stops p1_roundsA p1_roundsN p1_rounds p2A p2_size p2_tiesA p2_tiesN p2_ties)) [0, 1, 2, 3, 4, 5, 6, 7] (by decide) rfl ?_
    show V l D cy MX5_pushRow 2 0 0 _ _ _ 21 [(0, .ref tA), (1, .ref p1A), (2, .ref p2A), (3, .int x3)] [.int R18, .ref p1A, .ref tA] (wX5_pushRow cy tA t_writtenV t_size t_folkA t_folkN t_folk t_countsA t_countsN t_counts p1A p1_namesV p1_kindsV p1_kinV p1_folks p1_pairs p1_line p1_rope p1_lineTold p1_ropeTold p1_lawV p1_takenV p1_stopsA p1_stopsN p1_stops p1_roundsA p1_roundsN p1_rounds p2A p2_size p2_tiesA p2_tiesN p2_ties) 0 0
    refine V.aload_n dX5_pushRow_21 rfl 2 rfl ?_
    refine V.get kfX7 6 rfl rfl 0 (by decide) klX5_51 rfl dX5_pushRow_22 ?_
    refine V.iload_n dX5_pushRow_25 rfl 3 rfl ?_
    by_cases hb26 : x3 < 0 ∨ p2_tiesN ≤ x3.toNatClampNeg
    · exact vNone ((if_pos hb26).symm.trans h)
    replace h := (if_neg hb26).symm.trans h
    refine V.iald dX5_pushRow_26 7 rfl hb26 ?_
    obtain ⟨R27, hg27, h⟩ := Option.bind_eq_some_iff.mp h
    refine V.callS (As := [.int (p2_ties (x3).toNatClampNeg)]) (rest := [.int R18, .ref p1A, .ref tA]) (wc := (wX7_countOf cy )) (wr := [(tA, .inr (5, [.ref t_folkA, .ref t_countsA, t_writtenV, .int t_size])), (t_folkA, .inl (cy 1, t_folkN, .inl t_folk)), (t_countsA, .inl (cy 1, t_countsN, .inl t_counts)), (p1A, .inr (2, [p1_namesV, p1_kindsV, p1_kinV, .ref p1_stopsA, .ref p1_roundsA, .int p1_folks, .int p1_pairs, .int p1_line, .int p1_rope, .int p1_lineTold, .int p1_ropeTold, p1_lawV, p1_takenV])), (p1_stopsA, .inl (cy 1, p1_stopsN, .inl p1_stops)), (p1_roundsA, .inl (cy 1, p1_roundsN, .inl p1_rounds)), (p2A, .inr (7, [.ref p2_tiesA, .int p2_size])), (p2_tiesA, .inl (cy 1, p2_tiesN, .inl p2_ties))]) (CX7_countOf F (p2_ties (x3).toNatClampNeg) R27 hg27) kvX7_countOf klX5_58 [] [0, 1, 2, 3, 4, 5, 6, 7] rfl rfl (by decide) (by decide) (by decide) rfl dX5_pushRow_27 ⟨by decide, by decide, by decide, by decide⟩ (Nat.le_of_ble_eq_true rfl) (fun r w1 hq => ?_)
    obtain ⟨rfl, rfl⟩ := hq
    refine V.cells (ws' := (wX5_pushRow cy tA t_writtenV t_size t_folkA t_folkN t_folk t_countsA t_countsN t_counts p1A p1_namesV p1_kindsV p1_kinV p1_folks p1_pairs p1_line p1_rope p1_lineTold p1_ropeTold p1_lawV p1_takenV p1_stopsA p1_stopsN p1_stops p1_roundsA p1_roundsN p1_rounds p2A p2_size p2_tiesA p2_tiesN p2_ties)) [0, 1, 2, 3, 4, 5, 6, 7] (by decide) rfl ?_
    show V l D cy MX5_pushRow 2 0 0 _ _ _ 30 [(0, .ref tA), (1, .ref p1A), (2, .ref p2A), (3, .int x3)] [.int R27, .int R18, .ref p1A, .ref tA] (wX5_pushRow cy tA t_writtenV t_size t_folkA t_folkN t_folk t_countsA t_countsN t_counts p1A p1_namesV p1_kindsV p1_kinV p1_folks p1_pairs p1_line p1_rope p1_lineTold p1_ropeTold p1_lawV p1_takenV p1_stopsA p1_stopsN p1_stops p1_roundsA p1_roundsN p1_rounds p2A p2_size p2_tiesA p2_tiesN p2_ties) 0 0
    obtain ⟨R30, hg30, h⟩ := Option.bind_eq_some_iff.mp h
    refine V.callV (As := [.ref p1A, .int R18, .int R27]) (rest := []) (wc := (wX5_push cy tA t_writtenV t_size t_folkA t_folkN t_folk t_countsA t_countsN t_counts p1A p1_namesV p1_kindsV p1_kinV p1_folks p1_pairs p1_line p1_rope p1_lineTold p1_ropeTold p1_lawV p1_takenV p1_stopsA p1_stopsN p1_stops p1_roundsA p1_roundsN p1_rounds)) (wr := [(p2A, .inr (7, [.ref p2_tiesA, .int p2_size])), (p2_tiesA, .inl (cy 1, p2_tiesN, .inl p2_ties))]) (q0 := 0) (CX5_push F tA t_writtenV t_size t_folkA t_folkN t_folk t_countsA t_countsN t_counts p1A p1_namesV p1_kindsV p1_kinV p1_folks p1_pairs p1_line p1_rope p1_lineTold p1_ropeTold p1_lawV p1_takenV p1_stopsA p1_stopsN p1_stops p1_roundsA p1_roundsN p1_rounds R18 R27 R30 hg30) kvX5_push klX5_61 [0, 1, 2, 3, 4, 5] [6, 7] rfl rfl (by decide) (by decide) (by decide) rfl rfl rfl rfl dX5_pushRow_30 ⟨by decide, by decide, by decide, by decide⟩ (Nat.le_of_ble_eq_true rfl) (fun r w1 hq => ?_)
    obtain ⟨rfl, rfl⟩ := hq
    refine V.cells (ws' := (wX5_pushRow cy tA t_writtenV R30.1 t_folkA t_folkN R30.2.1 t_countsA t_countsN R30.2.2 p1A p1_namesV p1_kindsV p1_kinV p1_folks p1_pairs p1_line p1_rope p1_lineTold p1_ropeTold p1_lawV p1_takenV p1_stopsA p1_stopsN p1_stops p1_roundsA p1_roundsN p1_rounds p2A p2_size p2_tiesA p2_tiesN p2_ties)) [2, 3, 4, 5, 6, 7, 0, 1] (by decide) rfl ?_
    show V l D cy MX5_pushRow 2 0 0 _ _ _ 33 [(0, .ref tA), (1, .ref p1A), (2, .ref p2A), (3, .int x3)] [] (wX5_pushRow cy tA t_writtenV R30.1 t_folkA t_folkN R30.2.1 t_countsA t_countsN R30.2.2 p1A p1_namesV p1_kindsV p1_kinV p1_folks p1_pairs p1_line p1_rope p1_lineTold p1_ropeTold p1_lawV p1_takenV p1_stopsA p1_stopsN p1_stops p1_roundsA p1_roundsN p1_rounds p2A p2_size p2_tiesA p2_tiesN p2_ties) 0 0
    refine V.iinc (v := x3 + (1 : Int32)) (lv' := [(3, .int (x3 + (1 : Int32))), (0, .ref tA), (1, .ref p1A), (2, .ref p2A)]) dX5_pushRow_33 3 rfl rfl (by decide) rfl ?_
    refine V.goto (tgt := 2) dX5_pushRow_36 (by decide) ?_
    refine V.lvs [1, 2, 3, 0] rfl ?_
    exact hk2 _ _ _ _ R h hQ
noncomputable def fX5_pushRow_L2 (F : Nat) (t_folkN : Nat) (t_countsN : Nat) (p1_folks : Int32) (p1_stopsN : Nat) (p1_stops : Nat → Int32) (p1_roundsN : Nat) (p1_rounds : Nat → Int32) (p2_size : Int32) (p2_tiesN : Nat) (p2_ties : Nat → Int32)  : Nat → Int32 → Int32 → (Nat → Int32) → (Nat → Int32) → Option ((Int32) × (Nat → Int32) × (Nat → Int32))
  | 0 => fun _ _ _ _ => none
  | n + 1 => bX5_pushRow_L2 F t_folkN t_countsN p1_folks p1_stopsN p1_stops p1_roundsN p1_rounds p2_size p2_tiesN p2_ties (fX5_pushRow_L2 F t_folkN t_countsN p1_folks p1_stopsN p1_stops p1_roundsN p1_rounds p2_size p2_tiesN p2_ties  n)
theorem vX5_pushRow_L2 {l : Launch} {D : va_G} {cy : Nat → ClassId} {av : List Value} {ws0 : va_W} {Q : Option Value → va_W → Prop} (F : Nat) (tA : Nat) (t_writtenV : Value) (t_folkA : Nat) (t_folkN : Nat) (t_countsA : Nat) (t_countsN : Nat) (p1A : Nat) (p1_namesV : Value) (p1_kindsV : Value) (p1_kinV : Value) (p1_folks : Int32) (p1_pairs : Int32) (p1_line : Int32) (p1_rope : Int32) (p1_lineTold : Int32) (p1_ropeTold : Int32) (p1_lawV : Value) (p1_takenV : Value) (p1_stopsA : Nat) (p1_stopsN : Nat) (p1_stops : Nat → Int32) (p1_roundsA : Nat) (p1_roundsN : Nat) (p1_rounds : Nat → Int32) (p2A : Nat) (p2_size : Int32) (p2_tiesA : Nat) (p2_tiesN : Nat) (p2_ties : Nat → Int32)  : ∀ (n : Nat) (x3 : Int32) (t_size : Int32) (t_folk : Nat → Int32) (t_counts : Nat → Int32) (R : (Int32) × (Nat → Int32) × (Nat → Int32)), fX5_pushRow_L2 F t_folkN t_countsN p1_folks p1_stopsN p1_stops p1_roundsN p1_rounds p2_size p2_tiesN p2_ties  n x3 t_size t_folk t_counts = some R → Q none (wX5_pushRow cy tA t_writtenV R.1 t_folkA t_folkN R.2.1 t_countsA t_countsN R.2.2 p1A p1_namesV p1_kindsV p1_kinV p1_folks p1_pairs p1_line p1_rope p1_lineTold p1_ropeTold p1_lawV p1_takenV p1_stopsA p1_stopsN p1_stops p1_roundsA p1_roundsN p1_rounds p2A p2_size p2_tiesA p2_tiesN p2_ties) → V l D cy MX5_pushRow 2 0 0 av ws0 Q 2 [(0, .ref tA), (1, .ref p1A), (2, .ref p2A), (3, .int x3)] [] (wX5_pushRow cy tA t_writtenV t_size t_folkA t_folkN t_folk t_countsA t_countsN t_counts p1A p1_namesV p1_kindsV p1_kinV p1_folks p1_pairs p1_line p1_rope p1_lineTold p1_ropeTold p1_lawV p1_takenV p1_stopsA p1_stopsN p1_stops p1_roundsA p1_roundsN p1_rounds p2A p2_size p2_tiesA p2_tiesN p2_ties) 0 0 := by
  intro n
  induction n with
  | zero => intro x3 t_size t_folk t_counts R h; exact vNone h
  | succ n ih => intro x3 t_size t_folk t_counts R h hQ; exact vbX5_pushRow_L2 F tA t_writtenV t_folkA t_folkN t_countsA t_countsN p1A p1_namesV p1_kindsV p1_kinV p1_folks p1_pairs p1_line p1_rope p1_lineTold p1_ropeTold p1_lawV p1_takenV p1_stopsA p1_stopsN p1_stops p1_roundsA p1_roundsN p1_rounds p2A p2_size p2_tiesA p2_tiesN p2_ties _ ih x3 t_size t_folk t_counts R h hQ
noncomputable def fX5_pushRow (F : Nat) (t_folkN : Nat) (t_countsN : Nat) (p1_folks : Int32) (p1_stopsN : Nat) (p1_stops : Nat → Int32) (p1_roundsN : Nat) (p1_rounds : Nat → Int32) (p2_size : Int32) (p2_tiesN : Nat) (p2_ties : Nat → Int32) (t_size : Int32) (t_folk : Nat → Int32) (t_counts : Nat → Int32) : Option ((Int32) × (Nat → Int32) × (Nat → Int32)) :=
  fX5_pushRow_L2 F t_folkN t_countsN p1_folks p1_stopsN p1_stops p1_roundsN p1_rounds p2_size p2_tiesN p2_ties F (0 : Int32) t_size t_folk t_counts
theorem CX5_pushRow {l : Launch} {D : va_G} {cy : Nat → ClassId} (F : Nat) (tA : Nat) (t_writtenV : Value) (t_size : Int32) (t_folkA : Nat) (t_folkN : Nat) (t_folk : Nat → Int32) (t_countsA : Nat) (t_countsN : Nat) (t_counts : Nat → Int32) (p1A : Nat) (p1_namesV : Value) (p1_kindsV : Value) (p1_kinV : Value) (p1_folks : Int32) (p1_pairs : Int32) (p1_line : Int32) (p1_rope : Int32) (p1_lineTold : Int32) (p1_ropeTold : Int32) (p1_lawV : Value) (p1_takenV : Value) (p1_stopsA : Nat) (p1_stopsN : Nat) (p1_stops : Nat → Int32) (p1_roundsA : Nat) (p1_roundsN : Nat) (p1_rounds : Nat → Int32) (p2A : Nat) (p2_size : Int32) (p2_tiesA : Nat) (p2_tiesN : Nat) (p2_ties : Nat → Int32) (R : (Int32) × (Nat → Int32) × (Nat → Int32)) (h : fX5_pushRow F t_folkN t_countsN p1_folks p1_stopsN p1_stops p1_roundsN p1_rounds p2_size p2_tiesN p2_ties t_size t_folk t_counts = some R) : vMet l D cy MX5_pushRow 2 0 0 [.ref tA, .ref p1A, .ref p2A] (wX5_pushRow cy tA t_writtenV t_size t_folkA t_folkN t_folk t_countsA t_countsN t_counts p1A p1_namesV p1_kindsV p1_kinV p1_folks p1_pairs p1_line p1_rope p1_lineTold p1_ropeTold p1_lawV p1_takenV p1_stopsA p1_stopsN p1_stops p1_roundsA p1_roundsN p1_rounds p2A p2_size p2_tiesA p2_tiesN p2_ties) (fun (r : Option Value) (w : va_W) => r = none ∧ w = (wX5_pushRow cy tA t_writtenV R.1 t_folkA t_folkN R.2.1 t_countsA t_countsN R.2.2 p1A p1_namesV p1_kindsV p1_kinV p1_folks p1_pairs p1_line p1_rope p1_lineTold p1_ropeTold p1_lawV p1_takenV p1_stopsA p1_stopsN p1_stops p1_roundsA p1_roundsN p1_rounds p2A p2_size p2_tiesA p2_tiesN p2_ties)) := by
  refine vMet.start (by decide +kernel) (Nat.le_of_ble_eq_true rfl) ?_
  generalize hQe : (fun (r : Option Value) (w : va_W) => r = none ∧ w = (wX5_pushRow cy tA t_writtenV R.1 t_folkA t_folkN R.2.1 t_countsA t_countsN R.2.2 p1A p1_namesV p1_kindsV p1_kinV p1_folks p1_pairs p1_line p1_rope p1_lineTold p1_ropeTold p1_lawV p1_takenV p1_stopsA p1_stopsN p1_stops p1_roundsA p1_roundsN p1_rounds p2A p2_size p2_tiesA p2_tiesN p2_ties)) = Q
  have hQ : Q none (wX5_pushRow cy tA t_writtenV R.1 t_folkA t_folkN R.2.1 t_countsA t_countsN R.2.2 p1A p1_namesV p1_kindsV p1_kinV p1_folks p1_pairs p1_line p1_rope p1_lineTold p1_ropeTold p1_lawV p1_takenV p1_stopsA p1_stopsN p1_stops p1_roundsA p1_roundsN p1_rounds p2A p2_size p2_tiesA p2_tiesN p2_ties) := by rw [← hQe]; exact ⟨rfl, rfl⟩
  show V l D cy MX5_pushRow 2 0 0 _ _ Q 0 [(0, .ref tA), (1, .ref p1A), (2, .ref p2A)] [] _ 0 0
  show V l D cy MX5_pushRow 2 0 0 [.ref tA, .ref p1A, .ref p2A] _ Q 0 [(0, .ref tA), (1, .ref p1A), (2, .ref p2A)] [] (wX5_pushRow cy tA t_writtenV t_size t_folkA t_folkN t_folk t_countsA t_countsN t_counts p1A p1_namesV p1_kindsV p1_kinV p1_folks p1_pairs p1_line p1_rope p1_lineTold p1_ropeTold p1_lawV p1_takenV p1_stopsA p1_stopsN p1_stops p1_roundsA p1_roundsN p1_rounds p2A p2_size p2_tiesA p2_tiesN p2_ties) 0 0
  unfold fX5_pushRow at h
  refine V.iconst (v := (0 : Int32)) dX5_pushRow_0 (by decide) ?_
  refine V.istore_n (lv' := [(3, .int (0 : Int32)), (0, .ref tA), (1, .ref p1A), (2, .ref p2A)]) dX5_pushRow_1 rfl (by decide) rfl ?_
  refine V.lvs [1, 2, 3, 0] rfl ?_
  exact vX5_pushRow_L2 _ _ _ _ _ _ _ _ _ _ _ _ _ _ _ _ _ _ _ _ _ _ _ _ _ _ _ _ _ _  _ _ _ _ _ R h hQ
theorem dX5_pushAgainst_0 : decode cX5_pushAgainst 0 = .ok (.aload_n 2, 1) := by decide +kernel
theorem dX5_pushAgainst_1 : decode cX5_pushAgainst 1 = .ok (.getfield 48, 3) := by decide +kernel
theorem dX5_pushAgainst_4 : decode cX5_pushAgainst 4 = .ok (.iconst 1, 1) := by decide +kernel
theorem dX5_pushAgainst_5 : decode cX5_pushAgainst 5 = .ok (.isub, 1) := by decide +kernel
theorem dX5_pushAgainst_6 : decode cX5_pushAgainst 6 = .ok (.istore_n 3, 1) := by decide +kernel
theorem dX5_pushAgainst_7 : decode cX5_pushAgainst 7 = .ok (.iload_n 3, 1) := by decide +kernel
theorem dX5_pushAgainst_8 : decode cX5_pushAgainst 8 = .ok (.ifCond .lt 33, 3) := by decide +kernel
theorem dX5_pushAgainst_11 : decode cX5_pushAgainst 11 = .ok (.aload_n 0, 1) := by decide +kernel
theorem dX5_pushAgainst_12 : decode cX5_pushAgainst 12 = .ok (.aload_n 1, 1) := by decide +kernel
theorem dX5_pushAgainst_13 : decode cX5_pushAgainst 13 = .ok (.aload_n 2, 1) := by decide +kernel
theorem dX5_pushAgainst_14 : decode cX5_pushAgainst 14 = .ok (.getfield 51, 3) := by decide +kernel
theorem dX5_pushAgainst_17 : decode cX5_pushAgainst 17 = .ok (.iload_n 3, 1) := by decide +kernel
theorem dX5_pushAgainst_18 : decode cX5_pushAgainst 18 = .ok (.iaload, 1) := by decide +kernel
theorem dX5_pushAgainst_19 : decode cX5_pushAgainst 19 = .ok (.invokestatic 54, 3) := by decide +kernel
theorem dX5_pushAgainst_22 : decode cX5_pushAgainst 22 = .ok (.aload_n 2, 1) := by decide +kernel
theorem dX5_pushAgainst_23 : decode cX5_pushAgainst 23 = .ok (.getfield 51, 3) := by decide +kernel
theorem dX5_pushAgainst_26 : decode cX5_pushAgainst 26 = .ok (.iload_n 3, 1) := by decide +kernel
theorem dX5_pushAgainst_27 : decode cX5_pushAgainst 27 = .ok (.iaload, 1) := by decide +kernel
theorem dX5_pushAgainst_28 : decode cX5_pushAgainst 28 = .ok (.invokestatic 58, 3) := by decide +kernel
theorem dX5_pushAgainst_31 : decode cX5_pushAgainst 31 = .ok (.ineg, 1) := by decide +kernel
theorem dX5_pushAgainst_32 : decode cX5_pushAgainst 32 = .ok (.invokevirtual 61, 3) := by decide +kernel
theorem dX5_pushAgainst_35 : decode cX5_pushAgainst 35 = .ok (.iinc 3 (-1), 3) := by decide +kernel
theorem dX5_pushAgainst_38 : decode cX5_pushAgainst 38 = .ok (.goto (-31), 3) := by decide +kernel
theorem dX5_pushAgainst_41 : decode cX5_pushAgainst 41 = .ok (.return_, 1) := by decide +kernel
def wX5_pushAgainst (cy : Nat → ClassId) (tA : Nat) (t_writtenV : Value) (t_size : Int32) (t_folkA : Nat) (t_folkN : Nat) (t_folk : Nat → Int32) (t_countsA : Nat) (t_countsN : Nat) (t_counts : Nat → Int32) (p1A : Nat) (p1_namesV : Value) (p1_kindsV : Value) (p1_kinV : Value) (p1_folks : Int32) (p1_pairs : Int32) (p1_line : Int32) (p1_rope : Int32) (p1_lineTold : Int32) (p1_ropeTold : Int32) (p1_lawV : Value) (p1_takenV : Value) (p1_stopsA : Nat) (p1_stopsN : Nat) (p1_stops : Nat → Int32) (p1_roundsA : Nat) (p1_roundsN : Nat) (p1_rounds : Nat → Int32) (p2A : Nat) (p2_size : Int32) (p2_tiesA : Nat) (p2_tiesN : Nat) (p2_ties : Nat → Int32) : va_W :=
  [(tA, .inr (5, [.ref t_folkA, .ref t_countsA, t_writtenV, .int t_size])), (t_folkA, .inl (cy 1, t_folkN, .inl t_folk)), (t_countsA, .inl (cy 1, t_countsN, .inl t_counts)), (p1A, .inr (2, [p1_namesV, p1_kindsV, p1_kinV, .ref p1_stopsA, .ref p1_roundsA, .int p1_folks, .int p1_pairs, .int p1_line, .int p1_rope, .int p1_lineTold, .int p1_ropeTold, p1_lawV, p1_takenV])), (p1_stopsA, .inl (cy 1, p1_stopsN, .inl p1_stops)), (p1_roundsA, .inl (cy 1, p1_roundsN, .inl p1_rounds)), (p2A, .inr (7, [.ref p2_tiesA, .int p2_size])), (p2_tiesA, .inl (cy 1, p2_tiesN, .inl p2_ties))]
noncomputable def bX5_pushAgainst_L7 (F : Nat) (t_folkN : Nat) (t_countsN : Nat) (p1_folks : Int32) (p1_stopsN : Nat) (p1_stops : Nat → Int32) (p1_roundsN : Nat) (p1_rounds : Nat → Int32) (p2_size : Int32) (p2_tiesN : Nat) (p2_ties : Nat → Int32) (k7 : Int32 → Int32 → (Nat → Int32) → (Nat → Int32) → Option ((Int32) × (Nat → Int32) × (Nat → Int32))) (x3 : Int32) (t_size : Int32) (t_folk : Nat → Int32) (t_counts : Nat → Int32) : Option ((Int32) × (Nat → Int32) × (Nat → Int32)) :=
  if x3 < 0 then (some (t_size, t_folk, t_counts)) else (if x3 < 0 ∨ p2_tiesN ≤ x3.toNatClampNeg then none else ((fX7_folkOf F (p2_ties (x3).toNatClampNeg)).bind fun R19 => (if x3 < 0 ∨ p2_tiesN ≤ x3.toNatClampNeg then none else ((fX7_countOf F (p2_ties (x3).toNatClampNeg)).bind fun R28 => ((fX5_push F t_folkN t_countsN p1_folks p1_stopsN p1_stops p1_roundsN p1_rounds R19 (-R28) t_size t_folk t_counts).bind fun R32 => (k7 (x3 + (-1 : Int32)) R32.1 R32.2.1 R32.2.2))))))
theorem vbX5_pushAgainst_L7 {l : Launch} {D : va_G} {cy : Nat → ClassId} {av : List Value} {ws0 : va_W} {Q : Option Value → va_W → Prop} (F : Nat) (tA : Nat) (t_writtenV : Value) (t_folkA : Nat) (t_folkN : Nat) (t_countsA : Nat) (t_countsN : Nat) (p1A : Nat) (p1_namesV : Value) (p1_kindsV : Value) (p1_kinV : Value) (p1_folks : Int32) (p1_pairs : Int32) (p1_line : Int32) (p1_rope : Int32) (p1_lineTold : Int32) (p1_ropeTold : Int32) (p1_lawV : Value) (p1_takenV : Value) (p1_stopsA : Nat) (p1_stopsN : Nat) (p1_stops : Nat → Int32) (p1_roundsA : Nat) (p1_roundsN : Nat) (p1_rounds : Nat → Int32) (p2A : Nat) (p2_size : Int32) (p2_tiesA : Nat) (p2_tiesN : Nat) (p2_ties : Nat → Int32) (k7 : Int32 → Int32 → (Nat → Int32) → (Nat → Int32) → Option ((Int32) × (Nat → Int32) × (Nat → Int32))) (hk7 : ∀ (x3 : Int32) (t_size : Int32) (t_folk : Nat → Int32) (t_counts : Nat → Int32) (R : (Int32) × (Nat → Int32) × (Nat → Int32)), k7 x3 t_size t_folk t_counts = some R → Q none (wX5_pushAgainst cy tA t_writtenV R.1 t_folkA t_folkN R.2.1 t_countsA t_countsN R.2.2 p1A p1_namesV p1_kindsV p1_kinV p1_folks p1_pairs p1_line p1_rope p1_lineTold p1_ropeTold p1_lawV p1_takenV p1_stopsA p1_stopsN p1_stops p1_roundsA p1_roundsN p1_rounds p2A p2_size p2_tiesA p2_tiesN p2_ties) → V l D cy MX5_pushAgainst 2 0 0 av ws0 Q 7 [(0, .ref tA), (1, .ref p1A), (2, .ref p2A), (3, .int x3)] [] (wX5_pushAgainst cy tA t_writtenV t_size t_folkA t_folkN t_folk t_countsA t_countsN t_counts p1A p1_namesV p1_kindsV p1_kinV p1_folks p1_pairs p1_line p1_rope p1_lineTold p1_ropeTold p1_lawV p1_takenV p1_stopsA p1_stopsN p1_stops p1_roundsA p1_roundsN p1_rounds p2A p2_size p2_tiesA p2_tiesN p2_ties) 0 0) (x3 : Int32) (t_size : Int32) (t_folk : Nat → Int32) (t_counts : Nat → Int32) (R : (Int32) × (Nat → Int32) × (Nat → Int32)) (h : bX5_pushAgainst_L7 F t_folkN t_countsN p1_folks p1_stopsN p1_stops p1_roundsN p1_rounds p2_size p2_tiesN p2_ties k7 x3 t_size t_folk t_counts = some R) (hQ : Q none (wX5_pushAgainst cy tA t_writtenV R.1 t_folkA t_folkN R.2.1 t_countsA t_countsN R.2.2 p1A p1_namesV p1_kindsV p1_kinV p1_folks p1_pairs p1_line p1_rope p1_lineTold p1_ropeTold p1_lawV p1_takenV p1_stopsA p1_stopsN p1_stops p1_roundsA p1_roundsN p1_rounds p2A p2_size p2_tiesA p2_tiesN p2_ties)) : V l D cy MX5_pushAgainst 2 0 0 av ws0 Q 7 [(0, .ref tA), (1, .ref p1A), (2, .ref p2A), (3, .int x3)] [] (wX5_pushAgainst cy tA t_writtenV t_size t_folkA t_folkN t_folk t_countsA t_countsN t_counts p1A p1_namesV p1_kindsV p1_kinV p1_folks p1_pairs p1_line p1_rope p1_lineTold p1_ropeTold p1_lawV p1_takenV p1_stopsA p1_stopsN p1_stops p1_roundsA p1_roundsN p1_rounds p2A p2_size p2_tiesA p2_tiesN p2_ties) 0 0 := by
  unfold bX5_pushAgainst_L7 at h
  refine V.iload_n dX5_pushAgainst_7 rfl 3 rfl ?_
  refine V.if_lt (tgt := 41) dX5_pushAgainst_8 (by decide) (fun hc8 => ?_) (fun hc8 => ?_)
  · replace h := (if_pos hc8).symm.trans h
    have e9 := Option.some.inj h; subst e9
    exact V.vret rfl dX5_pushAgainst_41 (Nat.le_refl _) (Nat.le_refl _) hQ
  · replace h := (if_neg hc8).symm.trans h
    refine V.aload_n dX5_pushAgainst_11 rfl 0 rfl ?_
    refine V.aload_n dX5_pushAgainst_12 rfl 1 rfl ?_
    refine V.aload_n dX5_pushAgainst_13 rfl 2 rfl ?_
    refine V.get kfX7 6 rfl rfl 0 (by decide) klX5_51 rfl dX5_pushAgainst_14 ?_
    refine V.iload_n dX5_pushAgainst_17 rfl 3 rfl ?_
    by_cases hb18 : x3 < 0 ∨ p2_tiesN ≤ x3.toNatClampNeg
    · exact vNone ((if_pos hb18).symm.trans h)
    replace h := (if_neg hb18).symm.trans h
    refine V.iald dX5_pushAgainst_18 7 rfl hb18 ?_
    obtain ⟨R19, hg19, h⟩ := Option.bind_eq_some_iff.mp h
    refine V.callS (As := [.int (p2_ties (x3).toNatClampNeg)]) (rest := [.ref p1A, .ref tA]) (wc := (wX7_folkOf cy )) (wr := [(tA, .inr (5, [.ref t_folkA, .ref t_countsA, t_writtenV, .int t_size])), (t_folkA, .inl (cy 1, t_folkN, .inl t_folk)), (t_countsA, .inl (cy 1, t_countsN, .inl t_counts)), (p1A, .inr (2, [p1_namesV, p1_kindsV, p1_kinV, .ref p1_stopsA, .ref p1_roundsA, .int p1_folks, .int p1_pairs, .int p1_line, .int p1_rope, .int p1_lineTold, .int p1_ropeTold, p1_lawV, p1_takenV])), (p1_stopsA, .inl (cy 1, p1_stopsN, .inl p1_stops)), (p1_roundsA, .inl (cy 1, p1_roundsN, .inl p1_rounds)), (p2A, .inr (7, [.ref p2_tiesA, .int p2_size])), (p2_tiesA, .inl (cy 1, p2_tiesN, .inl p2_ties))]) (CX7_folkOf F (p2_ties (x3).toNatClampNeg) R19 hg19) kvX7_folkOf klX5_54 [] [0, 1, 2, 3, 4, 5, 6, 7] rfl rfl (by decide) (by decide) (by decide) rfl dX5_pushAgainst_19 ⟨by decide, by decide, by decide, by decide⟩ (Nat.le_of_ble_eq_true rfl) (fun r w1 hq => ?_)
    obtain ⟨rfl, rfl⟩ := hq
    refine V.cells (ws' := (wX5_pushAgainst cy tA t_writtenV t_size t_folkA t_folkN t_folk t_countsA t_countsN t_counts p1A p1_namesV p1_kindsV p1_kinV p1_folks p1_pairs p1_line p1_rope p1_lineTold p1_ropeTold p1_lawV p1_takenV p1_stopsA p1_stopsN p1_stops p1_roundsA p1_roundsN p1_rounds p2A p2_size p2_tiesA p2_tiesN p2_ties)) [0, 1, 2, 3, 4, 5, 6, 7] (by decide) rfl ?_
    show V l D cy MX5_pushAgainst 2 0 0 _ _ _ 22 [(0, .ref tA), (1, .ref p1A), (2, .ref p2A), (3, .int x3)] [.int R19, .ref p1A, .ref tA] (wX5_pushAgainst cy tA t_writtenV t_size t_folkA t_folkN t_folk t_countsA t_countsN t_counts p1A p1_namesV p1_kindsV p1_kinV p1_folks p1_pairs p1_line p1_rope p1_lineTold p1_ropeTold p1_lawV p1_takenV p1_stopsA p1_stopsN p1_stops p1_roundsA p1_roundsN p1_rounds p2A p2_size p2_tiesA p2_tiesN p2_ties) 0 0
    refine V.aload_n dX5_pushAgainst_22 rfl 2 rfl ?_
    refine V.get kfX7 6 rfl rfl 0 (by decide) klX5_51 rfl dX5_pushAgainst_23 ?_
    refine V.iload_n dX5_pushAgainst_26 rfl 3 rfl ?_
    by_cases hb27 : x3 < 0 ∨ p2_tiesN ≤ x3.toNatClampNeg
    · exact vNone ((if_pos hb27).symm.trans h)
    replace h := (if_neg hb27).symm.trans h
    refine V.iald dX5_pushAgainst_27 7 rfl hb27 ?_
    obtain ⟨R28, hg28, h⟩ := Option.bind_eq_some_iff.mp h
    refine V.callS (As := [.int (p2_ties (x3).toNatClampNeg)]) (rest := [.int R19, .ref p1A, .ref tA]) (wc := (wX7_countOf cy )) (wr := [(tA, .inr (5, [.ref t_folkA, .ref t_countsA, t_writtenV, .int t_size])), (t_folkA, .inl (cy 1, t_folkN, .inl t_folk)), (t_countsA, .inl (cy 1, t_countsN, .inl t_counts)), (p1A, .inr (2, [p1_namesV, p1_kindsV, p1_kinV, .ref p1_stopsA, .ref p1_roundsA, .int p1_folks, .int p1_pairs, .int p1_line, .int p1_rope, .int p1_lineTold, .int p1_ropeTold, p1_lawV, p1_takenV])), (p1_stopsA, .inl (cy 1, p1_stopsN, .inl p1_stops)), (p1_roundsA, .inl (cy 1, p1_roundsN, .inl p1_rounds)), (p2A, .inr (7, [.ref p2_tiesA, .int p2_size])), (p2_tiesA, .inl (cy 1, p2_tiesN, .inl p2_ties))]) (CX7_countOf F (p2_ties (x3).toNatClampNeg) R28 hg28) kvX7_countOf klX5_58 [] [0, 1, 2, 3, 4, 5, 6, 7] rfl rfl (by decide) (by decide) (by decide) rfl dX5_pushAgainst_28 ⟨by decide, by decide, by decide, by decide⟩ (Nat.le_of_ble_eq_true rfl) (fun r w1 hq => ?_)
    obtain ⟨rfl, rfl⟩ := hq
    refine V.cells (ws' := (wX5_pushAgainst cy tA t_writtenV t_size t_folkA t_folkN t_folk t_countsA t_countsN t_counts p1A p1_namesV p1_kindsV p1_kinV p1_folks p1_pairs p1_line p1_rope p1_lineTold p1_ropeTold p1_lawV p1_takenV p1_stopsA p1_stopsN p1_stops p1_roundsA p1_roundsN p1_rounds p2A p2_size p2_tiesA p2_tiesN p2_ties)) [0, 1, 2, 3, 4, 5, 6, 7] (by decide) rfl ?_
    show V l D cy MX5_pushAgainst 2 0 0 _ _ _ 31 [(0, .ref tA), (1, .ref p1A), (2, .ref p2A), (3, .int x3)] [.int R28, .int R19, .ref p1A, .ref tA] (wX5_pushAgainst cy tA t_writtenV t_size t_folkA t_folkN t_folk t_countsA t_countsN t_counts p1A p1_namesV p1_kindsV p1_kinV p1_folks p1_pairs p1_line p1_rope p1_lineTold p1_ropeTold p1_lawV p1_takenV p1_stopsA p1_stopsN p1_stops p1_roundsA p1_roundsN p1_rounds p2A p2_size p2_tiesA p2_tiesN p2_ties) 0 0
    refine V.ineg dX5_pushAgainst_31 ?_
    obtain ⟨R32, hg32, h⟩ := Option.bind_eq_some_iff.mp h
    refine V.callV (As := [.ref p1A, .int R19, .int (-R28)]) (rest := []) (wc := (wX5_push cy tA t_writtenV t_size t_folkA t_folkN t_folk t_countsA t_countsN t_counts p1A p1_namesV p1_kindsV p1_kinV p1_folks p1_pairs p1_line p1_rope p1_lineTold p1_ropeTold p1_lawV p1_takenV p1_stopsA p1_stopsN p1_stops p1_roundsA p1_roundsN p1_rounds)) (wr := [(p2A, .inr (7, [.ref p2_tiesA, .int p2_size])), (p2_tiesA, .inl (cy 1, p2_tiesN, .inl p2_ties))]) (q0 := 0) (CX5_push F tA t_writtenV t_size t_folkA t_folkN t_folk t_countsA t_countsN t_counts p1A p1_namesV p1_kindsV p1_kinV p1_folks p1_pairs p1_line p1_rope p1_lineTold p1_ropeTold p1_lawV p1_takenV p1_stopsA p1_stopsN p1_stops p1_roundsA p1_roundsN p1_rounds R19 (-R28) R32 hg32) kvX5_push klX5_61 [0, 1, 2, 3, 4, 5] [6, 7] rfl rfl (by decide) (by decide) (by decide) rfl rfl rfl rfl dX5_pushAgainst_32 ⟨by decide, by decide, by decide, by decide⟩ (Nat.le_of_ble_eq_true rfl) (fun r w1 hq => ?_)
    obtain ⟨rfl, rfl⟩ := hq
    refine V.cells (ws' := (wX5_pushAgainst cy tA t_writtenV R32.1 t_folkA t_folkN R32.2.1 t_countsA t_countsN R32.2.2 p1A p1_namesV p1_kindsV p1_kinV p1_folks p1_pairs p1_line p1_rope p1_lineTold p1_ropeTold p1_lawV p1_takenV p1_stopsA p1_stopsN p1_stops p1_roundsA p1_roundsN p1_rounds p2A p2_size p2_tiesA p2_tiesN p2_ties)) [2, 3, 4, 5, 6, 7, 0, 1] (by decide) rfl ?_
    show V l D cy MX5_pushAgainst 2 0 0 _ _ _ 35 [(0, .ref tA), (1, .ref p1A), (2, .ref p2A), (3, .int x3)] [] (wX5_pushAgainst cy tA t_writtenV R32.1 t_folkA t_folkN R32.2.1 t_countsA t_countsN R32.2.2 p1A p1_namesV p1_kindsV p1_kinV p1_folks p1_pairs p1_line p1_rope p1_lineTold p1_ropeTold p1_lawV p1_takenV p1_stopsA p1_stopsN p1_stops p1_roundsA p1_roundsN p1_rounds p2A p2_size p2_tiesA p2_tiesN p2_ties) 0 0
    refine V.iinc (v := x3 + (-1 : Int32)) (lv' := [(3, .int (x3 + (-1 : Int32))), (0, .ref tA), (1, .ref p1A), (2, .ref p2A)]) dX5_pushAgainst_35 3 rfl rfl (by decide) rfl ?_
    refine V.goto (tgt := 7) dX5_pushAgainst_38 (by decide) ?_
    refine V.lvs [1, 2, 3, 0] rfl ?_
    exact hk7 _ _ _ _ R h hQ
noncomputable def fX5_pushAgainst_L7 (F : Nat) (t_folkN : Nat) (t_countsN : Nat) (p1_folks : Int32) (p1_stopsN : Nat) (p1_stops : Nat → Int32) (p1_roundsN : Nat) (p1_rounds : Nat → Int32) (p2_size : Int32) (p2_tiesN : Nat) (p2_ties : Nat → Int32)  : Nat → Int32 → Int32 → (Nat → Int32) → (Nat → Int32) → Option ((Int32) × (Nat → Int32) × (Nat → Int32))
  | 0 => fun _ _ _ _ => none
  | n + 1 => bX5_pushAgainst_L7 F t_folkN t_countsN p1_folks p1_stopsN p1_stops p1_roundsN p1_rounds p2_size p2_tiesN p2_ties (fX5_pushAgainst_L7 F t_folkN t_countsN p1_folks p1_stopsN p1_stops p1_roundsN p1_rounds p2_size p2_tiesN p2_ties  n)
theorem vX5_pushAgainst_L7 {l : Launch} {D : va_G} {cy : Nat → ClassId} {av : List Value} {ws0 : va_W} {Q : Option Value → va_W → Prop} (F : Nat) (tA : Nat) (t_writtenV : Value) (t_folkA : Nat) (t_folkN : Nat) (t_countsA : Nat) (t_countsN : Nat) (p1A : Nat) (p1_namesV : Value) (p1_kindsV : Value) (p1_kinV : Value) (p1_folks : Int32) (p1_pairs : Int32) (p1_line : Int32) (p1_rope : Int32) (p1_lineTold : Int32) (p1_ropeTold : Int32) (p1_lawV : Value) (p1_takenV : Value) (p1_stopsA : Nat) (p1_stopsN : Nat) (p1_stops : Nat → Int32) (p1_roundsA : Nat) (p1_roundsN : Nat) (p1_rounds : Nat → Int32) (p2A : Nat) (p2_size : Int32) (p2_tiesA : Nat) (p2_tiesN : Nat) (p2_ties : Nat → Int32)  : ∀ (n : Nat) (x3 : Int32) (t_size : Int32) (t_folk : Nat → Int32) (t_counts : Nat → Int32) (R : (Int32) × (Nat → Int32) × (Nat → Int32)), fX5_pushAgainst_L7 F t_folkN t_countsN p1_folks p1_stopsN p1_stops p1_roundsN p1_rounds p2_size p2_tiesN p2_ties  n x3 t_size t_folk t_counts = some R → Q none (wX5_pushAgainst cy tA t_writtenV R.1 t_folkA t_folkN R.2.1 t_countsA t_countsN R.2.2 p1A p1_namesV p1_kindsV p1_kinV p1_folks p1_pairs p1_line p1_rope p1_lineTold p1_ropeTold p1_lawV p1_takenV p1_stopsA p1_stopsN p1_stops p1_roundsA p1_roundsN p1_rounds p2A p2_size p2_tiesA p2_tiesN p2_ties) → V l D cy MX5_pushAgainst 2 0 0 av ws0 Q 7 [(0, .ref tA), (1, .ref p1A), (2, .ref p2A), (3, .int x3)] [] (wX5_pushAgainst cy tA t_writtenV t_size t_folkA t_folkN t_folk t_countsA t_countsN t_counts p1A p1_namesV p1_kindsV p1_kinV p1_folks p1_pairs p1_line p1_rope p1_lineTold p1_ropeTold p1_lawV p1_takenV p1_stopsA p1_stopsN p1_stops p1_roundsA p1_roundsN p1_rounds p2A p2_size p2_tiesA p2_tiesN p2_ties) 0 0 := by
  intro n
  induction n with
  | zero => intro x3 t_size t_folk t_counts R h; exact vNone h
  | succ n ih => intro x3 t_size t_folk t_counts R h hQ; exact vbX5_pushAgainst_L7 F tA t_writtenV t_folkA t_folkN t_countsA t_countsN p1A p1_namesV p1_kindsV p1_kinV p1_folks p1_pairs p1_line p1_rope p1_lineTold p1_ropeTold p1_lawV p1_takenV p1_stopsA p1_stopsN p1_stops p1_roundsA p1_roundsN p1_rounds p2A p2_size p2_tiesA p2_tiesN p2_ties _ ih x3 t_size t_folk t_counts R h hQ
noncomputable def fX5_pushAgainst (F : Nat) (t_folkN : Nat) (t_countsN : Nat) (p1_folks : Int32) (p1_stopsN : Nat) (p1_stops : Nat → Int32) (p1_roundsN : Nat) (p1_rounds : Nat → Int32) (p2_size : Int32) (p2_tiesN : Nat) (p2_ties : Nat → Int32) (t_size : Int32) (t_folk : Nat → Int32) (t_counts : Nat → Int32) : Option ((Int32) × (Nat → Int32) × (Nat → Int32)) :=
  fX5_pushAgainst_L7 F t_folkN t_countsN p1_folks p1_stopsN p1_stops p1_roundsN p1_rounds p2_size p2_tiesN p2_ties F (p2_size - (1 : Int32)) t_size t_folk t_counts
theorem CX5_pushAgainst {l : Launch} {D : va_G} {cy : Nat → ClassId} (F : Nat) (tA : Nat) (t_writtenV : Value) (t_size : Int32) (t_folkA : Nat) (t_folkN : Nat) (t_folk : Nat → Int32) (t_countsA : Nat) (t_countsN : Nat) (t_counts : Nat → Int32) (p1A : Nat) (p1_namesV : Value) (p1_kindsV : Value) (p1_kinV : Value) (p1_folks : Int32) (p1_pairs : Int32) (p1_line : Int32) (p1_rope : Int32) (p1_lineTold : Int32) (p1_ropeTold : Int32) (p1_lawV : Value) (p1_takenV : Value) (p1_stopsA : Nat) (p1_stopsN : Nat) (p1_stops : Nat → Int32) (p1_roundsA : Nat) (p1_roundsN : Nat) (p1_rounds : Nat → Int32) (p2A : Nat) (p2_size : Int32) (p2_tiesA : Nat) (p2_tiesN : Nat) (p2_ties : Nat → Int32) (R : (Int32) × (Nat → Int32) × (Nat → Int32)) (h : fX5_pushAgainst F t_folkN t_countsN p1_folks p1_stopsN p1_stops p1_roundsN p1_rounds p2_size p2_tiesN p2_ties t_size t_folk t_counts = some R) : vMet l D cy MX5_pushAgainst 2 0 0 [.ref tA, .ref p1A, .ref p2A] (wX5_pushAgainst cy tA t_writtenV t_size t_folkA t_folkN t_folk t_countsA t_countsN t_counts p1A p1_namesV p1_kindsV p1_kinV p1_folks p1_pairs p1_line p1_rope p1_lineTold p1_ropeTold p1_lawV p1_takenV p1_stopsA p1_stopsN p1_stops p1_roundsA p1_roundsN p1_rounds p2A p2_size p2_tiesA p2_tiesN p2_ties) (fun (r : Option Value) (w : va_W) => r = none ∧ w = (wX5_pushAgainst cy tA t_writtenV R.1 t_folkA t_folkN R.2.1 t_countsA t_countsN R.2.2 p1A p1_namesV p1_kindsV p1_kinV p1_folks p1_pairs p1_line p1_rope p1_lineTold p1_ropeTold p1_lawV p1_takenV p1_stopsA p1_stopsN p1_stops p1_roundsA p1_roundsN p1_rounds p2A p2_size p2_tiesA p2_tiesN p2_ties)) := by
  refine vMet.start (by decide +kernel) (Nat.le_of_ble_eq_true rfl) ?_
  generalize hQe : (fun (r : Option Value) (w : va_W) => r = none ∧ w = (wX5_pushAgainst cy tA t_writtenV R.1 t_folkA t_folkN R.2.1 t_countsA t_countsN R.2.2 p1A p1_namesV p1_kindsV p1_kinV p1_folks p1_pairs p1_line p1_rope p1_lineTold p1_ropeTold p1_lawV p1_takenV p1_stopsA p1_stopsN p1_stops p1_roundsA p1_roundsN p1_rounds p2A p2_size p2_tiesA p2_tiesN p2_ties)) = Q
  have hQ : Q none (wX5_pushAgainst cy tA t_writtenV R.1 t_folkA t_folkN R.2.1 t_countsA t_countsN R.2.2 p1A p1_namesV p1_kindsV p1_kinV p1_folks p1_pairs p1_line p1_rope p1_lineTold p1_ropeTold p1_lawV p1_takenV p1_stopsA p1_stopsN p1_stops p1_roundsA p1_roundsN p1_rounds p2A p2_size p2_tiesA p2_tiesN p2_ties) := by rw [← hQe]; exact ⟨rfl, rfl⟩
  show V l D cy MX5_pushAgainst 2 0 0 _ _ Q 0 [(0, .ref tA), (1, .ref p1A), (2, .ref p2A)] [] _ 0 0
  show V l D cy MX5_pushAgainst 2 0 0 [.ref tA, .ref p1A, .ref p2A] _ Q 0 [(0, .ref tA), (1, .ref p1A), (2, .ref p2A)] [] (wX5_pushAgainst cy tA t_writtenV t_size t_folkA t_folkN t_folk t_countsA t_countsN t_counts p1A p1_namesV p1_kindsV p1_kinV p1_folks p1_pairs p1_line p1_rope p1_lineTold p1_ropeTold p1_lawV p1_takenV p1_stopsA p1_stopsN p1_stops p1_roundsA p1_roundsN p1_rounds p2A p2_size p2_tiesA p2_tiesN p2_ties) 0 0
  unfold fX5_pushAgainst at h
  refine V.aload_n dX5_pushAgainst_0 rfl 2 rfl ?_
  refine V.get kfX7 6 rfl rfl 1 (by decide) klX5_48 rfl dX5_pushAgainst_1 ?_
  refine V.iconst (v := (1 : Int32)) dX5_pushAgainst_4 (by decide) ?_
  refine V.isub dX5_pushAgainst_5 ?_
  refine V.istore_n (lv' := [(3, .int (p2_size - (1 : Int32))), (0, .ref tA), (1, .ref p1A), (2, .ref p2A)]) dX5_pushAgainst_6 rfl (by decide) rfl ?_
  refine V.lvs [1, 2, 3, 0] rfl ?_
  exact vX5_pushAgainst_L7 _ _ _ _ _ _ _ _ _ _ _ _ _ _ _ _ _ _ _ _ _ _ _ _ _ _ _ _ _ _  _ _ _ _ _ R h hQ
theorem dX5_pushTie_0 : decode cX5_pushTie 0 = .ok (.aload_n 0, 1) := by decide +kernel
theorem dX5_pushTie_1 : decode cX5_pushTie 1 = .ok (.aload_n 1, 1) := by decide +kernel
theorem dX5_pushTie_2 : decode cX5_pushTie 2 = .ok (.iload_n 2, 1) := by decide +kernel
theorem dX5_pushTie_3 : decode cX5_pushTie 3 = .ok (.invokestatic 54, 3) := by decide +kernel
theorem dX5_pushTie_6 : decode cX5_pushTie 6 = .ok (.iload_n 2, 1) := by decide +kernel
theorem dX5_pushTie_7 : decode cX5_pushTie 7 = .ok (.invokestatic 58, 3) := by decide +kernel
theorem dX5_pushTie_10 : decode cX5_pushTie 10 = .ok (.invokevirtual 61, 3) := by decide +kernel
theorem dX5_pushTie_13 : decode cX5_pushTie 13 = .ok (.return_, 1) := by decide +kernel
def wX5_pushTie (cy : Nat → ClassId) (tA : Nat) (t_writtenV : Value) (t_size : Int32) (t_folkA : Nat) (t_folkN : Nat) (t_folk : Nat → Int32) (t_countsA : Nat) (t_countsN : Nat) (t_counts : Nat → Int32) (p1A : Nat) (p1_namesV : Value) (p1_kindsV : Value) (p1_kinV : Value) (p1_folks : Int32) (p1_pairs : Int32) (p1_line : Int32) (p1_rope : Int32) (p1_lineTold : Int32) (p1_ropeTold : Int32) (p1_lawV : Value) (p1_takenV : Value) (p1_stopsA : Nat) (p1_stopsN : Nat) (p1_stops : Nat → Int32) (p1_roundsA : Nat) (p1_roundsN : Nat) (p1_rounds : Nat → Int32) : va_W :=
  [(tA, .inr (5, [.ref t_folkA, .ref t_countsA, t_writtenV, .int t_size])), (t_folkA, .inl (cy 1, t_folkN, .inl t_folk)), (t_countsA, .inl (cy 1, t_countsN, .inl t_counts)), (p1A, .inr (2, [p1_namesV, p1_kindsV, p1_kinV, .ref p1_stopsA, .ref p1_roundsA, .int p1_folks, .int p1_pairs, .int p1_line, .int p1_rope, .int p1_lineTold, .int p1_ropeTold, p1_lawV, p1_takenV])), (p1_stopsA, .inl (cy 1, p1_stopsN, .inl p1_stops)), (p1_roundsA, .inl (cy 1, p1_roundsN, .inl p1_rounds))]
noncomputable def fX5_pushTie (F : Nat) (t_folkN : Nat) (t_countsN : Nat) (p1_folks : Int32) (p1_stopsN : Nat) (p1_stops : Nat → Int32) (p1_roundsN : Nat) (p1_rounds : Nat → Int32) (a2 : Int32) (t_size : Int32) (t_folk : Nat → Int32) (t_counts : Nat → Int32) : Option ((Int32) × (Nat → Int32) × (Nat → Int32)) :=
  (fX7_folkOf F a2).bind fun R3 => ((fX7_countOf F a2).bind fun R7 => ((fX5_push F t_folkN t_countsN p1_folks p1_stopsN p1_stops p1_roundsN p1_rounds R3 R7 t_size t_folk t_counts).bind fun R10 => (some (R10.1, R10.2.1, R10.2.2))))
theorem CX5_pushTie {l : Launch} {D : va_G} {cy : Nat → ClassId} (F : Nat) (tA : Nat) (t_writtenV : Value) (t_size : Int32) (t_folkA : Nat) (t_folkN : Nat) (t_folk : Nat → Int32) (t_countsA : Nat) (t_countsN : Nat) (t_counts : Nat → Int32) (p1A : Nat) (p1_namesV : Value) (p1_kindsV : Value) (p1_kinV : Value) (p1_folks : Int32) (p1_pairs : Int32) (p1_line : Int32) (p1_rope : Int32) (p1_lineTold : Int32) (p1_ropeTold : Int32) (p1_lawV : Value) (p1_takenV : Value) (p1_stopsA : Nat) (p1_stopsN : Nat) (p1_stops : Nat → Int32) (p1_roundsA : Nat) (p1_roundsN : Nat) (p1_rounds : Nat → Int32) (a2 : Int32) (R : (Int32) × (Nat → Int32) × (Nat → Int32)) (h : fX5_pushTie F t_folkN t_countsN p1_folks p1_stopsN p1_stops p1_roundsN p1_rounds a2 t_size t_folk t_counts = some R) : vMet l D cy MX5_pushTie 2 0 0 [.ref tA, .ref p1A, .int a2] (wX5_pushTie cy tA t_writtenV t_size t_folkA t_folkN t_folk t_countsA t_countsN t_counts p1A p1_namesV p1_kindsV p1_kinV p1_folks p1_pairs p1_line p1_rope p1_lineTold p1_ropeTold p1_lawV p1_takenV p1_stopsA p1_stopsN p1_stops p1_roundsA p1_roundsN p1_rounds) (fun (r : Option Value) (w : va_W) => r = none ∧ w = (wX5_pushTie cy tA t_writtenV R.1 t_folkA t_folkN R.2.1 t_countsA t_countsN R.2.2 p1A p1_namesV p1_kindsV p1_kinV p1_folks p1_pairs p1_line p1_rope p1_lineTold p1_ropeTold p1_lawV p1_takenV p1_stopsA p1_stopsN p1_stops p1_roundsA p1_roundsN p1_rounds)) := by
  refine vMet.start (by decide +kernel) (Nat.le_of_ble_eq_true rfl) ?_
  generalize hQe : (fun (r : Option Value) (w : va_W) => r = none ∧ w = (wX5_pushTie cy tA t_writtenV R.1 t_folkA t_folkN R.2.1 t_countsA t_countsN R.2.2 p1A p1_namesV p1_kindsV p1_kinV p1_folks p1_pairs p1_line p1_rope p1_lineTold p1_ropeTold p1_lawV p1_takenV p1_stopsA p1_stopsN p1_stops p1_roundsA p1_roundsN p1_rounds)) = Q
  have hQ : Q none (wX5_pushTie cy tA t_writtenV R.1 t_folkA t_folkN R.2.1 t_countsA t_countsN R.2.2 p1A p1_namesV p1_kindsV p1_kinV p1_folks p1_pairs p1_line p1_rope p1_lineTold p1_ropeTold p1_lawV p1_takenV p1_stopsA p1_stopsN p1_stops p1_roundsA p1_roundsN p1_rounds) := by rw [← hQe]; exact ⟨rfl, rfl⟩
  show V l D cy MX5_pushTie 2 0 0 _ _ Q 0 [(0, .ref tA), (1, .ref p1A), (2, .int a2)] [] _ 0 0
  show V l D cy MX5_pushTie 2 0 0 [.ref tA, .ref p1A, .int a2] _ Q 0 [(0, .ref tA), (1, .ref p1A), (2, .int a2)] [] (wX5_pushTie cy tA t_writtenV t_size t_folkA t_folkN t_folk t_countsA t_countsN t_counts p1A p1_namesV p1_kindsV p1_kinV p1_folks p1_pairs p1_line p1_rope p1_lineTold p1_ropeTold p1_lawV p1_takenV p1_stopsA p1_stopsN p1_stops p1_roundsA p1_roundsN p1_rounds) 0 0
  unfold fX5_pushTie at h
  refine V.aload_n dX5_pushTie_0 rfl 0 rfl ?_
  refine V.aload_n dX5_pushTie_1 rfl 1 rfl ?_
  refine V.iload_n dX5_pushTie_2 rfl 2 rfl ?_
  obtain ⟨R3, hg3, h⟩ := Option.bind_eq_some_iff.mp h
  refine V.callS (As := [.int a2]) (rest := [.ref p1A, .ref tA]) (wc := (wX7_folkOf cy )) (wr := [(tA, .inr (5, [.ref t_folkA, .ref t_countsA, t_writtenV, .int t_size])), (t_folkA, .inl (cy 1, t_folkN, .inl t_folk)), (t_countsA, .inl (cy 1, t_countsN, .inl t_counts)), (p1A, .inr (2, [p1_namesV, p1_kindsV, p1_kinV, .ref p1_stopsA, .ref p1_roundsA, .int p1_folks, .int p1_pairs, .int p1_line, .int p1_rope, .int p1_lineTold, .int p1_ropeTold, p1_lawV, p1_takenV])), (p1_stopsA, .inl (cy 1, p1_stopsN, .inl p1_stops)), (p1_roundsA, .inl (cy 1, p1_roundsN, .inl p1_rounds))]) (CX7_folkOf F a2 R3 hg3) kvX7_folkOf klX5_54 [] [0, 1, 2, 3, 4, 5] rfl rfl (by decide) (by decide) (by decide) rfl dX5_pushTie_3 ⟨by decide, by decide, by decide, by decide⟩ (Nat.le_of_ble_eq_true rfl) (fun r w1 hq => ?_)
  obtain ⟨rfl, rfl⟩ := hq
  refine V.cells (ws' := (wX5_pushTie cy tA t_writtenV t_size t_folkA t_folkN t_folk t_countsA t_countsN t_counts p1A p1_namesV p1_kindsV p1_kinV p1_folks p1_pairs p1_line p1_rope p1_lineTold p1_ropeTold p1_lawV p1_takenV p1_stopsA p1_stopsN p1_stops p1_roundsA p1_roundsN p1_rounds)) [0, 1, 2, 3, 4, 5] (by decide) rfl ?_
  show V l D cy MX5_pushTie 2 0 0 _ _ _ 6 [(0, .ref tA), (1, .ref p1A), (2, .int a2)] [.int R3, .ref p1A, .ref tA] (wX5_pushTie cy tA t_writtenV t_size t_folkA t_folkN t_folk t_countsA t_countsN t_counts p1A p1_namesV p1_kindsV p1_kinV p1_folks p1_pairs p1_line p1_rope p1_lineTold p1_ropeTold p1_lawV p1_takenV p1_stopsA p1_stopsN p1_stops p1_roundsA p1_roundsN p1_rounds) 0 0
  refine V.iload_n dX5_pushTie_6 rfl 2 rfl ?_
  obtain ⟨R7, hg7, h⟩ := Option.bind_eq_some_iff.mp h
  refine V.callS (As := [.int a2]) (rest := [.int R3, .ref p1A, .ref tA]) (wc := (wX7_countOf cy )) (wr := [(tA, .inr (5, [.ref t_folkA, .ref t_countsA, t_writtenV, .int t_size])), (t_folkA, .inl (cy 1, t_folkN, .inl t_folk)), (t_countsA, .inl (cy 1, t_countsN, .inl t_counts)), (p1A, .inr (2, [p1_namesV, p1_kindsV, p1_kinV, .ref p1_stopsA, .ref p1_roundsA, .int p1_folks, .int p1_pairs, .int p1_line, .int p1_rope, .int p1_lineTold, .int p1_ropeTold, p1_lawV, p1_takenV])), (p1_stopsA, .inl (cy 1, p1_stopsN, .inl p1_stops)), (p1_roundsA, .inl (cy 1, p1_roundsN, .inl p1_rounds))]) (CX7_countOf F a2 R7 hg7) kvX7_countOf klX5_58 [] [0, 1, 2, 3, 4, 5] rfl rfl (by decide) (by decide) (by decide) rfl dX5_pushTie_7 ⟨by decide, by decide, by decide, by decide⟩ (Nat.le_of_ble_eq_true rfl) (fun r w1 hq => ?_)
  obtain ⟨rfl, rfl⟩ := hq
  refine V.cells (ws' := (wX5_pushTie cy tA t_writtenV t_size t_folkA t_folkN t_folk t_countsA t_countsN t_counts p1A p1_namesV p1_kindsV p1_kinV p1_folks p1_pairs p1_line p1_rope p1_lineTold p1_ropeTold p1_lawV p1_takenV p1_stopsA p1_stopsN p1_stops p1_roundsA p1_roundsN p1_rounds)) [0, 1, 2, 3, 4, 5] (by decide) rfl ?_
  show V l D cy MX5_pushTie 2 0 0 _ _ _ 10 [(0, .ref tA), (1, .ref p1A), (2, .int a2)] [.int R7, .int R3, .ref p1A, .ref tA] (wX5_pushTie cy tA t_writtenV t_size t_folkA t_folkN t_folk t_countsA t_countsN t_counts p1A p1_namesV p1_kindsV p1_kinV p1_folks p1_pairs p1_line p1_rope p1_lineTold p1_ropeTold p1_lawV p1_takenV p1_stopsA p1_stopsN p1_stops p1_roundsA p1_roundsN p1_rounds) 0 0
  obtain ⟨R10, hg10, h⟩ := Option.bind_eq_some_iff.mp h
  refine V.callV (As := [.ref p1A, .int R3, .int R7]) (rest := []) (wc := (wX5_push cy tA t_writtenV t_size t_folkA t_folkN t_folk t_countsA t_countsN t_counts p1A p1_namesV p1_kindsV p1_kinV p1_folks p1_pairs p1_line p1_rope p1_lineTold p1_ropeTold p1_lawV p1_takenV p1_stopsA p1_stopsN p1_stops p1_roundsA p1_roundsN p1_rounds)) (wr := []) (q0 := 0) (CX5_push F tA t_writtenV t_size t_folkA t_folkN t_folk t_countsA t_countsN t_counts p1A p1_namesV p1_kindsV p1_kinV p1_folks p1_pairs p1_line p1_rope p1_lineTold p1_ropeTold p1_lawV p1_takenV p1_stopsA p1_stopsN p1_stops p1_roundsA p1_roundsN p1_rounds R3 R7 R10 hg10) kvX5_push klX5_61 [0, 1, 2, 3, 4, 5] [] rfl rfl (by decide) (by decide) (by decide) rfl rfl rfl rfl dX5_pushTie_10 ⟨by decide, by decide, by decide, by decide⟩ (Nat.le_of_ble_eq_true rfl) (fun r w1 hq => ?_)
  obtain ⟨rfl, rfl⟩ := hq
  refine V.cells (ws' := (wX5_pushTie cy tA t_writtenV R10.1 t_folkA t_folkN R10.2.1 t_countsA t_countsN R10.2.2 p1A p1_namesV p1_kindsV p1_kinV p1_folks p1_pairs p1_line p1_rope p1_lineTold p1_ropeTold p1_lawV p1_takenV p1_stopsA p1_stopsN p1_stops p1_roundsA p1_roundsN p1_rounds)) [0, 1, 2, 3, 4, 5] (by decide) rfl ?_
  show V l D cy MX5_pushTie 2 0 0 _ _ _ 13 [(0, .ref tA), (1, .ref p1A), (2, .int a2)] [] (wX5_pushTie cy tA t_writtenV R10.1 t_folkA t_folkN R10.2.1 t_countsA t_countsN R10.2.2 p1A p1_namesV p1_kindsV p1_kinV p1_folks p1_pairs p1_line p1_rope p1_lineTold p1_ropeTold p1_lawV p1_takenV p1_stopsA p1_stopsN p1_stops p1_roundsA p1_roundsN p1_rounds) 0 0
  have e9 := Option.some.inj h; subst e9
  exact V.vret rfl dX5_pushTie_13 (Nat.le_refl _) (Nat.le_refl _) hQ
theorem dX5_writeForm_0 : decode cX5_writeForm 0 = .ok (.aload_n 2, 1) := by decide +kernel
theorem dX5_writeForm_1 : decode cX5_writeForm 1 = .ok (.invokevirtual 88, 3) := by decide +kernel
theorem dX5_writeForm_4 : decode cX5_writeForm 4 = .ok (.iconst 0, 1) := by decide +kernel
theorem dX5_writeForm_5 : decode cX5_writeForm 5 = .ok (.istore_n 3, 1) := by decide +kernel
theorem dX5_writeForm_6 : decode cX5_writeForm 6 = .ok (.iload_n 3, 1) := by decide +kernel
theorem dX5_writeForm_7 : decode cX5_writeForm 7 = .ok (.aload_n 0, 1) := by decide +kernel
theorem dX5_writeForm_8 : decode cX5_writeForm 8 = .ok (.getfield 22, 3) := by decide +kernel
theorem dX5_writeForm_11 : decode cX5_writeForm 11 = .ok (.if_icmp .ge 16, 3) := by decide +kernel
theorem dX5_writeForm_14 : decode cX5_writeForm 14 = .ok (.aload_n 0, 1) := by decide +kernel
theorem dX5_writeForm_15 : decode cX5_writeForm 15 = .ok (.getfield 18, 3) := by decide +kernel
theorem dX5_writeForm_18 : decode cX5_writeForm 18 = .ok (.iload_n 3, 1) := by decide +kernel
theorem dX5_writeForm_19 : decode cX5_writeForm 19 = .ok (.iconst 0, 1) := by decide +kernel
theorem dX5_writeForm_20 : decode cX5_writeForm 20 = .ok (.bastore, 1) := by decide +kernel
theorem dX5_writeForm_21 : decode cX5_writeForm 21 = .ok (.iinc 3 1, 3) := by decide +kernel
theorem dX5_writeForm_24 : decode cX5_writeForm 24 = .ok (.goto (-18), 3) := by decide +kernel
theorem dX5_writeForm_27 : decode cX5_writeForm 27 = .ok (.iconst 0, 1) := by decide +kernel
theorem dX5_writeForm_28 : decode cX5_writeForm 28 = .ok (.istore_n 3, 1) := by decide +kernel
theorem dX5_writeForm_29 : decode cX5_writeForm 29 = .ok (.iload_n 3, 1) := by decide +kernel
theorem dX5_writeForm_30 : decode cX5_writeForm 30 = .ok (.aload_n 0, 1) := by decide +kernel
theorem dX5_writeForm_31 : decode cX5_writeForm 31 = .ok (.getfield 22, 3) := by decide +kernel
theorem dX5_writeForm_34 : decode cX5_writeForm 34 = .ok (.if_icmp .ge 38, 3) := by decide +kernel
theorem dX5_writeForm_37 : decode cX5_writeForm 37 = .ok (.aload_n 0, 1) := by decide +kernel
theorem dX5_writeForm_38 : decode cX5_writeForm 38 = .ok (.aload_n 1, 1) := by decide +kernel
theorem dX5_writeForm_39 : decode cX5_writeForm 39 = .ok (.invokevirtual 89, 3) := by decide +kernel
theorem dX5_writeForm_42 : decode cX5_writeForm 42 = .ok (.istore 4, 2) := by decide +kernel
theorem dX5_writeForm_44 : decode cX5_writeForm 44 = .ok (.iload 4, 2) := by decide +kernel
theorem dX5_writeForm_46 : decode cX5_writeForm 46 = .ok (.iconst (-1), 1) := by decide +kernel
theorem dX5_writeForm_47 : decode cX5_writeForm 47 = .ok (.if_icmp .eq 19, 3) := by decide +kernel
theorem dX5_writeForm_50 : decode cX5_writeForm 50 = .ok (.aload_n 0, 1) := by decide +kernel
theorem dX5_writeForm_51 : decode cX5_writeForm 51 = .ok (.getfield 18, 3) := by decide +kernel
theorem dX5_writeForm_54 : decode cX5_writeForm 54 = .ok (.iload 4, 2) := by decide +kernel
theorem dX5_writeForm_56 : decode cX5_writeForm 56 = .ok (.iconst 1, 1) := by decide +kernel
theorem dX5_writeForm_57 : decode cX5_writeForm 57 = .ok (.bastore, 1) := by decide +kernel
theorem dX5_writeForm_58 : decode cX5_writeForm 58 = .ok (.aload_n 0, 1) := by decide +kernel
theorem dX5_writeForm_59 : decode cX5_writeForm 59 = .ok (.aload_n 1, 1) := by decide +kernel
theorem dX5_writeForm_60 : decode cX5_writeForm 60 = .ok (.iload 4, 2) := by decide +kernel
theorem dX5_writeForm_62 : decode cX5_writeForm 62 = .ok (.aload_n 2, 1) := by decide +kernel
theorem dX5_writeForm_63 : decode cX5_writeForm 63 = .ok (.invokevirtual 93, 3) := by decide +kernel
theorem dX5_writeForm_66 : decode cX5_writeForm 66 = .ok (.iinc 3 1, 3) := by decide +kernel
theorem dX5_writeForm_69 : decode cX5_writeForm 69 = .ok (.goto (-40), 3) := by decide +kernel
theorem dX5_writeForm_72 : decode cX5_writeForm 72 = .ok (.return_, 1) := by decide +kernel
def wX5_writeForm (cy : Nat → ClassId) (tA : Nat) (t_size : Int32) (t_folkA : Nat) (t_folkN : Nat) (t_folk : Nat → Int32) (t_countsA : Nat) (t_countsN : Nat) (t_counts : Nat → Int32) (t_writtenA : Nat) (t_writtenN : Nat) (t_written : Nat → Int32) (p1A : Nat) (p1_namesV : Value) (p1_kindsV : Value) (p1_kinV : Value) (p1_folks : Int32) (p1_pairs : Int32) (p1_line : Int32) (p1_rope : Int32) (p1_lineTold : Int32) (p1_ropeTold : Int32) (p1_lawV : Value) (p1_takenV : Value) (p1_stopsA : Nat) (p1_stopsN : Nat) (p1_stops : Nat → Int32) (p1_roundsA : Nat) (p1_roundsN : Nat) (p1_rounds : Nat → Int32) (p2A : Nat) (p2_size : Int32) (p2_tiesA : Nat) (p2_tiesN : Nat) (p2_ties : Nat → Int32) : va_W :=
  [(tA, .inr (5, [.ref t_folkA, .ref t_countsA, .ref t_writtenA, .int t_size])), (t_folkA, .inl (cy 1, t_folkN, .inl t_folk)), (t_countsA, .inl (cy 1, t_countsN, .inl t_counts)), (t_writtenA, .inl (cy 3, t_writtenN, .inl t_written)), (p1A, .inr (2, [p1_namesV, p1_kindsV, p1_kinV, .ref p1_stopsA, .ref p1_roundsA, .int p1_folks, .int p1_pairs, .int p1_line, .int p1_rope, .int p1_lineTold, .int p1_ropeTold, p1_lawV, p1_takenV])), (p1_stopsA, .inl (cy 1, p1_stopsN, .inl p1_stops)), (p1_roundsA, .inl (cy 1, p1_roundsN, .inl p1_rounds)), (p2A, .inr (7, [.ref p2_tiesA, .int p2_size])), (p2_tiesA, .inl (cy 1, p2_tiesN, .inl p2_ties))]
noncomputable def bX5_writeForm_L66 (F : Nat) (t_size : Int32) (t_folkN : Nat) (t_folk : Nat → Int32) (t_countsN : Nat) (t_counts : Nat → Int32) (t_writtenN : Nat) (p1_stopsN : Nat) (p1_stops : Nat → Int32) (p1_roundsN : Nat) (p1_rounds : Nat → Int32) (p2_tiesN : Nat) (k29 : Int32 → (Nat → Int32) → Int32 → (Nat → Int32) → Option ((Nat → Int32) × (Int32) × (Nat → Int32))) (x3 : Int32) (t_written : Nat → Int32) (p2_size : Int32) (p2_ties : Nat → Int32) : Option ((Nat → Int32) × (Int32) × (Nat → Int32)) :=
  k29 (x3 + (1 : Int32)) t_written p2_size p2_ties
theorem vX5_writeForm_L66 {l : Launch} {D : va_G} {cy : Nat → ClassId} {av : List Value} {ws0 : va_W} {Q : Option Value → va_W → Prop} (F : Nat) (tA : Nat) (t_size : Int32) (t_folkA : Nat) (t_folkN : Nat) (t_folk : Nat → Int32) (t_countsA : Nat) (t_countsN : Nat) (t_counts : Nat → Int32) (t_writtenA : Nat) (t_writtenN : Nat) (p1A : Nat) (p1_namesV : Value) (p1_kindsV : Value) (p1_kinV : Value) (p1_folks : Int32) (p1_pairs : Int32) (p1_line : Int32) (p1_rope : Int32) (p1_lineTold : Int32) (p1_ropeTold : Int32) (p1_lawV : Value) (p1_takenV : Value) (p1_stopsA : Nat) (p1_stopsN : Nat) (p1_stops : Nat → Int32) (p1_roundsA : Nat) (p1_roundsN : Nat) (p1_rounds : Nat → Int32) (p2A : Nat) (p2_tiesA : Nat) (p2_tiesN : Nat) (k29 : Int32 → (Nat → Int32) → Int32 → (Nat → Int32) → Option ((Nat → Int32) × (Int32) × (Nat → Int32))) (hk29 : ∀ (x3 : Int32) (t_written : Nat → Int32) (p2_size : Int32) (p2_ties : Nat → Int32) (R : (Nat → Int32) × (Int32) × (Nat → Int32)), k29 x3 t_written p2_size p2_ties = some R → Q none (wX5_writeForm cy tA t_size t_folkA t_folkN t_folk t_countsA t_countsN t_counts t_writtenA t_writtenN R.1 p1A p1_namesV p1_kindsV p1_kinV p1_folks p1_pairs p1_line p1_rope p1_lineTold p1_ropeTold p1_lawV p1_takenV p1_stopsA p1_stopsN p1_stops p1_roundsA p1_roundsN p1_rounds p2A R.2.1 p2_tiesA p2_tiesN R.2.2) → V l D cy MX5_writeForm 2 0 0 av ws0 Q 29 [(0, .ref tA), (1, .ref p1A), (2, .ref p2A), (3, .int x3)] [] (wX5_writeForm cy tA t_size t_folkA t_folkN t_folk t_countsA t_countsN t_counts t_writtenA t_writtenN t_written p1A p1_namesV p1_kindsV p1_kinV p1_folks p1_pairs p1_line p1_rope p1_lineTold p1_ropeTold p1_lawV p1_takenV p1_stopsA p1_stopsN p1_stops p1_roundsA p1_roundsN p1_rounds p2A p2_size p2_tiesA p2_tiesN p2_ties) 0 0) (x3 : Int32) (t_written : Nat → Int32) (p2_size : Int32) (p2_ties : Nat → Int32) (R : (Nat → Int32) × (Int32) × (Nat → Int32)) (h : bX5_writeForm_L66 F t_size t_folkN t_folk t_countsN t_counts t_writtenN p1_stopsN p1_stops p1_roundsN p1_rounds p2_tiesN k29 x3 t_written p2_size p2_ties = some R) (hQ : Q none (wX5_writeForm cy tA t_size t_folkA t_folkN t_folk t_countsA t_countsN t_counts t_writtenA t_writtenN R.1 p1A p1_namesV p1_kindsV p1_kinV p1_folks p1_pairs p1_line p1_rope p1_lineTold p1_ropeTold p1_lawV p1_takenV p1_stopsA p1_stopsN p1_stops p1_roundsA p1_roundsN p1_rounds p2A R.2.1 p2_tiesA p2_tiesN R.2.2)) : V l D cy MX5_writeForm 2 0 0 av ws0 Q 66 [(0, .ref tA), (1, .ref p1A), (2, .ref p2A), (3, .int x3)] [] (wX5_writeForm cy tA t_size t_folkA t_folkN t_folk t_countsA t_countsN t_counts t_writtenA t_writtenN t_written p1A p1_namesV p1_kindsV p1_kinV p1_folks p1_pairs p1_line p1_rope p1_lineTold p1_ropeTold p1_lawV p1_takenV p1_stopsA p1_stopsN p1_stops p1_roundsA p1_roundsN p1_rounds p2A p2_size p2_tiesA p2_tiesN p2_ties) 0 0 := by
  unfold bX5_writeForm_L66 at h
  refine V.iinc (v := x3 + (1 : Int32)) (lv' := [(3, .int (x3 + (1 : Int32))), (0, .ref tA), (1, .ref p1A), (2, .ref p2A)]) dX5_writeForm_66 3 rfl rfl (by decide) rfl ?_
  refine V.goto (tgt := 29) dX5_writeForm_69 (by decide) ?_
  refine V.lvs [1, 2, 3, 0] rfl ?_
  exact hk29 _ _ _ _ R h hQ
noncomputable def bX5_writeForm_L29 (F : Nat) (t_size : Int32) (t_folkN : Nat) (t_folk : Nat → Int32) (t_countsN : Nat) (t_counts : Nat → Int32) (t_writtenN : Nat) (p1_stopsN : Nat) (p1_stops : Nat → Int32) (p1_roundsN : Nat) (p1_rounds : Nat → Int32) (p2_tiesN : Nat) (k29 : Int32 → (Nat → Int32) → Int32 → (Nat → Int32) → Option ((Nat → Int32) × (Int32) × (Nat → Int32))) (x3 : Int32) (t_written : Nat → Int32) (p2_size : Int32) (p2_ties : Nat → Int32) : Option ((Nat → Int32) × (Int32) × (Nat → Int32)) :=
  if t_size ≤ x3 then (some (t_written, p2_size, p2_ties)) else ((fX5_leastInFront F t_size t_folkN t_folk t_writtenN t_written p1_stopsN p1_stops).bind fun R39 => (if R39 = (-1 : Int32) then (bX5_writeForm_L66 F t_size t_folkN t_folk t_countsN t_counts t_writtenN p1_stopsN p1_stops p1_roundsN p1_rounds p2_tiesN k29 x3 t_written p2_size p2_ties) else (if R39 < 0 ∨ t_writtenN ≤ R39.toNatClampNeg then none else ((fX5_writeBundle F t_size t_folkN t_folk t_countsN t_counts p1_roundsN p1_rounds p2_tiesN R39 p2_size p2_ties).bind fun R63 => (bX5_writeForm_L66 F t_size t_folkN t_folk t_countsN t_counts t_writtenN p1_stopsN p1_stops p1_roundsN p1_rounds p2_tiesN k29 x3 (upd t_written R39.toNatClampNeg (vp_nar .boolean (1 : Int32))) R63.1 R63.2)))))
theorem vbX5_writeForm_L29 {l : Launch} {D : va_G} {cy : Nat → ClassId} {av : List Value} {ws0 : va_W} {Q : Option Value → va_W → Prop} (F : Nat) (tA : Nat) (t_size : Int32) (t_folkA : Nat) (t_folkN : Nat) (t_folk : Nat → Int32) (t_countsA : Nat) (t_countsN : Nat) (t_counts : Nat → Int32) (t_writtenA : Nat) (t_writtenN : Nat) (p1A : Nat) (p1_namesV : Value) (p1_kindsV : Value) (p1_kinV : Value) (p1_folks : Int32) (p1_pairs : Int32) (p1_line : Int32) (p1_rope : Int32) (p1_lineTold : Int32) (p1_ropeTold : Int32) (p1_lawV : Value) (p1_takenV : Value) (p1_stopsA : Nat) (p1_stopsN : Nat) (p1_stops : Nat → Int32) (p1_roundsA : Nat) (p1_roundsN : Nat) (p1_rounds : Nat → Int32) (p2A : Nat) (p2_tiesA : Nat) (p2_tiesN : Nat) (k29 : Int32 → (Nat → Int32) → Int32 → (Nat → Int32) → Option ((Nat → Int32) × (Int32) × (Nat → Int32))) (hk29 : ∀ (x3 : Int32) (t_written : Nat → Int32) (p2_size : Int32) (p2_ties : Nat → Int32) (R : (Nat → Int32) × (Int32) × (Nat → Int32)), k29 x3 t_written p2_size p2_ties = some R → Q none (wX5_writeForm cy tA t_size t_folkA t_folkN t_folk t_countsA t_countsN t_counts t_writtenA t_writtenN R.1 p1A p1_namesV p1_kindsV p1_kinV p1_folks p1_pairs p1_line p1_rope p1_lineTold p1_ropeTold p1_lawV p1_takenV p1_stopsA p1_stopsN p1_stops p1_roundsA p1_roundsN p1_rounds p2A R.2.1 p2_tiesA p2_tiesN R.2.2) → V l D cy MX5_writeForm 2 0 0 av ws0 Q 29 [(0, .ref tA), (1, .ref p1A), (2, .ref p2A), (3, .int x3)] [] (wX5_writeForm cy tA t_size t_folkA t_folkN t_folk t_countsA t_countsN t_counts t_writtenA t_writtenN t_written p1A p1_namesV p1_kindsV p1_kinV p1_folks p1_pairs p1_line p1_rope p1_lineTold p1_ropeTold p1_lawV p1_takenV p1_stopsA p1_stopsN p1_stops p1_roundsA p1_roundsN p1_rounds p2A p2_size p2_tiesA p2_tiesN p2_ties) 0 0) (x3 : Int32) (t_written : Nat → Int32) (p2_size : Int32) (p2_ties : Nat → Int32) (R : (Nat → Int32) × (Int32) × (Nat → Int32)) (h : bX5_writeForm_L29 F t_size t_folkN t_folk t_countsN t_counts t_writtenN p1_stopsN p1_stops p1_roundsN p1_rounds p2_tiesN k29 x3 t_written p2_size p2_ties = some R) (hQ : Q none (wX5_writeForm cy tA t_size t_folkA t_folkN t_folk t_countsA t_countsN t_counts t_writtenA t_writtenN R.1 p1A p1_namesV p1_kindsV p1_kinV p1_folks p1_pairs p1_line p1_rope p1_lineTold p1_ropeTold p1_lawV p1_takenV p1_stopsA p1_stopsN p1_stops p1_roundsA p1_roundsN p1_rounds p2A R.2.1 p2_tiesA p2_tiesN R.2.2)) : V l D cy MX5_writeForm 2 0 0 av ws0 Q 29 [(0, .ref tA), (1, .ref p1A), (2, .ref p2A), (3, .int x3)] [] (wX5_writeForm cy tA t_size t_folkA t_folkN t_folk t_countsA t_countsN t_counts t_writtenA t_writtenN t_written p1A p1_namesV p1_kindsV p1_kinV p1_folks p1_pairs p1_line p1_rope p1_lineTold p1_ropeTold p1_lawV p1_takenV p1_stopsA p1_stopsN p1_stops p1_roundsA p1_roundsN p1_rounds p2A p2_size p2_tiesA p2_tiesN p2_ties) 0 0 := by
  unfold bX5_writeForm_L29 at h
  refine V.iload_n dX5_writeForm_29 rfl 3 rfl ?_
  refine V.aload_n dX5_writeForm_30 rfl 0 rfl ?_
  refine V.get kfX5 0 rfl rfl 3 (by decide) klX5_22 rfl dX5_writeForm_31 ?_
  refine V.icmp_ge (tgt := 72) dX5_writeForm_34 (by decide) (fun hc34 => ?_) (fun hc34 => ?_)
  · replace h := (if_pos hc34).symm.trans h
    have e9 := Option.some.inj h; subst e9
    exact V.vret rfl dX5_writeForm_72 (Nat.le_refl _) (Nat.le_refl _) hQ
  · replace h := (if_neg hc34).symm.trans h
    refine V.aload_n dX5_writeForm_37 rfl 0 rfl ?_
    refine V.aload_n dX5_writeForm_38 rfl 1 rfl ?_
    obtain ⟨R39, hg39, h⟩ := Option.bind_eq_some_iff.mp h
    refine V.callV (As := [.ref p1A]) (rest := []) (wc := (wX5_leastInFront cy tA (.ref t_countsA) t_size t_folkA t_folkN t_folk t_writtenA t_writtenN t_written p1A p1_namesV p1_kindsV p1_kinV (.ref p1_roundsA) p1_folks p1_pairs p1_line p1_rope p1_lineTold p1_ropeTold p1_lawV p1_takenV p1_stopsA p1_stopsN p1_stops)) (wr := [(t_countsA, .inl (cy 1, t_countsN, .inl t_counts)), (p1_roundsA, .inl (cy 1, p1_roundsN, .inl p1_rounds)), (p2A, .inr (7, [.ref p2_tiesA, .int p2_size])), (p2_tiesA, .inl (cy 1, p2_tiesN, .inl p2_ties))]) (q0 := 0) (CX5_leastInFront F tA (.ref t_countsA) t_size t_folkA t_folkN t_folk t_writtenA t_writtenN t_written p1A p1_namesV p1_kindsV p1_kinV (.ref p1_roundsA) p1_folks p1_pairs p1_line p1_rope p1_lineTold p1_ropeTold p1_lawV p1_takenV p1_stopsA p1_stopsN p1_stops R39 hg39) kvX5_leastInFront klX5_89 [0, 1, 3, 4, 5] [2, 6, 7, 8] rfl rfl (by decide) (by decide) (by decide) rfl rfl rfl rfl dX5_writeForm_39 ⟨by decide, by decide, by decide, by decide⟩ (Nat.le_of_ble_eq_true rfl) (fun r w1 hq => ?_)
    obtain ⟨rfl, rfl⟩ := hq
    refine V.cells (ws' := (wX5_writeForm cy tA t_size t_folkA t_folkN t_folk t_countsA t_countsN t_counts t_writtenA t_writtenN t_written p1A p1_namesV p1_kindsV p1_kinV p1_folks p1_pairs p1_line p1_rope p1_lineTold p1_ropeTold p1_lawV p1_takenV p1_stopsA p1_stopsN p1_stops p1_roundsA p1_roundsN p1_rounds p2A p2_size p2_tiesA p2_tiesN p2_ties)) [4, 5, 0, 6, 7, 8, 1, 2, 3] (by decide) rfl ?_
    show V l D cy MX5_writeForm 2 0 0 _ _ _ 42 [(0, .ref tA), (1, .ref p1A), (2, .ref p2A), (3, .int x3)] [.int R39] (wX5_writeForm cy tA t_size t_folkA t_folkN t_folk t_countsA t_countsN t_counts t_writtenA t_writtenN t_written p1A p1_namesV p1_kindsV p1_kinV p1_folks p1_pairs p1_line p1_rope p1_lineTold p1_ropeTold p1_lawV p1_takenV p1_stopsA p1_stopsN p1_stops p1_roundsA p1_roundsN p1_rounds p2A p2_size p2_tiesA p2_tiesN p2_ties) 0 0
    refine V.istore (lv' := [(4, .int R39), (0, .ref tA), (1, .ref p1A), (2, .ref p2A), (3, .int x3)]) dX5_writeForm_42 (by decide) rfl ?_
    refine V.iload dX5_writeForm_44 0 rfl ?_
    refine V.iconst (v := (-1 : Int32)) dX5_writeForm_46 (by decide) ?_
    refine V.icmp_eq (tgt := 66) dX5_writeForm_47 (by decide) (fun hc47 => ?_) (fun hc47 => ?_)
    · replace h := (if_pos hc47).symm.trans h
      refine V.lvs [1, 2, 3, 4] rfl ?_
      exact vX5_writeForm_L66 _ _ _ _ _ _ _ _ _ _ _ _ _ _ _ _ _ _ _ _ _ _ _ _ _ _ _ _ _ _ _ _ _ hk29  _ _ _ _ R h hQ
    · replace h := (if_neg hc47).symm.trans h
      refine V.aload_n dX5_writeForm_50 rfl 1 rfl ?_
      refine V.get kfX5 0 rfl rfl 2 (by decide) klX5_18 rfl dX5_writeForm_51 ?_
      refine V.iload dX5_writeForm_54 0 rfl ?_
      refine V.iconst (v := (1 : Int32)) dX5_writeForm_56 (by decide) ?_
      by_cases hb57 : R39 < 0 ∨ t_writtenN ≤ R39.toNatClampNeg
      · exact vNone ((if_pos hb57).symm.trans h)
      replace h := (if_neg hb57).symm.trans h
      refine V.zast (ws' := (wX5_writeForm cy tA t_size t_folkA t_folkN t_folk t_countsA t_countsN t_counts t_writtenA t_writtenN (upd t_written R39.toNatClampNeg (vp_nar .boolean (1 : Int32))) p1A p1_namesV p1_kindsV p1_kinV p1_folks p1_pairs p1_line p1_rope p1_lineTold p1_ropeTold p1_lawV p1_takenV p1_stopsA p1_stopsN p1_stops p1_roundsA p1_roundsN p1_rounds p2A p2_size p2_tiesA p2_tiesN p2_ties)) dX5_writeForm_57 3 rfl hb57 rfl ?_
      refine V.aload_n dX5_writeForm_58 rfl 1 rfl ?_
      refine V.aload_n dX5_writeForm_59 rfl 2 rfl ?_
      refine V.iload dX5_writeForm_60 0 rfl ?_
      refine V.aload_n dX5_writeForm_62 rfl 3 rfl ?_
      obtain ⟨R63, hg63, h⟩ := Option.bind_eq_some_iff.mp h
      refine V.callV (As := [.ref p1A, .int R39, .ref p2A]) (rest := []) (wc := (wX5_writeBundle cy tA (.ref t_writtenA) t_size t_folkA t_folkN t_folk t_countsA t_countsN t_counts p1A p1_namesV p1_kindsV p1_kinV (.ref p1_stopsA) p1_folks p1_pairs p1_line p1_rope p1_lineTold p1_ropeTold p1_lawV p1_takenV p1_roundsA p1_roundsN p1_rounds p2A p2_size p2_tiesA p2_tiesN p2_ties)) (wr := [(t_writtenA, .inl (cy 3, t_writtenN, .inl (upd t_written R39.toNatClampNeg (vp_nar .boolean (1 : Int32))))), (p1_stopsA, .inl (cy 1, p1_stopsN, .inl p1_stops))]) (q0 := 0) (CX5_writeBundle F tA (.ref t_writtenA) t_size t_folkA t_folkN t_folk t_countsA t_countsN t_counts p1A p1_namesV p1_kindsV p1_kinV (.ref p1_stopsA) p1_folks p1_pairs p1_line p1_rope p1_lineTold p1_ropeTold p1_lawV p1_takenV p1_roundsA p1_roundsN p1_rounds p2A p2_size p2_tiesA p2_tiesN p2_ties R39 R63 hg63) kvX5_writeBundle klX5_93 [0, 1, 2, 4, 6, 7, 8] [3, 5] rfl rfl (by decide) (by decide) (by decide) rfl rfl rfl rfl dX5_writeForm_63 ⟨by decide, by decide, by decide, by decide⟩ (Nat.le_of_ble_eq_true rfl) (fun r w1 hq => ?_)
      obtain ⟨rfl, rfl⟩ := hq
      refine V.cells (ws' := (wX5_writeForm cy tA t_size t_folkA t_folkN t_folk t_countsA t_countsN t_counts t_writtenA t_writtenN (upd t_written R39.toNatClampNeg (vp_nar .boolean (1 : Int32))) p1A p1_namesV p1_kindsV p1_kinV p1_folks p1_pairs p1_line p1_rope p1_lineTold p1_ropeTold p1_lawV p1_takenV p1_stopsA p1_stopsN p1_stops p1_roundsA p1_roundsN p1_rounds p2A R63.1 p2_tiesA p2_tiesN R63.2)) [2, 3, 4, 0, 5, 1, 6, 7, 8] (by decide) rfl ?_
      show V l D cy MX5_writeForm 2 0 0 _ _ _ 66 [(4, .int R39), (0, .ref tA), (1, .ref p1A), (2, .ref p2A), (3, .int x3)] [] (wX5_writeForm cy tA t_size t_folkA t_folkN t_folk t_countsA t_countsN t_counts t_writtenA t_writtenN (upd t_written R39.toNatClampNeg (vp_nar .boolean (1 : Int32))) p1A p1_namesV p1_kindsV p1_kinV p1_folks p1_pairs p1_line p1_rope p1_lineTold p1_ropeTold p1_lawV p1_takenV p1_stopsA p1_stopsN p1_stops p1_roundsA p1_roundsN p1_rounds p2A R63.1 p2_tiesA p2_tiesN R63.2) 0 0
      refine V.lvs [1, 2, 3, 4] rfl ?_
      exact vX5_writeForm_L66 _ _ _ _ _ _ _ _ _ _ _ _ _ _ _ _ _ _ _ _ _ _ _ _ _ _ _ _ _ _ _ _ _ hk29  _ _ _ _ R h hQ
noncomputable def fX5_writeForm_L29 (F : Nat) (t_size : Int32) (t_folkN : Nat) (t_folk : Nat → Int32) (t_countsN : Nat) (t_counts : Nat → Int32) (t_writtenN : Nat) (p1_stopsN : Nat) (p1_stops : Nat → Int32) (p1_roundsN : Nat) (p1_rounds : Nat → Int32) (p2_tiesN : Nat)  : Nat → Int32 → (Nat → Int32) → Int32 → (Nat → Int32) → Option ((Nat → Int32) × (Int32) × (Nat → Int32))
  | 0 => fun _ _ _ _ => none
  | n + 1 => bX5_writeForm_L29 F t_size t_folkN t_folk t_countsN t_counts t_writtenN p1_stopsN p1_stops p1_roundsN p1_rounds p2_tiesN (fX5_writeForm_L29 F t_size t_folkN t_folk t_countsN t_counts t_writtenN p1_stopsN p1_stops p1_roundsN p1_rounds p2_tiesN  n)
theorem vX5_writeForm_L29 {l : Launch} {D : va_G} {cy : Nat → ClassId} {av : List Value} {ws0 : va_W} {Q : Option Value → va_W → Prop} (F : Nat) (tA : Nat) (t_size : Int32) (t_folkA : Nat) (t_folkN : Nat) (t_folk : Nat → Int32) (t_countsA : Nat) (t_countsN : Nat) (t_counts : Nat → Int32) (t_writtenA : Nat) (t_writtenN : Nat) (p1A : Nat) (p1_namesV : Value) (p1_kindsV : Value) (p1_kinV : Value) (p1_folks : Int32) (p1_pairs : Int32) (p1_line : Int32) (p1_rope : Int32) (p1_lineTold : Int32) (p1_ropeTold : Int32) (p1_lawV : Value) (p1_takenV : Value) (p1_stopsA : Nat) (p1_stopsN : Nat) (p1_stops : Nat → Int32) (p1_roundsA : Nat) (p1_roundsN : Nat) (p1_rounds : Nat → Int32) (p2A : Nat) (p2_tiesA : Nat) (p2_tiesN : Nat)  : ∀ (n : Nat) (x3 : Int32) (t_written : Nat → Int32) (p2_size : Int32) (p2_ties : Nat → Int32) (R : (Nat → Int32) × (Int32) × (Nat → Int32)), fX5_writeForm_L29 F t_size t_folkN t_folk t_countsN t_counts t_writtenN p1_stopsN p1_stops p1_roundsN p1_rounds p2_tiesN  n x3 t_written p2_size p2_ties = some R → Q none (wX5_writeForm cy tA t_size t_folkA t_folkN t_folk t_countsA t_countsN t_counts t_writtenA t_writtenN R.1 p1A p1_namesV p1_kindsV p1_kinV p1_folks p1_pairs p1_line p1_rope p1_lineTold p1_ropeTold p1_lawV p1_takenV p1_stopsA p1_stopsN p1_stops p1_roundsA p1_roundsN p1_rounds p2A R.2.1 p2_tiesA p2_tiesN R.2.2) → V l D cy MX5_writeForm 2 0 0 av ws0 Q 29 [(0, .ref tA), (1, .ref p1A), (2, .ref p2A), (3, .int x3)] [] (wX5_writeForm cy tA t_size t_folkA t_folkN t_folk t_countsA t_countsN t_counts t_writtenA t_writtenN t_written p1A p1_namesV p1_kindsV p1_kinV p1_folks p1_pairs p1_line p1_rope p1_lineTold p1_ropeTold p1_lawV p1_takenV p1_stopsA p1_stopsN p1_stops p1_roundsA p1_roundsN p1_rounds p2A p2_size p2_tiesA p2_tiesN p2_ties) 0 0 := by
  intro n
  induction n with
  | zero => intro x3 t_written p2_size p2_ties R h; exact vNone h
  | succ n ih => intro x3 t_written p2_size p2_ties R h hQ; exact vbX5_writeForm_L29 F tA t_size t_folkA t_folkN t_folk t_countsA t_countsN t_counts t_writtenA t_writtenN p1A p1_namesV p1_kindsV p1_kinV p1_folks p1_pairs p1_line p1_rope p1_lineTold p1_ropeTold p1_lawV p1_takenV p1_stopsA p1_stopsN p1_stops p1_roundsA p1_roundsN p1_rounds p2A p2_tiesA p2_tiesN _ ih x3 t_written p2_size p2_ties R h hQ
noncomputable def bX5_writeForm_L6 (F : Nat) (t_size : Int32) (t_folkN : Nat) (t_folk : Nat → Int32) (t_countsN : Nat) (t_counts : Nat → Int32) (t_writtenN : Nat) (p1_stopsN : Nat) (p1_stops : Nat → Int32) (p1_roundsN : Nat) (p1_rounds : Nat → Int32) (p2_tiesN : Nat) (k6 : Int32 → (Nat → Int32) → Int32 → (Nat → Int32) → Option ((Nat → Int32) × (Int32) × (Nat → Int32))) (x3 : Int32) (t_written : Nat → Int32) (p2_size : Int32) (p2_ties : Nat → Int32) : Option ((Nat → Int32) × (Int32) × (Nat → Int32)) :=
  if t_size ≤ x3 then (fX5_writeForm_L29 F t_size t_folkN t_folk t_countsN t_counts t_writtenN p1_stopsN p1_stops p1_roundsN p1_rounds p2_tiesN F (0 : Int32) t_written p2_size p2_ties) else (if x3 < 0 ∨ t_writtenN ≤ x3.toNatClampNeg then none else (k6 (x3 + (1 : Int32)) (upd t_written x3.toNatClampNeg (vp_nar .boolean (0 : Int32))) p2_size p2_ties))
theorem vbX5_writeForm_L6 {l : Launch} {D : va_G} {cy : Nat → ClassId} {av : List Value} {ws0 : va_W} {Q : Option Value → va_W → Prop} (F : Nat) (tA : Nat) (t_size : Int32) (t_folkA : Nat) (t_folkN : Nat) (t_folk : Nat → Int32) (t_countsA : Nat) (t_countsN : Nat) (t_counts : Nat → Int32) (t_writtenA : Nat) (t_writtenN : Nat) (p1A : Nat) (p1_namesV : Value) (p1_kindsV : Value) (p1_kinV : Value) (p1_folks : Int32) (p1_pairs : Int32) (p1_line : Int32) (p1_rope : Int32) (p1_lineTold : Int32) (p1_ropeTold : Int32) (p1_lawV : Value) (p1_takenV : Value) (p1_stopsA : Nat) (p1_stopsN : Nat) (p1_stops : Nat → Int32) (p1_roundsA : Nat) (p1_roundsN : Nat) (p1_rounds : Nat → Int32) (p2A : Nat) (p2_tiesA : Nat) (p2_tiesN : Nat) (k6 : Int32 → (Nat → Int32) → Int32 → (Nat → Int32) → Option ((Nat → Int32) × (Int32) × (Nat → Int32))) (hk6 : ∀ (x3 : Int32) (t_written : Nat → Int32) (p2_size : Int32) (p2_ties : Nat → Int32) (R : (Nat → Int32) × (Int32) × (Nat → Int32)), k6 x3 t_written p2_size p2_ties = some R → Q none (wX5_writeForm cy tA t_size t_folkA t_folkN t_folk t_countsA t_countsN t_counts t_writtenA t_writtenN R.1 p1A p1_namesV p1_kindsV p1_kinV p1_folks p1_pairs p1_line p1_rope p1_lineTold p1_ropeTold p1_lawV p1_takenV p1_stopsA p1_stopsN p1_stops p1_roundsA p1_roundsN p1_rounds p2A R.2.1 p2_tiesA p2_tiesN R.2.2) → V l D cy MX5_writeForm 2 0 0 av ws0 Q 6 [(0, .ref tA), (1, .ref p1A), (2, .ref p2A), (3, .int x3)] [] (wX5_writeForm cy tA t_size t_folkA t_folkN t_folk t_countsA t_countsN t_counts t_writtenA t_writtenN t_written p1A p1_namesV p1_kindsV p1_kinV p1_folks p1_pairs p1_line p1_rope p1_lineTold p1_ropeTold p1_lawV p1_takenV p1_stopsA p1_stopsN p1_stops p1_roundsA p1_roundsN p1_rounds p2A p2_size p2_tiesA p2_tiesN p2_ties) 0 0) (x3 : Int32) (t_written : Nat → Int32) (p2_size : Int32) (p2_ties : Nat → Int32) (R : (Nat → Int32) × (Int32) × (Nat → Int32)) (h : bX5_writeForm_L6 F t_size t_folkN t_folk t_countsN t_counts t_writtenN p1_stopsN p1_stops p1_roundsN p1_rounds p2_tiesN k6 x3 t_written p2_size p2_ties = some R) (hQ : Q none (wX5_writeForm cy tA t_size t_folkA t_folkN t_folk t_countsA t_countsN t_counts t_writtenA t_writtenN R.1 p1A p1_namesV p1_kindsV p1_kinV p1_folks p1_pairs p1_line p1_rope p1_lineTold p1_ropeTold p1_lawV p1_takenV p1_stopsA p1_stopsN p1_stops p1_roundsA p1_roundsN p1_rounds p2A R.2.1 p2_tiesA p2_tiesN R.2.2)) : V l D cy MX5_writeForm 2 0 0 av ws0 Q 6 [(0, .ref tA), (1, .ref p1A), (2, .ref p2A), (3, .int x3)] [] (wX5_writeForm cy tA t_size t_folkA t_folkN t_folk t_countsA t_countsN t_counts t_writtenA t_writtenN t_written p1A p1_namesV p1_kindsV p1_kinV p1_folks p1_pairs p1_line p1_rope p1_lineTold p1_ropeTold p1_lawV p1_takenV p1_stopsA p1_stopsN p1_stops p1_roundsA p1_roundsN p1_rounds p2A p2_size p2_tiesA p2_tiesN p2_ties) 0 0 := by
  unfold bX5_writeForm_L6 at h
  refine V.iload_n dX5_writeForm_6 rfl 3 rfl ?_
  refine V.aload_n dX5_writeForm_7 rfl 0 rfl ?_
  refine V.get kfX5 0 rfl rfl 3 (by decide) klX5_22 rfl dX5_writeForm_8 ?_
  refine V.icmp_ge (tgt := 27) dX5_writeForm_11 (by decide) (fun hc11 => ?_) (fun hc11 => ?_)
  · replace h := (if_pos hc11).symm.trans h
    refine V.iconst (v := (0 : Int32)) dX5_writeForm_27 (by decide) ?_
    refine V.istore_n (lv' := [(3, .int (0 : Int32)), (0, .ref tA), (1, .ref p1A), (2, .ref p2A)]) dX5_writeForm_28 rfl (by decide) rfl ?_
    refine V.lvs [1, 2, 3, 0] rfl ?_
    exact vX5_writeForm_L29 _ _ _ _ _ _ _ _ _ _ _ _ _ _ _ _ _ _ _ _ _ _ _ _ _ _ _ _ _ _ _ _  _ _ _ _ _ R h hQ
  · replace h := (if_neg hc11).symm.trans h
    refine V.aload_n dX5_writeForm_14 rfl 0 rfl ?_
    refine V.get kfX5 0 rfl rfl 2 (by decide) klX5_18 rfl dX5_writeForm_15 ?_
    refine V.iload_n dX5_writeForm_18 rfl 3 rfl ?_
    refine V.iconst (v := (0 : Int32)) dX5_writeForm_19 (by decide) ?_
    by_cases hb20 : x3 < 0 ∨ t_writtenN ≤ x3.toNatClampNeg
    · exact vNone ((if_pos hb20).symm.trans h)
    replace h := (if_neg hb20).symm.trans h
    refine V.zast (ws' := (wX5_writeForm cy tA t_size t_folkA t_folkN t_folk t_countsA t_countsN t_counts t_writtenA t_writtenN (upd t_written x3.toNatClampNeg (vp_nar .boolean (0 : Int32))) p1A p1_namesV p1_kindsV p1_kinV p1_folks p1_pairs p1_line p1_rope p1_lineTold p1_ropeTold p1_lawV p1_takenV p1_stopsA p1_stopsN p1_stops p1_roundsA p1_roundsN p1_rounds p2A p2_size p2_tiesA p2_tiesN p2_ties)) dX5_writeForm_20 3 rfl hb20 rfl ?_
    refine V.iinc (v := x3 + (1 : Int32)) (lv' := [(3, .int (x3 + (1 : Int32))), (0, .ref tA), (1, .ref p1A), (2, .ref p2A)]) dX5_writeForm_21 3 rfl rfl (by decide) rfl ?_
    refine V.goto (tgt := 6) dX5_writeForm_24 (by decide) ?_
    refine V.lvs [1, 2, 3, 0] rfl ?_
    exact hk6 _ _ _ _ R h hQ
noncomputable def fX5_writeForm_L6 (F : Nat) (t_size : Int32) (t_folkN : Nat) (t_folk : Nat → Int32) (t_countsN : Nat) (t_counts : Nat → Int32) (t_writtenN : Nat) (p1_stopsN : Nat) (p1_stops : Nat → Int32) (p1_roundsN : Nat) (p1_rounds : Nat → Int32) (p2_tiesN : Nat)  : Nat → Int32 → (Nat → Int32) → Int32 → (Nat → Int32) → Option ((Nat → Int32) × (Int32) × (Nat → Int32))
  | 0 => fun _ _ _ _ => none
  | n + 1 => bX5_writeForm_L6 F t_size t_folkN t_folk t_countsN t_counts t_writtenN p1_stopsN p1_stops p1_roundsN p1_rounds p2_tiesN (fX5_writeForm_L6 F t_size t_folkN t_folk t_countsN t_counts t_writtenN p1_stopsN p1_stops p1_roundsN p1_rounds p2_tiesN  n)
theorem vX5_writeForm_L6 {l : Launch} {D : va_G} {cy : Nat → ClassId} {av : List Value} {ws0 : va_W} {Q : Option Value → va_W → Prop} (F : Nat) (tA : Nat) (t_size : Int32) (t_folkA : Nat) (t_folkN : Nat) (t_folk : Nat → Int32) (t_countsA : Nat) (t_countsN : Nat) (t_counts : Nat → Int32) (t_writtenA : Nat) (t_writtenN : Nat) (p1A : Nat) (p1_namesV : Value) (p1_kindsV : Value) (p1_kinV : Value) (p1_folks : Int32) (p1_pairs : Int32) (p1_line : Int32) (p1_rope : Int32) (p1_lineTold : Int32) (p1_ropeTold : Int32) (p1_lawV : Value) (p1_takenV : Value) (p1_stopsA : Nat) (p1_stopsN : Nat) (p1_stops : Nat → Int32) (p1_roundsA : Nat) (p1_roundsN : Nat) (p1_rounds : Nat → Int32) (p2A : Nat) (p2_tiesA : Nat) (p2_tiesN : Nat)  : ∀ (n : Nat) (x3 : Int32) (t_written : Nat → Int32) (p2_size : Int32) (p2_ties : Nat → Int32) (R : (Nat → Int32) × (Int32) × (Nat → Int32)), fX5_writeForm_L6 F t_size t_folkN t_folk t_countsN t_counts t_writtenN p1_stopsN p1_stops p1_roundsN p1_rounds p2_tiesN  n x3 t_written p2_size p2_ties = some R → Q none (wX5_writeForm cy tA t_size t_folkA t_folkN t_folk t_countsA t_countsN t_counts t_writtenA t_writtenN R.1 p1A p1_namesV p1_kindsV p1_kinV p1_folks p1_pairs p1_line p1_rope p1_lineTold p1_ropeTold p1_lawV p1_takenV p1_stopsA p1_stopsN p1_stops p1_roundsA p1_roundsN p1_rounds p2A R.2.1 p2_tiesA p2_tiesN R.2.2) → V l D cy MX5_writeForm 2 0 0 av ws0 Q 6 [(0, .ref tA), (1, .ref p1A), (2, .ref p2A), (3, .int x3)] [] (wX5_writeForm cy tA t_size t_folkA t_folkN t_folk t_countsA t_countsN t_counts t_writtenA t_writtenN t_written p1A p1_namesV p1_kindsV p1_kinV p1_folks p1_pairs p1_line p1_rope p1_lineTold p1_ropeTold p1_lawV p1_takenV p1_stopsA p1_stopsN p1_stops p1_roundsA p1_roundsN p1_rounds p2A p2_size p2_tiesA p2_tiesN p2_ties) 0 0 := by
  intro n
  induction n with
  | zero => intro x3 t_written p2_size p2_ties R h; exact vNone h
  | succ n ih => intro x3 t_written p2_size p2_ties R h hQ; exact vbX5_writeForm_L6 F tA t_size t_folkA t_folkN t_folk t_countsA t_countsN t_counts t_writtenA t_writtenN p1A p1_namesV p1_kindsV p1_kinV p1_folks p1_pairs p1_line p1_rope p1_lineTold p1_ropeTold p1_lawV p1_takenV p1_stopsA p1_stopsN p1_stops p1_roundsA p1_roundsN p1_rounds p2A p2_tiesA p2_tiesN _ ih x3 t_written p2_size p2_ties R h hQ
noncomputable def fX5_writeForm (F : Nat) (t_size : Int32) (t_folkN : Nat) (t_folk : Nat → Int32) (t_countsN : Nat) (t_counts : Nat → Int32) (t_writtenN : Nat) (p1_stopsN : Nat) (p1_stops : Nat → Int32) (p1_roundsN : Nat) (p1_rounds : Nat → Int32) (p2_tiesN : Nat) (t_written : Nat → Int32) (p2_size : Int32) (p2_ties : Nat → Int32) : Option ((Nat → Int32) × (Int32) × (Nat → Int32)) :=
  (fX7_clear F p2_size).bind fun R1 => (fX5_writeForm_L6 F t_size t_folkN t_folk t_countsN t_counts t_writtenN p1_stopsN p1_stops p1_roundsN p1_rounds p2_tiesN F (0 : Int32) t_written R1 p2_ties)
theorem CX5_writeForm {l : Launch} {D : va_G} {cy : Nat → ClassId} (F : Nat) (tA : Nat) (t_size : Int32) (t_folkA : Nat) (t_folkN : Nat) (t_folk : Nat → Int32) (t_countsA : Nat) (t_countsN : Nat) (t_counts : Nat → Int32) (t_writtenA : Nat) (t_writtenN : Nat) (t_written : Nat → Int32) (p1A : Nat) (p1_namesV : Value) (p1_kindsV : Value) (p1_kinV : Value) (p1_folks : Int32) (p1_pairs : Int32) (p1_line : Int32) (p1_rope : Int32) (p1_lineTold : Int32) (p1_ropeTold : Int32) (p1_lawV : Value) (p1_takenV : Value) (p1_stopsA : Nat) (p1_stopsN : Nat) (p1_stops : Nat → Int32) (p1_roundsA : Nat) (p1_roundsN : Nat) (p1_rounds : Nat → Int32) (p2A : Nat) (p2_size : Int32) (p2_tiesA : Nat) (p2_tiesN : Nat) (p2_ties : Nat → Int32) (R : (Nat → Int32) × (Int32) × (Nat → Int32)) (h : fX5_writeForm F t_size t_folkN t_folk t_countsN t_counts t_writtenN p1_stopsN p1_stops p1_roundsN p1_rounds p2_tiesN t_written p2_size p2_ties = some R) : vMet l D cy MX5_writeForm 2 0 0 [.ref tA, .ref p1A, .ref p2A] (wX5_writeForm cy tA t_size t_folkA t_folkN t_folk t_countsA t_countsN t_counts t_writtenA t_writtenN t_written p1A p1_namesV p1_kindsV p1_kinV p1_folks p1_pairs p1_line p1_rope p1_lineTold p1_ropeTold p1_lawV p1_takenV p1_stopsA p1_stopsN p1_stops p1_roundsA p1_roundsN p1_rounds p2A p2_size p2_tiesA p2_tiesN p2_ties) (fun (r : Option Value) (w : va_W) => r = none ∧ w = (wX5_writeForm cy tA t_size t_folkA t_folkN t_folk t_countsA t_countsN t_counts t_writtenA t_writtenN R.1 p1A p1_namesV p1_kindsV p1_kinV p1_folks p1_pairs p1_line p1_rope p1_lineTold p1_ropeTold p1_lawV p1_takenV p1_stopsA p1_stopsN p1_stops p1_roundsA p1_roundsN p1_rounds p2A R.2.1 p2_tiesA p2_tiesN R.2.2)) := by
  refine vMet.start (by decide +kernel) (Nat.le_of_ble_eq_true rfl) ?_
  generalize hQe : (fun (r : Option Value) (w : va_W) => r = none ∧ w = (wX5_writeForm cy tA t_size t_folkA t_folkN t_folk t_countsA t_countsN t_counts t_writtenA t_writtenN R.1 p1A p1_namesV p1_kindsV p1_kinV p1_folks p1_pairs p1_line p1_rope p1_lineTold p1_ropeTold p1_lawV p1_takenV p1_stopsA p1_stopsN p1_stops p1_roundsA p1_roundsN p1_rounds p2A R.2.1 p2_tiesA p2_tiesN R.2.2)) = Q
  have hQ : Q none (wX5_writeForm cy tA t_size t_folkA t_folkN t_folk t_countsA t_countsN t_counts t_writtenA t_writtenN R.1 p1A p1_namesV p1_kindsV p1_kinV p1_folks p1_pairs p1_line p1_rope p1_lineTold p1_ropeTold p1_lawV p1_takenV p1_stopsA p1_stopsN p1_stops p1_roundsA p1_roundsN p1_rounds p2A R.2.1 p2_tiesA p2_tiesN R.2.2) := by rw [← hQe]; exact ⟨rfl, rfl⟩
  show V l D cy MX5_writeForm 2 0 0 _ _ Q 0 [(0, .ref tA), (1, .ref p1A), (2, .ref p2A)] [] _ 0 0
  show V l D cy MX5_writeForm 2 0 0 [.ref tA, .ref p1A, .ref p2A] _ Q 0 [(0, .ref tA), (1, .ref p1A), (2, .ref p2A)] [] (wX5_writeForm cy tA t_size t_folkA t_folkN t_folk t_countsA t_countsN t_counts t_writtenA t_writtenN t_written p1A p1_namesV p1_kindsV p1_kinV p1_folks p1_pairs p1_line p1_rope p1_lineTold p1_ropeTold p1_lawV p1_takenV p1_stopsA p1_stopsN p1_stops p1_roundsA p1_roundsN p1_rounds p2A p2_size p2_tiesA p2_tiesN p2_ties) 0 0
  unfold fX5_writeForm at h
  refine V.aload_n dX5_writeForm_0 rfl 2 rfl ?_
  obtain ⟨R1, hg1, h⟩ := Option.bind_eq_some_iff.mp h
  refine V.callV (As := []) (rest := []) (wc := (wX7_clear cy p2A (.ref p2_tiesA) p2_size)) (wr := [(tA, .inr (5, [.ref t_folkA, .ref t_countsA, .ref t_writtenA, .int t_size])), (t_folkA, .inl (cy 1, t_folkN, .inl t_folk)), (t_countsA, .inl (cy 1, t_countsN, .inl t_counts)), (t_writtenA, .inl (cy 3, t_writtenN, .inl t_written)), (p1A, .inr (2, [p1_namesV, p1_kindsV, p1_kinV, .ref p1_stopsA, .ref p1_roundsA, .int p1_folks, .int p1_pairs, .int p1_line, .int p1_rope, .int p1_lineTold, .int p1_ropeTold, p1_lawV, p1_takenV])), (p1_stopsA, .inl (cy 1, p1_stopsN, .inl p1_stops)), (p1_roundsA, .inl (cy 1, p1_roundsN, .inl p1_rounds)), (p2_tiesA, .inl (cy 1, p2_tiesN, .inl p2_ties))]) (q0 := 7) (CX7_clear F p2A (.ref p2_tiesA) p2_size R1 hg1) kvX7_clear klX5_88 [7] [0, 1, 2, 3, 4, 5, 6, 8] rfl rfl (by decide) (by decide) (by decide) rfl rfl rfl rfl dX5_writeForm_1 ⟨by decide, by decide, by decide, by decide⟩ (Nat.le_of_ble_eq_true rfl) (fun r w1 hq => ?_)
  obtain ⟨rfl, rfl⟩ := hq
  refine V.cells (ws' := (wX5_writeForm cy tA t_size t_folkA t_folkN t_folk t_countsA t_countsN t_counts t_writtenA t_writtenN t_written p1A p1_namesV p1_kindsV p1_kinV p1_folks p1_pairs p1_line p1_rope p1_lineTold p1_ropeTold p1_lawV p1_takenV p1_stopsA p1_stopsN p1_stops p1_roundsA p1_roundsN p1_rounds p2A R1 p2_tiesA p2_tiesN p2_ties)) [0, 1, 2, 3, 4, 5, 6, 8, 7] (by decide) rfl ?_
  show V l D cy MX5_writeForm 2 0 0 _ _ _ 4 [(0, .ref tA), (1, .ref p1A), (2, .ref p2A)] [] (wX5_writeForm cy tA t_size t_folkA t_folkN t_folk t_countsA t_countsN t_counts t_writtenA t_writtenN t_written p1A p1_namesV p1_kindsV p1_kinV p1_folks p1_pairs p1_line p1_rope p1_lineTold p1_ropeTold p1_lawV p1_takenV p1_stopsA p1_stopsN p1_stops p1_roundsA p1_roundsN p1_rounds p2A R1 p2_tiesA p2_tiesN p2_ties) 0 0
  refine V.iconst (v := (0 : Int32)) dX5_writeForm_4 (by decide) ?_
  refine V.istore_n (lv' := [(3, .int (0 : Int32)), (0, .ref tA), (1, .ref p1A), (2, .ref p2A)]) dX5_writeForm_5 rfl (by decide) rfl ?_
  refine V.lvs [1, 2, 3, 0] rfl ?_
  exact vX5_writeForm_L6 _ _ _ _ _ _ _ _ _ _ _ _ _ _ _ _ _ _ _ _ _ _ _ _ _ _ _ _ _ _ _ _  _ _ _ _ _ R h hQ
theorem dX5_lay_0 : decode cX5_lay 0 = .ok (.aload_n 0, 1) := by decide +kernel
theorem dX5_lay_1 : decode cX5_lay 1 = .ok (.invokevirtual 38, 3) := by decide +kernel
theorem dX5_lay_4 : decode cX5_lay 4 = .ok (.aload_n 0, 1) := by decide +kernel
theorem dX5_lay_5 : decode cX5_lay 5 = .ok (.aload_n 1, 1) := by decide +kernel
theorem dX5_lay_6 : decode cX5_lay 6 = .ok (.aload_n 2, 1) := by decide +kernel
theorem dX5_lay_7 : decode cX5_lay 7 = .ok (.invokevirtual 41, 3) := by decide +kernel
theorem dX5_lay_10 : decode cX5_lay 10 = .ok (.return_, 1) := by decide +kernel
def wX5_lay (cy : Nat → ClassId) (tA : Nat) (t_writtenV : Value) (t_size : Int32) (t_folkA : Nat) (t_folkN : Nat) (t_folk : Nat → Int32) (t_countsA : Nat) (t_countsN : Nat) (t_counts : Nat → Int32) (p1A : Nat) (p1_namesV : Value) (p1_kindsV : Value) (p1_kinV : Value) (p1_folks : Int32) (p1_pairs : Int32) (p1_line : Int32) (p1_rope : Int32) (p1_lineTold : Int32) (p1_ropeTold : Int32) (p1_lawV : Value) (p1_takenV : Value) (p1_stopsA : Nat) (p1_stopsN : Nat) (p1_stops : Nat → Int32) (p1_roundsA : Nat) (p1_roundsN : Nat) (p1_rounds : Nat → Int32) (p2A : Nat) (p2_size : Int32) (p2_tiesA : Nat) (p2_tiesN : Nat) (p2_ties : Nat → Int32) : va_W :=
  [(tA, .inr (5, [.ref t_folkA, .ref t_countsA, t_writtenV, .int t_size])), (t_folkA, .inl (cy 1, t_folkN, .inl t_folk)), (t_countsA, .inl (cy 1, t_countsN, .inl t_counts)), (p1A, .inr (2, [p1_namesV, p1_kindsV, p1_kinV, .ref p1_stopsA, .ref p1_roundsA, .int p1_folks, .int p1_pairs, .int p1_line, .int p1_rope, .int p1_lineTold, .int p1_ropeTold, p1_lawV, p1_takenV])), (p1_stopsA, .inl (cy 1, p1_stopsN, .inl p1_stops)), (p1_roundsA, .inl (cy 1, p1_roundsN, .inl p1_rounds)), (p2A, .inr (7, [.ref p2_tiesA, .int p2_size])), (p2_tiesA, .inl (cy 1, p2_tiesN, .inl p2_ties))]
noncomputable def fX5_lay (F : Nat) (t_folkN : Nat) (t_countsN : Nat) (p1_folks : Int32) (p1_stopsN : Nat) (p1_stops : Nat → Int32) (p1_roundsN : Nat) (p1_rounds : Nat → Int32) (p2_size : Int32) (p2_tiesN : Nat) (p2_ties : Nat → Int32) (t_size : Int32) (t_folk : Nat → Int32) (t_counts : Nat → Int32) : Option ((Int32) × (Nat → Int32) × (Nat → Int32)) :=
  (fX5_clear F t_size).bind fun R1 => ((fX5_pushRow F t_folkN t_countsN p1_folks p1_stopsN p1_stops p1_roundsN p1_rounds p2_size p2_tiesN p2_ties R1 t_folk t_counts).bind fun R7 => (some (R7.1, R7.2.1, R7.2.2)))
theorem CX5_lay {l : Launch} {D : va_G} {cy : Nat → ClassId} (F : Nat) (tA : Nat) (t_writtenV : Value) (t_size : Int32) (t_folkA : Nat) (t_folkN : Nat) (t_folk : Nat → Int32) (t_countsA : Nat) (t_countsN : Nat) (t_counts : Nat → Int32) (p1A : Nat) (p1_namesV : Value) (p1_kindsV : Value) (p1_kinV : Value) (p1_folks : Int32) (p1_pairs : Int32) (p1_line : Int32) (p1_rope : Int32) (p1_lineTold : Int32) (p1_ropeTold : Int32) (p1_lawV : Value) (p1_takenV : Value) (p1_stopsA : Nat) (p1_stopsN : Nat) (p1_stops : Nat → Int32) (p1_roundsA : Nat) (p1_roundsN : Nat) (p1_rounds : Nat → Int32) (p2A : Nat) (p2_size : Int32) (p2_tiesA : Nat) (p2_tiesN : Nat) (p2_ties : Nat → Int32) (R : (Int32) × (Nat → Int32) × (Nat → Int32)) (h : fX5_lay F t_folkN t_countsN p1_folks p1_stopsN p1_stops p1_roundsN p1_rounds p2_size p2_tiesN p2_ties t_size t_folk t_counts = some R) : vMet l D cy MX5_lay 3 0 0 [.ref tA, .ref p1A, .ref p2A] (wX5_lay cy tA t_writtenV t_size t_folkA t_folkN t_folk t_countsA t_countsN t_counts p1A p1_namesV p1_kindsV p1_kinV p1_folks p1_pairs p1_line p1_rope p1_lineTold p1_ropeTold p1_lawV p1_takenV p1_stopsA p1_stopsN p1_stops p1_roundsA p1_roundsN p1_rounds p2A p2_size p2_tiesA p2_tiesN p2_ties) (fun (r : Option Value) (w : va_W) => r = none ∧ w = (wX5_lay cy tA t_writtenV R.1 t_folkA t_folkN R.2.1 t_countsA t_countsN R.2.2 p1A p1_namesV p1_kindsV p1_kinV p1_folks p1_pairs p1_line p1_rope p1_lineTold p1_ropeTold p1_lawV p1_takenV p1_stopsA p1_stopsN p1_stops p1_roundsA p1_roundsN p1_rounds p2A p2_size p2_tiesA p2_tiesN p2_ties)) := by
  refine vMet.start (by decide +kernel) (Nat.le_of_ble_eq_true rfl) ?_
  generalize hQe : (fun (r : Option Value) (w : va_W) => r = none ∧ w = (wX5_lay cy tA t_writtenV R.1 t_folkA t_folkN R.2.1 t_countsA t_countsN R.2.2 p1A p1_namesV p1_kindsV p1_kinV p1_folks p1_pairs p1_line p1_rope p1_lineTold p1_ropeTold p1_lawV p1_takenV p1_stopsA p1_stopsN p1_stops p1_roundsA p1_roundsN p1_rounds p2A p2_size p2_tiesA p2_tiesN p2_ties)) = Q
  have hQ : Q none (wX5_lay cy tA t_writtenV R.1 t_folkA t_folkN R.2.1 t_countsA t_countsN R.2.2 p1A p1_namesV p1_kindsV p1_kinV p1_folks p1_pairs p1_line p1_rope p1_lineTold p1_ropeTold p1_lawV p1_takenV p1_stopsA p1_stopsN p1_stops p1_roundsA p1_roundsN p1_rounds p2A p2_size p2_tiesA p2_tiesN p2_ties) := by rw [← hQe]; exact ⟨rfl, rfl⟩
  show V l D cy MX5_lay 3 0 0 _ _ Q 0 [(0, .ref tA), (1, .ref p1A), (2, .ref p2A)] [] _ 0 0
  show V l D cy MX5_lay 3 0 0 [.ref tA, .ref p1A, .ref p2A] _ Q 0 [(0, .ref tA), (1, .ref p1A), (2, .ref p2A)] [] (wX5_lay cy tA t_writtenV t_size t_folkA t_folkN t_folk t_countsA t_countsN t_counts p1A p1_namesV p1_kindsV p1_kinV p1_folks p1_pairs p1_line p1_rope p1_lineTold p1_ropeTold p1_lawV p1_takenV p1_stopsA p1_stopsN p1_stops p1_roundsA p1_roundsN p1_rounds p2A p2_size p2_tiesA p2_tiesN p2_ties) 0 0
  unfold fX5_lay at h
  refine V.aload_n dX5_lay_0 rfl 0 rfl ?_
  obtain ⟨R1, hg1, h⟩ := Option.bind_eq_some_iff.mp h
  refine V.callV (As := []) (rest := []) (wc := (wX5_clear cy tA (.ref t_folkA) (.ref t_countsA) t_writtenV t_size)) (wr := [(t_folkA, .inl (cy 1, t_folkN, .inl t_folk)), (t_countsA, .inl (cy 1, t_countsN, .inl t_counts)), (p1A, .inr (2, [p1_namesV, p1_kindsV, p1_kinV, .ref p1_stopsA, .ref p1_roundsA, .int p1_folks, .int p1_pairs, .int p1_line, .int p1_rope, .int p1_lineTold, .int p1_ropeTold, p1_lawV, p1_takenV])), (p1_stopsA, .inl (cy 1, p1_stopsN, .inl p1_stops)), (p1_roundsA, .inl (cy 1, p1_roundsN, .inl p1_rounds)), (p2A, .inr (7, [.ref p2_tiesA, .int p2_size])), (p2_tiesA, .inl (cy 1, p2_tiesN, .inl p2_ties))]) (q0 := 0) (CX5_clear F tA (.ref t_folkA) (.ref t_countsA) t_writtenV t_size R1 hg1) kvX5_clear klX5_38 [0] [1, 2, 3, 4, 5, 6, 7] rfl rfl (by decide) (by decide) (by decide) rfl rfl rfl rfl dX5_lay_1 ⟨by decide, by decide, by decide, by decide⟩ (Nat.le_of_ble_eq_true rfl) (fun r w1 hq => ?_)
  obtain ⟨rfl, rfl⟩ := hq
  refine V.cells (ws' := (wX5_lay cy tA t_writtenV R1 t_folkA t_folkN t_folk t_countsA t_countsN t_counts p1A p1_namesV p1_kindsV p1_kinV p1_folks p1_pairs p1_line p1_rope p1_lineTold p1_ropeTold p1_lawV p1_takenV p1_stopsA p1_stopsN p1_stops p1_roundsA p1_roundsN p1_rounds p2A p2_size p2_tiesA p2_tiesN p2_ties)) [7, 0, 1, 2, 3, 4, 5, 6] (by decide) rfl ?_
  show V l D cy MX5_lay 3 0 0 _ _ _ 4 [(0, .ref tA), (1, .ref p1A), (2, .ref p2A)] [] (wX5_lay cy tA t_writtenV R1 t_folkA t_folkN t_folk t_countsA t_countsN t_counts p1A p1_namesV p1_kindsV p1_kinV p1_folks p1_pairs p1_line p1_rope p1_lineTold p1_ropeTold p1_lawV p1_takenV p1_stopsA p1_stopsN p1_stops p1_roundsA p1_roundsN p1_rounds p2A p2_size p2_tiesA p2_tiesN p2_ties) 0 0
  refine V.aload_n dX5_lay_4 rfl 0 rfl ?_
  refine V.aload_n dX5_lay_5 rfl 1 rfl ?_
  refine V.aload_n dX5_lay_6 rfl 2 rfl ?_
  obtain ⟨R7, hg7, h⟩ := Option.bind_eq_some_iff.mp h
  refine V.callV (As := [.ref p1A, .ref p2A]) (rest := []) (wc := (wX5_pushRow cy tA t_writtenV R1 t_folkA t_folkN t_folk t_countsA t_countsN t_counts p1A p1_namesV p1_kindsV p1_kinV p1_folks p1_pairs p1_line p1_rope p1_lineTold p1_ropeTold p1_lawV p1_takenV p1_stopsA p1_stopsN p1_stops p1_roundsA p1_roundsN p1_rounds p2A p2_size p2_tiesA p2_tiesN p2_ties)) (wr := []) (q0 := 0) (CX5_pushRow F tA t_writtenV R1 t_folkA t_folkN t_folk t_countsA t_countsN t_counts p1A p1_namesV p1_kindsV p1_kinV p1_folks p1_pairs p1_line p1_rope p1_lineTold p1_ropeTold p1_lawV p1_takenV p1_stopsA p1_stopsN p1_stops p1_roundsA p1_roundsN p1_rounds p2A p2_size p2_tiesA p2_tiesN p2_ties R7 hg7) kvX5_pushRow klX5_41 [0, 1, 2, 3, 4, 5, 6, 7] [] rfl rfl (by decide) (by decide) (by decide) rfl rfl rfl rfl dX5_lay_7 ⟨by decide, by decide, by decide, by decide⟩ (Nat.le_of_ble_eq_true rfl) (fun r w1 hq => ?_)
  obtain ⟨rfl, rfl⟩ := hq
  refine V.cells (ws' := (wX5_lay cy tA t_writtenV R7.1 t_folkA t_folkN R7.2.1 t_countsA t_countsN R7.2.2 p1A p1_namesV p1_kindsV p1_kinV p1_folks p1_pairs p1_line p1_rope p1_lineTold p1_ropeTold p1_lawV p1_takenV p1_stopsA p1_stopsN p1_stops p1_roundsA p1_roundsN p1_rounds p2A p2_size p2_tiesA p2_tiesN p2_ties)) [0, 1, 2, 3, 4, 5, 6, 7] (by decide) rfl ?_
  show V l D cy MX5_lay 3 0 0 _ _ _ 10 [(0, .ref tA), (1, .ref p1A), (2, .ref p2A)] [] (wX5_lay cy tA t_writtenV R7.1 t_folkA t_folkN R7.2.1 t_countsA t_countsN R7.2.2 p1A p1_namesV p1_kindsV p1_kinV p1_folks p1_pairs p1_line p1_rope p1_lineTold p1_ropeTold p1_lawV p1_takenV p1_stopsA p1_stopsN p1_stops p1_roundsA p1_roundsN p1_rounds p2A p2_size p2_tiesA p2_tiesN p2_ties) 0 0
  have e9 := Option.some.inj h; subst e9
  exact V.vret rfl dX5_lay_10 (Nat.le_refl _) (Nat.le_refl _) hQ
theorem dX5_layForm_0 : decode cX5_layForm 0 = .ok (.aload_n 0, 1) := by decide +kernel
theorem dX5_layForm_1 : decode cX5_layForm 1 = .ok (.invokevirtual 38, 3) := by decide +kernel
theorem dX5_layForm_4 : decode cX5_layForm 4 = .ok (.aload_n 0, 1) := by decide +kernel
theorem dX5_layForm_5 : decode cX5_layForm 5 = .ok (.aload_n 1, 1) := by decide +kernel
theorem dX5_layForm_6 : decode cX5_layForm 6 = .ok (.aload_n 2, 1) := by decide +kernel
theorem dX5_layForm_7 : decode cX5_layForm 7 = .ok (.invokevirtual 41, 3) := by decide +kernel
theorem dX5_layForm_10 : decode cX5_layForm 10 = .ok (.aload_n 0, 1) := by decide +kernel
theorem dX5_layForm_11 : decode cX5_layForm 11 = .ok (.aload_n 1, 1) := by decide +kernel
theorem dX5_layForm_12 : decode cX5_layForm 12 = .ok (.aload_n 3, 1) := by decide +kernel
theorem dX5_layForm_13 : decode cX5_layForm 13 = .ok (.invokevirtual 45, 3) := by decide +kernel
theorem dX5_layForm_16 : decode cX5_layForm 16 = .ok (.return_, 1) := by decide +kernel
def wX5_layForm (cy : Nat → ClassId) (tA : Nat) (t_size : Int32) (t_folkA : Nat) (t_folkN : Nat) (t_folk : Nat → Int32) (t_countsA : Nat) (t_countsN : Nat) (t_counts : Nat → Int32) (t_writtenA : Nat) (t_writtenN : Nat) (t_written : Nat → Int32) (p1A : Nat) (p1_namesV : Value) (p1_kindsV : Value) (p1_kinV : Value) (p1_folks : Int32) (p1_pairs : Int32) (p1_line : Int32) (p1_rope : Int32) (p1_lineTold : Int32) (p1_ropeTold : Int32) (p1_lawV : Value) (p1_takenV : Value) (p1_stopsA : Nat) (p1_stopsN : Nat) (p1_stops : Nat → Int32) (p1_roundsA : Nat) (p1_roundsN : Nat) (p1_rounds : Nat → Int32) (p2A : Nat) (p2_size : Int32) (p2_tiesA : Nat) (p2_tiesN : Nat) (p2_ties : Nat → Int32) (p3A : Nat) (p3_size : Int32) (p3_tiesA : Nat) (p3_tiesN : Nat) (p3_ties : Nat → Int32) : va_W :=
  [(tA, .inr (5, [.ref t_folkA, .ref t_countsA, .ref t_writtenA, .int t_size])), (t_folkA, .inl (cy 1, t_folkN, .inl t_folk)), (t_countsA, .inl (cy 1, t_countsN, .inl t_counts)), (t_writtenA, .inl (cy 3, t_writtenN, .inl t_written)), (p1A, .inr (2, [p1_namesV, p1_kindsV, p1_kinV, .ref p1_stopsA, .ref p1_roundsA, .int p1_folks, .int p1_pairs, .int p1_line, .int p1_rope, .int p1_lineTold, .int p1_ropeTold, p1_lawV, p1_takenV])), (p1_stopsA, .inl (cy 1, p1_stopsN, .inl p1_stops)), (p1_roundsA, .inl (cy 1, p1_roundsN, .inl p1_rounds)), (p2A, .inr (7, [.ref p2_tiesA, .int p2_size])), (p2_tiesA, .inl (cy 1, p2_tiesN, .inl p2_ties)), (p3A, .inr (7, [.ref p3_tiesA, .int p3_size])), (p3_tiesA, .inl (cy 1, p3_tiesN, .inl p3_ties))]
noncomputable def fX5_layForm (F : Nat) (t_folkN : Nat) (t_countsN : Nat) (t_writtenN : Nat) (p1_folks : Int32) (p1_stopsN : Nat) (p1_stops : Nat → Int32) (p1_roundsN : Nat) (p1_rounds : Nat → Int32) (p2_size : Int32) (p2_tiesN : Nat) (p2_ties : Nat → Int32) (p3_tiesN : Nat) (t_size : Int32) (t_folk : Nat → Int32) (t_counts : Nat → Int32) (t_written : Nat → Int32) (p3_size : Int32) (p3_ties : Nat → Int32) : Option ((Int32) × (Nat → Int32) × (Nat → Int32) × (Nat → Int32) × (Int32) × (Nat → Int32)) :=
  (fX5_clear F t_size).bind fun R1 => ((fX5_pushRow F t_folkN t_countsN p1_folks p1_stopsN p1_stops p1_roundsN p1_rounds p2_size p2_tiesN p2_ties R1 t_folk t_counts).bind fun R7 => ((fX5_writeForm F R7.1 t_folkN R7.2.1 t_countsN R7.2.2 t_writtenN p1_stopsN p1_stops p1_roundsN p1_rounds p3_tiesN t_written p3_size p3_ties).bind fun R13 => (some (R7.1, R7.2.1, R7.2.2, R13.1, R13.2.1, R13.2.2))))
theorem CX5_layForm {l : Launch} {D : va_G} {cy : Nat → ClassId} (F : Nat) (tA : Nat) (t_size : Int32) (t_folkA : Nat) (t_folkN : Nat) (t_folk : Nat → Int32) (t_countsA : Nat) (t_countsN : Nat) (t_counts : Nat → Int32) (t_writtenA : Nat) (t_writtenN : Nat) (t_written : Nat → Int32) (p1A : Nat) (p1_namesV : Value) (p1_kindsV : Value) (p1_kinV : Value) (p1_folks : Int32) (p1_pairs : Int32) (p1_line : Int32) (p1_rope : Int32) (p1_lineTold : Int32) (p1_ropeTold : Int32) (p1_lawV : Value) (p1_takenV : Value) (p1_stopsA : Nat) (p1_stopsN : Nat) (p1_stops : Nat → Int32) (p1_roundsA : Nat) (p1_roundsN : Nat) (p1_rounds : Nat → Int32) (p2A : Nat) (p2_size : Int32) (p2_tiesA : Nat) (p2_tiesN : Nat) (p2_ties : Nat → Int32) (p3A : Nat) (p3_size : Int32) (p3_tiesA : Nat) (p3_tiesN : Nat) (p3_ties : Nat → Int32) (R : (Int32) × (Nat → Int32) × (Nat → Int32) × (Nat → Int32) × (Int32) × (Nat → Int32)) (h : fX5_layForm F t_folkN t_countsN t_writtenN p1_folks p1_stopsN p1_stops p1_roundsN p1_rounds p2_size p2_tiesN p2_ties p3_tiesN t_size t_folk t_counts t_written p3_size p3_ties = some R) : vMet l D cy MX5_layForm 3 0 0 [.ref tA, .ref p1A, .ref p2A, .ref p3A] (wX5_layForm cy tA t_size t_folkA t_folkN t_folk t_countsA t_countsN t_counts t_writtenA t_writtenN t_written p1A p1_namesV p1_kindsV p1_kinV p1_folks p1_pairs p1_line p1_rope p1_lineTold p1_ropeTold p1_lawV p1_takenV p1_stopsA p1_stopsN p1_stops p1_roundsA p1_roundsN p1_rounds p2A p2_size p2_tiesA p2_tiesN p2_ties p3A p3_size p3_tiesA p3_tiesN p3_ties) (fun (r : Option Value) (w : va_W) => r = none ∧ w = (wX5_layForm cy tA R.1 t_folkA t_folkN R.2.1 t_countsA t_countsN R.2.2.1 t_writtenA t_writtenN R.2.2.2.1 p1A p1_namesV p1_kindsV p1_kinV p1_folks p1_pairs p1_line p1_rope p1_lineTold p1_ropeTold p1_lawV p1_takenV p1_stopsA p1_stopsN p1_stops p1_roundsA p1_roundsN p1_rounds p2A p2_size p2_tiesA p2_tiesN p2_ties p3A R.2.2.2.2.1 p3_tiesA p3_tiesN R.2.2.2.2.2)) := by
  refine vMet.start (by decide +kernel) (Nat.le_of_ble_eq_true rfl) ?_
  generalize hQe : (fun (r : Option Value) (w : va_W) => r = none ∧ w = (wX5_layForm cy tA R.1 t_folkA t_folkN R.2.1 t_countsA t_countsN R.2.2.1 t_writtenA t_writtenN R.2.2.2.1 p1A p1_namesV p1_kindsV p1_kinV p1_folks p1_pairs p1_line p1_rope p1_lineTold p1_ropeTold p1_lawV p1_takenV p1_stopsA p1_stopsN p1_stops p1_roundsA p1_roundsN p1_rounds p2A p2_size p2_tiesA p2_tiesN p2_ties p3A R.2.2.2.2.1 p3_tiesA p3_tiesN R.2.2.2.2.2)) = Q
  have hQ : Q none (wX5_layForm cy tA R.1 t_folkA t_folkN R.2.1 t_countsA t_countsN R.2.2.1 t_writtenA t_writtenN R.2.2.2.1 p1A p1_namesV p1_kindsV p1_kinV p1_folks p1_pairs p1_line p1_rope p1_lineTold p1_ropeTold p1_lawV p1_takenV p1_stopsA p1_stopsN p1_stops p1_roundsA p1_roundsN p1_rounds p2A p2_size p2_tiesA p2_tiesN p2_ties p3A R.2.2.2.2.1 p3_tiesA p3_tiesN R.2.2.2.2.2) := by rw [← hQe]; exact ⟨rfl, rfl⟩
  show V l D cy MX5_layForm 3 0 0 _ _ Q 0 [(0, .ref tA), (1, .ref p1A), (2, .ref p2A), (3, .ref p3A)] [] _ 0 0
  show V l D cy MX5_layForm 3 0 0 [.ref tA, .ref p1A, .ref p2A, .ref p3A] _ Q 0 [(0, .ref tA), (1, .ref p1A), (2, .ref p2A), (3, .ref p3A)] [] (wX5_layForm cy tA t_size t_folkA t_folkN t_folk t_countsA t_countsN t_counts t_writtenA t_writtenN t_written p1A p1_namesV p1_kindsV p1_kinV p1_folks p1_pairs p1_line p1_rope p1_lineTold p1_ropeTold p1_lawV p1_takenV p1_stopsA p1_stopsN p1_stops p1_roundsA p1_roundsN p1_rounds p2A p2_size p2_tiesA p2_tiesN p2_ties p3A p3_size p3_tiesA p3_tiesN p3_ties) 0 0
  unfold fX5_layForm at h
  refine V.aload_n dX5_layForm_0 rfl 0 rfl ?_
  obtain ⟨R1, hg1, h⟩ := Option.bind_eq_some_iff.mp h
  refine V.callV (As := []) (rest := []) (wc := (wX5_clear cy tA (.ref t_folkA) (.ref t_countsA) (.ref t_writtenA) t_size)) (wr := [(t_folkA, .inl (cy 1, t_folkN, .inl t_folk)), (t_countsA, .inl (cy 1, t_countsN, .inl t_counts)), (t_writtenA, .inl (cy 3, t_writtenN, .inl t_written)), (p1A, .inr (2, [p1_namesV, p1_kindsV, p1_kinV, .ref p1_stopsA, .ref p1_roundsA, .int p1_folks, .int p1_pairs, .int p1_line, .int p1_rope, .int p1_lineTold, .int p1_ropeTold, p1_lawV, p1_takenV])), (p1_stopsA, .inl (cy 1, p1_stopsN, .inl p1_stops)), (p1_roundsA, .inl (cy 1, p1_roundsN, .inl p1_rounds)), (p2A, .inr (7, [.ref p2_tiesA, .int p2_size])), (p2_tiesA, .inl (cy 1, p2_tiesN, .inl p2_ties)), (p3A, .inr (7, [.ref p3_tiesA, .int p3_size])), (p3_tiesA, .inl (cy 1, p3_tiesN, .inl p3_ties))]) (q0 := 0) (CX5_clear F tA (.ref t_folkA) (.ref t_countsA) (.ref t_writtenA) t_size R1 hg1) kvX5_clear klX5_38 [0] [1, 2, 3, 4, 5, 6, 7, 8, 9, 10] rfl rfl (by decide) (by decide) (by decide) rfl rfl rfl rfl dX5_layForm_1 ⟨by decide, by decide, by decide, by decide⟩ (Nat.le_of_ble_eq_true rfl) (fun r w1 hq => ?_)
  obtain ⟨rfl, rfl⟩ := hq
  refine V.cells (ws' := (wX5_layForm cy tA R1 t_folkA t_folkN t_folk t_countsA t_countsN t_counts t_writtenA t_writtenN t_written p1A p1_namesV p1_kindsV p1_kinV p1_folks p1_pairs p1_line p1_rope p1_lineTold p1_ropeTold p1_lawV p1_takenV p1_stopsA p1_stopsN p1_stops p1_roundsA p1_roundsN p1_rounds p2A p2_size p2_tiesA p2_tiesN p2_ties p3A p3_size p3_tiesA p3_tiesN p3_ties)) [10, 0, 1, 2, 3, 4, 5, 6, 7, 8, 9] (by decide) rfl ?_
  show V l D cy MX5_layForm 3 0 0 _ _ _ 4 [(0, .ref tA), (1, .ref p1A), (2, .ref p2A), (3, .ref p3A)] [] (wX5_layForm cy tA R1 t_folkA t_folkN t_folk t_countsA t_countsN t_counts t_writtenA t_writtenN t_written p1A p1_namesV p1_kindsV p1_kinV p1_folks p1_pairs p1_line p1_rope p1_lineTold p1_ropeTold p1_lawV p1_takenV p1_stopsA p1_stopsN p1_stops p1_roundsA p1_roundsN p1_rounds p2A p2_size p2_tiesA p2_tiesN p2_ties p3A p3_size p3_tiesA p3_tiesN p3_ties) 0 0
  refine V.aload_n dX5_layForm_4 rfl 0 rfl ?_
  refine V.aload_n dX5_layForm_5 rfl 1 rfl ?_
  refine V.aload_n dX5_layForm_6 rfl 2 rfl ?_
  obtain ⟨R7, hg7, h⟩ := Option.bind_eq_some_iff.mp h
  refine V.callV (As := [.ref p1A, .ref p2A]) (rest := []) (wc := (wX5_pushRow cy tA (.ref t_writtenA) R1 t_folkA t_folkN t_folk t_countsA t_countsN t_counts p1A p1_namesV p1_kindsV p1_kinV p1_folks p1_pairs p1_line p1_rope p1_lineTold p1_ropeTold p1_lawV p1_takenV p1_stopsA p1_stopsN p1_stops p1_roundsA p1_roundsN p1_rounds p2A p2_size p2_tiesA p2_tiesN p2_ties)) (wr := [(t_writtenA, .inl (cy 3, t_writtenN, .inl t_written)), (p3A, .inr (7, [.ref p3_tiesA, .int p3_size])), (p3_tiesA, .inl (cy 1, p3_tiesN, .inl p3_ties))]) (q0 := 0) (CX5_pushRow F tA (.ref t_writtenA) R1 t_folkA t_folkN t_folk t_countsA t_countsN t_counts p1A p1_namesV p1_kindsV p1_kinV p1_folks p1_pairs p1_line p1_rope p1_lineTold p1_ropeTold p1_lawV p1_takenV p1_stopsA p1_stopsN p1_stops p1_roundsA p1_roundsN p1_rounds p2A p2_size p2_tiesA p2_tiesN p2_ties R7 hg7) kvX5_pushRow klX5_41 [0, 1, 2, 4, 5, 6, 7, 8] [3, 9, 10] rfl rfl (by decide) (by decide) (by decide) rfl rfl rfl rfl dX5_layForm_7 ⟨by decide, by decide, by decide, by decide⟩ (Nat.le_of_ble_eq_true rfl) (fun r w1 hq => ?_)
  obtain ⟨rfl, rfl⟩ := hq
  refine V.cells (ws' := (wX5_layForm cy tA R7.1 t_folkA t_folkN R7.2.1 t_countsA t_countsN R7.2.2 t_writtenA t_writtenN t_written p1A p1_namesV p1_kindsV p1_kinV p1_folks p1_pairs p1_line p1_rope p1_lineTold p1_ropeTold p1_lawV p1_takenV p1_stopsA p1_stopsN p1_stops p1_roundsA p1_roundsN p1_rounds p2A p2_size p2_tiesA p2_tiesN p2_ties p3A p3_size p3_tiesA p3_tiesN p3_ties)) [3, 4, 5, 0, 6, 7, 8, 9, 10, 1, 2] (by decide) rfl ?_
  show V l D cy MX5_layForm 3 0 0 _ _ _ 10 [(0, .ref tA), (1, .ref p1A), (2, .ref p2A), (3, .ref p3A)] [] (wX5_layForm cy tA R7.1 t_folkA t_folkN R7.2.1 t_countsA t_countsN R7.2.2 t_writtenA t_writtenN t_written p1A p1_namesV p1_kindsV p1_kinV p1_folks p1_pairs p1_line p1_rope p1_lineTold p1_ropeTold p1_lawV p1_takenV p1_stopsA p1_stopsN p1_stops p1_roundsA p1_roundsN p1_rounds p2A p2_size p2_tiesA p2_tiesN p2_ties p3A p3_size p3_tiesA p3_tiesN p3_ties) 0 0
  refine V.aload_n dX5_layForm_10 rfl 0 rfl ?_
  refine V.aload_n dX5_layForm_11 rfl 1 rfl ?_
  refine V.aload_n dX5_layForm_12 rfl 3 rfl ?_
  obtain ⟨R13, hg13, h⟩ := Option.bind_eq_some_iff.mp h
  refine V.callV (As := [.ref p1A, .ref p3A]) (rest := []) (wc := (wX5_writeForm cy tA R7.1 t_folkA t_folkN R7.2.1 t_countsA t_countsN R7.2.2 t_writtenA t_writtenN t_written p1A p1_namesV p1_kindsV p1_kinV p1_folks p1_pairs p1_line p1_rope p1_lineTold p1_ropeTold p1_lawV p1_takenV p1_stopsA p1_stopsN p1_stops p1_roundsA p1_roundsN p1_rounds p3A p3_size p3_tiesA p3_tiesN p3_ties)) (wr := [(p2A, .inr (7, [.ref p2_tiesA, .int p2_size])), (p2_tiesA, .inl (cy 1, p2_tiesN, .inl p2_ties))]) (q0 := 0) (CX5_writeForm F tA R7.1 t_folkA t_folkN R7.2.1 t_countsA t_countsN R7.2.2 t_writtenA t_writtenN t_written p1A p1_namesV p1_kindsV p1_kinV p1_folks p1_pairs p1_line p1_rope p1_lineTold p1_ropeTold p1_lawV p1_takenV p1_stopsA p1_stopsN p1_stops p1_roundsA p1_roundsN p1_rounds p3A p3_size p3_tiesA p3_tiesN p3_ties R13 hg13) kvX5_writeForm klX5_45 [0, 1, 2, 3, 4, 5, 6, 9, 10] [7, 8] rfl rfl (by decide) (by decide) (by decide) rfl rfl rfl rfl dX5_layForm_13 ⟨by decide, by decide, by decide, by decide⟩ (Nat.le_of_ble_eq_true rfl) (fun r w1 hq => ?_)
  obtain ⟨rfl, rfl⟩ := hq
  refine V.cells (ws' := (wX5_layForm cy tA R7.1 t_folkA t_folkN R7.2.1 t_countsA t_countsN R7.2.2 t_writtenA t_writtenN R13.1 p1A p1_namesV p1_kindsV p1_kinV p1_folks p1_pairs p1_line p1_rope p1_lineTold p1_ropeTold p1_lawV p1_takenV p1_stopsA p1_stopsN p1_stops p1_roundsA p1_roundsN p1_rounds p2A p2_size p2_tiesA p2_tiesN p2_ties p3A R13.2.1 p3_tiesA p3_tiesN R13.2.2)) [2, 3, 4, 5, 6, 7, 8, 0, 1, 9, 10] (by decide) rfl ?_
  show V l D cy MX5_layForm 3 0 0 _ _ _ 16 [(0, .ref tA), (1, .ref p1A), (2, .ref p2A), (3, .ref p3A)] [] (wX5_layForm cy tA R7.1 t_folkA t_folkN R7.2.1 t_countsA t_countsN R7.2.2 t_writtenA t_writtenN R13.1 p1A p1_namesV p1_kindsV p1_kinV p1_folks p1_pairs p1_line p1_rope p1_lineTold p1_ropeTold p1_lawV p1_takenV p1_stopsA p1_stopsN p1_stops p1_roundsA p1_roundsN p1_rounds p2A p2_size p2_tiesA p2_tiesN p2_ties p3A R13.2.1 p3_tiesA p3_tiesN R13.2.2) 0 0
  have e9 := Option.some.inj h; subst e9
  exact V.vret rfl dX5_layForm_16 (Nat.le_refl _) (Nat.le_refl _) hQ
