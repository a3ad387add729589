theorem dX7_folkOf_0 : decode cX7_folkOf 0 = .ok (.iload_n 0, 1) := by decide +kernel
theorem dX7_folkOf_1 : decode cX7_folkOf 1 = .ok (.iconst 1, 1) := by decide +kernel
theorem dX7_folkOf_2 : decode cX7_folkOf 2 = .ok (.ishr, 1) := by decide +kernel
theorem dX7_folkOf_3 : decode cX7_folkOf 3 = .ok (.ireturn, 1) := by decide +kernel
def wX7_folkOf (cy : Nat → ClassId)  : va_W :=
  []
noncomputable def fX7_folkOf (F : Nat) (a0 : Int32) : Option (Int32) :=
  some (a0 >>> ((1 : Int32) &&& 31))
theorem CX7_folkOf {l : Launch} {D : va_G} {cy : Nat → ClassId} (F : Nat) (a0 : Int32) (R : Int32) (h : fX7_folkOf F a0 = some R) : vMet l D cy MX7_folkOf 0 0 0 [.int a0] (wX7_folkOf cy ) (fun (r : Option Value) (w : va_W) => r = (some (.int R)) ∧ w = (wX7_folkOf cy )) := by
  refine vMet.start (by decide +kernel) (Nat.le_of_ble_eq_true rfl) ?_
  generalize hQe : (fun (r : Option Value) (w : va_W) => r = (some (.int R)) ∧ w = (wX7_folkOf cy )) = Q
  have hQ : Q (some (.int R)) (wX7_folkOf cy ) := by rw [← hQe]; exact ⟨rfl, rfl⟩
  show V l D cy MX7_folkOf 0 0 0 _ _ Q 0 [(0, .int a0)] [] _ 0 0
  show V l D cy MX7_folkOf 0 0 0 [.int a0] _ Q 0 [(0, .int a0)] [] (wX7_folkOf cy ) 0 0
  unfold fX7_folkOf at h
  refine V.iload_n dX7_folkOf_0 rfl 0 rfl ?_
  refine V.iconst (v := (1 : Int32)) dX7_folkOf_1 (by decide) ?_
  refine V.ishr dX7_folkOf_2 ?_
  have e9 := Option.some.inj h; subst e9
  exact V.iret (ty := .int) rfl rfl dX7_folkOf_3 (Nat.le_refl _) (Nat.le_refl _) hQ
theorem dX7_countOf_0 : decode cX7_countOf 0 = .ok (.iload_n 0, 1) := by decide +kernel
theorem dX7_countOf_1 : decode cX7_countOf 1 = .ok (.iconst 1, 1) := by decide +kernel
theorem dX7_countOf_2 : decode cX7_countOf 2 = .ok (.iand, 1) := by decide +kernel
theorem dX7_countOf_3 : decode cX7_countOf 3 = .ok (.ifCond .ne 7, 3) := by decide +kernel
theorem dX7_countOf_6 : decode cX7_countOf 6 = .ok (.iconst 1, 1) := by decide +kernel
theorem dX7_countOf_7 : decode cX7_countOf 7 = .ok (.goto 4, 3) := by decide +kernel
theorem dX7_countOf_10 : decode cX7_countOf 10 = .ok (.iconst (-1), 1) := by decide +kernel
theorem dX7_countOf_11 : decode cX7_countOf 11 = .ok (.ireturn, 1) := by decide +kernel
def wX7_countOf (cy : Nat → ClassId)  : va_W :=
  []
noncomputable def bX7_countOf_L11 (F : Nat)   (s0 : Int32) : Option (Int32) :=
  some s0
theorem vX7_countOf_L11 {l : Launch} {D : va_G} {cy : Nat → ClassId} {av : List Value} {ws0 : va_W} {Q : Option Value → va_W → Prop} (F : Nat)   (s0 : Int32) (R : Int32) (h : bX7_countOf_L11 F  s0 = some R) (hQ : Q (some (.int R)) (wX7_countOf cy )) : V l D cy MX7_countOf 0 0 0 av ws0 Q 11 [] [.int s0] (wX7_countOf cy ) 0 0 := by
  unfold bX7_countOf_L11 at h
  have e9 := Option.some.inj h; subst e9
  exact V.iret (ty := .int) rfl rfl dX7_countOf_11 (Nat.le_refl _) (Nat.le_refl _) hQ
noncomputable def fX7_countOf (F : Nat) (a0 : Int32) : Option (Int32) :=
  if (a0 &&& (1 : Int32)) = 0 then (bX7_countOf_L11 F (1 : Int32)) else (bX7_countOf_L11 F (-1 : Int32))
theorem CX7_countOf {l : Launch} {D : va_G} {cy : Nat → ClassId} (F : Nat) (a0 : Int32) (R : Int32) (h : fX7_countOf F a0 = some R) : vMet l D cy MX7_countOf 0 0 0 [.int a0] (wX7_countOf cy ) (fun (r : Option Value) (w : va_W) => r = (some (.int R)) ∧ w = (wX7_countOf cy )) := by
  refine vMet.start (by decide +kernel) (Nat.le_of_ble_eq_true rfl) ?_
  generalize hQe : (fun (r : Option Value) (w : va_W) => r = (some (.int R)) ∧ w = (wX7_countOf cy )) = Q
  have hQ : Q (some (.int R)) (wX7_countOf cy ) := by rw [← hQe]; exact ⟨rfl, rfl⟩
  show V l D cy MX7_countOf 0 0 0 _ _ Q 0 [(0, .int a0)] [] _ 0 0
  show V l D cy MX7_countOf 0 0 0 [.int a0] _ Q 0 [(0, .int a0)] [] (wX7_countOf cy ) 0 0
  unfold fX7_countOf at h
  refine V.iload_n dX7_countOf_0 rfl 0 rfl ?_
  refine V.iconst (v := (1 : Int32)) dX7_countOf_1 (by decide) ?_
  refine V.iand dX7_countOf_2 ?_
  refine V.if_ne (tgt := 10) dX7_countOf_3 (by decide) (fun hc3 => ?_) (fun hc3 => ?_)
  · replace h := (if_neg hc3).symm.trans h
    refine V.iconst (v := (-1 : Int32)) dX7_countOf_10 (by decide) ?_
    refine V.lvs [] rfl ?_
    exact vX7_countOf_L11 _   _ R h hQ
  · replace h := (if_pos hc3).symm.trans h
    refine V.iconst (v := (1 : Int32)) dX7_countOf_6 (by decide) ?_
    refine V.goto (tgt := 11) dX7_countOf_7 (by decide) ?_
    refine V.lvs [] rfl ?_
    exact vX7_countOf_L11 _   _ R h hQ
theorem dX7_clear_0 : decode cX7_clear 0 = .ok (.aload_n 0, 1) := by decide +kernel
theorem dX7_clear_1 : decode cX7_clear 1 = .ok (.iconst 0, 1) := by decide +kernel
theorem dX7_clear_2 : decode cX7_clear 2 = .ok (.putfield 15, 3) := by decide +kernel
theorem dX7_clear_5 : decode cX7_clear 5 = .ok (.return_, 1) := by decide +kernel
def wX7_clear (cy : Nat → ClassId) (tA : Nat) (t_tiesV : Value) (t_size : Int32) : va_W :=
  [(tA, .inr (7, [t_tiesV, .int t_size]))]
noncomputable def fX7_clear (F : Nat) (t_size : Int32) : Option ((Int32)) :=
  some (0 : Int32)
theorem CX7_clear {l : Launch} {D : va_G} {cy : Nat → ClassId} (F : Nat) (tA : Nat) (t_tiesV : Value) (t_size : Int32) (R : (Int32)) (h : fX7_clear F t_size = some R) : vMet l D cy MX7_clear 0 0 0 [.ref tA] (wX7_clear cy tA t_tiesV t_size) (fun (r : Option Value) (w : va_W) => r = none ∧ w = (wX7_clear cy tA t_tiesV R)) := by
  refine vMet.start (by decide +kernel) (Nat.le_of_ble_eq_true rfl) ?_
  generalize hQe : (fun (r : Option Value) (w : va_W) => r = none ∧ w = (wX7_clear cy tA t_tiesV R)) = Q
  have hQ : Q none (wX7_clear cy tA t_tiesV R) := by rw [← hQe]; exact ⟨rfl, rfl⟩
  show V l D cy MX7_clear 0 0 0 _ _ Q 0 [(0, .ref tA)] [] _ 0 0
  show V l D cy MX7_clear 0 0 0 [.ref tA] _ Q 0 [(0, .ref tA)] [] (wX7_clear cy tA t_tiesV t_size) 0 0
  unfold fX7_clear at h
  refine V.aload_n dX7_clear_0 rfl 0 rfl ?_
  refine V.iconst (v := (0 : Int32)) dX7_clear_1 (by decide) ?_
  refine V.put (ws' := (wX7_clear cy tA t_tiesV (0 : Int32))) kfX7 tyX7 tyX7_ok nmX7 0 rfl rfl 1 (by decide) klX7_15 rfl (tyX7_ok 1 (by decide)) rfl rfl (Nat.le_of_ble_eq_true rfl) dX7_clear_2 rfl ?_
  have e9 := Option.some.inj h; subst e9
  exact V.vret rfl dX7_clear_5 (Nat.le_refl _) (Nat.le_refl _) hQ
theorem dX7_tieAt_0 : decode cX7_tieAt 0 = .ok (.iload_n 1, 1) := by decide +kernel
theorem dX7_tieAt_1 : decode cX7_tieAt 1 = .ok (.ifCond .lt 20, 3) := by decide +kernel
theorem dX7_tieAt_4 : decode cX7_tieAt 4 = .ok (.iload_n 1, 1) := by decide +kernel
theorem dX7_tieAt_5 : decode cX7_tieAt 5 = .ok (.aload_n 0, 1) := by decide +kernel
theorem dX7_tieAt_6 : decode cX7_tieAt 6 = .ok (.getfield 15, 3) := by decide +kernel
theorem dX7_tieAt_9 : decode cX7_tieAt 9 = .ok (.if_icmp .ge 12, 3) := by decide +kernel
theorem dX7_tieAt_12 : decode cX7_tieAt 12 = .ok (.aload_n 0, 1) := by decide +kernel
theorem dX7_tieAt_13 : decode cX7_tieAt 13 = .ok (.getfield 9, 3) := by decide +kernel
theorem dX7_tieAt_16 : decode cX7_tieAt 16 = .ok (.iload_n 1, 1) := by decide +kernel
theorem dX7_tieAt_17 : decode cX7_tieAt 17 = .ok (.iaload, 1) := by decide +kernel
theorem dX7_tieAt_18 : decode cX7_tieAt 18 = .ok (.goto 4, 3) := by decide +kernel
theorem dX7_tieAt_21 : decode cX7_tieAt 21 = .ok (.iconst (-1), 1) := by decide +kernel
theorem dX7_tieAt_22 : decode cX7_tieAt 22 = .ok (.ireturn, 1) := by decide +kernel
def wX7_tieAt (cy : Nat → ClassId) (tA : Nat) (t_size : Int32) (t_tiesA : Nat) (t_tiesN : Nat) (t_ties : Nat → Int32) : va_W :=
  [(tA, .inr (7, [.ref t_tiesA, .int t_size])), (t_tiesA, .inl (cy 1, t_tiesN, .inl t_ties))]
noncomputable def bX7_tieAt_L22 (F : Nat) (t_size : Int32) (t_tiesN : Nat) (t_ties : Nat → Int32)  (s0 : Int32) : Option (Int32) :=
  some s0
theorem vX7_tieAt_L22 {l : Launch} {D : va_G} {cy : Nat → ClassId} {av : List Value} {ws0 : va_W} {Q : Option Value → va_W → Prop} (F : Nat) (tA : Nat) (t_size : Int32) (t_tiesA : Nat) (t_tiesN : Nat) (t_ties : Nat → Int32)  (s0 : Int32) (R : Int32) (h : bX7_tieAt_L22 F t_size t_tiesN t_ties  s0 = some R) (hQ : Q (some (.int R)) (wX7_tieAt cy tA t_size t_tiesA t_tiesN t_ties)) : V l D cy MX7_tieAt 0 0 0 av ws0 Q 22 [] [.int s0] (wX7_tieAt cy tA t_size t_tiesA t_tiesN t_ties) 0 0 := by
  unfold bX7_tieAt_L22 at h
  have e9 := Option.some.inj h; subst e9
  exact V.iret (ty := .int) rfl rfl dX7_tieAt_22 (Nat.le_refl _) (Nat.le_refl _) hQ
noncomputable def bX7_tieAt_L21 (F : Nat) (t_size : Int32) (t_tiesN : Nat) (t_ties : Nat → Int32)   : Option (Int32) :=
  bX7_tieAt_L22 F t_size t_tiesN t_ties (-1 : Int32)
theorem vX7_tieAt_L21 {l : Launch} {D : va_G} {cy : Nat → ClassId} {av : List Value} {ws0 : va_W} {Q : Option Value → va_W → Prop} (F : Nat) (tA : Nat) (t_size : Int32) (t_tiesA : Nat) (t_tiesN : Nat) (t_ties : Nat → Int32)   (R : Int32) (h : bX7_tieAt_L21 F t_size t_tiesN t_ties   = some R) (hQ : Q (some (.int R)) (wX7_tieAt cy tA t_size t_tiesA t_tiesN t_ties)) : V l D cy MX7_tieAt 0 0 0 av ws0 Q 21 [] [] (wX7_tieAt cy tA t_size t_tiesA t_tiesN t_ties) 0 0 := by
  unfold bX7_tieAt_L21 at h
  refine V.iconst (v := (-1 : Int32)) dX7_tieAt_21 (by decide) ?_
  exact vX7_tieAt_L22 _ _ _ _ _ _   _ R h hQ
noncomputable def fX7_tieAt (F : Nat) (t_size : Int32) (t_tiesN : Nat) (t_ties : Nat → Int32) (a1 : Int32) : Option (Int32) :=
  if a1 < 0 then (bX7_tieAt_L21 F t_size t_tiesN t_ties) else (if t_size ≤ a1 then (bX7_tieAt_L21 F t_size t_tiesN t_ties) else (if a1 < 0 ∨ t_tiesN ≤ a1.toNatClampNeg then none else (bX7_tieAt_L22 F t_size t_tiesN t_ties (t_ties (a1).toNatClampNeg))))
theorem CX7_tieAt {l : Launch} {D : va_G} {cy : Nat → ClassId} (F : Nat) (tA : Nat) (t_size : Int32) (t_tiesA : Nat) (t_tiesN : Nat) (t_ties : Nat → Int32) (a1 : Int32) (R : Int32) (h : fX7_tieAt F t_size t_tiesN t_ties a1 = some R) : vMet l D cy MX7_tieAt 0 0 0 [.ref tA, .int a1] (wX7_tieAt cy tA t_size t_tiesA t_tiesN t_ties) (fun (r : Option Value) (w : va_W) => r = (some (.int R)) ∧ w = (wX7_tieAt cy tA t_size t_tiesA t_tiesN t_ties)) := by
  refine vMet.start (by decide +kernel) (Nat.le_of_ble_eq_true rfl) ?_
  generalize hQe : (fun (r : Option Value) (w : va_W) => r = (some (.int R)) ∧ w = (wX7_tieAt cy tA t_size t_tiesA t_tiesN t_ties)) = Q
  have hQ : Q (some (.int R)) (wX7_tieAt cy tA t_size t_tiesA t_tiesN t_ties) := by rw [← hQe]; exact ⟨rfl, rfl⟩
  show V l D cy MX7_tieAt 0 0 0 _ _ Q 0 [(0, .ref tA), (1, .int a1)] [] _ 0 0
  show V l D cy MX7_tieAt 0 0 0 [.ref tA, .int a1] _ Q 0 [(0, .ref tA), (1, .int a1)] [] (wX7_tieAt cy tA t_size t_tiesA t_tiesN t_ties) 0 0
  unfold fX7_tieAt at h
  refine V.iload_n dX7_tieAt_0 rfl 1 rfl ?_
  refine V.if_lt (tgt := 21) dX7_tieAt_1 (by decide) (fun hc1 => ?_) (fun hc1 => ?_)
  · replace h := (if_pos hc1).symm.trans h
    refine V.lvs [] rfl ?_
    exact vX7_tieAt_L21 _ _ _ _ _ _    R h hQ
  · replace h := (if_neg hc1).symm.trans h
    refine V.iload_n dX7_tieAt_4 rfl 1 rfl ?_
    refine V.aload_n dX7_tieAt_5 rfl 0 rfl ?_
    refine V.get kfX7 0 rfl rfl 1 (by decide) klX7_15 rfl dX7_tieAt_6 ?_
    refine V.icmp_ge (tgt := 21) dX7_tieAt_9 (by decide) (fun hc9 => ?_) (fun hc9 => ?_)
    · replace h := (if_pos hc9).symm.trans h
      refine V.lvs [] rfl ?_
      exact vX7_tieAt_L21 _ _ _ _ _ _    R h hQ
    · replace h := (if_neg hc9).symm.trans h
      refine V.aload_n dX7_tieAt_12 rfl 0 rfl ?_
      refine V.get kfX7 0 rfl rfl 0 (by decide) klX7_9 rfl dX7_tieAt_13 ?_
      refine V.iload_n dX7_tieAt_16 rfl 1 rfl ?_
      by_cases hb17 : a1 < 0 ∨ t_tiesN ≤ a1.toNatClampNeg
      · exact vNone ((if_pos hb17).symm.trans h)
      replace h := (if_neg hb17).symm.trans h
      refine V.iald dX7_tieAt_17 1 rfl hb17 ?_
      refine V.goto (tgt := 22) dX7_tieAt_18 (by decide) ?_
      refine V.lvs [] rfl ?_
      exact vX7_tieAt_L22 _ _ _ _ _ _   _ R h hQ
theorem dX7_add_0 : decode cX7_add 0 = .ok (.aload_n 0, 1) := by decide +kernel
theorem dX7_add_1 : decode cX7_add 1 = .ok (.getfield 15, 3) := by decide +kernel
theorem dX7_add_4 : decode cX7_add 4 = .ok (.aload_n 0, 1) := by decide +kernel
theorem dX7_add_5 : decode cX7_add 5 = .ok (.getfield 9, 3) := by decide +kernel
theorem dX7_add_8 : decode cX7_add 8 = .ok (.arraylength, 1) := by decide +kernel
theorem dX7_add_9 : decode cX7_add 9 = .ok (.if_icmp .ge 23, 3) := by decide +kernel
theorem dX7_add_12 : decode cX7_add 12 = .ok (.aload_n 0, 1) := by decide +kernel
theorem dX7_add_13 : decode cX7_add 13 = .ok (.getfield 9, 3) := by decide +kernel
theorem dX7_add_16 : decode cX7_add 16 = .ok (.aload_n 0, 1) := by decide +kernel
theorem dX7_add_17 : decode cX7_add 17 = .ok (.getfield 15, 3) := by decide +kernel
theorem dX7_add_20 : decode cX7_add 20 = .ok (.iload_n 1, 1) := by decide +kernel
theorem dX7_add_21 : decode cX7_add 21 = .ok (.iastore, 1) := by decide +kernel
theorem dX7_add_22 : decode cX7_add 22 = .ok (.aload_n 0, 1) := by decide +kernel
theorem dX7_add_23 : decode cX7_add 23 = .ok (.dup, 1) := by decide +kernel
theorem dX7_add_24 : decode cX7_add 24 = .ok (.getfield 15, 3) := by decide +kernel
theorem dX7_add_27 : decode cX7_add 27 = .ok (.iconst 1, 1) := by decide +kernel
theorem dX7_add_28 : decode cX7_add 28 = .ok (.iadd, 1) := by decide +kernel
theorem dX7_add_29 : decode cX7_add 29 = .ok (.putfield 15, 3) := by decide +kernel
theorem dX7_add_32 : decode cX7_add 32 = .ok (.return_, 1) := by decide +kernel
def wX7_add (cy : Nat → ClassId) (tA : Nat) (t_size : Int32) (t_tiesA : Nat) (t_tiesN : Nat) (t_ties : Nat → Int32) : va_W :=
  [(tA, .inr (7, [.ref t_tiesA, .int t_size])), (t_tiesA, .inl (cy 1, t_tiesN, .inl t_ties))]
noncomputable def bX7_add_L32 (F : Nat) (t_tiesN : Nat)  (t_size : Int32) (t_ties : Nat → Int32) : Option ((Int32) × (Nat → Int32)) :=
  some (t_size, t_ties)
theorem vX7_add_L32 {l : Launch} {D : va_G} {cy : Nat → ClassId} {av : List Value} {ws0 : va_W} {Q : Option Value → va_W → Prop} (F : Nat) (tA : Nat) (t_tiesA : Nat) (t_tiesN : Nat)  (t_size : Int32) (t_ties : Nat → Int32) (R : (Int32) × (Nat → Int32)) (h : bX7_add_L32 F t_tiesN  t_size t_ties = some R) (hQ : Q none (wX7_add cy tA R.1 t_tiesA t_tiesN R.2)) : V l D cy MX7_add 0 0 0 av ws0 Q 32 [] [] (wX7_add cy tA t_size t_tiesA t_tiesN t_ties) 0 0 := by
  unfold bX7_add_L32 at h
  have e9 := Option.some.inj h; subst e9
  exact V.vret rfl dX7_add_32 (Nat.le_refl _) (Nat.le_refl _) hQ
noncomputable def fX7_add (F : Nat) (t_tiesN : Nat) (a1 : Int32) (t_size : Int32) (t_ties : Nat → Int32) : Option ((Int32) × (Nat → Int32)) :=
  if (Int32.ofNat t_tiesN) ≤ t_size then (bX7_add_L32 F t_tiesN t_size t_ties) else (if t_size < 0 ∨ t_tiesN ≤ t_size.toNatClampNeg then none else (bX7_add_L32 F t_tiesN (t_size + (1 : Int32)) (upd t_ties t_size.toNatClampNeg a1)))
theorem CX7_add {l : Launch} {D : va_G} {cy : Nat → ClassId} (F : Nat) (tA : Nat) (t_size : Int32) (t_tiesA : Nat) (t_tiesN : Nat) (t_ties : Nat → Int32) (a1 : Int32) (R : (Int32) × (Nat → Int32)) (h : fX7_add F t_tiesN a1 t_size t_ties = some R) : vMet l D cy MX7_add 0 0 0 [.ref tA, .int a1] (wX7_add cy tA t_size t_tiesA t_tiesN t_ties) (fun (r : Option Value) (w : va_W) => r = none ∧ w = (wX7_add cy tA R.1 t_tiesA t_tiesN R.2)) := by
  refine vMet.start (by decide +kernel) (Nat.le_of_ble_eq_true rfl) ?_
  generalize hQe : (fun (r : Option Value) (w : va_W) => r = none ∧ w = (wX7_add cy tA R.1 t_tiesA t_tiesN R.2)) = Q
  have hQ : Q none (wX7_add cy tA R.1 t_tiesA t_tiesN R.2) := by rw [← hQe]; exact ⟨rfl, rfl⟩
  show V l D cy MX7_add 0 0 0 _ _ Q 0 [(0, .ref tA), (1, .int a1)] [] _ 0 0
  show V l D cy MX7_add 0 0 0 [.ref tA, .int a1] _ Q 0 [(0, .ref tA), (1, .int a1)] [] (wX7_add cy tA t_size t_tiesA t_tiesN t_ties) 0 0
  unfold fX7_add at h
  refine V.aload_n dX7_add_0 rfl 0 rfl ?_
  refine V.get kfX7 0 rfl rfl 1 (by decide) klX7_15 rfl dX7_add_1 ?_
  refine V.aload_n dX7_add_4 rfl 0 rfl ?_
  refine V.get kfX7 0 rfl rfl 0 (by decide) klX7_9 rfl dX7_add_5 ?_
  refine V.alen (v := Int32.ofNat t_tiesN) (t0 := 1) dX7_add_8 1 rfl rfl rfl ?_
  refine V.icmp_ge (tgt := 32) dX7_add_9 (by decide) (fun hc9 => ?_) (fun hc9 => ?_)
  · replace h := (if_pos hc9).symm.trans h
    refine V.lvs [] rfl ?_
    exact vX7_add_L32 _ _ _ _   _ _ R h hQ
  · replace h := (if_neg hc9).symm.trans h
    refine V.aload_n dX7_add_12 rfl 0 rfl ?_
    refine V.get kfX7 0 rfl rfl 0 (by decide) klX7_9 rfl dX7_add_13 ?_
    refine V.aload_n dX7_add_16 rfl 0 rfl ?_
    refine V.get kfX7 0 rfl rfl 1 (by decide) klX7_15 rfl dX7_add_17 ?_
    refine V.iload_n dX7_add_20 rfl 1 rfl ?_
    by_cases hb21 : t_size < 0 ∨ t_tiesN ≤ t_size.toNatClampNeg
    · exact vNone ((if_pos hb21).symm.trans h)
    replace h := (if_neg hb21).symm.trans h
    refine V.iast (ws' := (wX7_add cy tA t_size t_tiesA t_tiesN (upd t_ties t_size.toNatClampNeg a1))) dX7_add_21 1 rfl hb21 rfl ?_
    refine V.aload_n dX7_add_22 rfl 0 rfl ?_
    refine V.dup dX7_add_23 rfl ?_
    refine V.get kfX7 0 rfl rfl 1 (by decide) klX7_15 rfl dX7_add_24 ?_
    refine V.iconst (v := (1 : Int32)) dX7_add_27 (by decide) ?_
    refine V.iadd dX7_add_28 ?_
    refine V.put (ws' := (wX7_add cy tA (t_size + (1 : Int32)) t_tiesA t_tiesN (upd t_ties t_size.toNatClampNeg a1))) kfX7 tyX7 tyX7_ok nmX7 0 rfl rfl 1 (by decide) klX7_15 rfl (tyX7_ok 1 (by decide)) rfl rfl (Nat.le_of_ble_eq_true rfl) dX7_add_29 rfl ?_
    refine V.lvs [] rfl ?_
    exact vX7_add_L32 _ _ _ _   _ _ R h hQ
theorem dX7_takeOut_0 : decode cX7_takeOut 0 = .ok (.iload_n 1, 1) := by decide +kernel
theorem dX7_takeOut_1 : decode cX7_takeOut 1 = .ok (.ifCond .lt 11, 3) := by decide +kernel
theorem dX7_takeOut_4 : decode cX7_takeOut 4 = .ok (.iload_n 1, 1) := by decide +kernel
theorem dX7_takeOut_5 : decode cX7_takeOut 5 = .ok (.aload_n 0, 1) := by decide +kernel
theorem dX7_takeOut_6 : decode cX7_takeOut 6 = .ok (.getfield 15, 3) := by decide +kernel
theorem dX7_takeOut_9 : decode cX7_takeOut 9 = .ok (.if_icmp .lt 4, 3) := by decide +kernel
theorem dX7_takeOut_12 : decode cX7_takeOut 12 = .ok (.return_, 1) := by decide +kernel
theorem dX7_takeOut_13 : decode cX7_takeOut 13 = .ok (.iload_n 1, 1) := by decide +kernel
theorem dX7_takeOut_14 : decode cX7_takeOut 14 = .ok (.istore_n 2, 1) := by decide +kernel
theorem dX7_takeOut_15 : decode cX7_takeOut 15 = .ok (.iload_n 2, 1) := by decide +kernel
theorem dX7_takeOut_16 : decode cX7_takeOut 16 = .ok (.iconst 1, 1) := by decide +kernel
theorem dX7_takeOut_17 : decode cX7_takeOut 17 = .ok (.iadd, 1) := by decide +kernel
theorem dX7_takeOut_18 : decode cX7_takeOut 18 = .ok (.aload_n 0, 1) := by decide +kernel
theorem dX7_takeOut_19 : decode cX7_takeOut 19 = .ok (.getfield 15, 3) := by decide +kernel
theorem dX7_takeOut_22 : decode cX7_takeOut 22 = .ok (.if_icmp .ge 23, 3) := by decide +kernel
theorem dX7_takeOut_25 : decode cX7_takeOut 25 = .ok (.aload_n 0, 1) := by decide +kernel
theorem dX7_takeOut_26 : decode cX7_takeOut 26 = .ok (.getfield 9, 3) := by decide +kernel
theorem dX7_takeOut_29 : decode cX7_takeOut 29 = .ok (.iload_n 2, 1) := by decide +kernel
theorem dX7_takeOut_30 : decode cX7_takeOut 30 = .ok (.aload_n 0, 1) := by decide +kernel
theorem dX7_takeOut_31 : decode cX7_takeOut 31 = .ok (.getfield 9, 3) := by decide +kernel
theorem dX7_takeOut_34 : decode cX7_takeOut 34 = .ok (.iload_n 2, 1) := by decide +kernel
theorem dX7_takeOut_35 : decode cX7_takeOut 35 = .ok (.iconst 1, 1) := by decide +kernel
theorem dX7_takeOut_36 : decode cX7_takeOut 36 = .ok (.iadd, 1) := by decide +kernel
theorem dX7_takeOut_37 : decode cX7_takeOut 37 = .ok (.iaload, 1) := by decide +kernel
theorem dX7_takeOut_38 : decode cX7_takeOut 38 = .ok (.iastore, 1) := by decide +kernel
theorem dX7_takeOut_39 : decode cX7_takeOut 39 = .ok (.iinc 2 1, 3) := by decide +kernel
theorem dX7_takeOut_42 : decode cX7_takeOut 42 = .ok (.goto (-27), 3) := by decide +kernel
theorem dX7_takeOut_45 : decode cX7_takeOut 45 = .ok (.aload_n 0, 1) := by decide +kernel
theorem dX7_takeOut_46 : decode cX7_takeOut 46 = .ok (.dup, 1) := by decide +kernel
theorem dX7_takeOut_47 : decode cX7_takeOut 47 = .ok (.getfield 15, 3) := by decide +kernel
theorem dX7_takeOut_50 : decode cX7_takeOut 50 = .ok (.iconst 1, 1) := by decide +kernel
theorem dX7_takeOut_51 : decode cX7_takeOut 51 = .ok (.isub, 1) := by decide +kernel
theorem dX7_takeOut_52 : decode cX7_takeOut 52 = .ok (.putfield 15, 3) := by decide +kernel
theorem dX7_takeOut_55 : decode cX7_takeOut 55 = .ok (.return_, 1) := by decide +kernel
def wX7_takeOut (cy : Nat → ClassId) (tA : Nat) (t_size : Int32) (t_tiesA : Nat) (t_tiesN : Nat) (t_ties : Nat → Int32) : va_W :=
  [(tA, .inr (7, [.ref t_tiesA, .int t_size])), (t_tiesA, .inl (cy 1, t_tiesN, .inl t_ties))]
noncomputable def bX7_takeOut_L15 (F : Nat) (t_tiesN : Nat) (k15 : Int32 → Int32 → (Nat → Int32) → Option ((Int32) × (Nat → Int32))) (x2 : Int32) (t_size : Int32) (t_ties : Nat → Int32) : Option ((Int32) × (Nat → Int32)) :=
  if t_size ≤ (x2 + (1 : Int32)) then (some (t_size - (1 : Int32), t_ties)) else (if (x2 + (1 : Int32)) < 0 ∨ t_tiesN ≤ (x2 + (1 : Int32)).toNatClampNeg then none else (if x2 < 0 ∨ t_tiesN ≤ x2.toNatClampNeg then none else (k15 (x2 + (1 : Int32)) t_size (upd t_ties x2.toNatClampNeg (t_ties (x2 + (1 : Int32)).toNatClampNeg)))))
theorem vbX7_takeOut_L15 {l : Launch} {D : va_G} {cy : Nat → ClassId} {av : List Value} {ws0 : va_W} {Q : Option Value → va_W → Prop} (F : Nat) (tA : Nat) (t_tiesA : Nat) (t_tiesN : Nat) (k15 : Int32 → Int32 → (Nat → Int32) → Option ((Int32) × (Nat → Int32))) (hk15 : ∀ (x2 : Int32) (t_size : Int32) (t_ties : Nat → Int32) (R : (Int32) × (Nat → Int32)), k15 x2 t_size t_ties = some R → Q none (wX7_takeOut cy tA R.1 t_tiesA t_tiesN R.2) → V l D cy MX7_takeOut 0 0 0 av ws0 Q 15 [(0, .ref tA), (2, .int x2)] [] (wX7_takeOut cy tA t_size t_tiesA t_tiesN t_ties) 0 0) (x2 : Int32) (t_size : Int32) (t_ties : Nat → Int32) (R : (Int32) × (Nat → Int32)) (h : bX7_takeOut_L15 F t_tiesN k15 x2 t_size t_ties = some R) (hQ : Q none (wX7_takeOut cy tA R.1 t_tiesA t_tiesN R.2)) : V l D cy MX7_takeOut 0 0 0 av ws0 Q 15 [(0, .ref tA), (2, .int x2)] [] (wX7_takeOut cy tA t_size t_tiesA t_tiesN t_ties) 0 0 := by
  unfold bX7_takeOut_L15 at h
  refine V.iload_n dX7_takeOut_15 rfl 1 rfl ?_
  refine V.iconst (v := (1 : Int32)) dX7_takeOut_16 (by decide) ?_
  refine V.iadd dX7_takeOut_17 ?_
  refine V.aload_n dX7_takeOut_18 rfl 0 rfl ?_
  refine V.get kfX7 0 rfl rfl 1 (by decide) klX7_15 rfl dX7_takeOut_19 ?_
  refine V.icmp_ge (tgt := 45) dX7_takeOut_22 (by decide) (fun hc22 => ?_) (fun hc22 => ?_)
  · replace h := (if_pos hc22).symm.trans h
    refine V.aload_n dX7_takeOut_45 rfl 0 rfl ?_
    refine V.dup dX7_takeOut_46 rfl ?_
    refine V.get kfX7 0 rfl rfl 1 (by decide) klX7_15 rfl dX7_takeOut_47 ?_
    refine V.iconst (v := (1 : Int32)) dX7_takeOut_50 (by decide) ?_
    refine V.isub dX7_takeOut_51 ?_
    refine V.put (ws' := (wX7_takeOut cy tA (t_size - (1 : Int32)) t_tiesA t_tiesN t_ties)) kfX7 tyX7 tyX7_ok nmX7 0 rfl rfl 1 (by decide) klX7_15 rfl (tyX7_ok 1 (by decide)) rfl rfl (Nat.le_of_ble_eq_true rfl) dX7_takeOut_52 rfl ?_
    have e9 := Option.some.inj h; subst e9
    exact V.vret rfl dX7_takeOut_55 (Nat.le_refl _) (Nat.le_refl _) hQ
  · replace h := (if_neg hc22).symm.trans h
    refine V.aload_n dX7_takeOut_25 rfl 0 rfl ?_
    refine V.get kfX7 0 rfl rfl 0 (by decide) klX7_9 rfl dX7_takeOut_26 ?_
    refine V.iload_n dX7_takeOut_29 rfl 1 rfl ?_
    refine V.aload_n dX7_takeOut_30 rfl 0 rfl ?_
    refine V.get kfX7 0 rfl rfl 0 (by decide) klX7_9 rfl dX7_takeOut_31 ?_
    refine V.iload_n dX7_takeOut_34 rfl 1 rfl ?_
    refine V.iconst (v := (1 : Int32)) dX7_takeOut_35 (by decide) ?_
    refine V.iadd dX7_takeOut_36 ?_
    by_cases hb37 : (x2 + (1 : Int32)) < 0 ∨ t_tiesN ≤ (x2 + (1 : Int32)).toNatClampNeg
    · exact vNone ((if_pos hb37).symm.trans h)
    replace h := (if_neg hb37).symm.trans h
    refine V.iald dX7_takeOut_37 1 rfl hb37 ?_
    by_cases hb38 : x2 < 0 ∨ t_tiesN ≤ x2.toNatClampNeg
    · exact vNone ((if_pos hb38).symm.trans h)
    replace h := (if_neg hb38).symm.trans h
    refine V.iast (ws' := (wX7_takeOut cy tA t_size t_tiesA t_tiesN (upd t_ties x2.toNatClampNeg (t_ties (x2 + (1 : Int32)).toNatClampNeg)))) dX7_takeOut_38 1 rfl hb38 rfl ?_
    refine V.iinc (v := x2 + (1 : Int32)) (lv' := [(2, .int (x2 + (1 : Int32))), (0, .ref tA)]) dX7_takeOut_39 1 rfl rfl (by decide) rfl ?_
    refine V.goto (tgt := 15) dX7_takeOut_42 (by decide) ?_
    refine V.lvs [1, 0] rfl ?_
    exact hk15 _ _ _ R h hQ
noncomputable def fX7_takeOut_L15 (F : Nat) (t_tiesN : Nat)  : Nat → Int32 → Int32 → (Nat → Int32) → Option ((Int32) × (Nat → Int32))
  | 0 => fun _ _ _ => none
  | n + 1 => bX7_takeOut_L15 F t_tiesN (fX7_takeOut_L15 F t_tiesN  n)
theorem vX7_takeOut_L15 {l : Launch} {D : va_G} {cy : Nat → ClassId} {av : List Value} {ws0 : va_W} {Q : Option Value → va_W → Prop} (F : Nat) (tA : Nat) (t_tiesA : Nat) (t_tiesN : Nat)  : ∀ (n : Nat) (x2 : Int32) (t_size : Int32) (t_ties : Nat → Int32) (R : (Int32) × (Nat → Int32)), fX7_takeOut_L15 F t_tiesN  n x2 t_size t_ties = some R → Q none (wX7_takeOut cy tA R.1 t_tiesA t_tiesN R.2) → V l D cy MX7_takeOut 0 0 0 av ws0 Q 15 [(0, .ref tA), (2, .int x2)] [] (wX7_takeOut cy tA t_size t_tiesA t_tiesN t_ties) 0 0 := by
  intro n
  induction n with
  | zero => intro x2 t_size t_ties R h; exact vNone h
  | succ n ih => intro x2 t_size t_ties R h hQ; exact vbX7_takeOut_L15 F tA t_tiesA t_tiesN _ ih x2 t_size t_ties R h hQ
noncomputable def bX7_takeOut_L12 (F : Nat) (t_tiesN : Nat)  (t_size : Int32) (t_ties : Nat → Int32) : Option ((Int32) × (Nat → Int32)) :=
  some (t_size, t_ties)
theorem vX7_takeOut_L12 {l : Launch} {D : va_G} {cy : Nat → ClassId} {av : List Value} {ws0 : va_W} {Q : Option Value → va_W → Prop} (F : Nat) (tA : Nat) (t_tiesA : Nat) (t_tiesN : Nat)  (t_size : Int32) (t_ties : Nat → Int32) (R : (Int32) × (Nat → Int32)) (h : bX7_takeOut_L12 F t_tiesN  t_size t_ties = some R) (hQ : Q none (wX7_takeOut cy tA R.1 t_tiesA t_tiesN R.2)) : V l D cy MX7_takeOut 0 0 0 av ws0 Q 12 [] [] (wX7_takeOut cy tA t_size t_tiesA t_tiesN t_ties) 0 0 := by
  unfold bX7_takeOut_L12 at h
  have e9 := Option.some.inj h; subst e9
  exact V.vret rfl dX7_takeOut_12 (Nat.le_refl _) (Nat.le_refl _) hQ
noncomputable def fX7_takeOut (F : Nat) (t_tiesN : Nat) (a1 : Int32) (t_size : Int32) (t_ties : Nat → Int32) : Option ((Int32) × (Nat → Int32)) :=
  if a1 < 0 then (bX7_takeOut_L12 F t_tiesN t_size t_ties) else (if a1 < t_size then (fX7_takeOut_L15 F t_tiesN F a1 t_size t_ties) else (bX7_takeOut_L12 F t_tiesN t_size t_ties))
theorem CX7_takeOut {l : Launch} {D : va_G} {cy : Nat → ClassId} (F : Nat) (tA : Nat) (t_size : Int32) (t_tiesA : Nat) (t_tiesN : Nat) (t_ties : Nat → Int32) (a1 : Int32) (R : (Int32) × (Nat → Int32)) (h : fX7_takeOut F t_tiesN a1 t_size t_ties = some R) : vMet l D cy MX7_takeOut 0 0 0 [.ref tA, .int a1] (wX7_takeOut cy tA t_size t_tiesA t_tiesN t_ties) (fun (r : Option Value) (w : va_W) => r = none ∧ w = (wX7_takeOut cy tA R.1 t_tiesA t_tiesN R.2)) := by
  refine vMet.start (by decide +kernel) (Nat.le_of_ble_eq_true rfl) ?_
  generalize hQe : (fun (r : Option Value) (w : va_W) => r = none ∧ w = (wX7_takeOut cy tA R.1 t_tiesA t_tiesN R.2)) = Q
  have hQ : Q none (wX7_takeOut cy tA R.1 t_tiesA t_tiesN R.2) := by rw [← hQe]; exact ⟨rfl, rfl⟩
  show V l D cy MX7_takeOut 0 0 0 _ _ Q 0 [(0, .ref tA), (1, .int a1)] [] _ 0 0
  show V l D cy MX7_takeOut 0 0 0 [.ref tA, .int a1] _ Q 0 [(0, .ref tA), (1, .int a1)] [] (wX7_takeOut cy tA t_size t_tiesA t_tiesN t_ties) 0 0
  unfold fX7_takeOut at h
  refine V.iload_n dX7_takeOut_0 rfl 1 rfl ?_
  refine V.if_lt (tgt := 12) dX7_takeOut_1 (by decide) (fun hc1 => ?_) (fun hc1 => ?_)
  · replace h := (if_pos hc1).symm.trans h
    refine V.lvs [] rfl ?_
    exact vX7_takeOut_L12 _ _ _ _   _ _ R h hQ
  · replace h := (if_neg hc1).symm.trans h
    refine V.iload_n dX7_takeOut_4 rfl 1 rfl ?_
    refine V.aload_n dX7_takeOut_5 rfl 0 rfl ?_
    refine V.get kfX7 0 rfl rfl 1 (by decide) klX7_15 rfl dX7_takeOut_6 ?_
    refine V.icmp_lt (tgt := 13) dX7_takeOut_9 (by decide) (fun hc9 => ?_) (fun hc9 => ?_)
    · replace h := (if_pos hc9).symm.trans h
      refine V.iload_n dX7_takeOut_13 rfl 1 rfl ?_
      refine V.istore_n (lv' := [(2, .int a1), (0, .ref tA), (1, .int a1)]) dX7_takeOut_14 rfl (by decide) rfl ?_
      refine V.lvs [1, 0] rfl ?_
      exact vX7_takeOut_L15 _ _ _ _  _ _ _ _ R h hQ
    · replace h := (if_neg hc9).symm.trans h
      refine V.lvs [] rfl ?_
      exact vX7_takeOut_L12 _ _ _ _   _ _ R h hQ
theorem dX7_copyFrom_0 : decode cX7_copyFrom 0 = .ok (.aload_n 0, 1) := by decide +kernel
theorem dX7_copyFrom_1 : decode cX7_copyFrom 1 = .ok (.aload_n 1, 1) := by decide +kernel
theorem dX7_copyFrom_2 : decode cX7_copyFrom 2 = .ok (.getfield 15, 3) := by decide +kernel
theorem dX7_copyFrom_5 : decode cX7_copyFrom 5 = .ok (.aload_n 0, 1) := by decide +kernel
theorem dX7_copyFrom_6 : decode cX7_copyFrom 6 = .ok (.getfield 9, 3) := by decide +kernel
theorem dX7_copyFrom_9 : decode cX7_copyFrom 9 = .ok (.arraylength, 1) := by decide +kernel
theorem dX7_copyFrom_10 : decode cX7_copyFrom 10 = .ok (.invokestatic 19, 3) := by decide +kernel
theorem dX7_copyFrom_13 : decode cX7_copyFrom 13 = .ok (.putfield 15, 3) := by decide +kernel
theorem dX7_copyFrom_16 : decode cX7_copyFrom 16 = .ok (.aload_n 1, 1) := by decide +kernel
theorem dX7_copyFrom_17 : decode cX7_copyFrom 17 = .ok (.getfield 9, 3) := by decide +kernel
theorem dX7_copyFrom_20 : decode cX7_copyFrom 20 = .ok (.iconst 0, 1) := by decide +kernel
theorem dX7_copyFrom_21 : decode cX7_copyFrom 21 = .ok (.aload_n 0, 1) := by decide +kernel
theorem dX7_copyFrom_22 : decode cX7_copyFrom 22 = .ok (.getfield 9, 3) := by decide +kernel
theorem dX7_copyFrom_25 : decode cX7_copyFrom 25 = .ok (.iconst 0, 1) := by decide +kernel
theorem dX7_copyFrom_26 : decode cX7_copyFrom 26 = .ok (.aload_n 0, 1) := by decide +kernel
theorem dX7_copyFrom_27 : decode cX7_copyFrom 27 = .ok (.getfield 15, 3) := by decide +kernel
theorem dX7_copyFrom_30 : decode cX7_copyFrom 30 = .ok (.invokestatic 25, 3) := by decide +kernel
theorem dX7_copyFrom_33 : decode cX7_copyFrom 33 = .ok (.return_, 1) := by decide +kernel
def wX7_copyFrom (cy : Nat → ClassId) (tA : Nat) (t_size : Int32) (t_tiesA : Nat) (t_tiesN : Nat) (t_ties : Nat → Int32) (p1A : Nat) (p1_size : Int32) (p1_tiesA : Nat) (p1_tiesN : Nat) (p1_ties : Nat → Int32) : va_W :=
  [(tA, .inr (7, [.ref t_tiesA, .int t_size])), (t_tiesA, .inl (cy 1, t_tiesN, .inl t_ties)), (p1A, .inr (7, [.ref p1_tiesA, .int p1_size])), (p1_tiesA, .inl (cy 1, p1_tiesN, .inl p1_ties))]
noncomputable def fX7_copyFrom (F : Nat) (t_tiesN : Nat) (p1_size : Int32) (p1_tiesN : Nat) (p1_ties : Nat → Int32) (t_size : Int32) (t_ties : Nat → Int32) : Option ((Int32) × (Nat → Int32)) :=
  if (0 : Int32) < 0 ∨ (0 : Int32) < 0 ∨ (if (Int32.ofNat t_tiesN) < p1_size then (Int32.ofNat t_tiesN) else p1_size) < 0 ∨ p1_tiesN < (0 : Int32).toNatClampNeg + (if (Int32.ofNat t_tiesN) < p1_size then (Int32.ofNat t_tiesN) else p1_size).toNatClampNeg ∨ t_tiesN < (0 : Int32).toNatClampNeg + (if (Int32.ofNat t_tiesN) < p1_size then (Int32.ofNat t_tiesN) else p1_size).toNatClampNeg then none else (some (if (Int32.ofNat t_tiesN) < p1_size then (Int32.ofNat t_tiesN) else p1_size, va_cpy p1_ties t_ties (0 : Int32).toNatClampNeg (0 : Int32).toNatClampNeg (if (Int32.ofNat t_tiesN) < p1_size then (Int32.ofNat t_tiesN) else p1_size).toNatClampNeg))
theorem CX7_copyFrom {l : Launch} {D : va_G} {cy : Nat → ClassId} (F : Nat) (tA : Nat) (t_size : Int32) (t_tiesA : Nat) (t_tiesN : Nat) (t_ties : Nat → Int32) (p1A : Nat) (p1_size : Int32) (p1_tiesA : Nat) (p1_tiesN : Nat) (p1_ties : Nat → Int32) (R : (Int32) × (Nat → Int32)) (h : fX7_copyFrom F t_tiesN p1_size p1_tiesN p1_ties t_size t_ties = some R) : vMet l D cy MX7_copyFrom 0 0 0 [.ref tA, .ref p1A] (wX7_copyFrom cy tA t_size t_tiesA t_tiesN t_ties p1A p1_size p1_tiesA p1_tiesN p1_ties) (fun (r : Option Value) (w : va_W) => r = none ∧ w = (wX7_copyFrom cy tA R.1 t_tiesA t_tiesN R.2 p1A p1_size p1_tiesA p1_tiesN p1_ties)) := by
  refine vMet.start (by decide +kernel) (Nat.le_of_ble_eq_true rfl) ?_
  generalize hQe : (fun (r : Option Value) (w : va_W) => r = none ∧ w = (wX7_copyFrom cy tA R.1 t_tiesA t_tiesN R.2 p1A p1_size p1_tiesA p1_tiesN p1_ties)) = Q
  have hQ : Q none (wX7_copyFrom cy tA R.1 t_tiesA t_tiesN R.2 p1A p1_size p1_tiesA p1_tiesN p1_ties) := by rw [← hQe]; exact ⟨rfl, rfl⟩
  show V l D cy MX7_copyFrom 0 0 0 _ _ Q 0 [(0, .ref tA), (1, .ref p1A)] [] _ 0 0
  show V l D cy MX7_copyFrom 0 0 0 [.ref tA, .ref p1A] _ Q 0 [(0, .ref tA), (1, .ref p1A)] [] (wX7_copyFrom cy tA t_size t_tiesA t_tiesN t_ties p1A p1_size p1_tiesA p1_tiesN p1_ties) 0 0
  unfold fX7_copyFrom at h
  refine V.aload_n dX7_copyFrom_0 rfl 0 rfl ?_
  refine V.aload_n dX7_copyFrom_1 rfl 1 rfl ?_
  refine V.get kfX7 2 rfl rfl 1 (by decide) klX7_15 rfl dX7_copyFrom_2 ?_
  refine V.aload_n dX7_copyFrom_5 rfl 0 rfl ?_
  refine V.get kfX7 0 rfl rfl 0 (by decide) klX7_9 rfl dX7_copyFrom_6 ?_
  refine V.alen (v := Int32.ofNat t_tiesN) (t0 := 1) dX7_copyFrom_9 1 rfl rfl rfl ?_
  refine V.mmin klX7_19 dX7_copyFrom_10 (Nat.le_of_ble_eq_true rfl) ⟨Nat.le_refl _, Nat.le_refl _⟩ ?_
  refine V.put (ws' := (wX7_copyFrom cy tA (if (Int32.ofNat t_tiesN) < p1_size then (Int32.ofNat t_tiesN) else p1_size) t_tiesA t_tiesN t_ties p1A p1_size p1_tiesA p1_tiesN p1_ties)) kfX7 tyX7 tyX7_ok nmX7 0 rfl rfl 1 (by decide) klX7_15 rfl (tyX7_ok 1 (by decide)) rfl rfl (Nat.le_of_ble_eq_true rfl) dX7_copyFrom_13 rfl ?_
  refine V.aload_n dX7_copyFrom_16 rfl 1 rfl ?_
  refine V.get kfX7 2 rfl rfl 0 (by decide) klX7_9 rfl dX7_copyFrom_17 ?_
  refine V.iconst (v := (0 : Int32)) dX7_copyFrom_20 (by decide) ?_
  refine V.aload_n dX7_copyFrom_21 rfl 0 rfl ?_
  refine V.get kfX7 0 rfl rfl 0 (by decide) klX7_9 rfl dX7_copyFrom_22 ?_
  refine V.iconst (v := (0 : Int32)) dX7_copyFrom_25 (by decide) ?_
  refine V.aload_n dX7_copyFrom_26 rfl 0 rfl ?_
  refine V.get kfX7 0 rfl rfl 1 (by decide) klX7_15 rfl dX7_copyFrom_27 ?_
  by_cases hb30 : (0 : Int32) < 0 ∨ (0 : Int32) < 0 ∨ (if (Int32.ofNat t_tiesN) < p1_size then (Int32.ofNat t_tiesN) else p1_size) < 0 ∨ p1_tiesN < (0 : Int32).toNatClampNeg + (if (Int32.ofNat t_tiesN) < p1_size then (Int32.ofNat t_tiesN) else p1_size).toNatClampNeg ∨ t_tiesN < (0 : Int32).toNatClampNeg + (if (Int32.ofNat t_tiesN) < p1_size then (Int32.ofNat t_tiesN) else p1_size).toNatClampNeg
  · exact vNone ((if_pos hb30).symm.trans h)
  replace h := (if_neg hb30).symm.trans h
  refine V.copyi (ws' := (wX7_copyFrom cy tA (if (Int32.ofNat t_tiesN) < p1_size then (Int32.ofNat t_tiesN) else p1_size) t_tiesA t_tiesN (va_cpy p1_ties t_ties (0 : Int32).toNatClampNeg (0 : Int32).toNatClampNeg (if (Int32.ofNat t_tiesN) < p1_size then (Int32.ofNat t_tiesN) else p1_size).toNatClampNeg) p1A p1_size p1_tiesA p1_tiesN p1_ties)) klX7_25 dX7_copyFrom_30 3 1 rfl rfl hb30 (Nat.le_of_ble_eq_true rfl) rfl ?_
  have e9 := Option.some.inj h; subst e9
  exact V.vret rfl dX7_copyFrom_33 (Nat.le_refl _) (Nat.le_refl _) hQ
theorem dX7_isLike_0 : decode cX7_isLike 0 = .ok (.aload_n 0, 1) := by decide +kernel
theorem dX7_isLike_1 : decode cX7_isLike 1 = .ok (.getfield 15, 3) := by decide +kernel
theorem dX7_isLike_4 : decode cX7_isLike 4 = .ok (.aload_n 1, 1) := by decide +kernel
theorem dX7_isLike_5 : decode cX7_isLike 5 = .ok (.getfield 15, 3) := by decide +kernel
theorem dX7_isLike_8 : decode cX7_isLike 8 = .ok (.if_icmp .eq 5, 3) := by decide +kernel
theorem dX7_isLike_11 : decode cX7_isLike 11 = .ok (.iconst 0, 1) := by decide +kernel
theorem dX7_isLike_12 : decode cX7_isLike 12 = .ok (.ireturn, 1) := by decide +kernel
theorem dX7_isLike_13 : decode cX7_isLike 13 = .ok (.iconst 0, 1) := by decide +kernel
theorem dX7_isLike_14 : decode cX7_isLike 14 = .ok (.istore_n 2, 1) := by decide +kernel
theorem dX7_isLike_15 : decode cX7_isLike 15 = .ok (.iload_n 2, 1) := by decide +kernel
theorem dX7_isLike_16 : decode cX7_isLike 16 = .ok (.aload_n 0, 1) := by decide +kernel
theorem dX7_isLike_17 : decode cX7_isLike 17 = .ok (.getfield 15, 3) := by decide +kernel
theorem dX7_isLike_20 : decode cX7_isLike 20 = .ok (.if_icmp .ge 26, 3) := by decide +kernel
theorem dX7_isLike_23 : decode cX7_isLike 23 = .ok (.aload_n 0, 1) := by decide +kernel
theorem dX7_isLike_24 : decode cX7_isLike 24 = .ok (.getfield 9, 3) := by decide +kernel
theorem dX7_isLike_27 : decode cX7_isLike 27 = .ok (.iload_n 2, 1) := by decide +kernel
theorem dX7_isLike_28 : decode cX7_isLike 28 = .ok (.iaload, 1) := by decide +kernel
theorem dX7_isLike_29 : decode cX7_isLike 29 = .ok (.aload_n 1, 1) := by decide +kernel
theorem dX7_isLike_30 : decode cX7_isLike 30 = .ok (.getfield 9, 3) := by decide +kernel
theorem dX7_isLike_33 : decode cX7_isLike 33 = .ok (.iload_n 2, 1) := by decide +kernel
theorem dX7_isLike_34 : decode cX7_isLike 34 = .ok (.iaload, 1) := by decide +kernel
theorem dX7_isLike_35 : decode cX7_isLike 35 = .ok (.if_icmp .eq 5, 3) := by decide +kernel
theorem dX7_isLike_38 : decode cX7_isLike 38 = .ok (.iconst 0, 1) := by decide +kernel
theorem dX7_isLike_39 : decode cX7_isLike 39 = .ok (.ireturn, 1) := by decide +kernel
theorem dX7_isLike_40 : decode cX7_isLike 40 = .ok (.iinc 2 1, 3) := by decide +kernel
theorem dX7_isLike_43 : decode cX7_isLike 43 = .ok (.goto (-28), 3) := by decide +kernel
theorem dX7_isLike_46 : decode cX7_isLike 46 = .ok (.iconst 1, 1) := by decide +kernel
theorem dX7_isLike_47 : decode cX7_isLike 47 = .ok (.ireturn, 1) := by decide +kernel
def wX7_isLike (cy : Nat → ClassId) (tA : Nat) (t_size : Int32) (t_tiesA : Nat) (t_tiesN : Nat) (t_ties : Nat → Int32) (p1A : Nat) (p1_size : Int32) (p1_tiesA : Nat) (p1_tiesN : Nat) (p1_ties : Nat → Int32) : va_W :=
  [(tA, .inr (7, [.ref t_tiesA, .int t_size])), (t_tiesA, .inl (cy 1, t_tiesN, .inl t_ties)), (p1A, .inr (7, [.ref p1_tiesA, .int p1_size])), (p1_tiesA, .inl (cy 1, p1_tiesN, .inl p1_ties))]
noncomputable def bX7_isLike_L15 (F : Nat) (t_size : Int32) (t_tiesN : Nat) (t_ties : Nat → Int32) (p1_size : Int32) (p1_tiesN : Nat) (p1_ties : Nat → Int32) (k15 : Int32 → Option (Int32)) (x2 : Int32) : Option (Int32) :=
  if t_size ≤ x2 then (some (1 : Int32)) else (if x2 < 0 ∨ t_tiesN ≤ x2.toNatClampNeg then none else (if x2 < 0 ∨ p1_tiesN ≤ x2.toNatClampNeg then none else (if (t_ties (x2).toNatClampNeg) = (p1_ties (x2).toNatClampNeg) then (k15 (x2 + (1 : Int32))) else (some (0 : Int32)))))
theorem vbX7_isLike_L15 {l : Launch} {D : va_G} {cy : Nat → ClassId} {av : List Value} {ws0 : va_W} {Q : Option Value → va_W → Prop} (F : Nat) (tA : Nat) (t_size : Int32) (t_tiesA : Nat) (t_tiesN : Nat) (t_ties : Nat → Int32) (p1A : Nat) (p1_size : Int32) (p1_tiesA : Nat) (p1_tiesN : Nat) (p1_ties : Nat → Int32) (k15 : Int32 → Option (Int32)) (hk15 : ∀ (x2 : Int32) (R : Int32), k15 x2 = some R → Q (some (.int R)) (wX7_isLike cy tA t_size t_tiesA t_tiesN t_ties p1A p1_size p1_tiesA p1_tiesN p1_ties) → V l D cy MX7_isLike 0 0 0 av ws0 Q 15 [(0, .ref tA), (1, .ref p1A), (2, .int x2)] [] (wX7_isLike cy tA t_size t_tiesA t_tiesN t_ties p1A p1_size p1_tiesA p1_tiesN p1_ties) 0 0) (x2 : Int32) (R : Int32) (h : bX7_isLike_L15 F t_size t_tiesN t_ties p1_size p1_tiesN p1_ties k15 x2 = some R) (hQ : Q (some (.int R)) (wX7_isLike cy tA t_size t_tiesA t_tiesN t_ties p1A p1_size p1_tiesA p1_tiesN p1_ties)) : V l D cy MX7_isLike 0 0 0 av ws0 Q 15 [(0, .ref tA), (1, .ref p1A), (2, .int x2)] [] (wX7_isLike cy tA t_size t_tiesA t_tiesN t_ties p1A p1_size p1_tiesA p1_tiesN p1_ties) 0 0 := by
  unfold bX7_isLike_L15 at h
  refine V.iload_n dX7_isLike_15 rfl 2 rfl ?_
  refine V.aload_n dX7_isLike_16 rfl 0 rfl ?_
  refine V.get kfX7 0 rfl rfl 1 (by decide) klX7_15 rfl dX7_isLike_17 ?_
  refine V.icmp_ge (tgt := 46) dX7_isLike_20 (by decide) (fun hc20 => ?_) (fun hc20 => ?_)
  · replace h := (if_pos hc20).symm.trans h
    refine V.iconst (v := (1 : Int32)) dX7_isLike_46 (by decide) ?_
    have e9 := Option.some.inj h; subst e9
    exact V.iret (ty := .boolean) rfl rfl dX7_isLike_47 (Nat.le_refl _) (Nat.le_refl _) hQ
  · replace h := (if_neg hc20).symm.trans h
    refine V.aload_n dX7_isLike_23 rfl 0 rfl ?_
    refine V.get kfX7 0 rfl rfl 0 (by decide) klX7_9 rfl dX7_isLike_24 ?_
    refine V.iload_n dX7_isLike_27 rfl 2 rfl ?_
    by_cases hb28 : x2 < 0 ∨ t_tiesN ≤ x2.toNatClampNeg
    · exact vNone ((if_pos hb28).symm.trans h)
    replace h := (if_neg hb28).symm.trans h
    refine V.iald dX7_isLike_28 1 rfl hb28 ?_
    refine V.aload_n dX7_isLike_29 rfl 1 rfl ?_
    refine V.get kfX7 2 rfl rfl 0 (by decide) klX7_9 rfl dX7_isLike_30 ?_
    refine V.iload_n dX7_isLike_33 rfl 2 rfl ?_
    by_cases hb34 : x2 < 0 ∨ p1_tiesN ≤ x2.toNatClampNeg
    · exact vNone ((if_pos hb34).symm.trans h)
    replace h := (if_neg hb34).symm.trans h
    refine V.iald dX7_isLike_34 3 rfl hb34 ?_
    refine V.icmp_eq (tgt := 40) dX7_isLike_35 (by decide) (fun hc35 => ?_) (fun hc35 => ?_)
    · replace h := (if_pos hc35).symm.trans h
      refine V.iinc (v := x2 + (1 : Int32)) (lv' := [(2, .int (x2 + (1 : Int32))), (0, .ref tA), (1, .ref p1A)]) dX7_isLike_40 2 rfl rfl (by decide) rfl ?_
      refine V.goto (tgt := 15) dX7_isLike_43 (by decide) ?_
      refine V.lvs [1, 2, 0] rfl ?_
      exact hk15 _ R h hQ
    · replace h := (if_neg hc35).symm.trans h
      refine V.iconst (v := (0 : Int32)) dX7_isLike_38 (by decide) ?_
      have e9 := Option.some.inj h; subst e9
      exact V.iret (ty := .boolean) rfl rfl dX7_isLike_39 (Nat.le_refl _) (Nat.le_refl _) hQ
noncomputable def fX7_isLike_L15 (F : Nat) (t_size : Int32) (t_tiesN : Nat) (t_ties : Nat → Int32) (p1_size : Int32) (p1_tiesN : Nat) (p1_ties : Nat → Int32)  : Nat → Int32 → Option (Int32)
  | 0 => fun _ => none
  | n + 1 => bX7_isLike_L15 F t_size t_tiesN t_ties p1_size p1_tiesN p1_ties (fX7_isLike_L15 F t_size t_tiesN t_ties p1_size p1_tiesN p1_ties  n)
theorem vX7_isLike_L15 {l : Launch} {D : va_G} {cy : Nat → ClassId} {av : List Value} {ws0 : va_W} {Q : Option Value → va_W → Prop} (F : Nat) (tA : Nat) (t_size : Int32) (t_tiesA : Nat) (t_tiesN : Nat) (t_ties : Nat → Int32) (p1A : Nat) (p1_size : Int32) (p1_tiesA : Nat) (p1_tiesN : Nat) (p1_ties : Nat → Int32)  : ∀ (n : Nat) (x2 : Int32) (R : Int32), fX7_isLike_L15 F t_size t_tiesN t_ties p1_size p1_tiesN p1_ties  n x2 = some R → Q (some (.int R)) (wX7_isLike cy tA t_size t_tiesA t_tiesN t_ties p1A p1_size p1_tiesA p1_tiesN p1_ties) → V l D cy MX7_isLike 0 0 0 av ws0 Q 15 [(0, .ref tA), (1, .ref p1A), (2, .int x2)] [] (wX7_isLike cy tA t_size t_tiesA t_tiesN t_ties p1A p1_size p1_tiesA p1_tiesN p1_ties) 0 0 := by
  intro n
  induction n with
  | zero => intro x2 R h; exact vNone h
  | succ n ih => intro x2 R h hQ; exact vbX7_isLike_L15 F tA t_size t_tiesA t_tiesN t_ties p1A p1_size p1_tiesA p1_tiesN p1_ties _ ih x2 R h hQ
noncomputable def fX7_isLike (F : Nat) (t_size : Int32) (t_tiesN : Nat) (t_ties : Nat → Int32) (p1_size : Int32) (p1_tiesN : Nat) (p1_ties : Nat → Int32) : Option (Int32) :=
  if t_size = p1_size then (fX7_isLike_L15 F t_size t_tiesN t_ties p1_size p1_tiesN p1_ties F (0 : Int32)) else (some (0 : Int32))
theorem CX7_isLike {l : Launch} {D : va_G} {cy : Nat → ClassId} (F : Nat) (tA : Nat) (t_size : Int32) (t_tiesA : Nat) (t_tiesN : Nat) (t_ties : Nat → Int32) (p1A : Nat) (p1_size : Int32) (p1_tiesA : Nat) (p1_tiesN : Nat) (p1_ties : Nat → Int32) (R : Int32) (h : fX7_isLike F t_size t_tiesN t_ties p1_size p1_tiesN p1_ties = some R) : vMet l D cy MX7_isLike 0 0 0 [.ref tA, .ref p1A] (wX7_isLike cy tA t_size t_tiesA t_tiesN t_ties p1A p1_size p1_tiesA p1_tiesN p1_ties) (fun (r : Option Value) (w : va_W) => r = (some (.int R)) ∧ w = (wX7_isLike cy tA t_size t_tiesA t_tiesN t_ties p1A p1_size p1_tiesA p1_tiesN p1_ties)) := by
  refine vMet.start (by decide +kernel) (Nat.le_of_ble_eq_true rfl) ?_
  generalize hQe : (fun (r : Option Value) (w : va_W) => r = (some (.int R)) ∧ w = (wX7_isLike cy tA t_size t_tiesA t_tiesN t_ties p1A p1_size p1_tiesA p1_tiesN p1_ties)) = Q
  have hQ : Q (some (.int R)) (wX7_isLike cy tA t_size t_tiesA t_tiesN t_ties p1A p1_size p1_tiesA p1_tiesN p1_ties) := by rw [← hQe]; exact ⟨rfl, rfl⟩
  show V l D cy MX7_isLike 0 0 0 _ _ Q 0 [(0, .ref tA), (1, .ref p1A)] [] _ 0 0
  show V l D cy MX7_isLike 0 0 0 [.ref tA, .ref p1A] _ Q 0 [(0, .ref tA), (1, .ref p1A)] [] (wX7_isLike cy tA t_size t_tiesA t_tiesN t_ties p1A p1_size p1_tiesA p1_tiesN p1_ties) 0 0
  unfold fX7_isLike at h
  refine V.aload_n dX7_isLike_0 rfl 0 rfl ?_
  refine V.get kfX7 0 rfl rfl 1 (by decide) klX7_15 rfl dX7_isLike_1 ?_
  refine V.aload_n dX7_isLike_4 rfl 1 rfl ?_
  refine V.get kfX7 2 rfl rfl 1 (by decide) klX7_15 rfl dX7_isLike_5 ?_
  refine V.icmp_eq (tgt := 13) dX7_isLike_8 (by decide) (fun hc8 => ?_) (fun hc8 => ?_)
  · replace h := (if_pos hc8).symm.trans h
    refine V.iconst (v := (0 : Int32)) dX7_isLike_13 (by decide) ?_
    refine V.istore_n (lv' := [(2, .int (0 : Int32)), (0, .ref tA), (1, .ref p1A)]) dX7_isLike_14 rfl (by decide) rfl ?_
    refine V.lvs [1, 2, 0] rfl ?_
    exact vX7_isLike_L15 _ _ _ _ _ _ _ _ _ _ _  _ _ R h hQ
  · replace h := (if_neg hc8).symm.trans h
    refine V.iconst (v := (0 : Int32)) dX7_isLike_11 (by decide) ?_
    have e9 := Option.some.inj h; subst e9
    exact V.iret (ty := .boolean) rfl rfl dX7_isLike_12 (Nat.le_refl _) (Nat.le_refl _) hQ
theorem dX7_folkBits_0 : decode cX7_folkBits 0 = .ok (.iconst 0, 1) := by decide +kernel
theorem dX7_folkBits_1 : decode cX7_folkBits 1 = .ok (.istore_n 1, 1) := by decide +kernel
theorem dX7_folkBits_2 : decode cX7_folkBits 2 = .ok (.iconst 0, 1) := by decide +kernel
theorem dX7_folkBits_3 : decode cX7_folkBits 3 = .ok (.istore_n 2, 1) := by decide +kernel
theorem dX7_folkBits_4 : decode cX7_folkBits 4 = .ok (.iload_n 2, 1) := by decide +kernel
theorem dX7_folkBits_5 : decode cX7_folkBits 5 = .ok (.aload_n 0, 1) := by decide +kernel
theorem dX7_folkBits_6 : decode cX7_folkBits 6 = .ok (.getfield 15, 3) := by decide +kernel
theorem dX7_folkBits_9 : decode cX7_folkBits 9 = .ok (.if_icmp .ge 23, 3) := by decide +kernel
theorem dX7_folkBits_12 : decode cX7_folkBits 12 = .ok (.iload_n 1, 1) := by decide +kernel
theorem dX7_folkBits_13 : decode cX7_folkBits 13 = .ok (.iconst 1, 1) := by decide +kernel
theorem dX7_folkBits_14 : decode cX7_folkBits 14 = .ok (.aload_n 0, 1) := by decide +kernel
theorem dX7_folkBits_15 : decode cX7_folkBits 15 = .ok (.getfield 9, 3) := by decide +kernel
theorem dX7_folkBits_18 : decode cX7_folkBits 18 = .ok (.iload_n 2, 1) := by decide +kernel
theorem dX7_folkBits_19 : decode cX7_folkBits 19 = .ok (.iaload, 1) := by decide +kernel
theorem dX7_folkBits_20 : decode cX7_folkBits 20 = .ok (.invokestatic 31, 3) := by decide +kernel
theorem dX7_folkBits_23 : decode cX7_folkBits 23 = .ok (.ishl, 1) := by decide +kernel
theorem dX7_folkBits_24 : decode cX7_folkBits 24 = .ok (.ior, 1) := by decide +kernel
theorem dX7_folkBits_25 : decode cX7_folkBits 25 = .ok (.istore_n 1, 1) := by decide +kernel
theorem dX7_folkBits_26 : decode cX7_folkBits 26 = .ok (.iinc 2 1, 3) := by decide +kernel
theorem dX7_folkBits_29 : decode cX7_folkBits 29 = .ok (.goto (-25), 3) := by decide +kernel
theorem dX7_folkBits_32 : decode cX7_folkBits 32 = .ok (.iload_n 1, 1) := by decide +kernel
theorem dX7_folkBits_33 : decode cX7_folkBits 33 = .ok (.ireturn, 1) := by decide +kernel
def wX7_folkBits (cy : Nat → ClassId) (tA : Nat) (t_size : Int32) (t_tiesA : Nat) (t_tiesN : Nat) (t_ties : Nat → Int32) : va_W :=
  [(tA, .inr (7, [.ref t_tiesA, .int t_size])), (t_tiesA, .inl (cy 1, t_tiesN, .inl t_ties))]
noncomputable def bX7_folkBits_L4 (F : Nat) (t_size : Int32) (t_tiesN : Nat) (t_ties : Nat → Int32) (k4 : Int32 → Int32 → Option (Int32)) (x1 : Int32) (x2 : Int32) : Option (Int32) :=
  if t_size ≤ x2 then (some x1) else (if x2 < 0 ∨ t_tiesN ≤ x2.toNatClampNeg then none else ((fX7_folkOf F (t_ties (x2).toNatClampNeg)).bind fun R20 => (k4 (x1 ||| ((1 : Int32) <<< (R20 &&& 31))) (x2 + (1 : Int32)))))
theorem vbX7_folkBits_L4 {l : Launch} {D : va_G} {cy : Nat → ClassId} {av : List Value} {ws0 : va_W} {Q : Option Value → va_W → Prop} (F : Nat) (tA : Nat) (t_size : Int32) (t_tiesA : Nat) (t_tiesN : Nat) (t_ties : Nat → Int32) (k4 : Int32 → Int32 → Option (Int32)) (hk4 : ∀ (x1 : Int32) (x2 : Int32) (R : Int32), k4 x1 x2 = some R → Q (some (.int R)) (wX7_folkBits cy tA t_size t_tiesA t_tiesN t_ties) → V l D cy MX7_folkBits 1 0 0 av ws0 Q 4 [(0, .ref tA), (1, .int x1), (2, .int x2)] [] (wX7_folkBits cy tA t_size t_tiesA t_tiesN t_ties) 0 0) (x1 : Int32) (x2 : Int32) (R : Int32) (h : bX7_folkBits_L4 F t_size t_tiesN t_ties k4 x1 x2 = some R) (hQ : Q (some (.int R)) (wX7_folkBits cy tA t_size t_tiesA t_tiesN t_ties)) : V l D cy MX7_folkBits 1 0 0 av ws0 Q 4 [(0, .ref tA), (1, .int x1), (2, .int x2)] [] (wX7_folkBits cy tA t_size t_tiesA t_tiesN t_ties) 0 0 := by
  unfold bX7_folkBits_L4 at h
  refine V.iload_n dX7_folkBits_4 rfl 2 rfl ?_
  refine V.aload_n dX7_folkBits_5 rfl 0 rfl ?_
  refine V.get kfX7 0 rfl rfl 1 (by decide) klX7_15 rfl dX7_folkBits_6 ?_
  refine V.icmp_ge (tgt := 32) dX7_folkBits_9 (by decide) (fun hc9 => ?_) (fun hc9 => ?_)
  · replace h := (if_pos hc9).symm.trans h
    refine V.iload_n dX7_folkBits_32 rfl 1 rfl ?_
    have e9 := Option.some.inj h; subst e9
    exact V.iret (ty := .int) rfl rfl dX7_folkBits_33 (Nat.le_refl _) (Nat.le_refl _) hQ
  · replace h := (if_neg hc9).symm.trans h
    refine V.iload_n dX7_folkBits_12 rfl 1 rfl ?_
    refine V.iconst (v := (1 : Int32)) dX7_folkBits_13 (by decide) ?_
    refine V.aload_n dX7_folkBits_14 rfl 0 rfl ?_
    refine V.get kfX7 0 rfl rfl 0 (by decide) klX7_9 rfl dX7_folkBits_15 ?_
    refine V.iload_n dX7_folkBits_18 rfl 2 rfl ?_
    by_cases hb19 : x2 < 0 ∨ t_tiesN ≤ x2.toNatClampNeg
    · exact vNone ((if_pos hb19).symm.trans h)
    replace h := (if_neg hb19).symm.trans h
    refine V.iald dX7_folkBits_19 1 rfl hb19 ?_
    obtain ⟨R20, hg20, h⟩ := Option.bind_eq_some_iff.mp h
    refine V.callS (As := [.int (t_ties (x2).toNatClampNeg)]) (rest := [.int (1 : Int32), .int x1]) (wc := (wX7_folkOf cy )) (wr := [(tA, .inr (7, [.ref t_tiesA, .int t_size])), (t_tiesA, .inl (cy 1, t_tiesN, .inl t_ties))]) (CX7_folkOf F (t_ties (x2).toNatClampNeg) R20 hg20) kvX7_folkOf klX7_31 [] [0, 1] rfl rfl (by decide) (by decide) (by decide) rfl dX7_folkBits_20 ⟨by decide, by decide, by decide, by decide⟩ (Nat.le_of_ble_eq_true rfl) (fun r w1 hq => ?_)
    obtain ⟨rfl, rfl⟩ := hq
    refine V.cells (ws' := (wX7_folkBits cy tA t_size t_tiesA t_tiesN t_ties)) [0, 1] (by decide) rfl ?_
    show V l D cy MX7_folkBits 1 0 0 _ _ _ 23 [(0, .ref tA), (1, .int x1), (2, .int x2)] [.int R20, .int (1 : Int32), .int x1] (wX7_folkBits cy tA t_size t_tiesA t_tiesN t_ties) 0 0
    refine V.ishl dX7_folkBits_23 ?_
    refine V.ior dX7_folkBits_24 ?_
    refine V.istore_n (lv' := [(1, .int (x1 ||| ((1 : Int32) <<< (R20 &&& 31)))), (0, .ref tA), (2, .int x2)]) dX7_folkBits_25 rfl (by decide) rfl ?_
    refine V.iinc (v := x2 + (1 : Int32)) (lv' := [(2, .int (x2 + (1 : Int32))), (1, .int (x1 ||| ((1 : Int32) <<< (R20 &&& 31)))), (0, .ref tA)]) dX7_folkBits_26 2 rfl rfl (by decide) rfl ?_
    refine V.goto (tgt := 4) dX7_folkBits_29 (by decide) ?_
    refine V.lvs [2, 1, 0] rfl ?_
    exact hk4 _ _ R h hQ
noncomputable def fX7_folkBits_L4 (F : Nat) (t_size : Int32) (t_tiesN : Nat) (t_ties : Nat → Int32)  : Nat → Int32 → Int32 → Option (Int32)
  | 0 => fun _ _ => none
  | n + 1 => bX7_folkBits_L4 F t_size t_tiesN t_ties (fX7_folkBits_L4 F t_size t_tiesN t_ties  n)
theorem vX7_folkBits_L4 {l : Launch} {D : va_G} {cy : Nat → ClassId} {av : List Value} {ws0 : va_W} {Q : Option Value → va_W → Prop} (F : Nat) (tA : Nat) (t_size : Int32) (t_tiesA : Nat) (t_tiesN : Nat) (t_ties : Nat → Int32)  : ∀ (n : Nat) (x1 : Int32) (x2 : Int32) (R : Int32), fX7_folkBits_L4 F t_size t_tiesN t_ties  n x1 x2 = some R → Q (some (.int R)) (wX7_folkBits cy tA t_size t_tiesA t_tiesN t_ties) → V l D cy MX7_folkBits 1 0 0 av ws0 Q 4 [(0, .ref tA), (1, .int x1), (2, .int x2)] [] (wX7_folkBits cy tA t_size t_tiesA t_tiesN t_ties) 0 0 := by
  intro n
  induction n with
  | zero => intro x1 x2 R h; exact vNone h
  | succ n ih => intro x1 x2 R h hQ; exact vbX7_folkBits_L4 F tA t_size t_tiesA t_tiesN t_ties _ ih x1 x2 R h hQ
noncomputable def fX7_folkBits (F : Nat) (t_size : Int32) (t_tiesN : Nat) (t_ties : Nat → Int32) : Option (Int32) :=
  fX7_folkBits_L4 F t_size t_tiesN t_ties F (0 : Int32) (0 : Int32)
theorem CX7_folkBits {l : Launch} {D : va_G} {cy : Nat → ClassId} (F : Nat) (tA : Nat) (t_size : Int32) (t_tiesA : Nat) (t_tiesN : Nat) (t_ties : Nat → Int32) (R : Int32) (h : fX7_folkBits F t_size t_tiesN t_ties = some R) : vMet l D cy MX7_folkBits 1 0 0 [.ref tA] (wX7_folkBits cy tA t_size t_tiesA t_tiesN t_ties) (fun (r : Option Value) (w : va_W) => r = (some (.int R)) ∧ w = (wX7_folkBits cy tA t_size t_tiesA t_tiesN t_ties)) := by
  refine vMet.start (by decide +kernel) (Nat.le_of_ble_eq_true rfl) ?_
  generalize hQe : (fun (r : Option Value) (w : va_W) => r = (some (.int R)) ∧ w = (wX7_folkBits cy tA t_size t_tiesA t_tiesN t_ties)) = Q
  have hQ : Q (some (.int R)) (wX7_folkBits cy tA t_size t_tiesA t_tiesN t_ties) := by rw [← hQe]; exact ⟨rfl, rfl⟩
  show V l D cy MX7_folkBits 1 0 0 _ _ Q 0 [(0, .ref tA)] [] _ 0 0
  show V l D cy MX7_folkBits 1 0 0 [.ref tA] _ Q 0 [(0, .ref tA)] [] (wX7_folkBits cy tA t_size t_tiesA t_tiesN t_ties) 0 0
  unfold fX7_folkBits at h
  refine V.iconst (v := (0 : Int32)) dX7_folkBits_0 (by decide) ?_
  refine V.istore_n (lv' := [(1, .int (0 : Int32)), (0, .ref tA)]) dX7_folkBits_1 rfl (by decide) rfl ?_
  refine V.iconst (v := (0 : Int32)) dX7_folkBits_2 (by decide) ?_
  refine V.istore_n (lv' := [(2, .int (0 : Int32)), (1, .int (0 : Int32)), (0, .ref tA)]) dX7_folkBits_3 rfl (by decide) rfl ?_
  refine V.lvs [2, 1, 0] rfl ?_
  exact vX7_folkBits_L4 _ _ _ _ _ _  _ _ _ R h hQ
