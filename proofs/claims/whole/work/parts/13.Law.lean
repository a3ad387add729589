theorem dX1_isTold_0 : decode cX1_isTold 0 = .ok (.aload_n 0, 1) := by decide +kernel
theorem dX1_isTold_1 : decode cX1_isTold 1 = .ok (.getfield 21, 3) := by decide +kernel
theorem dX1_isTold_4 : decode cX1_isTold 4 = .ok (.ifCond .le 7, 3) := by decide +kernel
theorem dX1_isTold_7 : decode cX1_isTold 7 = .ok (.iconst 1, 1) := by decide +kernel
theorem dX1_isTold_8 : decode cX1_isTold 8 = .ok (.goto 4, 3) := by decide +kernel
theorem dX1_isTold_11 : decode cX1_isTold 11 = .ok (.iconst 0, 1) := by decide +kernel
theorem dX1_isTold_12 : decode cX1_isTold 12 = .ok (.ireturn, 1) := by decide +kernel
def wX1_isTold (cy : Nat → ClassId) (tA : Nat) (t_codeV : Value) (t_size : Int32) (t_waitingV : Value) (t_waits : Int32) (t_within : Int32) (t_brackets : Int32) (t_partIsDue : Int32) (t_stackV : Value) : va_W :=
  [(tA, .inr (1, [t_codeV, .int t_size, t_waitingV, .int t_waits, .int t_within, .int t_brackets, .int t_partIsDue, t_stackV]))]
noncomputable def bX1_isTold_L12 (F : Nat) (t_size : Int32)  (s0 : Int32) : Option (Int32) :=
  if s0 = 0 ∨ s0 = 1 then some s0 else none
theorem vX1_isTold_L12 {l : Launch} {D : va_G} {cy : Nat → ClassId} {av : List Value} {ws0 : va_W} {Q : Option Value → va_W → Prop} (F : Nat) (tA : Nat) (t_codeV : Value) (t_size : Int32) (t_waitingV : Value) (t_waits : Int32) (t_within : Int32) (t_brackets : Int32) (t_partIsDue : Int32) (t_stackV : Value)  (s0 : Int32) (R : Int32) (h : bX1_isTold_L12 F t_size  s0 = some R) (hQ : Q (some (.int R)) (wX1_isTold cy tA t_codeV t_size t_waitingV t_waits t_within t_brackets t_partIsDue t_stackV)) : V l D cy MX1_isTold 0 0 0 av ws0 Q 12 [] [.int s0] (wX1_isTold cy tA t_codeV t_size t_waitingV t_waits t_within t_brackets t_partIsDue t_stackV) 0 0 := by
  unfold bX1_isTold_L12 at h
  by_cases hz12 : s0 = 0 ∨ s0 = 1
  case neg => exact vNone ((if_neg hz12).symm.trans h)
  replace h := (if_pos hz12).symm.trans h
  have e9 := Option.some.inj h; subst e9
  exact V.iret (ty := .boolean) rfl (vBool hz12).1 dX1_isTold_12 (Nat.le_refl _) (Nat.le_refl _) hQ
noncomputable def fX1_isTold (F : Nat) (t_size : Int32) : Option (Int32) :=
  if t_size ≤ 0 then (bX1_isTold_L12 F t_size (0 : Int32)) else (bX1_isTold_L12 F t_size (1 : Int32))
theorem CX1_isTold {l : Launch} {D : va_G} {cy : Nat → ClassId} (F : Nat) (tA : Nat) (t_codeV : Value) (t_size : Int32) (t_waitingV : Value) (t_waits : Int32) (t_within : Int32) (t_brackets : Int32) (t_partIsDue : Int32) (t_stackV : Value) (R : Int32) (h : fX1_isTold F t_size = some R) : vMet l D cy MX1_isTold 0 0 0 [.ref tA] (wX1_isTold cy tA t_codeV t_size t_waitingV t_waits t_within t_brackets t_partIsDue t_stackV) (fun (r : Option Value) (w : va_W) => r = (some (.int R)) ∧ w = (wX1_isTold cy tA t_codeV t_size t_waitingV t_waits t_within t_brackets t_partIsDue t_stackV)) := by
  refine vMet.start (by decide +kernel) (Nat.le_of_ble_eq_true rfl) ?_
  generalize hQe : (fun (r : Option Value) (w : va_W) => r = (some (.int R)) ∧ w = (wX1_isTold cy tA t_codeV t_size t_waitingV t_waits t_within t_brackets t_partIsDue t_stackV)) = Q
  have hQ : Q (some (.int R)) (wX1_isTold cy tA t_codeV t_size t_waitingV t_waits t_within t_brackets t_partIsDue t_stackV) := by rw [← hQe]; exact ⟨rfl, rfl⟩
  show V l D cy MX1_isTold 0 0 0 _ _ Q 0 [(0, .ref tA)] [] _ 0 0
  show V l D cy MX1_isTold 0 0 0 [.ref tA] _ Q 0 [(0, .ref tA)] [] (wX1_isTold cy tA t_codeV t_size t_waitingV t_waits t_within t_brackets t_partIsDue t_stackV) 0 0
  unfold fX1_isTold at h
  refine V.aload_n dX1_isTold_0 rfl 0 rfl ?_
  refine V.get kfX1 0 rfl rfl 1 (by decide) klX1_21 rfl dX1_isTold_1 ?_
  refine V.if_le (tgt := 11) dX1_isTold_4 (by decide) (fun hc4 => ?_) (fun hc4 => ?_)
  · replace h := (if_pos hc4).symm.trans h
    refine V.iconst (v := (0 : Int32)) dX1_isTold_11 (by decide) ?_
    refine V.lvs [] rfl ?_
    exact vX1_isTold_L12 _ _ _ _ _ _ _ _ _ _   _ R h hQ
  · replace h := (if_neg hc4).symm.trans h
    refine V.iconst (v := (1 : Int32)) dX1_isTold_7 (by decide) ?_
    refine V.goto (tgt := 12) dX1_isTold_8 (by decide) ?_
    refine V.lvs [] rfl ?_
    exact vX1_isTold_L12 _ _ _ _ _ _ _ _ _ _   _ R h hQ
theorem dX1_clear_0 : decode cX1_clear 0 = .ok (.aload_n 0, 1) := by decide +kernel
theorem dX1_clear_1 : decode cX1_clear 1 = .ok (.iconst 0, 1) := by decide +kernel
theorem dX1_clear_2 : decode cX1_clear 2 = .ok (.putfield 21, 3) := by decide +kernel
theorem dX1_clear_5 : decode cX1_clear 5 = .ok (.aload_n 0, 1) := by decide +kernel
theorem dX1_clear_6 : decode cX1_clear 6 = .ok (.iconst 0, 1) := by decide +kernel
theorem dX1_clear_7 : decode cX1_clear 7 = .ok (.putfield 25, 3) := by decide +kernel
theorem dX1_clear_10 : decode cX1_clear 10 = .ok (.aload_n 0, 1) := by decide +kernel
theorem dX1_clear_11 : decode cX1_clear 11 = .ok (.iconst 0, 1) := by decide +kernel
theorem dX1_clear_12 : decode cX1_clear 12 = .ok (.putfield 28, 3) := by decide +kernel
theorem dX1_clear_15 : decode cX1_clear 15 = .ok (.aload_n 0, 1) := by decide +kernel
theorem dX1_clear_16 : decode cX1_clear 16 = .ok (.iconst 0, 1) := by decide +kernel
theorem dX1_clear_17 : decode cX1_clear 17 = .ok (.putfield 31, 3) := by decide +kernel
theorem dX1_clear_20 : decode cX1_clear 20 = .ok (.aload_n 0, 1) := by decide +kernel
theorem dX1_clear_21 : decode cX1_clear 21 = .ok (.iconst 1, 1) := by decide +kernel
theorem dX1_clear_22 : decode cX1_clear 22 = .ok (.putfield 34, 3) := by decide +kernel
theorem dX1_clear_25 : decode cX1_clear 25 = .ok (.return_, 1) := by decide +kernel
def wX1_clear (cy : Nat → ClassId) (tA : Nat) (t_codeV : Value) (t_size : Int32) (t_waitingV : Value) (t_waits : Int32) (t_within : Int32) (t_brackets : Int32) (t_partIsDue : Int32) (t_stackV : Value) : va_W :=
  [(tA, .inr (1, [t_codeV, .int t_size, t_waitingV, .int t_waits, .int t_within, .int t_brackets, .int t_partIsDue, t_stackV]))]
noncomputable def fX1_clear (F : Nat) (t_size : Int32) (t_waits : Int32) (t_within : Int32) (t_brackets : Int32) (t_partIsDue : Int32) : Option ((Int32) × (Int32) × (Int32) × (Int32) × (Int32)) :=
  some ((0 : Int32), (0 : Int32), (0 : Int32), (0 : Int32), (1 : Int32))
theorem CX1_clear {l : Launch} {D : va_G} {cy : Nat → ClassId} (F : Nat) (tA : Nat) (t_codeV : Value) (t_size : Int32) (t_waitingV : Value) (t_waits : Int32) (t_within : Int32) (t_brackets : Int32) (t_partIsDue : Int32) (t_stackV : Value) (R : (Int32) × (Int32) × (Int32) × (Int32) × (Int32)) (h : fX1_clear F t_size t_waits t_within t_brackets t_partIsDue = some R) : vMet l D cy MX1_clear 0 0 0 [.ref tA] (wX1_clear cy tA t_codeV t_size t_waitingV t_waits t_within t_brackets t_partIsDue t_stackV) (fun (r : Option Value) (w : va_W) => r = none ∧ w = (wX1_clear cy tA t_codeV R.1 t_waitingV R.2.1 R.2.2.1 R.2.2.2.1 R.2.2.2.2 t_stackV)) := by
  refine vMet.start (by decide +kernel) (Nat.le_of_ble_eq_true rfl) ?_
  generalize hQe : (fun (r : Option Value) (w : va_W) => r = none ∧ w = (wX1_clear cy tA t_codeV R.1 t_waitingV R.2.1 R.2.2.1 R.2.2.2.1 R.2.2.2.2 t_stackV)) = Q
  have hQ : Q none (wX1_clear cy tA t_codeV R.1 t_waitingV R.2.1 R.2.2.1 R.2.2.2.1 R.2.2.2.2 t_stackV) := by rw [← hQe]; exact ⟨rfl, rfl⟩
  show V l D cy MX1_clear 0 0 0 _ _ Q 0 [(0, .ref tA)] [] _ 0 0
  show V l D cy MX1_clear 0 0 0 [.ref tA] _ Q 0 [(0, .ref tA)] [] (wX1_clear cy tA t_codeV t_size t_waitingV t_waits t_within t_brackets t_partIsDue t_stackV) 0 0
  unfold fX1_clear at h
  refine V.aload_n dX1_clear_0 rfl 0 rfl ?_
  refine V.iconst (v := (0 : Int32)) dX1_clear_1 (by decide) ?_
  refine V.put (ws' := (wX1_clear cy tA t_codeV (0 : Int32) t_waitingV t_waits t_within t_brackets t_partIsDue t_stackV)) kfX1 tyX1 tyX1_ok nmX1 0 rfl rfl 1 (by decide) klX1_21 rfl (tyX1_ok 1 (by decide)) rfl rfl (Nat.le_of_ble_eq_true rfl) dX1_clear_2 rfl ?_
  refine V.aload_n dX1_clear_5 rfl 0 rfl ?_
  refine V.iconst (v := (0 : Int32)) dX1_clear_6 (by decide) ?_
  refine V.put (ws' := (wX1_clear cy tA t_codeV (0 : Int32) t_waitingV (0 : Int32) t_within t_brackets t_partIsDue t_stackV)) kfX1 tyX1 tyX1_ok nmX1 0 rfl rfl 3 (by decide) klX1_25 rfl (tyX1_ok 3 (by decide)) rfl rfl (Nat.le_of_ble_eq_true rfl) dX1_clear_7 rfl ?_
  refine V.aload_n dX1_clear_10 rfl 0 rfl ?_
  refine V.iconst (v := (0 : Int32)) dX1_clear_11 (by decide) ?_
  refine V.put (ws' := (wX1_clear cy tA t_codeV (0 : Int32) t_waitingV (0 : Int32) (0 : Int32) t_brackets t_partIsDue t_stackV)) kfX1 tyX1 tyX1_ok nmX1 0 rfl rfl 4 (by decide) klX1_28 rfl (tyX1_ok 4 (by decide)) rfl rfl (Nat.le_of_ble_eq_true rfl) dX1_clear_12 rfl ?_
  refine V.aload_n dX1_clear_15 rfl 0 rfl ?_
  refine V.iconst (v := (0 : Int32)) dX1_clear_16 (by decide) ?_
  refine V.put (ws' := (wX1_clear cy tA t_codeV (0 : Int32) t_waitingV (0 : Int32) (0 : Int32) (0 : Int32) t_partIsDue t_stackV)) kfX1 tyX1 tyX1_ok nmX1 0 rfl rfl 5 (by decide) klX1_31 rfl (tyX1_ok 5 (by decide)) rfl rfl (Nat.le_of_ble_eq_true rfl) dX1_clear_17 rfl ?_
  refine V.aload_n dX1_clear_20 rfl 0 rfl ?_
  refine V.iconst (v := (1 : Int32)) dX1_clear_21 (by decide) ?_
  refine V.put (ws' := (wX1_clear cy tA t_codeV (0 : Int32) t_waitingV (0 : Int32) (0 : Int32) (0 : Int32) (1 : Int32) t_stackV)) kfX1 tyX1 tyX1_ok nmX1 0 rfl rfl 6 (by decide) klX1_34 rfl (tyX1_ok 6 (by decide)) rfl rfl (Nat.le_of_ble_eq_true rfl) dX1_clear_22 rfl ?_
  have e9 := Option.some.inj h; subst e9
  exact V.vret rfl dX1_clear_25 (Nat.le_refl _) (Nat.le_refl _) hQ
theorem dX1_last_0 : decode cX1_last 0 = .ok (.aload_n 0, 1) := by decide +kernel
theorem dX1_last_1 : decode cX1_last 1 = .ok (.getfield 25, 3) := by decide +kernel
theorem dX1_last_4 : decode cX1_last 4 = .ok (.ifCond .le 26, 3) := by decide +kernel
theorem dX1_last_7 : decode cX1_last 7 = .ok (.aload_n 0, 1) := by decide +kernel
theorem dX1_last_8 : decode cX1_last 8 = .ok (.getfield 25, 3) := by decide +kernel
theorem dX1_last_11 : decode cX1_last 11 = .ok (.bipush 64, 2) := by decide +kernel
theorem dX1_last_13 : decode cX1_last 13 = .ok (.if_icmp .gt 17, 3) := by decide +kernel
theorem dX1_last_16 : decode cX1_last 16 = .ok (.aload_n 0, 1) := by decide +kernel
theorem dX1_last_17 : decode cX1_last 17 = .ok (.getfield 15, 3) := by decide +kernel
theorem dX1_last_20 : decode cX1_last 20 = .ok (.aload_n 0, 1) := by decide +kernel
theorem dX1_last_21 : decode cX1_last 21 = .ok (.getfield 25, 3) := by decide +kernel
theorem dX1_last_24 : decode cX1_last 24 = .ok (.iconst 1, 1) := by decide +kernel
theorem dX1_last_25 : decode cX1_last 25 = .ok (.isub, 1) := by decide +kernel
theorem dX1_last_26 : decode cX1_last 26 = .ok (.iaload, 1) := by decide +kernel
theorem dX1_last_27 : decode cX1_last 27 = .ok (.goto 5, 3) := by decide +kernel
theorem dX1_last_30 : decode cX1_last 30 = .ok (.bipush 22, 2) := by decide +kernel
theorem dX1_last_32 : decode cX1_last 32 = .ok (.ireturn, 1) := by decide +kernel
def wX1_last (cy : Nat → ClassId) (tA : Nat) (t_codeV : Value) (t_size : Int32) (t_waits : Int32) (t_within : Int32) (t_brackets : Int32) (t_partIsDue : Int32) (t_stackV : Value) (t_waitingA : Nat) (t_waitingN : Nat) (t_waiting : Nat → Int32) : va_W :=
  [(tA, .inr (1, [t_codeV, .int t_size, .ref t_waitingA, .int t_waits, .int t_within, .int t_brackets, .int t_partIsDue, t_stackV])), (t_waitingA, .inl (cy 1, t_waitingN, .inl t_waiting))]
noncomputable def bX1_last_L32 (F : Nat) (t_waits : Int32) (t_waitingN : Nat) (t_waiting : Nat → Int32)  (s0 : Int32) : Option (Int32) :=
  some s0
theorem vX1_last_L32 {l : Launch} {D : va_G} {cy : Nat → ClassId} {av : List Value} {ws0 : va_W} {Q : Option Value → va_W → Prop} (F : Nat) (tA : Nat) (t_codeV : Value) (t_size : Int32) (t_waits : Int32) (t_within : Int32) (t_brackets : Int32) (t_partIsDue : Int32) (t_stackV : Value) (t_waitingA : Nat) (t_waitingN : Nat) (t_waiting : Nat → Int32)  (s0 : Int32) (R : Int32) (h : bX1_last_L32 F t_waits t_waitingN t_waiting  s0 = some R) (hQ : Q (some (.int R)) (wX1_last cy tA t_codeV t_size t_waits t_within t_brackets t_partIsDue t_stackV t_waitingA t_waitingN t_waiting)) : V l D cy MX1_last 0 0 0 av ws0 Q 32 [] [.int s0] (wX1_last cy tA t_codeV t_size t_waits t_within t_brackets t_partIsDue t_stackV t_waitingA t_waitingN t_waiting) 0 0 := by
  unfold bX1_last_L32 at h
  have e9 := Option.some.inj h; subst e9
  exact V.iret (ty := .int) rfl rfl dX1_last_32 (Nat.le_refl _) (Nat.le_refl _) hQ
noncomputable def bX1_last_L30 (F : Nat) (t_waits : Int32) (t_waitingN : Nat) (t_waiting : Nat → Int32)   : Option (Int32) :=
  bX1_last_L32 F t_waits t_waitingN t_waiting (22 : Int32)
theorem vX1_last_L30 {l : Launch} {D : va_G} {cy : Nat → ClassId} {av : List Value} {ws0 : va_W} {Q : Option Value → va_W → Prop} (F : Nat) (tA : Nat) (t_codeV : Value) (t_size : Int32) (t_waits : Int32) (t_within : Int32) (t_brackets : Int32) (t_partIsDue : Int32) (t_stackV : Value) (t_waitingA : Nat) (t_waitingN : Nat) (t_waiting : Nat → Int32)   (R : Int32) (h : bX1_last_L30 F t_waits t_waitingN t_waiting   = some R) (hQ : Q (some (.int R)) (wX1_last cy tA t_codeV t_size t_waits t_within t_brackets t_partIsDue t_stackV t_waitingA t_waitingN t_waiting)) : V l D cy MX1_last 0 0 0 av ws0 Q 30 [] [] (wX1_last cy tA t_codeV t_size t_waits t_within t_brackets t_partIsDue t_stackV t_waitingA t_waitingN t_waiting) 0 0 := by
  unfold bX1_last_L30 at h
  refine V.bipush (v := (22 : Int32)) dX1_last_30 (by decide) ?_
  exact vX1_last_L32 _ _ _ _ _ _ _ _ _ _ _ _   _ R h hQ
noncomputable def fX1_last (F : Nat) (t_waits : Int32) (t_waitingN : Nat) (t_waiting : Nat → Int32) : Option (Int32) :=
  if t_waits ≤ 0 then (bX1_last_L30 F t_waits t_waitingN t_waiting) else (if (64 : Int32) < t_waits then (bX1_last_L30 F t_waits t_waitingN t_waiting) else (if (t_waits - (1 : Int32)) < 0 ∨ t_waitingN ≤ (t_waits - (1 : Int32)).toNatClampNeg then none else (bX1_last_L32 F t_waits t_waitingN t_waiting (t_waiting (t_waits - (1 : Int32)).toNatClampNeg))))
theorem CX1_last {l : Launch} {D : va_G} {cy : Nat → ClassId} (F : Nat) (tA : Nat) (t_codeV : Value) (t_size : Int32) (t_waits : Int32) (t_within : Int32) (t_brackets : Int32) (t_partIsDue : Int32) (t_stackV : Value) (t_waitingA : Nat) (t_waitingN : Nat) (t_waiting : Nat → Int32) (R : Int32) (h : fX1_last F t_waits t_waitingN t_waiting = some R) : vMet l D cy MX1_last 0 0 0 [.ref tA] (wX1_last cy tA t_codeV t_size t_waits t_within t_brackets t_partIsDue t_stackV t_waitingA t_waitingN t_waiting) (fun (r : Option Value) (w : va_W) => r = (some (.int R)) ∧ w = (wX1_last cy tA t_codeV t_size t_waits t_within t_brackets t_partIsDue t_stackV t_waitingA t_waitingN t_waiting)) := by
  refine vMet.start (by decide +kernel) (Nat.le_of_ble_eq_true rfl) ?_
  generalize hQe : (fun (r : Option Value) (w : va_W) => r = (some (.int R)) ∧ w = (wX1_last cy tA t_codeV t_size t_waits t_within t_brackets t_partIsDue t_stackV t_waitingA t_waitingN t_waiting)) = Q
  have hQ : Q (some (.int R)) (wX1_last cy tA t_codeV t_size t_waits t_within t_brackets t_partIsDue t_stackV t_waitingA t_waitingN t_waiting) := by rw [← hQe]; exact ⟨rfl, rfl⟩
  show V l D cy MX1_last 0 0 0 _ _ Q 0 [(0, .ref tA)] [] _ 0 0
  show V l D cy MX1_last 0 0 0 [.ref tA] _ Q 0 [(0, .ref tA)] [] (wX1_last cy tA t_codeV t_size t_waits t_within t_brackets t_partIsDue t_stackV t_waitingA t_waitingN t_waiting) 0 0
  unfold fX1_last at h
  refine V.aload_n dX1_last_0 rfl 0 rfl ?_
  refine V.get kfX1 0 rfl rfl 3 (by decide) klX1_25 rfl dX1_last_1 ?_
  refine V.if_le (tgt := 30) dX1_last_4 (by decide) (fun hc4 => ?_) (fun hc4 => ?_)
  · replace h := (if_pos hc4).symm.trans h
    refine V.lvs [] rfl ?_
    exact vX1_last_L30 _ _ _ _ _ _ _ _ _ _ _ _    R h hQ
  · replace h := (if_neg hc4).symm.trans h
    refine V.aload_n dX1_last_7 rfl 0 rfl ?_
    refine V.get kfX1 0 rfl rfl 3 (by decide) klX1_25 rfl dX1_last_8 ?_
    refine V.bipush (v := (64 : Int32)) dX1_last_11 (by decide) ?_
    refine V.icmp_gt (tgt := 30) dX1_last_13 (by decide) (fun hc13 => ?_) (fun hc13 => ?_)
    · replace h := (if_pos hc13).symm.trans h
      refine V.lvs [] rfl ?_
      exact vX1_last_L30 _ _ _ _ _ _ _ _ _ _ _ _    R h hQ
    · replace h := (if_neg hc13).symm.trans h
      refine V.aload_n dX1_last_16 rfl 0 rfl ?_
      refine V.get kfX1 0 rfl rfl 2 (by decide) klX1_15 rfl dX1_last_17 ?_
      refine V.aload_n dX1_last_20 rfl 0 rfl ?_
      refine V.get kfX1 0 rfl rfl 3 (by decide) klX1_25 rfl dX1_last_21 ?_
      refine V.iconst (v := (1 : Int32)) dX1_last_24 (by decide) ?_
      refine V.isub dX1_last_25 ?_
      by_cases hb26 : (t_waits - (1 : Int32)) < 0 ∨ t_waitingN ≤ (t_waits - (1 : Int32)).toNatClampNeg
      · exact vNone ((if_pos hb26).symm.trans h)
      replace h := (if_neg hb26).symm.trans h
      refine V.iald dX1_last_26 1 rfl hb26 ?_
      refine V.goto (tgt := 32) dX1_last_27 (by decide) ?_
      refine V.lvs [] rfl ?_
      exact vX1_last_L32 _ _ _ _ _ _ _ _ _ _ _ _   _ R h hQ
theorem dX1_await_0 : decode cX1_await 0 = .ok (.aload_n 0, 1) := by decide +kernel
theorem dX1_await_1 : decode cX1_await 1 = .ok (.getfield 25, 3) := by decide +kernel
theorem dX1_await_4 : decode cX1_await 4 = .ok (.ifCond .lt 32, 3) := by decide +kernel
theorem dX1_await_7 : decode cX1_await 7 = .ok (.aload_n 0, 1) := by decide +kernel
theorem dX1_await_8 : decode cX1_await 8 = .ok (.getfield 25, 3) := by decide +kernel
theorem dX1_await_11 : decode cX1_await 11 = .ok (.bipush 64, 2) := by decide +kernel
theorem dX1_await_13 : decode cX1_await 13 = .ok (.if_icmp .ge 23, 3) := by decide +kernel
theorem dX1_await_16 : decode cX1_await 16 = .ok (.aload_n 0, 1) := by decide +kernel
theorem dX1_await_17 : decode cX1_await 17 = .ok (.getfield 15, 3) := by decide +kernel
theorem dX1_await_20 : decode cX1_await 20 = .ok (.aload_n 0, 1) := by decide +kernel
theorem dX1_await_21 : decode cX1_await 21 = .ok (.getfield 25, 3) := by decide +kernel
theorem dX1_await_24 : decode cX1_await 24 = .ok (.iload_n 1, 1) := by decide +kernel
theorem dX1_await_25 : decode cX1_await 25 = .ok (.iastore, 1) := by decide +kernel
theorem dX1_await_26 : decode cX1_await 26 = .ok (.aload_n 0, 1) := by decide +kernel
theorem dX1_await_27 : decode cX1_await 27 = .ok (.dup, 1) := by decide +kernel
theorem dX1_await_28 : decode cX1_await 28 = .ok (.getfield 25, 3) := by decide +kernel
theorem dX1_await_31 : decode cX1_await 31 = .ok (.iconst 1, 1) := by decide +kernel
theorem dX1_await_32 : decode cX1_await 32 = .ok (.iadd, 1) := by decide +kernel
theorem dX1_await_33 : decode cX1_await 33 = .ok (.putfield 25, 3) := by decide +kernel
theorem dX1_await_36 : decode cX1_await 36 = .ok (.return_, 1) := by decide +kernel
def wX1_await (cy : Nat → ClassId) (tA : Nat) (t_codeV : Value) (t_size : Int32) (t_waits : Int32) (t_within : Int32) (t_brackets : Int32) (t_partIsDue : Int32) (t_stackV : Value) (t_waitingA : Nat) (t_waitingN : Nat) (t_waiting : Nat → Int32) : va_W :=
  [(tA, .inr (1, [t_codeV, .int t_size, .ref t_waitingA, .int t_waits, .int t_within, .int t_brackets, .int t_partIsDue, t_stackV])), (t_waitingA, .inl (cy 1, t_waitingN, .inl t_waiting))]
noncomputable def bX1_await_L36 (F : Nat) (t_waitingN : Nat)  (t_waits : Int32) (t_waiting : Nat → Int32) : Option ((Int32) × (Nat → Int32)) :=
  some (t_waits, t_waiting)
theorem vX1_await_L36 {l : Launch} {D : va_G} {cy : Nat → ClassId} {av : List Value} {ws0 : va_W} {Q : Option Value → va_W → Prop} (F : Nat) (tA : Nat) (t_codeV : Value) (t_size : Int32) (t_within : Int32) (t_brackets : Int32) (t_partIsDue : Int32) (t_stackV : Value) (t_waitingA : Nat) (t_waitingN : Nat)  (t_waits : Int32) (t_waiting : Nat → Int32) (R : (Int32) × (Nat → Int32)) (h : bX1_await_L36 F t_waitingN  t_waits t_waiting = some R) (hQ : Q none (wX1_await cy tA t_codeV t_size R.1 t_within t_brackets t_partIsDue t_stackV t_waitingA t_waitingN R.2)) : V l D cy MX1_await 0 0 0 av ws0 Q 36 [] [] (wX1_await cy tA t_codeV t_size t_waits t_within t_brackets t_partIsDue t_stackV t_waitingA t_waitingN t_waiting) 0 0 := by
  unfold bX1_await_L36 at h
  have e9 := Option.some.inj h; subst e9
  exact V.vret rfl dX1_await_36 (Nat.le_refl _) (Nat.le_refl _) hQ
noncomputable def fX1_await (F : Nat) (t_waitingN : Nat) (a1 : Int32) (t_waits : Int32) (t_waiting : Nat → Int32) : Option ((Int32) × (Nat → Int32)) :=
  if t_waits < 0 then (bX1_await_L36 F t_waitingN t_waits t_waiting) else (if (64 : Int32) ≤ t_waits then (bX1_await_L36 F t_waitingN t_waits t_waiting) else (if t_waits < 0 ∨ t_waitingN ≤ t_waits.toNatClampNeg then none else (bX1_await_L36 F t_waitingN (t_waits + (1 : Int32)) (upd t_waiting t_waits.toNatClampNeg a1))))
theorem CX1_await {l : Launch} {D : va_G} {cy : Nat → ClassId} (F : Nat) (tA : Nat) (t_codeV : Value) (t_size : Int32) (t_waits : Int32) (t_within : Int32) (t_brackets : Int32) (t_partIsDue : Int32) (t_stackV : Value) (t_waitingA : Nat) (t_waitingN : Nat) (t_waiting : Nat → Int32) (a1 : Int32) (R : (Int32) × (Nat → Int32)) (h : fX1_await F t_waitingN a1 t_waits t_waiting = some R) : vMet l D cy MX1_await 0 0 0 [.ref tA, .int a1] (wX1_await cy tA t_codeV t_size t_waits t_within t_brackets t_partIsDue t_stackV t_waitingA t_waitingN t_waiting) (fun (r : Option Value) (w : va_W) => r = none ∧ w = (wX1_await cy tA t_codeV t_size R.1 t_within t_brackets t_partIsDue t_stackV t_waitingA t_waitingN R.2)) := by
  refine vMet.start (by decide +kernel) (Nat.le_of_ble_eq_true rfl) ?_
  generalize hQe : (fun (r : Option Value) (w : va_W) => r = none ∧ w = (wX1_await cy tA t_codeV t_size R.1 t_within t_brackets t_partIsDue t_stackV t_waitingA t_waitingN R.2)) = Q
  have hQ : Q none (wX1_await cy tA t_codeV t_size R.1 t_within t_brackets t_partIsDue t_stackV t_waitingA t_waitingN R.2) := by rw [← hQe]; exact ⟨rfl, rfl⟩
  show V l D cy MX1_await 0 0 0 _ _ Q 0 [(0, .ref tA), (1, .int a1)] [] _ 0 0
  show V l D cy MX1_await 0 0 0 [.ref tA, .int a1] _ Q 0 [(0, .ref tA), (1, .int a1)] [] (wX1_await cy tA t_codeV t_size t_waits t_within t_brackets t_partIsDue t_stackV t_waitingA t_waitingN t_waiting) 0 0
  unfold fX1_await at h
  refine V.aload_n dX1_await_0 rfl 0 rfl ?_
  refine V.get kfX1 0 rfl rfl 3 (by decide) klX1_25 rfl dX1_await_1 ?_
  refine V.if_lt (tgt := 36) dX1_await_4 (by decide) (fun hc4 => ?_) (fun hc4 => ?_)
  · replace h := (if_pos hc4).symm.trans h
    refine V.lvs [] rfl ?_
    exact vX1_await_L36 _ _ _ _ _ _ _ _ _ _   _ _ R h hQ
  · replace h := (if_neg hc4).symm.trans h
    refine V.aload_n dX1_await_7 rfl 0 rfl ?_
    refine V.get kfX1 0 rfl rfl 3 (by decide) klX1_25 rfl dX1_await_8 ?_
    refine V.bipush (v := (64 : Int32)) dX1_await_11 (by decide) ?_
    refine V.icmp_ge (tgt := 36) dX1_await_13 (by decide) (fun hc13 => ?_) (fun hc13 => ?_)
    · replace h := (if_pos hc13).symm.trans h
      refine V.lvs [] rfl ?_
      exact vX1_await_L36 _ _ _ _ _ _ _ _ _ _   _ _ R h hQ
    · replace h := (if_neg hc13).symm.trans h
      refine V.aload_n dX1_await_16 rfl 0 rfl ?_
      refine V.get kfX1 0 rfl rfl 2 (by decide) klX1_15 rfl dX1_await_17 ?_
      refine V.aload_n dX1_await_20 rfl 0 rfl ?_
      refine V.get kfX1 0 rfl rfl 3 (by decide) klX1_25 rfl dX1_await_21 ?_
      refine V.iload_n dX1_await_24 rfl 1 rfl ?_
      by_cases hb25 : t_waits < 0 ∨ t_waitingN ≤ t_waits.toNatClampNeg
      · exact vNone ((if_pos hb25).symm.trans h)
      replace h := (if_neg hb25).symm.trans h
      refine V.iast (ws' := (wX1_await cy tA t_codeV t_size t_waits t_within t_brackets t_partIsDue t_stackV t_waitingA t_waitingN (upd t_waiting t_waits.toNatClampNeg a1))) dX1_await_25 1 rfl hb25 rfl ?_
      refine V.aload_n dX1_await_26 rfl 0 rfl ?_
      refine V.dup dX1_await_27 rfl ?_
      refine V.get kfX1 0 rfl rfl 3 (by decide) klX1_25 rfl dX1_await_28 ?_
      refine V.iconst (v := (1 : Int32)) dX1_await_31 (by decide) ?_
      refine V.iadd dX1_await_32 ?_
      refine V.put (ws' := (wX1_await cy tA t_codeV t_size (t_waits + (1 : Int32)) t_within t_brackets t_partIsDue t_stackV t_waitingA t_waitingN (upd t_waiting t_waits.toNatClampNeg a1))) kfX1 tyX1 tyX1_ok nmX1 0 rfl rfl 3 (by decide) klX1_25 rfl (tyX1_ok 3 (by decide)) rfl rfl (Nat.le_of_ble_eq_true rfl) dX1_await_33 rfl ?_
      refine V.lvs [] rfl ?_
      exact vX1_await_L36 _ _ _ _ _ _ _ _ _ _   _ _ R h hQ
theorem dX1_put_0 : decode cX1_put 0 = .ok (.aload_n 0, 1) := by decide +kernel
theorem dX1_put_1 : decode cX1_put 1 = .ok (.getfield 21, 3) := by decide +kernel
theorem dX1_put_4 : decode cX1_put 4 = .ok (.sipush 1000, 3) := by decide +kernel
theorem dX1_put_7 : decode cX1_put 7 = .ok (.if_icmp .ge 23, 3) := by decide +kernel
theorem dX1_put_10 : decode cX1_put 10 = .ok (.aload_n 0, 1) := by decide +kernel
theorem dX1_put_11 : decode cX1_put 11 = .ok (.getfield 9, 3) := by decide +kernel
theorem dX1_put_14 : decode cX1_put 14 = .ok (.aload_n 0, 1) := by decide +kernel
theorem dX1_put_15 : decode cX1_put 15 = .ok (.getfield 21, 3) := by decide +kernel
theorem dX1_put_18 : decode cX1_put 18 = .ok (.iload_n 1, 1) := by decide +kernel
theorem dX1_put_19 : decode cX1_put 19 = .ok (.iastore, 1) := by decide +kernel
theorem dX1_put_20 : decode cX1_put 20 = .ok (.aload_n 0, 1) := by decide +kernel
theorem dX1_put_21 : decode cX1_put 21 = .ok (.dup, 1) := by decide +kernel
theorem dX1_put_22 : decode cX1_put 22 = .ok (.getfield 21, 3) := by decide +kernel
theorem dX1_put_25 : decode cX1_put 25 = .ok (.iconst 1, 1) := by decide +kernel
theorem dX1_put_26 : decode cX1_put 26 = .ok (.iadd, 1) := by decide +kernel
theorem dX1_put_27 : decode cX1_put 27 = .ok (.putfield 21, 3) := by decide +kernel
theorem dX1_put_30 : decode cX1_put 30 = .ok (.return_, 1) := by decide +kernel
def wX1_put (cy : Nat → ClassId) (tA : Nat) (t_size : Int32) (t_waitingV : Value) (t_waits : Int32) (t_within : Int32) (t_brackets : Int32) (t_partIsDue : Int32) (t_stackV : Value) (t_codeA : Nat) (t_codeN : Nat) (t_code : Nat → Int32) : va_W :=
  [(tA, .inr (1, [.ref t_codeA, .int t_size, t_waitingV, .int t_waits, .int t_within, .int t_brackets, .int t_partIsDue, t_stackV])), (t_codeA, .inl (cy 1, t_codeN, .inl t_code))]
noncomputable def bX1_put_L30 (F : Nat) (t_codeN : Nat)  (t_size : Int32) (t_code : Nat → Int32) : Option ((Int32) × (Nat → Int32)) :=
  some (t_size, t_code)
theorem vX1_put_L30 {l : Launch} {D : va_G} {cy : Nat → ClassId} {av : List Value} {ws0 : va_W} {Q : Option Value → va_W → Prop} (F : Nat) (tA : Nat) (t_waitingV : Value) (t_waits : Int32) (t_within : Int32) (t_brackets : Int32) (t_partIsDue : Int32) (t_stackV : Value) (t_codeA : Nat) (t_codeN : Nat)  (t_size : Int32) (t_code : Nat → Int32) (R : (Int32) × (Nat → Int32)) (h : bX1_put_L30 F t_codeN  t_size t_code = some R) (hQ : Q none (wX1_put cy tA R.1 t_waitingV t_waits t_within t_brackets t_partIsDue t_stackV t_codeA t_codeN R.2)) : V l D cy MX1_put 0 0 0 av ws0 Q 30 [] [] (wX1_put cy tA t_size t_waitingV t_waits t_within t_brackets t_partIsDue t_stackV t_codeA t_codeN t_code) 0 0 := by
  unfold bX1_put_L30 at h
  have e9 := Option.some.inj h; subst e9
  exact V.vret rfl dX1_put_30 (Nat.le_refl _) (Nat.le_refl _) hQ
noncomputable def fX1_put (F : Nat) (t_codeN : Nat) (a1 : Int32) (t_size : Int32) (t_code : Nat → Int32) : Option ((Int32) × (Nat → Int32)) :=
  if (1000 : Int32) ≤ t_size then (bX1_put_L30 F t_codeN t_size t_code) else (if t_size < 0 ∨ t_codeN ≤ t_size.toNatClampNeg then none else (bX1_put_L30 F t_codeN (t_size + (1 : Int32)) (upd t_code t_size.toNatClampNeg a1)))
theorem CX1_put {l : Launch} {D : va_G} {cy : Nat → ClassId} (F : Nat) (tA : Nat) (t_size : Int32) (t_waitingV : Value) (t_waits : Int32) (t_within : Int32) (t_brackets : Int32) (t_partIsDue : Int32) (t_stackV : Value) (t_codeA : Nat) (t_codeN : Nat) (t_code : Nat → Int32) (a1 : Int32) (R : (Int32) × (Nat → Int32)) (h : fX1_put F t_codeN a1 t_size t_code = some R) : vMet l D cy MX1_put 0 0 0 [.ref tA, .int a1] (wX1_put cy tA t_size t_waitingV t_waits t_within t_brackets t_partIsDue t_stackV t_codeA t_codeN t_code) (fun (r : Option Value) (w : va_W) => r = none ∧ w = (wX1_put cy tA R.1 t_waitingV t_waits t_within t_brackets t_partIsDue t_stackV t_codeA t_codeN R.2)) := by
  refine vMet.start (by decide +kernel) (Nat.le_of_ble_eq_true rfl) ?_
  generalize hQe : (fun (r : Option Value) (w : va_W) => r = none ∧ w = (wX1_put cy tA R.1 t_waitingV t_waits t_within t_brackets t_partIsDue t_stackV t_codeA t_codeN R.2)) = Q
  have hQ : Q none (wX1_put cy tA R.1 t_waitingV t_waits t_within t_brackets t_partIsDue t_stackV t_codeA t_codeN R.2) := by rw [← hQe]; exact ⟨rfl, rfl⟩
  show V l D cy MX1_put 0 0 0 _ _ Q 0 [(0, .ref tA), (1, .int a1)] [] _ 0 0
  show V l D cy MX1_put 0 0 0 [.ref tA, .int a1] _ Q 0 [(0, .ref tA), (1, .int a1)] [] (wX1_put cy tA t_size t_waitingV t_waits t_within t_brackets t_partIsDue t_stackV t_codeA t_codeN t_code) 0 0
  unfold fX1_put at h
  refine V.aload_n dX1_put_0 rfl 0 rfl ?_
  refine V.get kfX1 0 rfl rfl 1 (by decide) klX1_21 rfl dX1_put_1 ?_
  refine V.sipush (v := (1000 : Int32)) dX1_put_4 (by decide) ?_
  refine V.icmp_ge (tgt := 30) dX1_put_7 (by decide) (fun hc7 => ?_) (fun hc7 => ?_)
  · replace h := (if_pos hc7).symm.trans h
    refine V.lvs [] rfl ?_
    exact vX1_put_L30 _ _ _ _ _ _ _ _ _ _   _ _ R h hQ
  · replace h := (if_neg hc7).symm.trans h
    refine V.aload_n dX1_put_10 rfl 0 rfl ?_
    refine V.get kfX1 0 rfl rfl 0 (by decide) klX1_9 rfl dX1_put_11 ?_
    refine V.aload_n dX1_put_14 rfl 0 rfl ?_
    refine V.get kfX1 0 rfl rfl 1 (by decide) klX1_21 rfl dX1_put_15 ?_
    refine V.iload_n dX1_put_18 rfl 1 rfl ?_
    by_cases hb19 : t_size < 0 ∨ t_codeN ≤ t_size.toNatClampNeg
    · exact vNone ((if_pos hb19).symm.trans h)
    replace h := (if_neg hb19).symm.trans h
    refine V.iast (ws' := (wX1_put cy tA t_size t_waitingV t_waits t_within t_brackets t_partIsDue t_stackV t_codeA t_codeN (upd t_code t_size.toNatClampNeg a1))) dX1_put_19 1 rfl hb19 rfl ?_
    refine V.aload_n dX1_put_20 rfl 0 rfl ?_
    refine V.dup dX1_put_21 rfl ?_
    refine V.get kfX1 0 rfl rfl 1 (by decide) klX1_21 rfl dX1_put_22 ?_
    refine V.iconst (v := (1 : Int32)) dX1_put_25 (by decide) ?_
    refine V.iadd dX1_put_26 ?_
    refine V.put (ws' := (wX1_put cy tA (t_size + (1 : Int32)) t_waitingV t_waits t_within t_brackets t_partIsDue t_stackV t_codeA t_codeN (upd t_code t_size.toNatClampNeg a1))) kfX1 tyX1 tyX1_ok nmX1 0 rfl rfl 1 (by decide) klX1_21 rfl (tyX1_ok 1 (by decide)) rfl rfl (Nat.le_of_ble_eq_true rfl) dX1_put_27 rfl ?_
    refine V.lvs [] rfl ?_
    exact vX1_put_L30 _ _ _ _ _ _ _ _ _ _   _ _ R h hQ
theorem dX1_rankOf_0 : decode cX1_rankOf 0 = .ok (.iload_n 0, 1) := by decide +kernel
theorem dX1_rankOf_1 : decode cX1_rankOf 1 = .ok (.lookupswitch 75 #[(14, 67), (15, 67), (42, 73), (43, 71), (45, 71), (60, 69), (61, 69)], 67) := by decide +kernel
theorem dX1_rankOf_68 : decode cX1_rankOf 68 = .ok (.iconst 1, 1) := by decide +kernel
theorem dX1_rankOf_69 : decode cX1_rankOf 69 = .ok (.ireturn, 1) := by decide +kernel
theorem dX1_rankOf_70 : decode cX1_rankOf 70 = .ok (.iconst 2, 1) := by decide +kernel
theorem dX1_rankOf_71 : decode cX1_rankOf 71 = .ok (.ireturn, 1) := by decide +kernel
theorem dX1_rankOf_72 : decode cX1_rankOf 72 = .ok (.iconst 3, 1) := by decide +kernel
theorem dX1_rankOf_73 : decode cX1_rankOf 73 = .ok (.ireturn, 1) := by decide +kernel
theorem dX1_rankOf_74 : decode cX1_rankOf 74 = .ok (.iconst 4, 1) := by decide +kernel
theorem dX1_rankOf_75 : decode cX1_rankOf 75 = .ok (.ireturn, 1) := by decide +kernel
theorem dX1_rankOf_76 : decode cX1_rankOf 76 = .ok (.iconst 0, 1) := by decide +kernel
theorem dX1_rankOf_77 : decode cX1_rankOf 77 = .ok (.ireturn, 1) := by decide +kernel
def wX1_rankOf (cy : Nat → ClassId)  : va_W :=
  []
noncomputable def fX1_rankOf (F : Nat) (a0 : Int32) : Option (Int32) :=
  if a0 = (14 : Int32) then (some (1 : Int32)) else if a0 = (15 : Int32) then (some (1 : Int32)) else if a0 = (42 : Int32) then (some (4 : Int32)) else if a0 = (43 : Int32) then (some (3 : Int32)) else if a0 = (45 : Int32) then (some (3 : Int32)) else if a0 = (60 : Int32) then (some (2 : Int32)) else if a0 = (61 : Int32) then (some (2 : Int32)) else (some (0 : Int32))
theorem CX1_rankOf {l : Launch} {D : va_G} {cy : Nat → ClassId} (F : Nat) (a0 : Int32) (R : Int32) (h : fX1_rankOf F a0 = some R) : vMet l D cy MX1_rankOf 0 0 0 [.int a0] (wX1_rankOf cy ) (fun (r : Option Value) (w : va_W) => r = (some (.int R)) ∧ w = (wX1_rankOf cy )) := by
  refine vMet.start (by decide +kernel) (Nat.le_of_ble_eq_true rfl) ?_
  generalize hQe : (fun (r : Option Value) (w : va_W) => r = (some (.int R)) ∧ w = (wX1_rankOf cy )) = Q
  have hQ : Q (some (.int R)) (wX1_rankOf cy ) := by rw [← hQe]; exact ⟨rfl, rfl⟩
  show V l D cy MX1_rankOf 0 0 0 _ _ Q 0 [(0, .int a0)] [] _ 0 0
  show V l D cy MX1_rankOf 0 0 0 [.int a0] _ Q 0 [(0, .int a0)] [] (wX1_rankOf cy ) 0 0
  unfold fX1_rankOf at h
  refine V.iload_n dX1_rankOf_0 rfl 0 rfl ?_
  by_cases hs1_14 : a0 = (14 : Int32)
  · replace h := (if_pos hs1_14).symm.trans h
    refine V.lsw (tgt := 68) (off := 67) dX1_rankOf_1 (by decide) (by rw [hs1_14]; decide) (by decide) ?_
    refine V.iconst (v := (1 : Int32)) dX1_rankOf_68 (by decide) ?_
    have e9 := Option.some.inj h; subst e9
    exact V.iret (ty := .int) rfl rfl dX1_rankOf_69 (Nat.le_refl _) (Nat.le_refl _) hQ
  replace h := (if_neg hs1_14).symm.trans h
  by_cases hs1_15 : a0 = (15 : Int32)
  · replace h := (if_pos hs1_15).symm.trans h
    refine V.lsw (tgt := 68) (off := 67) dX1_rankOf_1 (by decide) (by rw [hs1_15]; decide) (by decide) ?_
    refine V.iconst (v := (1 : Int32)) dX1_rankOf_68 (by decide) ?_
    have e9 := Option.some.inj h; subst e9
    exact V.iret (ty := .int) rfl rfl dX1_rankOf_69 (Nat.le_refl _) (Nat.le_refl _) hQ
  replace h := (if_neg hs1_15).symm.trans h
  by_cases hs1_42 : a0 = (42 : Int32)
  · replace h := (if_pos hs1_42).symm.trans h
    refine V.lsw (tgt := 74) (off := 73) dX1_rankOf_1 (by decide) (by rw [hs1_42]; decide) (by decide) ?_
    refine V.iconst (v := (4 : Int32)) dX1_rankOf_74 (by decide) ?_
    have e9 := Option.some.inj h; subst e9
    exact V.iret (ty := .int) rfl rfl dX1_rankOf_75 (Nat.le_refl _) (Nat.le_refl _) hQ
  replace h := (if_neg hs1_42).symm.trans h
  by_cases hs1_43 : a0 = (43 : Int32)
  · replace h := (if_pos hs1_43).symm.trans h
    refine V.lsw (tgt := 72) (off := 71) dX1_rankOf_1 (by decide) (by rw [hs1_43]; decide) (by decide) ?_
    refine V.iconst (v := (3 : Int32)) dX1_rankOf_72 (by decide) ?_
    have e9 := Option.some.inj h; subst e9
    exact V.iret (ty := .int) rfl rfl dX1_rankOf_73 (Nat.le_refl _) (Nat.le_refl _) hQ
  replace h := (if_neg hs1_43).symm.trans h
  by_cases hs1_45 : a0 = (45 : Int32)
  · replace h := (if_pos hs1_45).symm.trans h
    refine V.lsw (tgt := 72) (off := 71) dX1_rankOf_1 (by decide) (by rw [hs1_45]; decide) (by decide) ?_
    refine V.iconst (v := (3 : Int32)) dX1_rankOf_72 (by decide) ?_
    have e9 := Option.some.inj h; subst e9
    exact V.iret (ty := .int) rfl rfl dX1_rankOf_73 (Nat.le_refl _) (Nat.le_refl _) hQ
  replace h := (if_neg hs1_45).symm.trans h
  by_cases hs1_60 : a0 = (60 : Int32)
  · replace h := (if_pos hs1_60).symm.trans h
    refine V.lsw (tgt := 70) (off := 69) dX1_rankOf_1 (by decide) (by rw [hs1_60]; decide) (by decide) ?_
    refine V.iconst (v := (2 : Int32)) dX1_rankOf_70 (by decide) ?_
    have e9 := Option.some.inj h; subst e9
    exact V.iret (ty := .int) rfl rfl dX1_rankOf_71 (Nat.le_refl _) (Nat.le_refl _) hQ
  replace h := (if_neg hs1_60).symm.trans h
  by_cases hs1_61 : a0 = (61 : Int32)
  · replace h := (if_pos hs1_61).symm.trans h
    refine V.lsw (tgt := 70) (off := 69) dX1_rankOf_1 (by decide) (by rw [hs1_61]; decide) (by decide) ?_
    refine V.iconst (v := (2 : Int32)) dX1_rankOf_70 (by decide) ?_
    have e9 := Option.some.inj h; subst e9
    exact V.iret (ty := .int) rfl rfl dX1_rankOf_71 (Nat.le_refl _) (Nat.le_refl _) hQ
  replace h := (if_neg hs1_61).symm.trans h
  refine V.lsw (tgt := 76) (off := 75) dX1_rankOf_1 (by decide) (by rw [show Op.lookupswitch.offset _ _ _ = _ from lv_osw hs1_14 (by decide)]; rw [show Op.lookupswitch.offset _ _ _ = _ from lv_osw hs1_15 (by decide)]; rw [show Op.lookupswitch.offset _ _ _ = _ from lv_osw hs1_42 (by decide)]; rw [show Op.lookupswitch.offset _ _ _ = _ from lv_osw hs1_43 (by decide)]; rw [show Op.lookupswitch.offset _ _ _ = _ from lv_osw hs1_45 (by decide)]; rw [show Op.lookupswitch.offset _ _ _ = _ from lv_osw hs1_60 (by decide)]; rw [show Op.lookupswitch.offset _ _ _ = _ from lv_osw hs1_61 (by decide)]; rfl) (by decide) ?_
  refine V.iconst (v := (0 : Int32)) dX1_rankOf_76 (by decide) ?_
  have e9 := Option.some.inj h; subst e9
  exact V.iret (ty := .int) rfl rfl dX1_rankOf_77 (Nat.le_refl _) (Nat.le_refl _) hQ
theorem dX1_set_0 : decode cX1_set 0 = .ok (.iload_n 1, 1) := by decide +kernel
theorem dX1_set_1 : decode cX1_set 1 = .ok (.ifCond .lt 16, 3) := by decide +kernel
theorem dX1_set_4 : decode cX1_set 4 = .ok (.iload_n 1, 1) := by decide +kernel
theorem dX1_set_5 : decode cX1_set 5 = .ok (.bipush 64, 2) := by decide +kernel
theorem dX1_set_7 : decode cX1_set 7 = .ok (.if_icmp .ge 10, 3) := by decide +kernel
theorem dX1_set_10 : decode cX1_set 10 = .ok (.aload_n 0, 1) := by decide +kernel
theorem dX1_set_11 : decode cX1_set 11 = .ok (.getfield 18, 3) := by decide +kernel
theorem dX1_set_14 : decode cX1_set 14 = .ok (.iload_n 1, 1) := by decide +kernel
theorem dX1_set_15 : decode cX1_set 15 = .ok (.iload_n 2, 1) := by decide +kernel
theorem dX1_set_16 : decode cX1_set 16 = .ok (.iastore, 1) := by decide +kernel
theorem dX1_set_17 : decode cX1_set 17 = .ok (.return_, 1) := by decide +kernel
def wX1_set (cy : Nat → ClassId) (tA : Nat) (t_codeV : Value) (t_size : Int32) (t_waitingV : Value) (t_waits : Int32) (t_within : Int32) (t_brackets : Int32) (t_partIsDue : Int32) (t_stackA : Nat) (t_stackN : Nat) (t_stack : Nat → Int32) : va_W :=
  [(tA, .inr (1, [t_codeV, .int t_size, t_waitingV, .int t_waits, .int t_within, .int t_brackets, .int t_partIsDue, .ref t_stackA])), (t_stackA, .inl (cy 1, t_stackN, .inl t_stack))]
noncomputable def bX1_set_L17 (F : Nat) (t_stackN : Nat)  (t_stack : Nat → Int32) : Option ((Nat → Int32)) :=
  some t_stack
theorem vX1_set_L17 {l : Launch} {D : va_G} {cy : Nat → ClassId} {av : List Value} {ws0 : va_W} {Q : Option Value → va_W → Prop} (F : Nat) (tA : Nat) (t_codeV : Value) (t_size : Int32) (t_waitingV : Value) (t_waits : Int32) (t_within : Int32) (t_brackets : Int32) (t_partIsDue : Int32) (t_stackA : Nat) (t_stackN : Nat)  (t_stack : Nat → Int32) (R : (Nat → Int32)) (h : bX1_set_L17 F t_stackN  t_stack = some R) (hQ : Q none (wX1_set cy tA t_codeV t_size t_waitingV t_waits t_within t_brackets t_partIsDue t_stackA t_stackN R)) : V l D cy MX1_set 0 0 0 av ws0 Q 17 [] [] (wX1_set cy tA t_codeV t_size t_waitingV t_waits t_within t_brackets t_partIsDue t_stackA t_stackN t_stack) 0 0 := by
  unfold bX1_set_L17 at h
  have e9 := Option.some.inj h; subst e9
  exact V.vret rfl dX1_set_17 (Nat.le_refl _) (Nat.le_refl _) hQ
noncomputable def fX1_set (F : Nat) (t_stackN : Nat) (a1 : Int32) (a2 : Int32) (t_stack : Nat → Int32) : Option ((Nat → Int32)) :=
  if a1 < 0 then (bX1_set_L17 F t_stackN t_stack) else (if (64 : Int32) ≤ a1 then (bX1_set_L17 F t_stackN t_stack) else (if a1 < 0 ∨ t_stackN ≤ a1.toNatClampNeg then none else (bX1_set_L17 F t_stackN (upd t_stack a1.toNatClampNeg a2))))
theorem CX1_set {l : Launch} {D : va_G} {cy : Nat → ClassId} (F : Nat) (tA : Nat) (t_codeV : Value) (t_size : Int32) (t_waitingV : Value) (t_waits : Int32) (t_within : Int32) (t_brackets : Int32) (t_partIsDue : Int32) (t_stackA : Nat) (t_stackN : Nat) (t_stack : Nat → Int32) (a1 : Int32) (a2 : Int32) (R : (Nat → Int32)) (h : fX1_set F t_stackN a1 a2 t_stack = some R) : vMet l D cy MX1_set 0 0 0 [.ref tA, .int a1, .int a2] (wX1_set cy tA t_codeV t_size t_waitingV t_waits t_within t_brackets t_partIsDue t_stackA t_stackN t_stack) (fun (r : Option Value) (w : va_W) => r = none ∧ w = (wX1_set cy tA t_codeV t_size t_waitingV t_waits t_within t_brackets t_partIsDue t_stackA t_stackN R)) := by
  refine vMet.start (by decide +kernel) (Nat.le_of_ble_eq_true rfl) ?_
  generalize hQe : (fun (r : Option Value) (w : va_W) => r = none ∧ w = (wX1_set cy tA t_codeV t_size t_waitingV t_waits t_within t_brackets t_partIsDue t_stackA t_stackN R)) = Q
  have hQ : Q none (wX1_set cy tA t_codeV t_size t_waitingV t_waits t_within t_brackets t_partIsDue t_stackA t_stackN R) := by rw [← hQe]; exact ⟨rfl, rfl⟩
  show V l D cy MX1_set 0 0 0 _ _ Q 0 [(0, .ref tA), (1, .int a1), (2, .int a2)] [] _ 0 0
  show V l D cy MX1_set 0 0 0 [.ref tA, .int a1, .int a2] _ Q 0 [(0, .ref tA), (1, .int a1), (2, .int a2)] [] (wX1_set cy tA t_codeV t_size t_waitingV t_waits t_within t_brackets t_partIsDue t_stackA t_stackN t_stack) 0 0
  unfold fX1_set at h
  refine V.iload_n dX1_set_0 rfl 1 rfl ?_
  refine V.if_lt (tgt := 17) dX1_set_1 (by decide) (fun hc1 => ?_) (fun hc1 => ?_)
  · replace h := (if_pos hc1).symm.trans h
    refine V.lvs [] rfl ?_
    exact vX1_set_L17 _ _ _ _ _ _ _ _ _ _ _   _ R h hQ
  · replace h := (if_neg hc1).symm.trans h
    refine V.iload_n dX1_set_4 rfl 1 rfl ?_
    refine V.bipush (v := (64 : Int32)) dX1_set_5 (by decide) ?_
    refine V.icmp_ge (tgt := 17) dX1_set_7 (by decide) (fun hc7 => ?_) (fun hc7 => ?_)
    · replace h := (if_pos hc7).symm.trans h
      refine V.lvs [] rfl ?_
      exact vX1_set_L17 _ _ _ _ _ _ _ _ _ _ _   _ R h hQ
    · replace h := (if_neg hc7).symm.trans h
      refine V.aload_n dX1_set_10 rfl 0 rfl ?_
      refine V.get kfX1 0 rfl rfl 7 (by decide) klX1_18 rfl dX1_set_11 ?_
      refine V.iload_n dX1_set_14 rfl 1 rfl ?_
      refine V.iload_n dX1_set_15 rfl 2 rfl ?_
      by_cases hb16 : a1 < 0 ∨ t_stackN ≤ a1.toNatClampNeg
      · exact vNone ((if_pos hb16).symm.trans h)
      replace h := (if_neg hb16).symm.trans h
      refine V.iast (ws' := (wX1_set cy tA t_codeV t_size t_waitingV t_waits t_within t_brackets t_partIsDue t_stackA t_stackN (upd t_stack a1.toNatClampNeg a2))) dX1_set_16 1 rfl hb16 rfl ?_
      refine V.lvs [] rfl ?_
      exact vX1_set_L17 _ _ _ _ _ _ _ _ _ _ _   _ R h hQ
theorem dX1_get_0 : decode cX1_get 0 = .ok (.iload_n 1, 1) := by decide +kernel
theorem dX1_get_1 : decode cX1_get 1 = .ok (.ifCond .lt 18, 3) := by decide +kernel
theorem dX1_get_4 : decode cX1_get 4 = .ok (.iload_n 1, 1) := by decide +kernel
theorem dX1_get_5 : decode cX1_get 5 = .ok (.bipush 64, 2) := by decide +kernel
theorem dX1_get_7 : decode cX1_get 7 = .ok (.if_icmp .ge 12, 3) := by decide +kernel
theorem dX1_get_10 : decode cX1_get 10 = .ok (.aload_n 0, 1) := by decide +kernel
theorem dX1_get_11 : decode cX1_get 11 = .ok (.getfield 18, 3) := by decide +kernel
theorem dX1_get_14 : decode cX1_get 14 = .ok (.iload_n 1, 1) := by decide +kernel
theorem dX1_get_15 : decode cX1_get 15 = .ok (.iaload, 1) := by decide +kernel
theorem dX1_get_16 : decode cX1_get 16 = .ok (.goto 4, 3) := by decide +kernel
theorem dX1_get_19 : decode cX1_get 19 = .ok (.iconst 0, 1) := by decide +kernel
theorem dX1_get_20 : decode cX1_get 20 = .ok (.ireturn, 1) := by decide +kernel
def wX1_get (cy : Nat → ClassId) (tA : Nat) (t_codeV : Value) (t_size : Int32) (t_waitingV : Value) (t_waits : Int32) (t_within : Int32) (t_brackets : Int32) (t_partIsDue : Int32) (t_stackA : Nat) (t_stackN : Nat) (t_stack : Nat → Int32) : va_W :=
  [(tA, .inr (1, [t_codeV, .int t_size, t_waitingV, .int t_waits, .int t_within, .int t_brackets, .int t_partIsDue, .ref t_stackA])), (t_stackA, .inl (cy 1, t_stackN, .inl t_stack))]
noncomputable def bX1_get_L20 (F : Nat) (t_stackN : Nat) (t_stack : Nat → Int32)  (s0 : Int32) : Option (Int32) :=
  some s0
theorem vX1_get_L20 {l : Launch} {D : va_G} {cy : Nat → ClassId} {av : List Value} {ws0 : va_W} {Q : Option Value → va_W → Prop} (F : Nat) (tA : Nat) (t_codeV : Value) (t_size : Int32) (t_waitingV : Value) (t_waits : Int32) (t_within : Int32) (t_brackets : Int32) (t_partIsDue : Int32) (t_stackA : Nat) (t_stackN : Nat) (t_stack : Nat → Int32)  (s0 : Int32) (R : Int32) (h : bX1_get_L20 F t_stackN t_stack  s0 = some R) (hQ : Q (some (.int R)) (wX1_get cy tA t_codeV t_size t_waitingV t_waits t_within t_brackets t_partIsDue t_stackA t_stackN t_stack)) : V l D cy MX1_get 0 0 0 av ws0 Q 20 [] [.int s0] (wX1_get cy tA t_codeV t_size t_waitingV t_waits t_within t_brackets t_partIsDue t_stackA t_stackN t_stack) 0 0 := by
  unfold bX1_get_L20 at h
  have e9 := Option.some.inj h; subst e9
  exact V.iret (ty := .int) rfl rfl dX1_get_20 (Nat.le_refl _) (Nat.le_refl _) hQ
noncomputable def bX1_get_L19 (F : Nat) (t_stackN : Nat) (t_stack : Nat → Int32)   : Option (Int32) :=
  bX1_get_L20 F t_stackN t_stack (0 : Int32)
theorem vX1_get_L19 {l : Launch} {D : va_G} {cy : Nat → ClassId} {av : List Value} {ws0 : va_W} {Q : Option Value → va_W → Prop} (F : Nat) (tA : Nat) (t_codeV : Value) (t_size : Int32) (t_waitingV : Value) (t_waits : Int32) (t_within : Int32) (t_brackets : Int32) (t_partIsDue : Int32) (t_stackA : Nat) (t_stackN : Nat) (t_stack : Nat → Int32)   (R : Int32) (h : bX1_get_L19 F t_stackN t_stack   = some R) (hQ : Q (some (.int R)) (wX1_get cy tA t_codeV t_size t_waitingV t_waits t_within t_brackets t_partIsDue t_stackA t_stackN t_stack)) : V l D cy MX1_get 0 0 0 av ws0 Q 19 [] [] (wX1_get cy tA t_codeV t_size t_waitingV t_waits t_within t_brackets t_partIsDue t_stackA t_stackN t_stack) 0 0 := by
  unfold bX1_get_L19 at h
  refine V.iconst (v := (0 : Int32)) dX1_get_19 (by decide) ?_
  exact vX1_get_L20 _ _ _ _ _ _ _ _ _ _ _ _   _ R h hQ
noncomputable def fX1_get (F : Nat) (t_stackN : Nat) (t_stack : Nat → Int32) (a1 : Int32) : Option (Int32) :=
  if a1 < 0 then (bX1_get_L19 F t_stackN t_stack) else (if (64 : Int32) ≤ a1 then (bX1_get_L19 F t_stackN t_stack) else (if a1 < 0 ∨ t_stackN ≤ a1.toNatClampNeg then none else (bX1_get_L20 F t_stackN t_stack (t_stack (a1).toNatClampNeg))))
theorem CX1_get {l : Launch} {D : va_G} {cy : Nat → ClassId} (F : Nat) (tA : Nat) (t_codeV : Value) (t_size : Int32) (t_waitingV : Value) (t_waits : Int32) (t_within : Int32) (t_brackets : Int32) (t_partIsDue : Int32) (t_stackA : Nat) (t_stackN : Nat) (t_stack : Nat → Int32) (a1 : Int32) (R : Int32) (h : fX1_get F t_stackN t_stack a1 = some R) : vMet l D cy MX1_get 0 0 0 [.ref tA, .int a1] (wX1_get cy tA t_codeV t_size t_waitingV t_waits t_within t_brackets t_partIsDue t_stackA t_stackN t_stack) (fun (r : Option Value) (w : va_W) => r = (some (.int R)) ∧ w = (wX1_get cy tA t_codeV t_size t_waitingV t_waits t_within t_brackets t_partIsDue t_stackA t_stackN t_stack)) := by
  refine vMet.start (by decide +kernel) (Nat.le_of_ble_eq_true rfl) ?_
  generalize hQe : (fun (r : Option Value) (w : va_W) => r = (some (.int R)) ∧ w = (wX1_get cy tA t_codeV t_size t_waitingV t_waits t_within t_brackets t_partIsDue t_stackA t_stackN t_stack)) = Q
  have hQ : Q (some (.int R)) (wX1_get cy tA t_codeV t_size t_waitingV t_waits t_within t_brackets t_partIsDue t_stackA t_stackN t_stack) := by rw [← hQe]; exact ⟨rfl, rfl⟩
  show V l D cy MX1_get 0 0 0 _ _ Q 0 [(0, .ref tA), (1, .int a1)] [] _ 0 0
  show V l D cy MX1_get 0 0 0 [.ref tA, .int a1] _ Q 0 [(0, .ref tA), (1, .int a1)] [] (wX1_get cy tA t_codeV t_size t_waitingV t_waits t_within t_brackets t_partIsDue t_stackA t_stackN t_stack) 0 0
  unfold fX1_get at h
  refine V.iload_n dX1_get_0 rfl 1 rfl ?_
  refine V.if_lt (tgt := 19) dX1_get_1 (by decide) (fun hc1 => ?_) (fun hc1 => ?_)
  · replace h := (if_pos hc1).symm.trans h
    refine V.lvs [] rfl ?_
    exact vX1_get_L19 _ _ _ _ _ _ _ _ _ _ _ _    R h hQ
  · replace h := (if_neg hc1).symm.trans h
    refine V.iload_n dX1_get_4 rfl 1 rfl ?_
    refine V.bipush (v := (64 : Int32)) dX1_get_5 (by decide) ?_
    refine V.icmp_ge (tgt := 19) dX1_get_7 (by decide) (fun hc7 => ?_) (fun hc7 => ?_)
    · replace h := (if_pos hc7).symm.trans h
      refine V.lvs [] rfl ?_
      exact vX1_get_L19 _ _ _ _ _ _ _ _ _ _ _ _    R h hQ
    · replace h := (if_neg hc7).symm.trans h
      refine V.aload_n dX1_get_10 rfl 0 rfl ?_
      refine V.get kfX1 0 rfl rfl 7 (by decide) klX1_18 rfl dX1_get_11 ?_
      refine V.iload_n dX1_get_14 rfl 1 rfl ?_
      by_cases hb15 : a1 < 0 ∨ t_stackN ≤ a1.toNatClampNeg
      · exact vNone ((if_pos hb15).symm.trans h)
      replace h := (if_neg hb15).symm.trans h
      refine V.iald dX1_get_15 1 rfl hb15 ?_
      refine V.goto (tgt := 20) dX1_get_16 (by decide) ?_
      refine V.lvs [] rfl ?_
      exact vX1_get_L20 _ _ _ _ _ _ _ _ _ _ _ _   _ R h hQ
theorem dX1_fact_0 : decode cX1_fact 0 = .ok (.iload_n 0, 1) := by decide +kernel
theorem dX1_fact_1 : decode cX1_fact 1 = .ok (.tableswitch 33 16 18 #[27, 29, 31], 27) := by decide +kernel
theorem dX1_fact_28 : decode cX1_fact 28 = .ok (.iload_n 1, 1) := by decide +kernel
theorem dX1_fact_29 : decode cX1_fact 29 = .ok (.ireturn, 1) := by decide +kernel
theorem dX1_fact_30 : decode cX1_fact 30 = .ok (.iload_n 2, 1) := by decide +kernel
theorem dX1_fact_31 : decode cX1_fact 31 = .ok (.ireturn, 1) := by decide +kernel
theorem dX1_fact_32 : decode cX1_fact 32 = .ok (.iload_n 3, 1) := by decide +kernel
theorem dX1_fact_33 : decode cX1_fact 33 = .ok (.ireturn, 1) := by decide +kernel
theorem dX1_fact_34 : decode cX1_fact 34 = .ok (.iload 4, 2) := by decide +kernel
theorem dX1_fact_36 : decode cX1_fact 36 = .ok (.ireturn, 1) := by decide +kernel
def wX1_fact (cy : Nat → ClassId)  : va_W :=
  []
noncomputable def fX1_fact (F : Nat) (a0 : Int32) (a1 : Int32) (a2 : Int32) (a3 : Int32) (a4 : Int32) : Option (Int32) :=
  if a0 = (16 : Int32) then (some a1) else if a0 = (17 : Int32) then (some a2) else if a0 = (18 : Int32) then (some a3) else (some a4)
theorem CX1_fact {l : Launch} {D : va_G} {cy : Nat → ClassId} (F : Nat) (a0 : Int32) (a1 : Int32) (a2 : Int32) (a3 : Int32) (a4 : Int32) (R : Int32) (h : fX1_fact F a0 a1 a2 a3 a4 = some R) : vMet l D cy MX1_fact 0 0 0 [.int a0, .int a1, .int a2, .int a3, .int a4] (wX1_fact cy ) (fun (r : Option Value) (w : va_W) => r = (some (.int R)) ∧ w = (wX1_fact cy )) := by
  refine vMet.start (by decide +kernel) (Nat.le_of_ble_eq_true rfl) ?_
  generalize hQe : (fun (r : Option Value) (w : va_W) => r = (some (.int R)) ∧ w = (wX1_fact cy )) = Q
  have hQ : Q (some (.int R)) (wX1_fact cy ) := by rw [← hQe]; exact ⟨rfl, rfl⟩
  show V l D cy MX1_fact 0 0 0 _ _ Q 0 [(0, .int a0), (1, .int a1), (2, .int a2), (3, .int a3), (4, .int a4)] [] _ 0 0
  show V l D cy MX1_fact 0 0 0 [.int a0, .int a1, .int a2, .int a3, .int a4] _ Q 0 [(0, .int a0), (1, .int a1), (2, .int a2), (3, .int a3), (4, .int a4)] [] (wX1_fact cy ) 0 0
  unfold fX1_fact at h
  refine V.iload_n dX1_fact_0 rfl 0 rfl ?_
  by_cases hs1_16 : a0 = (16 : Int32)
  · replace h := (if_pos hs1_16).symm.trans h
    refine V.tswIn (tgt := 28) dX1_fact_1 (by rw [hs1_16]; decide) (by rw [hs1_16]; decide) (by rw [hs1_16]; rfl) (by decide) ?_
    refine V.iload_n dX1_fact_28 rfl 1 rfl ?_
    have e9 := Option.some.inj h; subst e9
    exact V.iret (ty := .int) rfl rfl dX1_fact_29 (Nat.le_refl _) (Nat.le_refl _) hQ
  replace h := (if_neg hs1_16).symm.trans h
  by_cases hs1_17 : a0 = (17 : Int32)
  · replace h := (if_pos hs1_17).symm.trans h
    refine V.tswIn (tgt := 30) dX1_fact_1 (by rw [hs1_17]; decide) (by rw [hs1_17]; decide) (by rw [hs1_17]; rfl) (by decide) ?_
    refine V.iload_n dX1_fact_30 rfl 2 rfl ?_
    have e9 := Option.some.inj h; subst e9
    exact V.iret (ty := .int) rfl rfl dX1_fact_31 (Nat.le_refl _) (Nat.le_refl _) hQ
  replace h := (if_neg hs1_17).symm.trans h
  by_cases hs1_18 : a0 = (18 : Int32)
  · replace h := (if_pos hs1_18).symm.trans h
    refine V.tswIn (tgt := 32) dX1_fact_1 (by rw [hs1_18]; decide) (by rw [hs1_18]; decide) (by rw [hs1_18]; rfl) (by decide) ?_
    refine V.iload_n dX1_fact_32 rfl 3 rfl ?_
    have e9 := Option.some.inj h; subst e9
    exact V.iret (ty := .int) rfl rfl dX1_fact_33 (Nat.le_refl _) (Nat.le_refl _) hQ
  replace h := (if_neg hs1_18).symm.trans h
  refine V.tswOut (tgt := 34) dX1_fact_1 (by have e0 := lv_neT hs1_16 (a := 16) (by decide); have e1 := lv_neT hs1_17 (a := 17) (by decide); have e2 := lv_neT hs1_18 (a := 18) (by decide); omega) (by decide) ?_
  refine V.iload dX1_fact_34 4 rfl ?_
  have e9 := Option.some.inj h; subst e9
  exact V.iret (ty := .int) rfl rfl dX1_fact_36 (Nat.le_refl _) (Nat.le_refl _) hQ
theorem dX1_joined_0 : decode cX1_joined 0 = .ok (.iload_n 0, 1) := by decide +kernel
theorem dX1_joined_1 : decode cX1_joined 1 = .ok (.lookupswitch 107 #[(14, 93), (42, 67), (43, 59), (45, 63), (60, 71), (61, 82)], 59) := by decide +kernel
theorem dX1_joined_60 : decode cX1_joined 60 = .ok (.iload_n 1, 1) := by decide +kernel
theorem dX1_joined_61 : decode cX1_joined 61 = .ok (.iload_n 2, 1) := by decide +kernel
theorem dX1_joined_62 : decode cX1_joined 62 = .ok (.iadd, 1) := by decide +kernel
theorem dX1_joined_63 : decode cX1_joined 63 = .ok (.ireturn, 1) := by decide +kernel
theorem dX1_joined_64 : decode cX1_joined 64 = .ok (.iload_n 1, 1) := by decide +kernel
theorem dX1_joined_65 : decode cX1_joined 65 = .ok (.iload_n 2, 1) := by decide +kernel
theorem dX1_joined_66 : decode cX1_joined 66 = .ok (.isub, 1) := by decide +kernel
theorem dX1_joined_67 : decode cX1_joined 67 = .ok (.ireturn, 1) := by decide +kernel
theorem dX1_joined_68 : decode cX1_joined 68 = .ok (.iload_n 1, 1) := by decide +kernel
theorem dX1_joined_69 : decode cX1_joined 69 = .ok (.iload_n 2, 1) := by decide +kernel
theorem dX1_joined_70 : decode cX1_joined 70 = .ok (.imul, 1) := by decide +kernel
theorem dX1_joined_71 : decode cX1_joined 71 = .ok (.ireturn, 1) := by decide +kernel
theorem dX1_joined_72 : decode cX1_joined 72 = .ok (.iload_n 1, 1) := by decide +kernel
theorem dX1_joined_73 : decode cX1_joined 73 = .ok (.iload_n 2, 1) := by decide +kernel
theorem dX1_joined_74 : decode cX1_joined 74 = .ok (.if_icmp .ge 7, 3) := by decide +kernel
theorem dX1_joined_77 : decode cX1_joined 77 = .ok (.iconst 1, 1) := by decide +kernel
theorem dX1_joined_78 : decode cX1_joined 78 = .ok (.goto 4, 3) := by decide +kernel
theorem dX1_joined_81 : decode cX1_joined 81 = .ok (.iconst 0, 1) := by decide +kernel
theorem dX1_joined_82 : decode cX1_joined 82 = .ok (.ireturn, 1) := by decide +kernel
theorem dX1_joined_83 : decode cX1_joined 83 = .ok (.iload_n 1, 1) := by decide +kernel
theorem dX1_joined_84 : decode cX1_joined 84 = .ok (.iload_n 2, 1) := by decide +kernel
theorem dX1_joined_85 : decode cX1_joined 85 = .ok (.if_icmp .ne 7, 3) := by decide +kernel
theorem dX1_joined_88 : decode cX1_joined 88 = .ok (.iconst 1, 1) := by decide +kernel
theorem dX1_joined_89 : decode cX1_joined 89 = .ok (.goto 4, 3) := by decide +kernel
theorem dX1_joined_92 : decode cX1_joined 92 = .ok (.iconst 0, 1) := by decide +kernel
theorem dX1_joined_93 : decode cX1_joined 93 = .ok (.ireturn, 1) := by decide +kernel
theorem dX1_joined_94 : decode cX1_joined 94 = .ok (.iload_n 1, 1) := by decide +kernel
theorem dX1_joined_95 : decode cX1_joined 95 = .ok (.ifCond .eq 11, 3) := by decide +kernel
theorem dX1_joined_98 : decode cX1_joined 98 = .ok (.iload_n 2, 1) := by decide +kernel
theorem dX1_joined_99 : decode cX1_joined 99 = .ok (.ifCond .eq 7, 3) := by decide +kernel
theorem dX1_joined_102 : decode cX1_joined 102 = .ok (.iconst 1, 1) := by decide +kernel
theorem dX1_joined_103 : decode cX1_joined 103 = .ok (.goto 4, 3) := by decide +kernel
theorem dX1_joined_106 : decode cX1_joined 106 = .ok (.iconst 0, 1) := by decide +kernel
theorem dX1_joined_107 : decode cX1_joined 107 = .ok (.ireturn, 1) := by decide +kernel
theorem dX1_joined_108 : decode cX1_joined 108 = .ok (.iload_n 1, 1) := by decide +kernel
theorem dX1_joined_109 : decode cX1_joined 109 = .ok (.ifCond .ne 7, 3) := by decide +kernel
theorem dX1_joined_112 : decode cX1_joined 112 = .ok (.iload_n 2, 1) := by decide +kernel
theorem dX1_joined_113 : decode cX1_joined 113 = .ok (.ifCond .eq 7, 3) := by decide +kernel
theorem dX1_joined_116 : decode cX1_joined 116 = .ok (.iconst 1, 1) := by decide +kernel
theorem dX1_joined_117 : decode cX1_joined 117 = .ok (.goto 4, 3) := by decide +kernel
theorem dX1_joined_120 : decode cX1_joined 120 = .ok (.iconst 0, 1) := by decide +kernel
theorem dX1_joined_121 : decode cX1_joined 121 = .ok (.ireturn, 1) := by decide +kernel
def wX1_joined (cy : Nat → ClassId)  : va_W :=
  []
noncomputable def bX1_joined_L121 (F : Nat)   (s0 : Int32) : Option (Int32) :=
  some s0
theorem vX1_joined_L121 {l : Launch} {D : va_G} {cy : Nat → ClassId} {av : List Value} {ws0 : va_W} {Q : Option Value → va_W → Prop} (F : Nat)   (s0 : Int32) (R : Int32) (h : bX1_joined_L121 F  s0 = some R) (hQ : Q (some (.int R)) (wX1_joined cy )) : V l D cy MX1_joined 0 0 0 av ws0 Q 121 [] [.int s0] (wX1_joined cy ) 0 0 := by
  unfold bX1_joined_L121 at h
  have e9 := Option.some.inj h; subst e9
  exact V.iret (ty := .int) rfl rfl dX1_joined_121 (Nat.le_refl _) (Nat.le_refl _) hQ
noncomputable def bX1_joined_L116 (F : Nat)    : Option (Int32) :=
  bX1_joined_L121 F (1 : Int32)
theorem vX1_joined_L116 {l : Launch} {D : va_G} {cy : Nat → ClassId} {av : List Value} {ws0 : va_W} {Q : Option Value → va_W → Prop} (F : Nat)    (R : Int32) (h : bX1_joined_L116 F   = some R) (hQ : Q (some (.int R)) (wX1_joined cy )) : V l D cy MX1_joined 0 0 0 av ws0 Q 116 [] [] (wX1_joined cy ) 0 0 := by
  unfold bX1_joined_L116 at h
  refine V.iconst (v := (1 : Int32)) dX1_joined_116 (by decide) ?_
  refine V.goto (tgt := 121) dX1_joined_117 (by decide) ?_
  exact vX1_joined_L121 _   _ R h hQ
noncomputable def bX1_joined_L107 (F : Nat)   (s0 : Int32) : Option (Int32) :=
  some s0
theorem vX1_joined_L107 {l : Launch} {D : va_G} {cy : Nat → ClassId} {av : List Value} {ws0 : va_W} {Q : Option Value → va_W → Prop} (F : Nat)   (s0 : Int32) (R : Int32) (h : bX1_joined_L107 F  s0 = some R) (hQ : Q (some (.int R)) (wX1_joined cy )) : V l D cy MX1_joined 0 0 0 av ws0 Q 107 [] [.int s0] (wX1_joined cy ) 0 0 := by
  unfold bX1_joined_L107 at h
  have e9 := Option.some.inj h; subst e9
  exact V.iret (ty := .int) rfl rfl dX1_joined_107 (Nat.le_refl _) (Nat.le_refl _) hQ
noncomputable def bX1_joined_L106 (F : Nat)    : Option (Int32) :=
  bX1_joined_L107 F (0 : Int32)
theorem vX1_joined_L106 {l : Launch} {D : va_G} {cy : Nat → ClassId} {av : List Value} {ws0 : va_W} {Q : Option Value → va_W → Prop} (F : Nat)    (R : Int32) (h : bX1_joined_L106 F   = some R) (hQ : Q (some (.int R)) (wX1_joined cy )) : V l D cy MX1_joined 0 0 0 av ws0 Q 106 [] [] (wX1_joined cy ) 0 0 := by
  unfold bX1_joined_L106 at h
  refine V.iconst (v := (0 : Int32)) dX1_joined_106 (by decide) ?_
  exact vX1_joined_L107 _   _ R h hQ
noncomputable def bX1_joined_L93 (F : Nat)   (s0 : Int32) : Option (Int32) :=
  some s0
theorem vX1_joined_L93 {l : Launch} {D : va_G} {cy : Nat → ClassId} {av : List Value} {ws0 : va_W} {Q : Option Value → va_W → Prop} (F : Nat)   (s0 : Int32) (R : Int32) (h : bX1_joined_L93 F  s0 = some R) (hQ : Q (some (.int R)) (wX1_joined cy )) : V l D cy MX1_joined 0 0 0 av ws0 Q 93 [] [.int s0] (wX1_joined cy ) 0 0 := by
  unfold bX1_joined_L93 at h
  have e9 := Option.some.inj h; subst e9
  exact V.iret (ty := .int) rfl rfl dX1_joined_93 (Nat.le_refl _) (Nat.le_refl _) hQ
noncomputable def bX1_joined_L82 (F : Nat)   (s0 : Int32) : Option (Int32) :=
  some s0
theorem vX1_joined_L82 {l : Launch} {D : va_G} {cy : Nat → ClassId} {av : List Value} {ws0 : va_W} {Q : Option Value → va_W → Prop} (F : Nat)   (s0 : Int32) (R : Int32) (h : bX1_joined_L82 F  s0 = some R) (hQ : Q (some (.int R)) (wX1_joined cy )) : V l D cy MX1_joined 0 0 0 av ws0 Q 82 [] [.int s0] (wX1_joined cy ) 0 0 := by
  unfold bX1_joined_L82 at h
  have e9 := Option.some.inj h; subst e9
  exact V.iret (ty := .int) rfl rfl dX1_joined_82 (Nat.le_refl _) (Nat.le_refl _) hQ
noncomputable def fX1_joined (F : Nat) (a0 : Int32) (a1 : Int32) (a2 : Int32) : Option (Int32) :=
  if a0 = (14 : Int32) then (if a1 = 0 then (bX1_joined_L106 F) else (if a2 = 0 then (bX1_joined_L106 F) else (bX1_joined_L107 F (1 : Int32)))) else if a0 = (42 : Int32) then (some (a1 * a2)) else if a0 = (43 : Int32) then (some (a1 + a2)) else if a0 = (45 : Int32) then (some (a1 - a2)) else if a0 = (60 : Int32) then (if a2 ≤ a1 then (bX1_joined_L82 F (0 : Int32)) else (bX1_joined_L82 F (1 : Int32))) else if a0 = (61 : Int32) then (if a1 = a2 then (bX1_joined_L93 F (1 : Int32)) else (bX1_joined_L93 F (0 : Int32))) else (if a1 = 0 then (if a2 = 0 then (bX1_joined_L121 F (0 : Int32)) else (bX1_joined_L116 F)) else (bX1_joined_L116 F))
theorem CX1_joined {l : Launch} {D : va_G} {cy : Nat → ClassId} (F : Nat) (a0 : Int32) (a1 : Int32) (a2 : Int32) (R : Int32) (h : fX1_joined F a0 a1 a2 = some R) : vMet l D cy MX1_joined 0 0 0 [.int a0, .int a1, .int a2] (wX1_joined cy ) (fun (r : Option Value) (w : va_W) => r = (some (.int R)) ∧ w = (wX1_joined cy )) := by
  refine vMet.start (by decide +kernel) (Nat.le_of_ble_eq_true rfl) ?_
  generalize hQe : (fun (r : Option Value) (w : va_W) => r = (some (.int R)) ∧ w = (wX1_joined cy )) = Q
  have hQ : Q (some (.int R)) (wX1_joined cy ) := by rw [← hQe]; exact ⟨rfl, rfl⟩
  show V l D cy MX1_joined 0 0 0 _ _ Q 0 [(0, .int a0), (1, .int a1), (2, .int a2)] [] _ 0 0
  show V l D cy MX1_joined 0 0 0 [.int a0, .int a1, .int a2] _ Q 0 [(0, .int a0), (1, .int a1), (2, .int a2)] [] (wX1_joined cy ) 0 0
  unfold fX1_joined at h
  refine V.iload_n dX1_joined_0 rfl 0 rfl ?_
  by_cases hs1_14 : a0 = (14 : Int32)
  · replace h := (if_pos hs1_14).symm.trans h
    refine V.lsw (tgt := 94) (off := 93) dX1_joined_1 (by decide) (by rw [hs1_14]; decide) (by decide) ?_
    refine V.iload_n dX1_joined_94 rfl 1 rfl ?_
    refine V.if_eq (tgt := 106) dX1_joined_95 (by decide) (fun hc95 => ?_) (fun hc95 => ?_)
    · replace h := (if_pos hc95).symm.trans h
      refine V.lvs [] rfl ?_
      exact vX1_joined_L106 _    R h hQ
    · replace h := (if_neg hc95).symm.trans h
      refine V.iload_n dX1_joined_98 rfl 2 rfl ?_
      refine V.if_eq (tgt := 106) dX1_joined_99 (by decide) (fun hc99 => ?_) (fun hc99 => ?_)
      · replace h := (if_pos hc99).symm.trans h
        refine V.lvs [] rfl ?_
        exact vX1_joined_L106 _    R h hQ
      · replace h := (if_neg hc99).symm.trans h
        refine V.iconst (v := (1 : Int32)) dX1_joined_102 (by decide) ?_
        refine V.goto (tgt := 107) dX1_joined_103 (by decide) ?_
        refine V.lvs [] rfl ?_
        exact vX1_joined_L107 _   _ R h hQ
  replace h := (if_neg hs1_14).symm.trans h
  by_cases hs1_42 : a0 = (42 : Int32)
  · replace h := (if_pos hs1_42).symm.trans h
    refine V.lsw (tgt := 68) (off := 67) dX1_joined_1 (by decide) (by rw [hs1_42]; decide) (by decide) ?_
    refine V.iload_n dX1_joined_68 rfl 1 rfl ?_
    refine V.iload_n dX1_joined_69 rfl 2 rfl ?_
    refine V.imul dX1_joined_70 ?_
    have e9 := Option.some.inj h; subst e9
    exact V.iret (ty := .int) rfl rfl dX1_joined_71 (Nat.le_refl _) (Nat.le_refl _) hQ
  replace h := (if_neg hs1_42).symm.trans h
  by_cases hs1_43 : a0 = (43 : Int32)
  · replace h := (if_pos hs1_43).symm.trans h
    refine V.lsw (tgt := 60) (off := 59) dX1_joined_1 (by decide) (by rw [hs1_43]; decide) (by decide) ?_
    refine V.iload_n dX1_joined_60 rfl 1 rfl ?_
    refine V.iload_n dX1_joined_61 rfl 2 rfl ?_
    refine V.iadd dX1_joined_62 ?_
    have e9 := Option.some.inj h; subst e9
    exact V.iret (ty := .int) rfl rfl dX1_joined_63 (Nat.le_refl _) (Nat.le_refl _) hQ
  replace h := (if_neg hs1_43).symm.trans h
  by_cases hs1_45 : a0 = (45 : Int32)
  · replace h := (if_pos hs1_45).symm.trans h
    refine V.lsw (tgt := 64) (off := 63) dX1_joined_1 (by decide) (by rw [hs1_45]; decide) (by decide) ?_
    refine V.iload_n dX1_joined_64 rfl 1 rfl ?_
    refine V.iload_n dX1_joined_65 rfl 2 rfl ?_
    refine V.isub dX1_joined_66 ?_
    have e9 := Option.some.inj h; subst e9
    exact V.iret (ty := .int) rfl rfl dX1_joined_67 (Nat.le_refl _) (Nat.le_refl _) hQ
  replace h := (if_neg hs1_45).symm.trans h
  by_cases hs1_60 : a0 = (60 : Int32)
  · replace h := (if_pos hs1_60).symm.trans h
    refine V.lsw (tgt := 72) (off := 71) dX1_joined_1 (by decide) (by rw [hs1_60]; decide) (by decide) ?_
    refine V.iload_n dX1_joined_72 rfl 1 rfl ?_
    refine V.iload_n dX1_joined_73 rfl 2 rfl ?_
    refine V.icmp_ge (tgt := 81) dX1_joined_74 (by decide) (fun hc74 => ?_) (fun hc74 => ?_)
    · replace h := (if_pos hc74).symm.trans h
      refine V.iconst (v := (0 : Int32)) dX1_joined_81 (by decide) ?_
      refine V.lvs [] rfl ?_
      exact vX1_joined_L82 _   _ R h hQ
    · replace h := (if_neg hc74).symm.trans h
      refine V.iconst (v := (1 : Int32)) dX1_joined_77 (by decide) ?_
      refine V.goto (tgt := 82) dX1_joined_78 (by decide) ?_
      refine V.lvs [] rfl ?_
      exact vX1_joined_L82 _   _ R h hQ
  replace h := (if_neg hs1_60).symm.trans h
  by_cases hs1_61 : a0 = (61 : Int32)
  · replace h := (if_pos hs1_61).symm.trans h
    refine V.lsw (tgt := 83) (off := 82) dX1_joined_1 (by decide) (by rw [hs1_61]; decide) (by decide) ?_
    refine V.iload_n dX1_joined_83 rfl 1 rfl ?_
    refine V.iload_n dX1_joined_84 rfl 2 rfl ?_
    refine V.icmp_ne (tgt := 92) dX1_joined_85 (by decide) (fun hc85 => ?_) (fun hc85 => ?_)
    · replace h := (if_neg hc85).symm.trans h
      refine V.iconst (v := (0 : Int32)) dX1_joined_92 (by decide) ?_
      refine V.lvs [] rfl ?_
      exact vX1_joined_L93 _   _ R h hQ
    · replace h := (if_pos hc85).symm.trans h
      refine V.iconst (v := (1 : Int32)) dX1_joined_88 (by decide) ?_
      refine V.goto (tgt := 93) dX1_joined_89 (by decide) ?_
      refine V.lvs [] rfl ?_
      exact vX1_joined_L93 _   _ R h hQ
  replace h := (if_neg hs1_61).symm.trans h
  refine V.lsw (tgt := 108) (off := 107) dX1_joined_1 (by decide) (by rw [show Op.lookupswitch.offset _ _ _ = _ from lv_osw hs1_14 (by decide)]; rw [show Op.lookupswitch.offset _ _ _ = _ from lv_osw hs1_42 (by decide)]; rw [show Op.lookupswitch.offset _ _ _ = _ from lv_osw hs1_43 (by decide)]; rw [show Op.lookupswitch.offset _ _ _ = _ from lv_osw hs1_45 (by decide)]; rw [show Op.lookupswitch.offset _ _ _ = _ from lv_osw hs1_60 (by decide)]; rw [show Op.lookupswitch.offset _ _ _ = _ from lv_osw hs1_61 (by decide)]; rfl) (by decide) ?_
  refine V.iload_n dX1_joined_108 rfl 1 rfl ?_
  refine V.if_ne (tgt := 116) dX1_joined_109 (by decide) (fun hc109 => ?_) (fun hc109 => ?_)
  · replace h := (if_neg hc109).symm.trans h
    refine V.lvs [] rfl ?_
    exact vX1_joined_L116 _    R h hQ
  · replace h := (if_pos hc109).symm.trans h
    refine V.iload_n dX1_joined_112 rfl 2 rfl ?_
    refine V.if_eq (tgt := 120) dX1_joined_113 (by decide) (fun hc113 => ?_) (fun hc113 => ?_)
    · replace h := (if_pos hc113).symm.trans h
      refine V.iconst (v := (0 : Int32)) dX1_joined_120 (by decide) ?_
      refine V.lvs [] rfl ?_
      exact vX1_joined_L121 _   _ R h hQ
    · replace h := (if_neg hc113).symm.trans h
      refine V.lvs [] rfl ?_
      exact vX1_joined_L116 _    R h hQ
theorem dX1_endPart_0 : decode cX1_endPart 0 = .ok (.aload_n 0, 1) := by decide +kernel
theorem dX1_endPart_1 : decode cX1_endPart 1 = .ok (.getfield 25, 3) := by decide +kernel
theorem dX1_endPart_4 : decode cX1_endPart 4 = .ok (.ifCond .le 41, 3) := by decide +kernel
theorem dX1_endPart_7 : decode cX1_endPart 7 = .ok (.aload_n 0, 1) := by decide +kernel
theorem dX1_endPart_8 : decode cX1_endPart 8 = .ok (.invokevirtual 83, 3) := by decide +kernel
theorem dX1_endPart_11 : decode cX1_endPart 11 = .ok (.bipush 13, 2) := by decide +kernel
theorem dX1_endPart_13 : decode cX1_endPart 13 = .ok (.if_icmp .ne 32, 3) := by decide +kernel
theorem dX1_endPart_16 : decode cX1_endPart 16 = .ok (.aload_n 0, 1) := by decide +kernel
theorem dX1_endPart_17 : decode cX1_endPart 17 = .ok (.bipush (-13), 2) := by decide +kernel
theorem dX1_endPart_19 : decode cX1_endPart 19 = .ok (.invokevirtual 73, 3) := by decide +kernel
theorem dX1_endPart_22 : decode cX1_endPart 22 = .ok (.aload_n 0, 1) := by decide +kernel
theorem dX1_endPart_23 : decode cX1_endPart 23 = .ok (.dup, 1) := by decide +kernel
theorem dX1_endPart_24 : decode cX1_endPart 24 = .ok (.getfield 25, 3) := by decide +kernel
theorem dX1_endPart_27 : decode cX1_endPart 27 = .ok (.iconst 1, 1) := by decide +kernel
theorem dX1_endPart_28 : decode cX1_endPart 28 = .ok (.isub, 1) := by decide +kernel
theorem dX1_endPart_29 : decode cX1_endPart 29 = .ok (.putfield 25, 3) := by decide +kernel
theorem dX1_endPart_32 : decode cX1_endPart 32 = .ok (.aload_n 0, 1) := by decide +kernel
theorem dX1_endPart_33 : decode cX1_endPart 33 = .ok (.dup, 1) := by decide +kernel
theorem dX1_endPart_34 : decode cX1_endPart 34 = .ok (.getfield 28, 3) := by decide +kernel
theorem dX1_endPart_37 : decode cX1_endPart 37 = .ok (.iconst 1, 1) := by decide +kernel
theorem dX1_endPart_38 : decode cX1_endPart 38 = .ok (.isub, 1) := by decide +kernel
theorem dX1_endPart_39 : decode cX1_endPart 39 = .ok (.putfield 28, 3) := by decide +kernel
theorem dX1_endPart_42 : decode cX1_endPart 42 = .ok (.goto (-42), 3) := by decide +kernel
theorem dX1_endPart_45 : decode cX1_endPart 45 = .ok (.aload_n 0, 1) := by decide +kernel
theorem dX1_endPart_46 : decode cX1_endPart 46 = .ok (.iconst 0, 1) := by decide +kernel
theorem dX1_endPart_47 : decode cX1_endPart 47 = .ok (.putfield 34, 3) := by decide +kernel
theorem dX1_endPart_50 : decode cX1_endPart 50 = .ok (.return_, 1) := by decide +kernel
def wX1_endPart (cy : Nat → ClassId) (tA : Nat) (t_size : Int32) (t_waits : Int32) (t_within : Int32) (t_brackets : Int32) (t_partIsDue : Int32) (t_stackV : Value) (t_codeA : Nat) (t_codeN : Nat) (t_code : Nat → Int32) (t_waitingA : Nat) (t_waitingN : Nat) (t_waiting : Nat → Int32) : va_W :=
  [(tA, .inr (1, [.ref t_codeA, .int t_size, .ref t_waitingA, .int t_waits, .int t_within, .int t_brackets, .int t_partIsDue, t_stackV])), (t_codeA, .inl (cy 1, t_codeN, .inl t_code)), (t_waitingA, .inl (cy 1, t_waitingN, .inl t_waiting))]
noncomputable def bX1_endPart_L45 (F : Nat) (t_codeN : Nat) (t_waitingN : Nat) (t_waiting : Nat → Int32)  (t_size : Int32) (t_waits : Int32) (t_within : Int32) (t_partIsDue : Int32) (t_code : Nat → Int32) : Option ((Int32) × (Int32) × (Int32) × (Int32) × (Nat → Int32)) :=
  some (t_size, t_waits, t_within, (0 : Int32), t_code)
theorem vX1_endPart_L45 {l : Launch} {D : va_G} {cy : Nat → ClassId} {av : List Value} {ws0 : va_W} {Q : Option Value → va_W → Prop} (F : Nat) (tA : Nat) (t_brackets : Int32) (t_stackV : Value) (t_codeA : Nat) (t_codeN : Nat) (t_waitingA : Nat) (t_waitingN : Nat) (t_waiting : Nat → Int32)  (t_size : Int32) (t_waits : Int32) (t_within : Int32) (t_partIsDue : Int32) (t_code : Nat → Int32) (R : (Int32) × (Int32) × (Int32) × (Int32) × (Nat → Int32)) (h : bX1_endPart_L45 F t_codeN t_waitingN t_waiting  t_size t_waits t_within t_partIsDue t_code = some R) (hQ : Q none (wX1_endPart cy tA R.1 R.2.1 R.2.2.1 t_brackets R.2.2.2.1 t_stackV t_codeA t_codeN R.2.2.2.2 t_waitingA t_waitingN t_waiting)) : V l D cy MX1_endPart 1 0 0 av ws0 Q 45 [(0, .ref tA)] [] (wX1_endPart cy tA t_size t_waits t_within t_brackets t_partIsDue t_stackV t_codeA t_codeN t_code t_waitingA t_waitingN t_waiting) 0 0 := by
  unfold bX1_endPart_L45 at h
  refine V.aload_n dX1_endPart_45 rfl 0 rfl ?_
  refine V.iconst (v := (0 : Int32)) dX1_endPart_46 (by decide) ?_
  refine V.put (ws' := (wX1_endPart cy tA t_size t_waits t_within t_brackets (0 : Int32) t_stackV t_codeA t_codeN t_code t_waitingA t_waitingN t_waiting)) kfX1 tyX1 tyX1_ok nmX1 0 rfl rfl 6 (by decide) klX1_34 rfl (tyX1_ok 6 (by decide)) rfl rfl (Nat.le_of_ble_eq_true rfl) dX1_endPart_47 rfl ?_
  have e9 := Option.some.inj h; subst e9
  exact V.vret rfl dX1_endPart_50 (Nat.le_refl _) (Nat.le_refl _) hQ
noncomputable def bX1_endPart_L0 (F : Nat) (t_codeN : Nat) (t_waitingN : Nat) (t_waiting : Nat → Int32) (k0 : Int32 → Int32 → Int32 → Int32 → (Nat → Int32) → Option ((Int32) × (Int32) × (Int32) × (Int32) × (Nat → Int32))) (t_size : Int32) (t_waits : Int32) (t_within : Int32) (t_partIsDue : Int32) (t_code : Nat → Int32) : Option ((Int32) × (Int32) × (Int32) × (Int32) × (Nat → Int32)) :=
  if t_waits ≤ 0 then (bX1_endPart_L45 F t_codeN t_waitingN t_waiting t_size t_waits t_within t_partIsDue t_code) else ((fX1_last F t_waits t_waitingN t_waiting).bind fun R8 => (if R8 = (13 : Int32) then ((fX1_put F t_codeN (-13 : Int32) t_size t_code).bind fun R19 => (k0 R19.1 (t_waits - (1 : Int32)) (t_within - (1 : Int32)) t_partIsDue R19.2)) else (bX1_endPart_L45 F t_codeN t_waitingN t_waiting t_size t_waits t_within t_partIsDue t_code)))
theorem vbX1_endPart_L0 {l : Launch} {D : va_G} {cy : Nat → ClassId} {av : List Value} {ws0 : va_W} {Q : Option Value → va_W → Prop} (F : Nat) (tA : Nat) (t_brackets : Int32) (t_stackV : Value) (t_codeA : Nat) (t_codeN : Nat) (t_waitingA : Nat) (t_waitingN : Nat) (t_waiting : Nat → Int32) (k0 : Int32 → Int32 → Int32 → Int32 → (Nat → Int32) → Option ((Int32) × (Int32) × (Int32) × (Int32) × (Nat → Int32))) (hk0 : ∀ (t_size : Int32) (t_waits : Int32) (t_within : Int32) (t_partIsDue : Int32) (t_code : Nat → Int32) (R : (Int32) × (Int32) × (Int32) × (Int32) × (Nat → Int32)), k0 t_size t_waits t_within t_partIsDue t_code = some R → Q none (wX1_endPart cy tA R.1 R.2.1 R.2.2.1 t_brackets R.2.2.2.1 t_stackV t_codeA t_codeN R.2.2.2.2 t_waitingA t_waitingN t_waiting) → V l D cy MX1_endPart 1 0 0 av ws0 Q 0 [(0, .ref tA)] [] (wX1_endPart cy tA t_size t_waits t_within t_brackets t_partIsDue t_stackV t_codeA t_codeN t_code t_waitingA t_waitingN t_waiting) 0 0) (t_size : Int32) (t_waits : Int32) (t_within : Int32) (t_partIsDue : Int32) (t_code : Nat → Int32) (R : (Int32) × (Int32) × (Int32) × (Int32) × (Nat → Int32)) (h : bX1_endPart_L0 F t_codeN t_waitingN t_waiting k0 t_size t_waits t_within t_partIsDue t_code = some R) (hQ : Q none (wX1_endPart cy tA R.1 R.2.1 R.2.2.1 t_brackets R.2.2.2.1 t_stackV t_codeA t_codeN R.2.2.2.2 t_waitingA t_waitingN t_waiting)) : V l D cy MX1_endPart 1 0 0 av ws0 Q 0 [(0, .ref tA)] [] (wX1_endPart cy tA t_size t_waits t_within t_brackets t_partIsDue t_stackV t_codeA t_codeN t_code t_waitingA t_waitingN t_waiting) 0 0 := by
  unfold bX1_endPart_L0 at h
  refine V.aload_n dX1_endPart_0 rfl 0 rfl ?_
  refine V.get kfX1 0 rfl rfl 3 (by decide) klX1_25 rfl dX1_endPart_1 ?_
  refine V.if_le (tgt := 45) dX1_endPart_4 (by decide) (fun hc4 => ?_) (fun hc4 => ?_)
  · replace h := (if_pos hc4).symm.trans h
    exact vX1_endPart_L45 _ _ _ _ _ _ _ _ _   _ _ _ _ _ R h hQ
  · replace h := (if_neg hc4).symm.trans h
    refine V.aload_n dX1_endPart_7 rfl 0 rfl ?_
    obtain ⟨R8, hg8, h⟩ := Option.bind_eq_some_iff.mp h
    refine V.callV (As := []) (rest := []) (wc := (wX1_last cy tA (.ref t_codeA) t_size t_waits t_within t_brackets t_partIsDue t_stackV t_waitingA t_waitingN t_waiting)) (wr := [(t_codeA, .inl (cy 1, t_codeN, .inl t_code))]) (q0 := 0) (CX1_last F tA (.ref t_codeA) t_size t_waits t_within t_brackets t_partIsDue t_stackV t_waitingA t_waitingN t_waiting R8 hg8) kvX1_last klX1_83 [0, 2] [1] rfl rfl (by decide) (by decide) (by decide) rfl rfl rfl rfl dX1_endPart_8 ⟨by decide, by decide, by decide, by decide⟩ (Nat.le_of_ble_eq_true rfl) (fun r w1 hq => ?_)
    obtain ⟨rfl, rfl⟩ := hq
    refine V.cells (ws' := (wX1_endPart cy tA t_size t_waits t_within t_brackets t_partIsDue t_stackV t_codeA t_codeN t_code t_waitingA t_waitingN t_waiting)) [1, 0, 2] (by decide) rfl ?_
    show V l D cy MX1_endPart 1 0 0 _ _ _ 11 [(0, .ref tA)] [.int R8] (wX1_endPart cy tA t_size t_waits t_within t_brackets t_partIsDue t_stackV t_codeA t_codeN t_code t_waitingA t_waitingN t_waiting) 0 0
    refine V.bipush (v := (13 : Int32)) dX1_endPart_11 (by decide) ?_
    refine V.icmp_ne (tgt := 45) dX1_endPart_13 (by decide) (fun hc13 => ?_) (fun hc13 => ?_)
    · replace h := (if_neg hc13).symm.trans h
      exact vX1_endPart_L45 _ _ _ _ _ _ _ _ _   _ _ _ _ _ R h hQ
    · replace h := (if_pos hc13).symm.trans h
      refine V.aload_n dX1_endPart_16 rfl 0 rfl ?_
      refine V.bipush (v := (-13 : Int32)) dX1_endPart_17 (by decide) ?_
      obtain ⟨R19, hg19, h⟩ := Option.bind_eq_some_iff.mp h
      refine V.callV (As := [.int (-13 : Int32)]) (rest := []) (wc := (wX1_put cy tA t_size (.ref t_waitingA) t_waits t_within t_brackets t_partIsDue t_stackV t_codeA t_codeN t_code)) (wr := [(t_waitingA, .inl (cy 1, t_waitingN, .inl t_waiting))]) (q0 := 0) (CX1_put F tA t_size (.ref t_waitingA) t_waits t_within t_brackets t_partIsDue t_stackV t_codeA t_codeN t_code (-13 : Int32) R19 hg19) kvX1_put klX1_73 [0, 1] [2] rfl rfl (by decide) (by decide) (by decide) rfl rfl rfl rfl dX1_endPart_19 ⟨by decide, by decide, by decide, by decide⟩ (Nat.le_of_ble_eq_true rfl) (fun r w1 hq => ?_)
      obtain ⟨rfl, rfl⟩ := hq
      refine V.cells (ws' := (wX1_endPart cy tA R19.1 t_waits t_within t_brackets t_partIsDue t_stackV t_codeA t_codeN R19.2 t_waitingA t_waitingN t_waiting)) [1, 2, 0] (by decide) rfl ?_
      show V l D cy MX1_endPart 1 0 0 _ _ _ 22 [(0, .ref tA)] [] (wX1_endPart cy tA R19.1 t_waits t_within t_brackets t_partIsDue t_stackV t_codeA t_codeN R19.2 t_waitingA t_waitingN t_waiting) 0 0
      refine V.aload_n dX1_endPart_22 rfl 0 rfl ?_
      refine V.dup dX1_endPart_23 rfl ?_
      refine V.get kfX1 0 rfl rfl 3 (by decide) klX1_25 rfl dX1_endPart_24 ?_
      refine V.iconst (v := (1 : Int32)) dX1_endPart_27 (by decide) ?_
      refine V.isub dX1_endPart_28 ?_
      refine V.put (ws' := (wX1_endPart cy tA R19.1 (t_waits - (1 : Int32)) t_within t_brackets t_partIsDue t_stackV t_codeA t_codeN R19.2 t_waitingA t_waitingN t_waiting)) kfX1 tyX1 tyX1_ok nmX1 0 rfl rfl 3 (by decide) klX1_25 rfl (tyX1_ok 3 (by decide)) rfl rfl (Nat.le_of_ble_eq_true rfl) dX1_endPart_29 rfl ?_
      refine V.aload_n dX1_endPart_32 rfl 0 rfl ?_
      refine V.dup dX1_endPart_33 rfl ?_
      refine V.get kfX1 0 rfl rfl 4 (by decide) klX1_28 rfl dX1_endPart_34 ?_
      refine V.iconst (v := (1 : Int32)) dX1_endPart_37 (by decide) ?_
      refine V.isub dX1_endPart_38 ?_
      refine V.put (ws' := (wX1_endPart cy tA R19.1 (t_waits - (1 : Int32)) (t_within - (1 : Int32)) t_brackets t_partIsDue t_stackV t_codeA t_codeN R19.2 t_waitingA t_waitingN t_waiting)) kfX1 tyX1 tyX1_ok nmX1 0 rfl rfl 4 (by decide) klX1_28 rfl (tyX1_ok 4 (by decide)) rfl rfl (Nat.le_of_ble_eq_true rfl) dX1_endPart_39 rfl ?_
      refine V.goto (tgt := 0) dX1_endPart_42 (by decide) ?_
      exact hk0 _ _ _ _ _ R h hQ
noncomputable def fX1_endPart_L0 (F : Nat) (t_codeN : Nat) (t_waitingN : Nat) (t_waiting : Nat → Int32)  : Nat → Int32 → Int32 → Int32 → Int32 → (Nat → Int32) → Option ((Int32) × (Int32) × (Int32) × (Int32) × (Nat → Int32))
  | 0 => fun _ _ _ _ _ => none
  | n + 1 => bX1_endPart_L0 F t_codeN t_waitingN t_waiting (fX1_endPart_L0 F t_codeN t_waitingN t_waiting  n)
theorem vX1_endPart_L0 {l : Launch} {D : va_G} {cy : Nat → ClassId} {av : List Value} {ws0 : va_W} {Q : Option Value → va_W → Prop} (F : Nat) (tA : Nat) (t_brackets : Int32) (t_stackV : Value) (t_codeA : Nat) (t_codeN : Nat) (t_waitingA : Nat) (t_waitingN : Nat) (t_waiting : Nat → Int32)  : ∀ (n : Nat) (t_size : Int32) (t_waits : Int32) (t_within : Int32) (t_partIsDue : Int32) (t_code : Nat → Int32) (R : (Int32) × (Int32) × (Int32) × (Int32) × (Nat → Int32)), fX1_endPart_L0 F t_codeN t_waitingN t_waiting  n t_size t_waits t_within t_partIsDue t_code = some R → Q none (wX1_endPart cy tA R.1 R.2.1 R.2.2.1 t_brackets R.2.2.2.1 t_stackV t_codeA t_codeN R.2.2.2.2 t_waitingA t_waitingN t_waiting) → V l D cy MX1_endPart 1 0 0 av ws0 Q 0 [(0, .ref tA)] [] (wX1_endPart cy tA t_size t_waits t_within t_brackets t_partIsDue t_stackV t_codeA t_codeN t_code t_waitingA t_waitingN t_waiting) 0 0 := by
  intro n
  induction n with
  | zero => intro t_size t_waits t_within t_partIsDue t_code R h; exact vNone h
  | succ n ih => intro t_size t_waits t_within t_partIsDue t_code R h hQ; exact vbX1_endPart_L0 F tA t_brackets t_stackV t_codeA t_codeN t_waitingA t_waitingN t_waiting _ ih t_size t_waits t_within t_partIsDue t_code R h hQ
noncomputable def fX1_endPart (F : Nat) (t_codeN : Nat) (t_waitingN : Nat) (t_waiting : Nat → Int32) (t_size : Int32) (t_waits : Int32) (t_within : Int32) (t_partIsDue : Int32) (t_code : Nat → Int32) : Option ((Int32) × (Int32) × (Int32) × (Int32) × (Nat → Int32)) :=
  fX1_endPart_L0 F t_codeN t_waitingN t_waiting F t_size t_waits t_within t_partIsDue t_code
theorem CX1_endPart {l : Launch} {D : va_G} {cy : Nat → ClassId} (F : Nat) (tA : Nat) (t_size : Int32) (t_waits : Int32) (t_within : Int32) (t_brackets : Int32) (t_partIsDue : Int32) (t_stackV : Value) (t_codeA : Nat) (t_codeN : Nat) (t_code : Nat → Int32) (t_waitingA : Nat) (t_waitingN : Nat) (t_waiting : Nat → Int32) (R : (Int32) × (Int32) × (Int32) × (Int32) × (Nat → Int32)) (h : fX1_endPart F t_codeN t_waitingN t_waiting t_size t_waits t_within t_partIsDue t_code = some R) : vMet l D cy MX1_endPart 1 0 0 [.ref tA] (wX1_endPart cy tA t_size t_waits t_within t_brackets t_partIsDue t_stackV t_codeA t_codeN t_code t_waitingA t_waitingN t_waiting) (fun (r : Option Value) (w : va_W) => r = none ∧ w = (wX1_endPart cy tA R.1 R.2.1 R.2.2.1 t_brackets R.2.2.2.1 t_stackV t_codeA t_codeN R.2.2.2.2 t_waitingA t_waitingN t_waiting)) := by
  refine vMet.start (by decide +kernel) (Nat.le_of_ble_eq_true rfl) ?_
  generalize hQe : (fun (r : Option Value) (w : va_W) => r = none ∧ w = (wX1_endPart cy tA R.1 R.2.1 R.2.2.1 t_brackets R.2.2.2.1 t_stackV t_codeA t_codeN R.2.2.2.2 t_waitingA t_waitingN t_waiting)) = Q
  have hQ : Q none (wX1_endPart cy tA R.1 R.2.1 R.2.2.1 t_brackets R.2.2.2.1 t_stackV t_codeA t_codeN R.2.2.2.2 t_waitingA t_waitingN t_waiting) := by rw [← hQe]; exact ⟨rfl, rfl⟩
  show V l D cy MX1_endPart 1 0 0 _ _ Q 0 [(0, .ref tA)] [] _ 0 0
  show V l D cy MX1_endPart 1 0 0 [.ref tA] _ Q 0 [(0, .ref tA)] [] (wX1_endPart cy tA t_size t_waits t_within t_brackets t_partIsDue t_stackV t_codeA t_codeN t_code t_waitingA t_waitingN t_waiting) 0 0
  unfold fX1_endPart at h
  exact vX1_endPart_L0 _ _ _ _ _ _ _ _ _  _ _ _ _ _ _ R h hQ
theorem dX1_release_0 : decode cX1_release 0 = .ok (.aload_n 0, 1) := by decide +kernel
theorem dX1_release_1 : decode cX1_release 1 = .ok (.getfield 25, 3) := by decide +kernel
theorem dX1_release_4 : decode cX1_release 4 = .ok (.ifCond .le 36, 3) := by decide +kernel
theorem dX1_release_7 : decode cX1_release 7 = .ok (.aload_n 0, 1) := by decide +kernel
theorem dX1_release_8 : decode cX1_release 8 = .ok (.invokevirtual 83, 3) := by decide +kernel
theorem dX1_release_11 : decode cX1_release 11 = .ok (.invokestatic 79, 3) := by decide +kernel
theorem dX1_release_14 : decode cX1_release 14 = .ok (.iload_n 1, 1) := by decide +kernel
theorem dX1_release_15 : decode cX1_release 15 = .ok (.if_icmp .lt 25, 3) := by decide +kernel
theorem dX1_release_18 : decode cX1_release 18 = .ok (.aload_n 0, 1) := by decide +kernel
theorem dX1_release_19 : decode cX1_release 19 = .ok (.aload_n 0, 1) := by decide +kernel
theorem dX1_release_20 : decode cX1_release 20 = .ok (.invokevirtual 83, 3) := by decide +kernel
theorem dX1_release_23 : decode cX1_release 23 = .ok (.ineg, 1) := by decide +kernel
theorem dX1_release_24 : decode cX1_release 24 = .ok (.invokevirtual 73, 3) := by decide +kernel
theorem dX1_release_27 : decode cX1_release 27 = .ok (.aload_n 0, 1) := by decide +kernel
theorem dX1_release_28 : decode cX1_release 28 = .ok (.dup, 1) := by decide +kernel
theorem dX1_release_29 : decode cX1_release 29 = .ok (.getfield 25, 3) := by decide +kernel
theorem dX1_release_32 : decode cX1_release 32 = .ok (.iconst 1, 1) := by decide +kernel
theorem dX1_release_33 : decode cX1_release 33 = .ok (.isub, 1) := by decide +kernel
theorem dX1_release_34 : decode cX1_release 34 = .ok (.putfield 25, 3) := by decide +kernel
theorem dX1_release_37 : decode cX1_release 37 = .ok (.goto (-37), 3) := by decide +kernel
theorem dX1_release_40 : decode cX1_release 40 = .ok (.return_, 1) := by decide +kernel
def wX1_release (cy : Nat → ClassId) (tA : Nat) (t_size : Int32) (t_waits : Int32) (t_within : Int32) (t_brackets : Int32) (t_partIsDue : Int32) (t_stackV : Value) (t_codeA : Nat) (t_codeN : Nat) (t_code : Nat → Int32) (t_waitingA : Nat) (t_waitingN : Nat) (t_waiting : Nat → Int32) : va_W :=
  [(tA, .inr (1, [.ref t_codeA, .int t_size, .ref t_waitingA, .int t_waits, .int t_within, .int t_brackets, .int t_partIsDue, t_stackV])), (t_codeA, .inl (cy 1, t_codeN, .inl t_code)), (t_waitingA, .inl (cy 1, t_waitingN, .inl t_waiting))]
noncomputable def bX1_release_L40 (F : Nat) (t_codeN : Nat) (t_waitingN : Nat) (t_waiting : Nat → Int32)  (t_size : Int32) (t_waits : Int32) (t_code : Nat → Int32) : Option ((Int32) × (Int32) × (Nat → Int32)) :=
  some (t_size, t_waits, t_code)
theorem vX1_release_L40 {l : Launch} {D : va_G} {cy : Nat → ClassId} {av : List Value} {ws0 : va_W} {Q : Option Value → va_W → Prop} (F : Nat) (tA : Nat) (t_within : Int32) (t_brackets : Int32) (t_partIsDue : Int32) (t_stackV : Value) (t_codeA : Nat) (t_codeN : Nat) (t_waitingA : Nat) (t_waitingN : Nat) (t_waiting : Nat → Int32)  (t_size : Int32) (t_waits : Int32) (t_code : Nat → Int32) (R : (Int32) × (Int32) × (Nat → Int32)) (h : bX1_release_L40 F t_codeN t_waitingN t_waiting  t_size t_waits t_code = some R) (hQ : Q none (wX1_release cy tA R.1 R.2.1 t_within t_brackets t_partIsDue t_stackV t_codeA t_codeN R.2.2 t_waitingA t_waitingN t_waiting)) : V l D cy MX1_release 1 0 0 av ws0 Q 40 [] [] (wX1_release cy tA t_size t_waits t_within t_brackets t_partIsDue t_stackV t_codeA t_codeN t_code t_waitingA t_waitingN t_waiting) 0 0 := by
  unfold bX1_release_L40 at h
  have e9 := Option.some.inj h; subst e9
  exact V.vret rfl dX1_release_40 (Nat.le_refl _) (Nat.le_refl _) hQ
noncomputable def bX1_release_L0 (F : Nat) (t_codeN : Nat) (t_waitingN : Nat) (t_waiting : Nat → Int32) (k0 : Int32 → Int32 → Int32 → (Nat → Int32) → Option ((Int32) × (Int32) × (Nat → Int32))) (x1 : Int32) (t_size : Int32) (t_waits : Int32) (t_code : Nat → Int32) : Option ((Int32) × (Int32) × (Nat → Int32)) :=
  if t_waits ≤ 0 then (bX1_release_L40 F t_codeN t_waitingN t_waiting t_size t_waits t_code) else ((fX1_last F t_waits t_waitingN t_waiting).bind fun R8 => ((fX1_rankOf F R8).bind fun R11 => (if R11 < x1 then (bX1_release_L40 F t_codeN t_waitingN t_waiting t_size t_waits t_code) else ((fX1_last F t_waits t_waitingN t_waiting).bind fun R20 => ((fX1_put F t_codeN (-R20) t_size t_code).bind fun R24 => (k0 x1 R24.1 (t_waits - (1 : Int32)) R24.2))))))
theorem vbX1_release_L0 {l : Launch} {D : va_G} {cy : Nat → ClassId} {av : List Value} {ws0 : va_W} {Q : Option Value → va_W → Prop} (F : Nat) (tA : Nat) (t_within : Int32) (t_brackets : Int32) (t_partIsDue : Int32) (t_stackV : Value) (t_codeA : Nat) (t_codeN : Nat) (t_waitingA : Nat) (t_waitingN : Nat) (t_waiting : Nat → Int32) (k0 : Int32 → Int32 → Int32 → (Nat → Int32) → Option ((Int32) × (Int32) × (Nat → Int32))) (hk0 : ∀ (x1 : Int32) (t_size : Int32) (t_waits : Int32) (t_code : Nat → Int32) (R : (Int32) × (Int32) × (Nat → Int32)), k0 x1 t_size t_waits t_code = some R → Q none (wX1_release cy tA R.1 R.2.1 t_within t_brackets t_partIsDue t_stackV t_codeA t_codeN R.2.2 t_waitingA t_waitingN t_waiting) → V l D cy MX1_release 1 0 0 av ws0 Q 0 [(0, .ref tA), (1, .int x1)] [] (wX1_release cy tA t_size t_waits t_within t_brackets t_partIsDue t_stackV t_codeA t_codeN t_code t_waitingA t_waitingN t_waiting) 0 0) (x1 : Int32) (t_size : Int32) (t_waits : Int32) (t_code : Nat → Int32) (R : (Int32) × (Int32) × (Nat → Int32)) (h : bX1_release_L0 F t_codeN t_waitingN t_waiting k0 x1 t_size t_waits t_code = some R) (hQ : Q none (wX1_release cy tA R.1 R.2.1 t_within t_brackets t_partIsDue t_stackV t_codeA t_codeN R.2.2 t_waitingA t_waitingN t_waiting)) : V l D cy MX1_release 1 0 0 av ws0 Q 0 [(0, .ref tA), (1, .int x1)] [] (wX1_release cy tA t_size t_waits t_within t_brackets t_partIsDue t_stackV t_codeA t_codeN t_code t_waitingA t_waitingN t_waiting) 0 0 := by
  unfold bX1_release_L0 at h
  refine V.aload_n dX1_release_0 rfl 0 rfl ?_
  refine V.get kfX1 0 rfl rfl 3 (by decide) klX1_25 rfl dX1_release_1 ?_
  refine V.if_le (tgt := 40) dX1_release_4 (by decide) (fun hc4 => ?_) (fun hc4 => ?_)
  · replace h := (if_pos hc4).symm.trans h
    refine V.lvs [] rfl ?_
    exact vX1_release_L40 _ _ _ _ _ _ _ _ _ _ _   _ _ _ R h hQ
  · replace h := (if_neg hc4).symm.trans h
    refine V.aload_n dX1_release_7 rfl 0 rfl ?_
    obtain ⟨R8, hg8, h⟩ := Option.bind_eq_some_iff.mp h
    refine V.callV (As := []) (rest := []) (wc := (wX1_last cy tA (.ref t_codeA) t_size t_waits t_within t_brackets t_partIsDue t_stackV t_waitingA t_waitingN t_waiting)) (wr := [(t_codeA, .inl (cy 1, t_codeN, .inl t_code))]) (q0 := 0) (CX1_last F tA (.ref t_codeA) t_size t_waits t_within t_brackets t_partIsDue t_stackV t_waitingA t_waitingN t_waiting R8 hg8) kvX1_last klX1_83 [0, 2] [1] rfl rfl (by decide) (by decide) (by decide) rfl rfl rfl rfl dX1_release_8 ⟨by decide, by decide, by decide, by decide⟩ (Nat.le_of_ble_eq_true rfl) (fun r w1 hq => ?_)
    obtain ⟨rfl, rfl⟩ := hq
    refine V.cells (ws' := (wX1_release cy tA t_size t_waits t_within t_brackets t_partIsDue t_stackV t_codeA t_codeN t_code t_waitingA t_waitingN t_waiting)) [1, 0, 2] (by decide) rfl ?_
    show V l D cy MX1_release 1 0 0 _ _ _ 11 [(0, .ref tA), (1, .int x1)] [.int R8] (wX1_release cy tA t_size t_waits t_within t_brackets t_partIsDue t_stackV t_codeA t_codeN t_code t_waitingA t_waitingN t_waiting) 0 0
    obtain ⟨R11, hg11, h⟩ := Option.bind_eq_some_iff.mp h
    refine V.callS (As := [.int R8]) (rest := []) (wc := (wX1_rankOf cy )) (wr := [(tA, .inr (1, [.ref t_codeA, .int t_size, .ref t_waitingA, .int t_waits, .int t_within, .int t_brackets, .int t_partIsDue, t_stackV])), (t_codeA, .inl (cy 1, t_codeN, .inl t_code)), (t_waitingA, .inl (cy 1, t_waitingN, .inl t_waiting))]) (CX1_rankOf F R8 R11 hg11) kvX1_rankOf klX1_79 [] [0, 1, 2] rfl rfl (by decide) (by decide) (by decide) rfl dX1_release_11 ⟨by decide, by decide, by decide, by decide⟩ (Nat.le_of_ble_eq_true rfl) (fun r w1 hq => ?_)
    obtain ⟨rfl, rfl⟩ := hq
    refine V.cells (ws' := (wX1_release cy tA t_size t_waits t_within t_brackets t_partIsDue t_stackV t_codeA t_codeN t_code t_waitingA t_waitingN t_waiting)) [0, 1, 2] (by decide) rfl ?_
    show V l D cy MX1_release 1 0 0 _ _ _ 14 [(0, .ref tA), (1, .int x1)] [.int R11] (wX1_release cy tA t_size t_waits t_within t_brackets t_partIsDue t_stackV t_codeA t_codeN t_code t_waitingA t_waitingN t_waiting) 0 0
    refine V.iload_n dX1_release_14 rfl 1 rfl ?_
    refine V.icmp_lt (tgt := 40) dX1_release_15 (by decide) (fun hc15 => ?_) (fun hc15 => ?_)
    · replace h := (if_pos hc15).symm.trans h
      refine V.lvs [] rfl ?_
      exact vX1_release_L40 _ _ _ _ _ _ _ _ _ _ _   _ _ _ R h hQ
    · replace h := (if_neg hc15).symm.trans h
      refine V.aload_n dX1_release_18 rfl 0 rfl ?_
      refine V.aload_n dX1_release_19 rfl 0 rfl ?_
      obtain ⟨R20, hg20, h⟩ := Option.bind_eq_some_iff.mp h
      refine V.callV (As := []) (rest := [.ref tA]) (wc := (wX1_last cy tA (.ref t_codeA) t_size t_waits t_within t_brackets t_partIsDue t_stackV t_waitingA t_waitingN t_waiting)) (wr := [(t_codeA, .inl (cy 1, t_codeN, .inl t_code))]) (q0 := 0) (CX1_last F tA (.ref t_codeA) t_size t_waits t_within t_brackets t_partIsDue t_stackV t_waitingA t_waitingN t_waiting R20 hg20) kvX1_last klX1_83 [0, 2] [1] rfl rfl (by decide) (by decide) (by decide) rfl rfl rfl rfl dX1_release_20 ⟨by decide, by decide, by decide, by decide⟩ (Nat.le_of_ble_eq_true rfl) (fun r w1 hq => ?_)
      obtain ⟨rfl, rfl⟩ := hq
      refine V.cells (ws' := (wX1_release cy tA t_size t_waits t_within t_brackets t_partIsDue t_stackV t_codeA t_codeN t_code t_waitingA t_waitingN t_waiting)) [1, 0, 2] (by decide) rfl ?_
      show V l D cy MX1_release 1 0 0 _ _ _ 23 [(0, .ref tA), (1, .int x1)] [.int R20, .ref tA] (wX1_release cy tA t_size t_waits t_within t_brackets t_partIsDue t_stackV t_codeA t_codeN t_code t_waitingA t_waitingN t_waiting) 0 0
      refine V.ineg dX1_release_23 ?_
      obtain ⟨R24, hg24, h⟩ := Option.bind_eq_some_iff.mp h
      refine V.callV (As := [.int (-R20)]) (rest := []) (wc := (wX1_put cy tA t_size (.ref t_waitingA) t_waits t_within t_brackets t_partIsDue t_stackV t_codeA t_codeN t_code)) (wr := [(t_waitingA, .inl (cy 1, t_waitingN, .inl t_waiting))]) (q0 := 0) (CX1_put F tA t_size (.ref t_waitingA) t_waits t_within t_brackets t_partIsDue t_stackV t_codeA t_codeN t_code (-R20) R24 hg24) kvX1_put klX1_73 [0, 1] [2] rfl rfl (by decide) (by decide) (by decide) rfl rfl rfl rfl dX1_release_24 ⟨by decide, by decide, by decide, by decide⟩ (Nat.le_of_ble_eq_true rfl) (fun r w1 hq => ?_)
      obtain ⟨rfl, rfl⟩ := hq
      refine V.cells (ws' := (wX1_release cy tA R24.1 t_waits t_within t_brackets t_partIsDue t_stackV t_codeA t_codeN R24.2 t_waitingA t_waitingN t_waiting)) [1, 2, 0] (by decide) rfl ?_
      show V l D cy MX1_release 1 0 0 _ _ _ 27 [(0, .ref tA), (1, .int x1)] [] (wX1_release cy tA R24.1 t_waits t_within t_brackets t_partIsDue t_stackV t_codeA t_codeN R24.2 t_waitingA t_waitingN t_waiting) 0 0
      refine V.aload_n dX1_release_27 rfl 0 rfl ?_
      refine V.dup dX1_release_28 rfl ?_
      refine V.get kfX1 0 rfl rfl 3 (by decide) klX1_25 rfl dX1_release_29 ?_
      refine V.iconst (v := (1 : Int32)) dX1_release_32 (by decide) ?_
      refine V.isub dX1_release_33 ?_
      refine V.put (ws' := (wX1_release cy tA R24.1 (t_waits - (1 : Int32)) t_within t_brackets t_partIsDue t_stackV t_codeA t_codeN R24.2 t_waitingA t_waitingN t_waiting)) kfX1 tyX1 tyX1_ok nmX1 0 rfl rfl 3 (by decide) klX1_25 rfl (tyX1_ok 3 (by decide)) rfl rfl (Nat.le_of_ble_eq_true rfl) dX1_release_34 rfl ?_
      refine V.goto (tgt := 0) dX1_release_37 (by decide) ?_
      exact hk0 _ _ _ _ R h hQ
noncomputable def fX1_release_L0 (F : Nat) (t_codeN : Nat) (t_waitingN : Nat) (t_waiting : Nat → Int32)  : Nat → Int32 → Int32 → Int32 → (Nat → Int32) → Option ((Int32) × (Int32) × (Nat → Int32))
  | 0 => fun _ _ _ _ => none
  | n + 1 => bX1_release_L0 F t_codeN t_waitingN t_waiting (fX1_release_L0 F t_codeN t_waitingN t_waiting  n)
theorem vX1_release_L0 {l : Launch} {D : va_G} {cy : Nat → ClassId} {av : List Value} {ws0 : va_W} {Q : Option Value → va_W → Prop} (F : Nat) (tA : Nat) (t_within : Int32) (t_brackets : Int32) (t_partIsDue : Int32) (t_stackV : Value) (t_codeA : Nat) (t_codeN : Nat) (t_waitingA : Nat) (t_waitingN : Nat) (t_waiting : Nat → Int32)  : ∀ (n : Nat) (x1 : Int32) (t_size : Int32) (t_waits : Int32) (t_code : Nat → Int32) (R : (Int32) × (Int32) × (Nat → Int32)), fX1_release_L0 F t_codeN t_waitingN t_waiting  n x1 t_size t_waits t_code = some R → Q none (wX1_release cy tA R.1 R.2.1 t_within t_brackets t_partIsDue t_stackV t_codeA t_codeN R.2.2 t_waitingA t_waitingN t_waiting) → V l D cy MX1_release 1 0 0 av ws0 Q 0 [(0, .ref tA), (1, .int x1)] [] (wX1_release cy tA t_size t_waits t_within t_brackets t_partIsDue t_stackV t_codeA t_codeN t_code t_waitingA t_waitingN t_waiting) 0 0 := by
  intro n
  induction n with
  | zero => intro x1 t_size t_waits t_code R h; exact vNone h
  | succ n ih => intro x1 t_size t_waits t_code R h hQ; exact vbX1_release_L0 F tA t_within t_brackets t_partIsDue t_stackV t_codeA t_codeN t_waitingA t_waitingN t_waiting _ ih x1 t_size t_waits t_code R h hQ
noncomputable def fX1_release (F : Nat) (t_codeN : Nat) (t_waitingN : Nat) (t_waiting : Nat → Int32) (a1 : Int32) (t_size : Int32) (t_waits : Int32) (t_code : Nat → Int32) : Option ((Int32) × (Int32) × (Nat → Int32)) :=
  fX1_release_L0 F t_codeN t_waitingN t_waiting F a1 t_size t_waits t_code
theorem CX1_release {l : Launch} {D : va_G} {cy : Nat → ClassId} (F : Nat) (tA : Nat) (t_size : Int32) (t_waits : Int32) (t_within : Int32) (t_brackets : Int32) (t_partIsDue : Int32) (t_stackV : Value) (t_codeA : Nat) (t_codeN : Nat) (t_code : Nat → Int32) (t_waitingA : Nat) (t_waitingN : Nat) (t_waiting : Nat → Int32) (a1 : Int32) (R : (Int32) × (Int32) × (Nat → Int32)) (h : fX1_release F t_codeN t_waitingN t_waiting a1 t_size t_waits t_code = some R) : vMet l D cy MX1_release 1 0 0 [.ref tA, .int a1] (wX1_release cy tA t_size t_waits t_within t_brackets t_partIsDue t_stackV t_codeA t_codeN t_code t_waitingA t_waitingN t_waiting) (fun (r : Option Value) (w : va_W) => r = none ∧ w = (wX1_release cy tA R.1 R.2.1 t_within t_brackets t_partIsDue t_stackV t_codeA t_codeN R.2.2 t_waitingA t_waitingN t_waiting)) := by
  refine vMet.start (by decide +kernel) (Nat.le_of_ble_eq_true rfl) ?_
  generalize hQe : (fun (r : Option Value) (w : va_W) => r = none ∧ w = (wX1_release cy tA R.1 R.2.1 t_within t_brackets t_partIsDue t_stackV t_codeA t_codeN R.2.2 t_waitingA t_waitingN t_waiting)) = Q
  have hQ : Q none (wX1_release cy tA R.1 R.2.1 t_within t_brackets t_partIsDue t_stackV t_codeA t_codeN R.2.2 t_waitingA t_waitingN t_waiting) := by rw [← hQe]; exact ⟨rfl, rfl⟩
  show V l D cy MX1_release 1 0 0 _ _ Q 0 [(0, .ref tA), (1, .int a1)] [] _ 0 0
  show V l D cy MX1_release 1 0 0 [.ref tA, .int a1] _ Q 0 [(0, .ref tA), (1, .int a1)] [] (wX1_release cy tA t_size t_waits t_within t_brackets t_partIsDue t_stackV t_codeA t_codeN t_code t_waitingA t_waitingN t_waiting) 0 0
  unfold fX1_release at h
  exact vX1_release_L0 _ _ _ _ _ _ _ _ _ _ _  _ _ _ _ _ R h hQ
theorem dX1_worth_0 : decode cX1_worth 0 = .ok (.iconst 0, 1) := by decide +kernel
theorem dX1_worth_1 : decode cX1_worth 1 = .ok (.istore 5, 2) := by decide +kernel
theorem dX1_worth_3 : decode cX1_worth 3 = .ok (.iconst 0, 1) := by decide +kernel
theorem dX1_worth_4 : decode cX1_worth 4 = .ok (.istore 6, 2) := by decide +kernel
theorem dX1_worth_6 : decode cX1_worth 6 = .ok (.iload 6, 2) := by decide +kernel
theorem dX1_worth_8 : decode cX1_worth 8 = .ok (.aload_n 0, 1) := by decide +kernel
theorem dX1_worth_9 : decode cX1_worth 9 = .ok (.getfield 21, 3) := by decide +kernel
theorem dX1_worth_12 : decode cX1_worth 12 = .ok (.if_icmp .ge 125, 3) := by decide +kernel
theorem dX1_worth_15 : decode cX1_worth 15 = .ok (.aload_n 0, 1) := by decide +kernel
theorem dX1_worth_16 : decode cX1_worth 16 = .ok (.getfield 9, 3) := by decide +kernel
theorem dX1_worth_19 : decode cX1_worth 19 = .ok (.iload 6, 2) := by decide +kernel
theorem dX1_worth_21 : decode cX1_worth 21 = .ok (.iaload, 1) := by decide +kernel
theorem dX1_worth_22 : decode cX1_worth 22 = .ok (.istore 7, 2) := by decide +kernel
theorem dX1_worth_24 : decode cX1_worth 24 = .ok (.iload 7, 2) := by decide +kernel
theorem dX1_worth_26 : decode cX1_worth 26 = .ok (.bipush (-13), 2) := by decide +kernel
theorem dX1_worth_28 : decode cX1_worth 28 = .ok (.if_icmp .ne 30, 3) := by decide +kernel
theorem dX1_worth_31 : decode cX1_worth 31 = .ok (.aload_n 0, 1) := by decide +kernel
theorem dX1_worth_32 : decode cX1_worth 32 = .ok (.iload 5, 2) := by decide +kernel
theorem dX1_worth_34 : decode cX1_worth 34 = .ok (.iconst 1, 1) := by decide +kernel
theorem dX1_worth_35 : decode cX1_worth 35 = .ok (.isub, 1) := by decide +kernel
theorem dX1_worth_36 : decode cX1_worth 36 = .ok (.aload_n 0, 1) := by decide +kernel
theorem dX1_worth_37 : decode cX1_worth 37 = .ok (.iload 5, 2) := by decide +kernel
theorem dX1_worth_39 : decode cX1_worth 39 = .ok (.iconst 1, 1) := by decide +kernel
theorem dX1_worth_40 : decode cX1_worth 40 = .ok (.isub, 1) := by decide +kernel
theorem dX1_worth_41 : decode cX1_worth 41 = .ok (.invokevirtual 86, 3) := by decide +kernel
theorem dX1_worth_44 : decode cX1_worth 44 = .ok (.ifCond .ne 7, 3) := by decide +kernel
theorem dX1_worth_47 : decode cX1_worth 47 = .ok (.iconst 1, 1) := by decide +kernel
theorem dX1_worth_48 : decode cX1_worth 48 = .ok (.goto 4, 3) := by decide +kernel
theorem dX1_worth_51 : decode cX1_worth 51 = .ok (.iconst 0, 1) := by decide +kernel
theorem dX1_worth_52 : decode cX1_worth 52 = .ok (.invokevirtual 89, 3) := by decide +kernel
theorem dX1_worth_55 : decode cX1_worth 55 = .ok (.goto 76, 3) := by decide +kernel
theorem dX1_worth_58 : decode cX1_worth 58 = .ok (.iload 7, 2) := by decide +kernel
theorem dX1_worth_60 : decode cX1_worth 60 = .ok (.ineg, 1) := by decide +kernel
theorem dX1_worth_61 : decode cX1_worth 61 = .ok (.invokestatic 79, 3) := by decide +kernel
theorem dX1_worth_64 : decode cX1_worth 64 = .ok (.ifCond .le 37, 3) := by decide +kernel
theorem dX1_worth_67 : decode cX1_worth 67 = .ok (.iinc 5 (-1), 3) := by decide +kernel
theorem dX1_worth_70 : decode cX1_worth 70 = .ok (.aload_n 0, 1) := by decide +kernel
theorem dX1_worth_71 : decode cX1_worth 71 = .ok (.iload 5, 2) := by decide +kernel
theorem dX1_worth_73 : decode cX1_worth 73 = .ok (.iconst 1, 1) := by decide +kernel
theorem dX1_worth_74 : decode cX1_worth 74 = .ok (.isub, 1) := by decide +kernel
theorem dX1_worth_75 : decode cX1_worth 75 = .ok (.iload 7, 2) := by decide +kernel
theorem dX1_worth_77 : decode cX1_worth 77 = .ok (.ineg, 1) := by decide +kernel
theorem dX1_worth_78 : decode cX1_worth 78 = .ok (.aload_n 0, 1) := by decide +kernel
theorem dX1_worth_79 : decode cX1_worth 79 = .ok (.iload 5, 2) := by decide +kernel
theorem dX1_worth_81 : decode cX1_worth 81 = .ok (.iconst 1, 1) := by decide +kernel
theorem dX1_worth_82 : decode cX1_worth 82 = .ok (.isub, 1) := by decide +kernel
theorem dX1_worth_83 : decode cX1_worth 83 = .ok (.invokevirtual 86, 3) := by decide +kernel
theorem dX1_worth_86 : decode cX1_worth 86 = .ok (.aload_n 0, 1) := by decide +kernel
theorem dX1_worth_87 : decode cX1_worth 87 = .ok (.iload 5, 2) := by decide +kernel
theorem dX1_worth_89 : decode cX1_worth 89 = .ok (.invokevirtual 86, 3) := by decide +kernel
theorem dX1_worth_92 : decode cX1_worth 92 = .ok (.invokestatic 93, 3) := by decide +kernel
theorem dX1_worth_95 : decode cX1_worth 95 = .ok (.invokevirtual 89, 3) := by decide +kernel
theorem dX1_worth_98 : decode cX1_worth 98 = .ok (.goto 33, 3) := by decide +kernel
theorem dX1_worth_101 : decode cX1_worth 101 = .ok (.aload_n 0, 1) := by decide +kernel
theorem dX1_worth_102 : decode cX1_worth 102 = .ok (.iload 5, 2) := by decide +kernel
theorem dX1_worth_104 : decode cX1_worth 104 = .ok (.iload 7, 2) := by decide +kernel
theorem dX1_worth_106 : decode cX1_worth 106 = .ok (.ifCond .lt 8, 3) := by decide +kernel
theorem dX1_worth_109 : decode cX1_worth 109 = .ok (.iload 7, 2) := by decide +kernel
theorem dX1_worth_111 : decode cX1_worth 111 = .ok (.goto 14, 3) := by decide +kernel
theorem dX1_worth_114 : decode cX1_worth 114 = .ok (.iload 7, 2) := by decide +kernel
theorem dX1_worth_116 : decode cX1_worth 116 = .ok (.ineg, 1) := by decide +kernel
theorem dX1_worth_117 : decode cX1_worth 117 = .ok (.iload_n 1, 1) := by decide +kernel
theorem dX1_worth_118 : decode cX1_worth 118 = .ok (.iload_n 2, 1) := by decide +kernel
theorem dX1_worth_119 : decode cX1_worth 119 = .ok (.iload_n 3, 1) := by decide +kernel
theorem dX1_worth_120 : decode cX1_worth 120 = .ok (.iload 4, 2) := by decide +kernel
theorem dX1_worth_122 : decode cX1_worth 122 = .ok (.invokestatic 97, 3) := by decide +kernel
theorem dX1_worth_125 : decode cX1_worth 125 = .ok (.invokevirtual 89, 3) := by decide +kernel
theorem dX1_worth_128 : decode cX1_worth 128 = .ok (.iinc 5 1, 3) := by decide +kernel
theorem dX1_worth_131 : decode cX1_worth 131 = .ok (.iinc 6 1, 3) := by decide +kernel
theorem dX1_worth_134 : decode cX1_worth 134 = .ok (.goto (-128), 3) := by decide +kernel
theorem dX1_worth_137 : decode cX1_worth 137 = .ok (.aload_n 0, 1) := by decide +kernel
theorem dX1_worth_138 : decode cX1_worth 138 = .ok (.iconst 0, 1) := by decide +kernel
theorem dX1_worth_139 : decode cX1_worth 139 = .ok (.invokevirtual 86, 3) := by decide +kernel
theorem dX1_worth_142 : decode cX1_worth 142 = .ok (.ireturn, 1) := by decide +kernel
def wX1_worth (cy : Nat → ClassId) (tA : Nat) (t_size : Int32) (t_waitingV : Value) (t_waits : Int32) (t_within : Int32) (t_brackets : Int32) (t_partIsDue : Int32) (t_codeA : Nat) (t_codeN : Nat) (t_code : Nat → Int32) (t_stackA : Nat) (t_stackN : Nat) (t_stack : Nat → Int32) : va_W :=
  [(tA, .inr (1, [.ref t_codeA, .int t_size, t_waitingV, .int t_waits, .int t_within, .int t_brackets, .int t_partIsDue, .ref t_stackA])), (t_codeA, .inl (cy 1, t_codeN, .inl t_code)), (t_stackA, .inl (cy 1, t_stackN, .inl t_stack))]
noncomputable def bX1_worth_L131 (F : Nat) (t_size : Int32) (t_codeN : Nat) (t_code : Nat → Int32) (t_stackN : Nat) (k6 : Int32 → Int32 → Int32 → Int32 → Int32 → Int32 → (Nat → Int32) → Option (Int32 × (Nat → Int32))) (x1 : Int32) (x2 : Int32) (x3 : Int32) (x4 : Int32) (x5 : Int32) (x6 : Int32) (t_stack : Nat → Int32) : Option (Int32 × (Nat → Int32)) :=
  k6 x1 x2 x3 x4 x5 (x6 + (1 : Int32)) t_stack
theorem vX1_worth_L131 {l : Launch} {D : va_G} {cy : Nat → ClassId} {av : List Value} {ws0 : va_W} {Q : Option Value → va_W → Prop} (F : Nat) (tA : Nat) (t_size : Int32) (t_waitingV : Value) (t_waits : Int32) (t_within : Int32) (t_brackets : Int32) (t_partIsDue : Int32) (t_codeA : Nat) (t_codeN : Nat) (t_code : Nat → Int32) (t_stackA : Nat) (t_stackN : Nat) (k6 : Int32 → Int32 → Int32 → Int32 → Int32 → Int32 → (Nat → Int32) → Option (Int32 × (Nat → Int32))) (hk6 : ∀ (x1 : Int32) (x2 : Int32) (x3 : Int32) (x4 : Int32) (x5 : Int32) (x6 : Int32) (t_stack : Nat → Int32) (R : Int32 × (Nat → Int32)), k6 x1 x2 x3 x4 x5 x6 t_stack = some R → Q (some (.int R.1)) (wX1_worth cy tA t_size t_waitingV t_waits t_within t_brackets t_partIsDue t_codeA t_codeN t_code t_stackA t_stackN R.2) → V l D cy MX1_worth 1 0 0 av ws0 Q 6 [(0, .ref tA), (1, .int x1), (2, .int x2), (3, .int x3), (4, .int x4), (5, .int x5), (6, .int x6)] [] (wX1_worth cy tA t_size t_waitingV t_waits t_within t_brackets t_partIsDue t_codeA t_codeN t_code t_stackA t_stackN t_stack) 0 0) (x1 : Int32) (x2 : Int32) (x3 : Int32) (x4 : Int32) (x5 : Int32) (x6 : Int32) (t_stack : Nat → Int32) (R : Int32 × (Nat → Int32)) (h : bX1_worth_L131 F t_size t_codeN t_code t_stackN k6 x1 x2 x3 x4 x5 x6 t_stack = some R) (hQ : Q (some (.int R.1)) (wX1_worth cy tA t_size t_waitingV t_waits t_within t_brackets t_partIsDue t_codeA t_codeN t_code t_stackA t_stackN R.2)) : V l D cy MX1_worth 1 0 0 av ws0 Q 131 [(0, .ref tA), (1, .int x1), (2, .int x2), (3, .int x3), (4, .int x4), (5, .int x5), (6, .int x6)] [] (wX1_worth cy tA t_size t_waitingV t_waits t_within t_brackets t_partIsDue t_codeA t_codeN t_code t_stackA t_stackN t_stack) 0 0 := by
  unfold bX1_worth_L131 at h
  refine V.iinc (v := x6 + (1 : Int32)) (lv' := [(6, .int (x6 + (1 : Int32))), (0, .ref tA), (1, .int x1), (2, .int x2), (3, .int x3), (4, .int x4), (5, .int x5)]) dX1_worth_131 6 rfl rfl (by decide) rfl ?_
  refine V.goto (tgt := 6) dX1_worth_134 (by decide) ?_
  refine V.lvs [1, 2, 3, 4, 5, 6, 0] rfl ?_
  exact hk6 _ _ _ _ _ _ _ R h hQ
noncomputable def bX1_worth_L125 (F : Nat) (t_size : Int32) (t_codeN : Nat) (t_code : Nat → Int32) (t_stackN : Nat) (k6 : Int32 → Int32 → Int32 → Int32 → Int32 → Int32 → (Nat → Int32) → Option (Int32 × (Nat → Int32))) (x1 : Int32) (x2 : Int32) (x3 : Int32) (x4 : Int32) (x5 : Int32) (x6 : Int32) (s1 : Int32) (s2 : Int32) (t_stack : Nat → Int32) : Option (Int32 × (Nat → Int32)) :=
  (fX1_set F t_stackN s1 s2 t_stack).bind fun R125 => (bX1_worth_L131 F t_size t_codeN t_code t_stackN k6 x1 x2 x3 x4 (x5 + (1 : Int32)) x6 R125)
theorem vX1_worth_L125 {l : Launch} {D : va_G} {cy : Nat → ClassId} {av : List Value} {ws0 : va_W} {Q : Option Value → va_W → Prop} (F : Nat) (tA : Nat) (t_size : Int32) (t_waitingV : Value) (t_waits : Int32) (t_within : Int32) (t_brackets : Int32) (t_partIsDue : Int32) (t_codeA : Nat) (t_codeN : Nat) (t_code : Nat → Int32) (t_stackA : Nat) (t_stackN : Nat) (k6 : Int32 → Int32 → Int32 → Int32 → Int32 → Int32 → (Nat → Int32) → Option (Int32 × (Nat → Int32))) (hk6 : ∀ (x1 : Int32) (x2 : Int32) (x3 : Int32) (x4 : Int32) (x5 : Int32) (x6 : Int32) (t_stack : Nat → Int32) (R : Int32 × (Nat → Int32)), k6 x1 x2 x3 x4 x5 x6 t_stack = some R → Q (some (.int R.1)) (wX1_worth cy tA t_size t_waitingV t_waits t_within t_brackets t_partIsDue t_codeA t_codeN t_code t_stackA t_stackN R.2) → V l D cy MX1_worth 1 0 0 av ws0 Q 6 [(0, .ref tA), (1, .int x1), (2, .int x2), (3, .int x3), (4, .int x4), (5, .int x5), (6, .int x6)] [] (wX1_worth cy tA t_size t_waitingV t_waits t_within t_brackets t_partIsDue t_codeA t_codeN t_code t_stackA t_stackN t_stack) 0 0) (x1 : Int32) (x2 : Int32) (x3 : Int32) (x4 : Int32) (x5 : Int32) (x6 : Int32) (s1 : Int32) (s2 : Int32) (t_stack : Nat → Int32) (R : Int32 × (Nat → Int32)) (h : bX1_worth_L125 F t_size t_codeN t_code t_stackN k6 x1 x2 x3 x4 x5 x6 s1 s2 t_stack = some R) (hQ : Q (some (.int R.1)) (wX1_worth cy tA t_size t_waitingV t_waits t_within t_brackets t_partIsDue t_codeA t_codeN t_code t_stackA t_stackN R.2)) : V l D cy MX1_worth 1 0 0 av ws0 Q 125 [(0, .ref tA), (1, .int x1), (2, .int x2), (3, .int x3), (4, .int x4), (5, .int x5), (6, .int x6)] [.int s2, .int s1, .ref tA] (wX1_worth cy tA t_size t_waitingV t_waits t_within t_brackets t_partIsDue t_codeA t_codeN t_code t_stackA t_stackN t_stack) 0 0 := by
  unfold bX1_worth_L125 at h
  obtain ⟨R125, hg125, h⟩ := Option.bind_eq_some_iff.mp h
  refine V.callV (As := [.int s1, .int s2]) (rest := []) (wc := (wX1_set cy tA (.ref t_codeA) t_size t_waitingV t_waits t_within t_brackets t_partIsDue t_stackA t_stackN t_stack)) (wr := [(t_codeA, .inl (cy 1, t_codeN, .inl t_code))]) (q0 := 0) (CX1_set F tA (.ref t_codeA) t_size t_waitingV t_waits t_within t_brackets t_partIsDue t_stackA t_stackN t_stack s1 s2 R125 hg125) kvX1_set klX1_89 [0, 2] [1] rfl rfl (by decide) (by decide) (by decide) rfl rfl rfl rfl dX1_worth_125 ⟨by decide, by decide, by decide, by decide⟩ (Nat.le_of_ble_eq_true rfl) (fun r w1 hq => ?_)
  obtain ⟨rfl, rfl⟩ := hq
  refine V.cells (ws' := (wX1_worth cy tA t_size t_waitingV t_waits t_within t_brackets t_partIsDue t_codeA t_codeN t_code t_stackA t_stackN R125)) [1, 0, 2] (by decide) rfl ?_
  show V l D cy MX1_worth 1 0 0 _ _ _ 128 [(0, .ref tA), (1, .int x1), (2, .int x2), (3, .int x3), (4, .int x4), (5, .int x5), (6, .int x6)] [] (wX1_worth cy tA t_size t_waitingV t_waits t_within t_brackets t_partIsDue t_codeA t_codeN t_code t_stackA t_stackN R125) 0 0
  refine V.iinc (v := x5 + (1 : Int32)) (lv' := [(5, .int (x5 + (1 : Int32))), (0, .ref tA), (1, .int x1), (2, .int x2), (3, .int x3), (4, .int x4), (6, .int x6)]) dX1_worth_128 5 rfl rfl (by decide) rfl ?_
  refine V.lvs [1, 2, 3, 4, 5, 0, 6] rfl ?_
  exact vX1_worth_L131 _ _ _ _ _ _ _ _ _ _ _ _ _ _ hk6  _ _ _ _ _ _ _ R h hQ
noncomputable def bX1_worth_L52 (F : Nat) (t_size : Int32) (t_codeN : Nat) (t_code : Nat → Int32) (t_stackN : Nat) (k6 : Int32 → Int32 → Int32 → Int32 → Int32 → Int32 → (Nat → Int32) → Option (Int32 × (Nat → Int32))) (x1 : Int32) (x2 : Int32) (x3 : Int32) (x4 : Int32) (x5 : Int32) (x6 : Int32) (s1 : Int32) (s2 : Int32) (t_stack : Nat → Int32) : Option (Int32 × (Nat → Int32)) :=
  (fX1_set F t_stackN s1 s2 t_stack).bind fun R52 => (bX1_worth_L131 F t_size t_codeN t_code t_stackN k6 x1 x2 x3 x4 x5 x6 R52)
theorem vX1_worth_L52 {l : Launch} {D : va_G} {cy : Nat → ClassId} {av : List Value} {ws0 : va_W} {Q : Option Value → va_W → Prop} (F : Nat) (tA : Nat) (t_size : Int32) (t_waitingV : Value) (t_waits : Int32) (t_within : Int32) (t_brackets : Int32) (t_partIsDue : Int32) (t_codeA : Nat) (t_codeN : Nat) (t_code : Nat → Int32) (t_stackA : Nat) (t_stackN : Nat) (k6 : Int32 → Int32 → Int32 → Int32 → Int32 → Int32 → (Nat → Int32) → Option (Int32 × (Nat → Int32))) (hk6 : ∀ (x1 : Int32) (x2 : Int32) (x3 : Int32) (x4 : Int32) (x5 : Int32) (x6 : Int32) (t_stack : Nat → Int32) (R : Int32 × (Nat → Int32)), k6 x1 x2 x3 x4 x5 x6 t_stack = some R → Q (some (.int R.1)) (wX1_worth cy tA t_size t_waitingV t_waits t_within t_brackets t_partIsDue t_codeA t_codeN t_code t_stackA t_stackN R.2) → V l D cy MX1_worth 1 0 0 av ws0 Q 6 [(0, .ref tA), (1, .int x1), (2, .int x2), (3, .int x3), (4, .int x4), (5, .int x5), (6, .int x6)] [] (wX1_worth cy tA t_size t_waitingV t_waits t_within t_brackets t_partIsDue t_codeA t_codeN t_code t_stackA t_stackN t_stack) 0 0) (x1 : Int32) (x2 : Int32) (x3 : Int32) (x4 : Int32) (x5 : Int32) (x6 : Int32) (s1 : Int32) (s2 : Int32) (t_stack : Nat → Int32) (R : Int32 × (Nat → Int32)) (h : bX1_worth_L52 F t_size t_codeN t_code t_stackN k6 x1 x2 x3 x4 x5 x6 s1 s2 t_stack = some R) (hQ : Q (some (.int R.1)) (wX1_worth cy tA t_size t_waitingV t_waits t_within t_brackets t_partIsDue t_codeA t_codeN t_code t_stackA t_stackN R.2)) : V l D cy MX1_worth 1 0 0 av ws0 Q 52 [(0, .ref tA), (1, .int x1), (2, .int x2), (3, .int x3), (4, .int x4), (5, .int x5), (6, .int x6)] [.int s2, .int s1, .ref tA] (wX1_worth cy tA t_size t_waitingV t_waits t_within t_brackets t_partIsDue t_codeA t_codeN t_code t_stackA t_stackN t_stack) 0 0 := by
  unfold bX1_worth_L52 at h
  obtain ⟨R52, hg52, h⟩ := Option.bind_eq_some_iff.mp h
  refine V.callV (As := [.int s1, .int s2]) (rest := []) (wc := (wX1_set cy tA (.ref t_codeA) t_size t_waitingV t_waits t_within t_brackets t_partIsDue t_stackA t_stackN t_stack)) (wr := [(t_codeA, .inl (cy 1, t_codeN, .inl t_code))]) (q0 := 0) (CX1_set F tA (.ref t_codeA) t_size t_waitingV t_waits t_within t_brackets t_partIsDue t_stackA t_stackN t_stack s1 s2 R52 hg52) kvX1_set klX1_89 [0, 2] [1] rfl rfl (by decide) (by decide) (by decide) rfl rfl rfl rfl dX1_worth_52 ⟨by decide, by decide, by decide, by decide⟩ (Nat.le_of_ble_eq_true rfl) (fun r w1 hq => ?_)
  obtain ⟨rfl, rfl⟩ := hq
  refine V.cells (ws' := (wX1_worth cy tA t_size t_waitingV t_waits t_within t_brackets t_partIsDue t_codeA t_codeN t_code t_stackA t_stackN R52)) [1, 0, 2] (by decide) rfl ?_
  show V l D cy MX1_worth 1 0 0 _ _ _ 55 [(0, .ref tA), (1, .int x1), (2, .int x2), (3, .int x3), (4, .int x4), (5, .int x5), (6, .int x6)] [] (wX1_worth cy tA t_size t_waitingV t_waits t_within t_brackets t_partIsDue t_codeA t_codeN t_code t_stackA t_stackN R52) 0 0
  refine V.goto (tgt := 131) dX1_worth_55 (by decide) ?_
  exact vX1_worth_L131 _ _ _ _ _ _ _ _ _ _ _ _ _ _ hk6  _ _ _ _ _ _ _ R h hQ
noncomputable def bX1_worth_L6 (F : Nat) (t_size : Int32) (t_codeN : Nat) (t_code : Nat → Int32) (t_stackN : Nat) (k6 : Int32 → Int32 → Int32 → Int32 → Int32 → Int32 → (Nat → Int32) → Option (Int32 × (Nat → Int32))) (x1 : Int32) (x2 : Int32) (x3 : Int32) (x4 : Int32) (x5 : Int32) (x6 : Int32) (t_stack : Nat → Int32) : Option (Int32 × (Nat → Int32)) :=
  if t_size ≤ x6 then ((fX1_get F t_stackN t_stack (0 : Int32)).bind fun R139 => (some (R139, t_stack))) else (if x6 < 0 ∨ t_codeN ≤ x6.toNatClampNeg then none else (if (t_code (x6).toNatClampNeg) = (-13 : Int32) then ((fX1_get F t_stackN t_stack (x5 - (1 : Int32))).bind fun R41 => (if R41 = 0 then (bX1_worth_L52 F t_size t_codeN t_code t_stackN k6 x1 x2 x3 x4 x5 x6 (x5 - (1 : Int32)) (1 : Int32) t_stack) else (bX1_worth_L52 F t_size t_codeN t_code t_stackN k6 x1 x2 x3 x4 x5 x6 (x5 - (1 : Int32)) (0 : Int32) t_stack))) else ((fX1_rankOf F (-(t_code (x6).toNatClampNeg))).bind fun R61 => (if R61 ≤ 0 then (if (t_code (x6).toNatClampNeg) < 0 then ((fX1_fact F (-(t_code (x6).toNatClampNeg)) x1 x2 x3 x4).bind fun R122 => (bX1_worth_L125 F t_size t_codeN t_code t_stackN k6 x1 x2 x3 x4 x5 x6 x5 R122 t_stack)) else (bX1_worth_L125 F t_size t_codeN t_code t_stackN k6 x1 x2 x3 x4 x5 x6 x5 (t_code (x6).toNatClampNeg) t_stack)) else ((fX1_get F t_stackN t_stack ((x5 + (-1 : Int32)) - (1 : Int32))).bind fun R83 => ((fX1_get F t_stackN t_stack (x5 + (-1 : Int32))).bind fun R89 => ((fX1_joined F (-(t_code (x6).toNatClampNeg)) R83 R89).bind fun R92 => ((fX1_set F t_stackN ((x5 + (-1 : Int32)) - (1 : Int32)) R92 t_stack).bind fun R95 => (bX1_worth_L131 F t_size t_codeN t_code t_stackN k6 x1 x2 x3 x4 (x5 + (-1 : Int32)) x6 R95)))))))))
theorem vbX1_worth_L6 {l : Launch} {D : va_G} {cy : Nat → ClassId} {av : List Value} {ws0 : va_W} {Q : Option Value → va_W → Prop} (F : Nat) (tA : Nat) (t_size : Int32) (t_waitingV : Value) (t_waits : Int32) (t_within : Int32) (t_brackets : Int32) (t_partIsDue : Int32) (t_codeA : Nat) (t_codeN : Nat) (t_code : Nat → Int32) (t_stackA : Nat) (t_stackN : Nat) (k6 : Int32 → Int32 → Int32 → Int32 → Int32 → Int32 → (Nat → Int32) → Option (Int32 × (Nat → Int32))) (hk6 : ∀ (x1 : Int32) (x2 : Int32) (x3 : Int32) (x4 : Int32) (x5 : Int32) (x6 : Int32) (t_stack : Nat → Int32) (R : Int32 × (Nat → Int32)), k6 x1 x2 x3 x4 x5 x6 t_stack = some R → Q (some (.int R.1)) (wX1_worth cy tA t_size t_waitingV t_waits t_within t_brackets t_partIsDue t_codeA t_codeN t_code t_stackA t_stackN R.2) → V l D cy MX1_worth 1 0 0 av ws0 Q 6 [(0, .ref tA), (1, .int x1), (2, .int x2), (3, .int x3), (4, .int x4), (5, .int x5), (6, .int x6)] [] (wX1_worth cy tA t_size t_waitingV t_waits t_within t_brackets t_partIsDue t_codeA t_codeN t_code t_stackA t_stackN t_stack) 0 0) (x1 : Int32) (x2 : Int32) (x3 : Int32) (x4 : Int32) (x5 : Int32) (x6 : Int32) (t_stack : Nat → Int32) (R : Int32 × (Nat → Int32)) (h : bX1_worth_L6 F t_size t_codeN t_code t_stackN k6 x1 x2 x3 x4 x5 x6 t_stack = some R) (hQ : Q (some (.int R.1)) (wX1_worth cy tA t_size t_waitingV t_waits t_within t_brackets t_partIsDue t_codeA t_codeN t_code t_stackA t_stackN R.2)) : V l D cy MX1_worth 1 0 0 av ws0 Q 6 [(0, .ref tA), (1, .int x1), (2, .int x2), (3, .int x3), (4, .int x4), (5, .int x5), (6, .int x6)] [] (wX1_worth cy tA t_size t_waitingV t_waits t_within t_brackets t_partIsDue t_codeA t_codeN t_code t_stackA t_stackN t_stack) 0 0 := by
  unfold bX1_worth_L6 at h
  refine V.iload dX1_worth_6 6 rfl ?_
  refine V.aload_n dX1_worth_8 rfl 0 rfl ?_
  refine V.get kfX1 0 rfl rfl 1 (by decide) klX1_21 rfl dX1_worth_9 ?_
  refine V.icmp_ge (tgt := 137) dX1_worth_12 (by decide) (fun hc12 => ?_) (fun hc12 => ?_)
  · replace h := (if_pos hc12).symm.trans h
    refine V.aload_n dX1_worth_137 rfl 0 rfl ?_
    refine V.iconst (v := (0 : Int32)) dX1_worth_138 (by decide) ?_
    obtain ⟨R139, hg139, h⟩ := Option.bind_eq_some_iff.mp h
    refine V.callV (As := [.int (0 : Int32)]) (rest := []) (wc := (wX1_get cy tA (.ref t_codeA) t_size t_waitingV t_waits t_within t_brackets t_partIsDue t_stackA t_stackN t_stack)) (wr := [(t_codeA, .inl (cy 1, t_codeN, .inl t_code))]) (q0 := 0) (CX1_get F tA (.ref t_codeA) t_size t_waitingV t_waits t_within t_brackets t_partIsDue t_stackA t_stackN t_stack (0 : Int32) R139 hg139) kvX1_get klX1_86 [0, 2] [1] rfl rfl (by decide) (by decide) (by decide) rfl rfl rfl rfl dX1_worth_139 ⟨by decide, by decide, by decide, by decide⟩ (Nat.le_of_ble_eq_true rfl) (fun r w1 hq => ?_)
    obtain ⟨rfl, rfl⟩ := hq
    refine V.cells (ws' := (wX1_worth cy tA t_size t_waitingV t_waits t_within t_brackets t_partIsDue t_codeA t_codeN t_code t_stackA t_stackN t_stack)) [1, 0, 2] (by decide) rfl ?_
    show V l D cy MX1_worth 1 0 0 _ _ _ 142 [(0, .ref tA), (1, .int x1), (2, .int x2), (3, .int x3), (4, .int x4), (5, .int x5), (6, .int x6)] [.int R139] (wX1_worth cy tA t_size t_waitingV t_waits t_within t_brackets t_partIsDue t_codeA t_codeN t_code t_stackA t_stackN t_stack) 0 0
    have e9 := Option.some.inj h; subst e9
    exact V.iret (ty := .int) rfl rfl dX1_worth_142 (Nat.le_refl _) (Nat.le_refl _) hQ
  · replace h := (if_neg hc12).symm.trans h
    refine V.aload_n dX1_worth_15 rfl 0 rfl ?_
    refine V.get kfX1 0 rfl rfl 0 (by decide) klX1_9 rfl dX1_worth_16 ?_
    refine V.iload dX1_worth_19 6 rfl ?_
    by_cases hb21 : x6 < 0 ∨ t_codeN ≤ x6.toNatClampNeg
    · exact vNone ((if_pos hb21).symm.trans h)
    replace h := (if_neg hb21).symm.trans h
    refine V.iald dX1_worth_21 1 rfl hb21 ?_
    refine V.istore (lv' := [(7, .int (t_code (x6).toNatClampNeg)), (0, .ref tA), (1, .int x1), (2, .int x2), (3, .int x3), (4, .int x4), (5, .int x5), (6, .int x6)]) dX1_worth_22 (by decide) rfl ?_
    refine V.iload dX1_worth_24 0 rfl ?_
    refine V.bipush (v := (-13 : Int32)) dX1_worth_26 (by decide) ?_
    refine V.icmp_ne (tgt := 58) dX1_worth_28 (by decide) (fun hc28 => ?_) (fun hc28 => ?_)
    · replace h := (if_neg hc28).symm.trans h
      refine V.iload dX1_worth_58 0 rfl ?_
      refine V.ineg dX1_worth_60 ?_
      obtain ⟨R61, hg61, h⟩ := Option.bind_eq_some_iff.mp h
      refine V.callS (As := [.int (-(t_code (x6).toNatClampNeg))]) (rest := []) (wc := (wX1_rankOf cy )) (wr := [(tA, .inr (1, [.ref t_codeA, .int t_size, t_waitingV, .int t_waits, .int t_within, .int t_brackets, .int t_partIsDue, .ref t_stackA])), (t_codeA, .inl (cy 1, t_codeN, .inl t_code)), (t_stackA, .inl (cy 1, t_stackN, .inl t_stack))]) (CX1_rankOf F (-(t_code (x6).toNatClampNeg)) R61 hg61) kvX1_rankOf klX1_79 [] [0, 1, 2] rfl rfl (by decide) (by decide) (by decide) rfl dX1_worth_61 ⟨by decide, by decide, by decide, by decide⟩ (Nat.le_of_ble_eq_true rfl) (fun r w1 hq => ?_)
      obtain ⟨rfl, rfl⟩ := hq
      refine V.cells (ws' := (wX1_worth cy tA t_size t_waitingV t_waits t_within t_brackets t_partIsDue t_codeA t_codeN t_code t_stackA t_stackN t_stack)) [0, 1, 2] (by decide) rfl ?_
      show V l D cy MX1_worth 1 0 0 _ _ _ 64 [(7, .int (t_code (x6).toNatClampNeg)), (0, .ref tA), (1, .int x1), (2, .int x2), (3, .int x3), (4, .int x4), (5, .int x5), (6, .int x6)] [.int R61] (wX1_worth cy tA t_size t_waitingV t_waits t_within t_brackets t_partIsDue t_codeA t_codeN t_code t_stackA t_stackN t_stack) 0 0
      refine V.if_le (tgt := 101) dX1_worth_64 (by decide) (fun hc64 => ?_) (fun hc64 => ?_)
      · replace h := (if_pos hc64).symm.trans h
        refine V.aload_n dX1_worth_101 rfl 1 rfl ?_
        refine V.iload dX1_worth_102 6 rfl ?_
        refine V.iload dX1_worth_104 0 rfl ?_
        refine V.if_lt (tgt := 114) dX1_worth_106 (by decide) (fun hc106 => ?_) (fun hc106 => ?_)
        · replace h := (if_pos hc106).symm.trans h
          refine V.iload dX1_worth_114 0 rfl ?_
          refine V.ineg dX1_worth_116 ?_
          refine V.iload_n dX1_worth_117 rfl 2 rfl ?_
          refine V.iload_n dX1_worth_118 rfl 3 rfl ?_
          refine V.iload_n dX1_worth_119 rfl 4 rfl ?_
          refine V.iload dX1_worth_120 5 rfl ?_
          obtain ⟨R122, hg122, h⟩ := Option.bind_eq_some_iff.mp h
          refine V.callS (As := [.int (-(t_code (x6).toNatClampNeg)), .int x1, .int x2, .int x3, .int x4]) (rest := [.int x5, .ref tA]) (wc := (wX1_fact cy )) (wr := [(tA, .inr (1, [.ref t_codeA, .int t_size, t_waitingV, .int t_waits, .int t_within, .int t_brackets, .int t_partIsDue, .ref t_stackA])), (t_codeA, .inl (cy 1, t_codeN, .inl t_code)), (t_stackA, .inl (cy 1, t_stackN, .inl t_stack))]) (CX1_fact F (-(t_code (x6).toNatClampNeg)) x1 x2 x3 x4 R122 hg122) kvX1_fact klX1_97 [] [0, 1, 2] rfl rfl (by decide) (by decide) (by decide) rfl dX1_worth_122 ⟨by decide, by decide, by decide, by decide⟩ (Nat.le_of_ble_eq_true rfl) (fun r w1 hq => ?_)
          obtain ⟨rfl, rfl⟩ := hq
          refine V.cells (ws' := (wX1_worth cy tA t_size t_waitingV t_waits t_within t_brackets t_partIsDue t_codeA t_codeN t_code t_stackA t_stackN t_stack)) [0, 1, 2] (by decide) rfl ?_
          show V l D cy MX1_worth 1 0 0 _ _ _ 125 [(7, .int (t_code (x6).toNatClampNeg)), (0, .ref tA), (1, .int x1), (2, .int x2), (3, .int x3), (4, .int x4), (5, .int x5), (6, .int x6)] [.int R122, .int x5, .ref tA] (wX1_worth cy tA t_size t_waitingV t_waits t_within t_brackets t_partIsDue t_codeA t_codeN t_code t_stackA t_stackN t_stack) 0 0
          refine V.lvs [1, 2, 3, 4, 5, 6, 7] rfl ?_
          exact vX1_worth_L125 _ _ _ _ _ _ _ _ _ _ _ _ _ _ hk6  _ _ _ _ _ _ _ _ _ R h hQ
        · replace h := (if_neg hc106).symm.trans h
          refine V.iload dX1_worth_109 0 rfl ?_
          refine V.goto (tgt := 125) dX1_worth_111 (by decide) ?_
          refine V.lvs [1, 2, 3, 4, 5, 6, 7] rfl ?_
          exact vX1_worth_L125 _ _ _ _ _ _ _ _ _ _ _ _ _ _ hk6  _ _ _ _ _ _ _ _ _ R h hQ
      · replace h := (if_neg hc64).symm.trans h
        refine V.iinc (v := x5 + (-1 : Int32)) (lv' := [(5, .int (x5 + (-1 : Int32))), (7, .int (t_code (x6).toNatClampNeg)), (0, .ref tA), (1, .int x1), (2, .int x2), (3, .int x3), (4, .int x4), (6, .int x6)]) dX1_worth_67 6 rfl rfl (by decide) rfl ?_
        refine V.aload_n dX1_worth_70 rfl 2 rfl ?_
        refine V.iload dX1_worth_71 0 rfl ?_
        refine V.iconst (v := (1 : Int32)) dX1_worth_73 (by decide) ?_
        refine V.isub dX1_worth_74 ?_
        refine V.iload dX1_worth_75 1 rfl ?_
        refine V.ineg dX1_worth_77 ?_
        refine V.aload_n dX1_worth_78 rfl 2 rfl ?_
        refine V.iload dX1_worth_79 0 rfl ?_
        refine V.iconst (v := (1 : Int32)) dX1_worth_81 (by decide) ?_
        refine V.isub dX1_worth_82 ?_
        obtain ⟨R83, hg83, h⟩ := Option.bind_eq_some_iff.mp h
        refine V.callV (As := [.int ((x5 + (-1 : Int32)) - (1 : Int32))]) (rest := [.int (-(t_code (x6).toNatClampNeg)), .int ((x5 + (-1 : Int32)) - (1 : Int32)), .ref tA]) (wc := (wX1_get cy tA (.ref t_codeA) t_size t_waitingV t_waits t_within t_brackets t_partIsDue t_stackA t_stackN t_stack)) (wr := [(t_codeA, .inl (cy 1, t_codeN, .inl t_code))]) (q0 := 0) (CX1_get F tA (.ref t_codeA) t_size t_waitingV t_waits t_within t_brackets t_partIsDue t_stackA t_stackN t_stack ((x5 + (-1 : Int32)) - (1 : Int32)) R83 hg83) kvX1_get klX1_86 [0, 2] [1] rfl rfl (by decide) (by decide) (by decide) rfl rfl rfl rfl dX1_worth_83 ⟨by decide, by decide, by decide, by decide⟩ (Nat.le_of_ble_eq_true rfl) (fun r w1 hq => ?_)
        obtain ⟨rfl, rfl⟩ := hq
        refine V.cells (ws' := (wX1_worth cy tA t_size t_waitingV t_waits t_within t_brackets t_partIsDue t_codeA t_codeN t_code t_stackA t_stackN t_stack)) [1, 0, 2] (by decide) rfl ?_
        show V l D cy MX1_worth 1 0 0 _ _ _ 86 [(5, .int (x5 + (-1 : Int32))), (7, .int (t_code (x6).toNatClampNeg)), (0, .ref tA), (1, .int x1), (2, .int x2), (3, .int x3), (4, .int x4), (6, .int x6)] [.int R83, .int (-(t_code (x6).toNatClampNeg)), .int ((x5 + (-1 : Int32)) - (1 : Int32)), .ref tA] (wX1_worth cy tA t_size t_waitingV t_waits t_within t_brackets t_partIsDue t_codeA t_codeN t_code t_stackA t_stackN t_stack) 0 0
        refine V.aload_n dX1_worth_86 rfl 2 rfl ?_
        refine V.iload dX1_worth_87 0 rfl ?_
        obtain ⟨R89, hg89, h⟩ := Option.bind_eq_some_iff.mp h
        refine V.callV (As := [.int (x5 + (-1 : Int32))]) (rest := [.int R83, .int (-(t_code (x6).toNatClampNeg)), .int ((x5 + (-1 : Int32)) - (1 : Int32)), .ref tA]) (wc := (wX1_get cy tA (.ref t_codeA) t_size t_waitingV t_waits t_within t_brackets t_partIsDue t_stackA t_stackN t_stack)) (wr := [(t_codeA, .inl (cy 1, t_codeN, .inl t_code))]) (q0 := 0) (CX1_get F tA (.ref t_codeA) t_size t_waitingV t_waits t_within t_brackets t_partIsDue t_stackA t_stackN t_stack (x5 + (-1 : Int32)) R89 hg89) kvX1_get klX1_86 [0, 2] [1] rfl rfl (by decide) (by decide) (by decide) rfl rfl rfl rfl dX1_worth_89 ⟨by decide, by decide, by decide, by decide⟩ (Nat.le_of_ble_eq_true rfl) (fun r w1 hq => ?_)
        obtain ⟨rfl, rfl⟩ := hq
        refine V.cells (ws' := (wX1_worth cy tA t_size t_waitingV t_waits t_within t_brackets t_partIsDue t_codeA t_codeN t_code t_stackA t_stackN t_stack)) [1, 0, 2] (by decide) rfl ?_
        show V l D cy MX1_worth 1 0 0 _ _ _ 92 [(5, .int (x5 + (-1 : Int32))), (7, .int (t_code (x6).toNatClampNeg)), (0, .ref tA), (1, .int x1), (2, .int x2), (3, .int x3), (4, .int x4), (6, .int x6)] [.int R89, .int R83, .int (-(t_code (x6).toNatClampNeg)), .int ((x5 + (-1 : Int32)) - (1 : Int32)), .ref tA] (wX1_worth cy tA t_size t_waitingV t_waits t_within t_brackets t_partIsDue t_codeA t_codeN t_code t_stackA t_stackN t_stack) 0 0
        obtain ⟨R92, hg92, h⟩ := Option.bind_eq_some_iff.mp h
        refine V.callS (As := [.int (-(t_code (x6).toNatClampNeg)), .int R83, .int R89]) (rest := [.int ((x5 + (-1 : Int32)) - (1 : Int32)), .ref tA]) (wc := (wX1_joined cy )) (wr := [(tA, .inr (1, [.ref t_codeA, .int t_size, t_waitingV, .int t_waits, .int t_within, .int t_brackets, .int t_partIsDue, .ref t_stackA])), (t_codeA, .inl (cy 1, t_codeN, .inl t_code)), (t_stackA, .inl (cy 1, t_stackN, .inl t_stack))]) (CX1_joined F (-(t_code (x6).toNatClampNeg)) R83 R89 R92 hg92) kvX1_joined klX1_93 [] [0, 1, 2] rfl rfl (by decide) (by decide) (by decide) rfl dX1_worth_92 ⟨by decide, by decide, by decide, by decide⟩ (Nat.le_of_ble_eq_true rfl) (fun r w1 hq => ?_)
        obtain ⟨rfl, rfl⟩ := hq
        refine V.cells (ws' := (wX1_worth cy tA t_size t_waitingV t_waits t_within t_brackets t_partIsDue t_codeA t_codeN t_code t_stackA t_stackN t_stack)) [0, 1, 2] (by decide) rfl ?_
        show V l D cy MX1_worth 1 0 0 _ _ _ 95 [(5, .int (x5 + (-1 : Int32))), (7, .int (t_code (x6).toNatClampNeg)), (0, .ref tA), (1, .int x1), (2, .int x2), (3, .int x3), (4, .int x4), (6, .int x6)] [.int R92, .int ((x5 + (-1 : Int32)) - (1 : Int32)), .ref tA] (wX1_worth cy tA t_size t_waitingV t_waits t_within t_brackets t_partIsDue t_codeA t_codeN t_code t_stackA t_stackN t_stack) 0 0
        obtain ⟨R95, hg95, h⟩ := Option.bind_eq_some_iff.mp h
        refine V.callV (As := [.int ((x5 + (-1 : Int32)) - (1 : Int32)), .int R92]) (rest := []) (wc := (wX1_set cy tA (.ref t_codeA) t_size t_waitingV t_waits t_within t_brackets t_partIsDue t_stackA t_stackN t_stack)) (wr := [(t_codeA, .inl (cy 1, t_codeN, .inl t_code))]) (q0 := 0) (CX1_set F tA (.ref t_codeA) t_size t_waitingV t_waits t_within t_brackets t_partIsDue t_stackA t_stackN t_stack ((x5 + (-1 : Int32)) - (1 : Int32)) R92 R95 hg95) kvX1_set klX1_89 [0, 2] [1] rfl rfl (by decide) (by decide) (by decide) rfl rfl rfl rfl dX1_worth_95 ⟨by decide, by decide, by decide, by decide⟩ (Nat.le_of_ble_eq_true rfl) (fun r w1 hq => ?_)
        obtain ⟨rfl, rfl⟩ := hq
        refine V.cells (ws' := (wX1_worth cy tA t_size t_waitingV t_waits t_within t_brackets t_partIsDue t_codeA t_codeN t_code t_stackA t_stackN R95)) [1, 0, 2] (by decide) rfl ?_
        show V l D cy MX1_worth 1 0 0 _ _ _ 98 [(5, .int (x5 + (-1 : Int32))), (7, .int (t_code (x6).toNatClampNeg)), (0, .ref tA), (1, .int x1), (2, .int x2), (3, .int x3), (4, .int x4), (6, .int x6)] [] (wX1_worth cy tA t_size t_waitingV t_waits t_within t_brackets t_partIsDue t_codeA t_codeN t_code t_stackA t_stackN R95) 0 0
        refine V.goto (tgt := 131) dX1_worth_98 (by decide) ?_
        refine V.lvs [2, 3, 4, 5, 6, 0, 7] rfl ?_
        exact vX1_worth_L131 _ _ _ _ _ _ _ _ _ _ _ _ _ _ hk6  _ _ _ _ _ _ _ R h hQ
    · replace h := (if_pos hc28).symm.trans h
      refine V.aload_n dX1_worth_31 rfl 1 rfl ?_
      refine V.iload dX1_worth_32 6 rfl ?_
      refine V.iconst (v := (1 : Int32)) dX1_worth_34 (by decide) ?_
      refine V.isub dX1_worth_35 ?_
      refine V.aload_n dX1_worth_36 rfl 1 rfl ?_
      refine V.iload dX1_worth_37 6 rfl ?_
      refine V.iconst (v := (1 : Int32)) dX1_worth_39 (by decide) ?_
      refine V.isub dX1_worth_40 ?_
      obtain ⟨R41, hg41, h⟩ := Option.bind_eq_some_iff.mp h
      refine V.callV (As := [.int (x5 - (1 : Int32))]) (rest := [.int (x5 - (1 : Int32)), .ref tA]) (wc := (wX1_get cy tA (.ref t_codeA) t_size t_waitingV t_waits t_within t_brackets t_partIsDue t_stackA t_stackN t_stack)) (wr := [(t_codeA, .inl (cy 1, t_codeN, .inl t_code))]) (q0 := 0) (CX1_get F tA (.ref t_codeA) t_size t_waitingV t_waits t_within t_brackets t_partIsDue t_stackA t_stackN t_stack (x5 - (1 : Int32)) R41 hg41) kvX1_get klX1_86 [0, 2] [1] rfl rfl (by decide) (by decide) (by decide) rfl rfl rfl rfl dX1_worth_41 ⟨by decide, by decide, by decide, by decide⟩ (Nat.le_of_ble_eq_true rfl) (fun r w1 hq => ?_)
      obtain ⟨rfl, rfl⟩ := hq
      refine V.cells (ws' := (wX1_worth cy tA t_size t_waitingV t_waits t_within t_brackets t_partIsDue t_codeA t_codeN t_code t_stackA t_stackN t_stack)) [1, 0, 2] (by decide) rfl ?_
      show V l D cy MX1_worth 1 0 0 _ _ _ 44 [(7, .int (t_code (x6).toNatClampNeg)), (0, .ref tA), (1, .int x1), (2, .int x2), (3, .int x3), (4, .int x4), (5, .int x5), (6, .int x6)] [.int R41, .int (x5 - (1 : Int32)), .ref tA] (wX1_worth cy tA t_size t_waitingV t_waits t_within t_brackets t_partIsDue t_codeA t_codeN t_code t_stackA t_stackN t_stack) 0 0
      refine V.if_ne (tgt := 51) dX1_worth_44 (by decide) (fun hc44 => ?_) (fun hc44 => ?_)
      · replace h := (if_neg hc44).symm.trans h
        refine V.iconst (v := (0 : Int32)) dX1_worth_51 (by decide) ?_
        refine V.lvs [1, 2, 3, 4, 5, 6, 7] rfl ?_
        exact vX1_worth_L52 _ _ _ _ _ _ _ _ _ _ _ _ _ _ hk6  _ _ _ _ _ _ _ _ _ R h hQ
      · replace h := (if_pos hc44).symm.trans h
        refine V.iconst (v := (1 : Int32)) dX1_worth_47 (by decide) ?_
        refine V.goto (tgt := 52) dX1_worth_48 (by decide) ?_
        refine V.lvs [1, 2, 3, 4, 5, 6, 7] rfl ?_
        exact vX1_worth_L52 _ _ _ _ _ _ _ _ _ _ _ _ _ _ hk6  _ _ _ _ _ _ _ _ _ R h hQ
noncomputable def fX1_worth_L6 (F : Nat) (t_size : Int32) (t_codeN : Nat) (t_code : Nat → Int32) (t_stackN : Nat)  : Nat → Int32 → Int32 → Int32 → Int32 → Int32 → Int32 → (Nat → Int32) → Option (Int32 × (Nat → Int32))
  | 0 => fun _ _ _ _ _ _ _ => none
  | n + 1 => bX1_worth_L6 F t_size t_codeN t_code t_stackN (fX1_worth_L6 F t_size t_codeN t_code t_stackN  n)
theorem vX1_worth_L6 {l : Launch} {D : va_G} {cy : Nat → ClassId} {av : List Value} {ws0 : va_W} {Q : Option Value → va_W → Prop} (F : Nat) (tA : Nat) (t_size : Int32) (t_waitingV : Value) (t_waits : Int32) (t_within : Int32) (t_brackets : Int32) (t_partIsDue : Int32) (t_codeA : Nat) (t_codeN : Nat) (t_code : Nat → Int32) (t_stackA : Nat) (t_stackN : Nat)  : ∀ (n : Nat) (x1 : Int32) (x2 : Int32) (x3 : Int32) (x4 : Int32) (x5 : Int32) (x6 : Int32) (t_stack : Nat → Int32) (R : Int32 × (Nat → Int32)), fX1_worth_L6 F t_size t_codeN t_code t_stackN  n x1 x2 x3 x4 x5 x6 t_stack = some R → Q (some (.int R.1)) (wX1_worth cy tA t_size t_waitingV t_waits t_within t_brackets t_partIsDue t_codeA t_codeN t_code t_stackA t_stackN R.2) → V l D cy MX1_worth 1 0 0 av ws0 Q 6 [(0, .ref tA), (1, .int x1), (2, .int x2), (3, .int x3), (4, .int x4), (5, .int x5), (6, .int x6)] [] (wX1_worth cy tA t_size t_waitingV t_waits t_within t_brackets t_partIsDue t_codeA t_codeN t_code t_stackA t_stackN t_stack) 0 0 := by
  intro n
  induction n with
  | zero => intro x1 x2 x3 x4 x5 x6 t_stack R h; exact vNone h
  | succ n ih => intro x1 x2 x3 x4 x5 x6 t_stack R h hQ; exact vbX1_worth_L6 F tA t_size t_waitingV t_waits t_within t_brackets t_partIsDue t_codeA t_codeN t_code t_stackA t_stackN _ ih x1 x2 x3 x4 x5 x6 t_stack R h hQ
noncomputable def fX1_worth (F : Nat) (t_size : Int32) (t_codeN : Nat) (t_code : Nat → Int32) (t_stackN : Nat) (a1 : Int32) (a2 : Int32) (a3 : Int32) (a4 : Int32) (t_stack : Nat → Int32) : Option (Int32 × (Nat → Int32)) :=
  fX1_worth_L6 F t_size t_codeN t_code t_stackN F a1 a2 a3 a4 (0 : Int32) (0 : Int32) t_stack
theorem CX1_worth {l : Launch} {D : va_G} {cy : Nat → ClassId} (F : Nat) (tA : Nat) (t_size : Int32) (t_waitingV : Value) (t_waits : Int32) (t_within : Int32) (t_brackets : Int32) (t_partIsDue : Int32) (t_codeA : Nat) (t_codeN : Nat) (t_code : Nat → Int32) (t_stackA : Nat) (t_stackN : Nat) (t_stack : Nat → Int32) (a1 : Int32) (a2 : Int32) (a3 : Int32) (a4 : Int32) (R : Int32 × (Nat → Int32)) (h : fX1_worth F t_size t_codeN t_code t_stackN a1 a2 a3 a4 t_stack = some R) : vMet l D cy MX1_worth 1 0 0 [.ref tA, .int a1, .int a2, .int a3, .int a4] (wX1_worth cy tA t_size t_waitingV t_waits t_within t_brackets t_partIsDue t_codeA t_codeN t_code t_stackA t_stackN t_stack) (fun (r : Option Value) (w : va_W) => r = (some (.int R.1)) ∧ w = (wX1_worth cy tA t_size t_waitingV t_waits t_within t_brackets t_partIsDue t_codeA t_codeN t_code t_stackA t_stackN R.2)) := by
  refine vMet.start (by decide +kernel) (Nat.le_of_ble_eq_true rfl) ?_
  generalize hQe : (fun (r : Option Value) (w : va_W) => r = (some (.int R.1)) ∧ w = (wX1_worth cy tA t_size t_waitingV t_waits t_within t_brackets t_partIsDue t_codeA t_codeN t_code t_stackA t_stackN R.2)) = Q
  have hQ : Q (some (.int R.1)) (wX1_worth cy tA t_size t_waitingV t_waits t_within t_brackets t_partIsDue t_codeA t_codeN t_code t_stackA t_stackN R.2) := by rw [← hQe]; exact ⟨rfl, rfl⟩
  show V l D cy MX1_worth 1 0 0 _ _ Q 0 [(0, .ref tA), (1, .int a1), (2, .int a2), (3, .int a3), (4, .int a4)] [] _ 0 0
  show V l D cy MX1_worth 1 0 0 [.ref tA, .int a1, .int a2, .int a3, .int a4] _ Q 0 [(0, .ref tA), (1, .int a1), (2, .int a2), (3, .int a3), (4, .int a4)] [] (wX1_worth cy tA t_size t_waitingV t_waits t_within t_brackets t_partIsDue t_codeA t_codeN t_code t_stackA t_stackN t_stack) 0 0
  unfold fX1_worth at h
  refine V.iconst (v := (0 : Int32)) dX1_worth_0 (by decide) ?_
  refine V.istore (lv' := [(5, .int (0 : Int32)), (0, .ref tA), (1, .int a1), (2, .int a2), (3, .int a3), (4, .int a4)]) dX1_worth_1 (by decide) rfl ?_
  refine V.iconst (v := (0 : Int32)) dX1_worth_3 (by decide) ?_
  refine V.istore (lv' := [(6, .int (0 : Int32)), (5, .int (0 : Int32)), (0, .ref tA), (1, .int a1), (2, .int a2), (3, .int a3), (4, .int a4)]) dX1_worth_4 (by decide) rfl ?_
  refine V.lvs [2, 3, 4, 5, 6, 1, 0] rfl ?_
  exact vX1_worth_L6 _ _ _ _ _ _ _ _ _ _ _ _ _  _ _ _ _ _ _ _ _ R h hQ
theorem dX1_readPart_0 : decode cX1_readPart 0 = .ok (.aload_n 1, 1) := by decide +kernel
theorem dX1_readPart_1 : decode cX1_readPart 1 = .ok (.invokevirtual 41, 3) := by decide +kernel
theorem dX1_readPart_4 : decode cX1_readPart 4 = .ok (.bipush 13, 2) := by decide +kernel
theorem dX1_readPart_6 : decode cX1_readPart 6 = .ok (.if_icmp .eq 12, 3) := by decide +kernel
theorem dX1_readPart_9 : decode cX1_readPart 9 = .ok (.aload_n 1, 1) := by decide +kernel
theorem dX1_readPart_10 : decode cX1_readPart 10 = .ok (.invokevirtual 41, 3) := by decide +kernel
theorem dX1_readPart_13 : decode cX1_readPart 13 = .ok (.bipush 40, 2) := by decide +kernel
theorem dX1_readPart_15 : decode cX1_readPart 15 = .ok (.if_icmp .ne 7, 3) := by decide +kernel
theorem dX1_readPart_18 : decode cX1_readPart 18 = .ok (.iconst 1, 1) := by decide +kernel
theorem dX1_readPart_19 : decode cX1_readPart 19 = .ok (.goto 4, 3) := by decide +kernel
theorem dX1_readPart_22 : decode cX1_readPart 22 = .ok (.iconst 0, 1) := by decide +kernel
theorem dX1_readPart_23 : decode cX1_readPart 23 = .ok (.istore_n 2, 1) := by decide +kernel
theorem dX1_readPart_24 : decode cX1_readPart 24 = .ok (.aload_n 1, 1) := by decide +kernel
theorem dX1_readPart_25 : decode cX1_readPart 25 = .ok (.invokevirtual 41, 3) := by decide +kernel
theorem dX1_readPart_28 : decode cX1_readPart 28 = .ok (.bipush 21, 2) := by decide +kernel
theorem dX1_readPart_30 : decode cX1_readPart 30 = .ok (.if_icmp .ne 7, 3) := by decide +kernel
theorem dX1_readPart_33 : decode cX1_readPart 33 = .ok (.iconst 1, 1) := by decide +kernel
theorem dX1_readPart_34 : decode cX1_readPart 34 = .ok (.goto 4, 3) := by decide +kernel
theorem dX1_readPart_37 : decode cX1_readPart 37 = .ok (.iconst 0, 1) := by decide +kernel
theorem dX1_readPart_38 : decode cX1_readPart 38 = .ok (.istore_n 3, 1) := by decide +kernel
theorem dX1_readPart_39 : decode cX1_readPart 39 = .ok (.iload_n 2, 1) := by decide +kernel
theorem dX1_readPart_40 : decode cX1_readPart 40 = .ok (.ifCond .ne 20, 3) := by decide +kernel
theorem dX1_readPart_43 : decode cX1_readPart 43 = .ok (.iload_n 3, 1) := by decide +kernel
theorem dX1_readPart_44 : decode cX1_readPart 44 = .ok (.ifCond .ne 16, 3) := by decide +kernel
theorem dX1_readPart_47 : decode cX1_readPart 47 = .ok (.aload_n 1, 1) := by decide +kernel
theorem dX1_readPart_48 : decode cX1_readPart 48 = .ok (.invokevirtual 63, 3) := by decide +kernel
theorem dX1_readPart_51 : decode cX1_readPart 51 = .ok (.ifCond .ne 9, 3) := by decide +kernel
theorem dX1_readPart_54 : decode cX1_readPart 54 = .ok (.aload_n 1, 1) := by decide +kernel
theorem dX1_readPart_55 : decode cX1_readPart 55 = .ok (.iconst 1, 1) := by decide +kernel
theorem dX1_readPart_56 : decode cX1_readPart 56 = .ok (.invokevirtual 59, 3) := by decide +kernel
theorem dX1_readPart_59 : decode cX1_readPart 59 = .ok (.ireturn, 1) := by decide +kernel
theorem dX1_readPart_60 : decode cX1_readPart 60 = .ok (.aload_n 0, 1) := by decide +kernel
theorem dX1_readPart_61 : decode cX1_readPart 61 = .ok (.getfield 28, 3) := by decide +kernel
theorem dX1_readPart_64 : decode cX1_readPart 64 = .ok (.iconst 5, 1) := by decide +kernel
theorem dX1_readPart_65 : decode cX1_readPart 65 = .ok (.if_icmp .lt 9, 3) := by decide +kernel
theorem dX1_readPart_68 : decode cX1_readPart 68 = .ok (.aload_n 1, 1) := by decide +kernel
theorem dX1_readPart_69 : decode cX1_readPart 69 = .ok (.iconst 5, 1) := by decide +kernel
theorem dX1_readPart_70 : decode cX1_readPart 70 = .ok (.invokevirtual 59, 3) := by decide +kernel
theorem dX1_readPart_73 : decode cX1_readPart 73 = .ok (.ireturn, 1) := by decide +kernel
theorem dX1_readPart_74 : decode cX1_readPart 74 = .ok (.iload_n 2, 1) := by decide +kernel
theorem dX1_readPart_75 : decode cX1_readPart 75 = .ok (.ifCond .eq 47, 3) := by decide +kernel
theorem dX1_readPart_78 : decode cX1_readPart 78 = .ok (.aload_n 0, 1) := by decide +kernel
theorem dX1_readPart_79 : decode cX1_readPart 79 = .ok (.aload_n 1, 1) := by decide +kernel
theorem dX1_readPart_80 : decode cX1_readPart 80 = .ok (.invokevirtual 41, 3) := by decide +kernel
theorem dX1_readPart_83 : decode cX1_readPart 83 = .ok (.invokevirtual 67, 3) := by decide +kernel
theorem dX1_readPart_86 : decode cX1_readPart 86 = .ok (.aload_n 0, 1) := by decide +kernel
theorem dX1_readPart_87 : decode cX1_readPart 87 = .ok (.dup, 1) := by decide +kernel
theorem dX1_readPart_88 : decode cX1_readPart 88 = .ok (.getfield 28, 3) := by decide +kernel
theorem dX1_readPart_91 : decode cX1_readPart 91 = .ok (.iconst 1, 1) := by decide +kernel
theorem dX1_readPart_92 : decode cX1_readPart 92 = .ok (.iadd, 1) := by decide +kernel
theorem dX1_readPart_93 : decode cX1_readPart 93 = .ok (.putfield 28, 3) := by decide +kernel
theorem dX1_readPart_96 : decode cX1_readPart 96 = .ok (.aload_n 0, 1) := by decide +kernel
theorem dX1_readPart_97 : decode cX1_readPart 97 = .ok (.dup, 1) := by decide +kernel
theorem dX1_readPart_98 : decode cX1_readPart 98 = .ok (.getfield 31, 3) := by decide +kernel
theorem dX1_readPart_101 : decode cX1_readPart 101 = .ok (.aload_n 1, 1) := by decide +kernel
theorem dX1_readPart_102 : decode cX1_readPart 102 = .ok (.invokevirtual 41, 3) := by decide +kernel
theorem dX1_readPart_105 : decode cX1_readPart 105 = .ok (.bipush 40, 2) := by decide +kernel
theorem dX1_readPart_107 : decode cX1_readPart 107 = .ok (.if_icmp .ne 7, 3) := by decide +kernel
theorem dX1_readPart_110 : decode cX1_readPart 110 = .ok (.iconst 1, 1) := by decide +kernel
theorem dX1_readPart_111 : decode cX1_readPart 111 = .ok (.goto 4, 3) := by decide +kernel
theorem dX1_readPart_114 : decode cX1_readPart 114 = .ok (.iconst 0, 1) := by decide +kernel
theorem dX1_readPart_115 : decode cX1_readPart 115 = .ok (.iadd, 1) := by decide +kernel
theorem dX1_readPart_116 : decode cX1_readPart 116 = .ok (.putfield 31, 3) := by decide +kernel
theorem dX1_readPart_119 : decode cX1_readPart 119 = .ok (.goto 27, 3) := by decide +kernel
theorem dX1_readPart_122 : decode cX1_readPart 122 = .ok (.aload_n 0, 1) := by decide +kernel
theorem dX1_readPart_123 : decode cX1_readPart 123 = .ok (.iload_n 3, 1) := by decide +kernel
theorem dX1_readPart_124 : decode cX1_readPart 124 = .ok (.ifCond .eq 10, 3) := by decide +kernel
theorem dX1_readPart_127 : decode cX1_readPart 127 = .ok (.aload_n 1, 1) := by decide +kernel
theorem dX1_readPart_128 : decode cX1_readPart 128 = .ok (.invokevirtual 70, 3) := by decide +kernel
theorem dX1_readPart_131 : decode cX1_readPart 131 = .ok (.goto 8, 3) := by decide +kernel
theorem dX1_readPart_134 : decode cX1_readPart 134 = .ok (.aload_n 1, 1) := by decide +kernel
theorem dX1_readPart_135 : decode cX1_readPart 135 = .ok (.invokevirtual 41, 3) := by decide +kernel
theorem dX1_readPart_138 : decode cX1_readPart 138 = .ok (.ineg, 1) := by decide +kernel
theorem dX1_readPart_139 : decode cX1_readPart 139 = .ok (.invokevirtual 73, 3) := by decide +kernel
theorem dX1_readPart_142 : decode cX1_readPart 142 = .ok (.aload_n 0, 1) := by decide +kernel
theorem dX1_readPart_143 : decode cX1_readPart 143 = .ok (.invokevirtual 76, 3) := by decide +kernel
theorem dX1_readPart_146 : decode cX1_readPart 146 = .ok (.iconst 1, 1) := by decide +kernel
theorem dX1_readPart_147 : decode cX1_readPart 147 = .ok (.ireturn, 1) := by decide +kernel
def wX1_readPart (cy : Nat → ClassId) (tA : Nat) (t_size : Int32) (t_waits : Int32) (t_within : Int32) (t_brackets : Int32) (t_partIsDue : Int32) (t_stackV : Value) (t_codeA : Nat) (t_codeN : Nat) (t_code : Nat → Int32) (t_waitingA : Nat) (t_waitingN : Nat) (t_waiting : Nat → Int32) (p1A : Nat) (p1_signsV : Value) (p1_size : Int32) (p1_count : Int32) (p1_here : Int32) (p1_fault : Int32) (p1_tokensA : Nat) (p1_tokensN : Nat) (p1_tokens : Nat → Int32) (p1_startsA : Nat) (p1_startsN : Nat) (p1_starts : Nat → Int32) (p1_valuesA : Nat) (p1_valuesN : Nat) (p1_values : Nat → Int64) : va_W :=
  [(tA, .inr (1, [.ref t_codeA, .int t_size, .ref t_waitingA, .int t_waits, .int t_within, .int t_brackets, .int t_partIsDue, t_stackV])), (t_codeA, .inl (cy 1, t_codeN, .inl t_code)), (t_waitingA, .inl (cy 1, t_waitingN, .inl t_waiting)), (p1A, .inr (9, [p1_signsV, .int p1_size, .ref p1_tokensA, .ref p1_startsA, .ref p1_valuesA, .int p1_count, .int p1_here, .int p1_fault])), (p1_tokensA, .inl (cy 1, p1_tokensN, .inl p1_tokens)), (p1_startsA, .inl (cy 1, p1_startsN, .inl p1_starts)), (p1_valuesA, .inl (cy 2, p1_valuesN, .inr (.inl p1_values)))]
noncomputable def bX1_readPart_L146 (F : Nat) (t_codeN : Nat) (t_waitingN : Nat) (p1_size : Int32) (p1_count : Int32) (p1_here : Int32) (p1_tokensN : Nat) (p1_tokens : Nat → Int32) (p1_startsN : Nat) (p1_starts : Nat → Int32) (p1_valuesN : Nat) (p1_values : Nat → Int64)  (t_size : Int32) (t_waits : Int32) (t_within : Int32) (t_brackets : Int32) (t_partIsDue : Int32) (t_code : Nat → Int32) (t_waiting : Nat → Int32) (p1_fault : Int32) : Option (Int32 × (Int32) × (Int32) × (Int32) × (Int32) × (Int32) × (Nat → Int32) × (Nat → Int32) × (Int32)) :=
  some ((1 : Int32), t_size, t_waits, t_within, t_brackets, t_partIsDue, t_code, t_waiting, p1_fault)
theorem vX1_readPart_L146 {l : Launch} {D : va_G} {cy : Nat → ClassId} {av : List Value} {ws0 : va_W} {Q : Option Value → va_W → Prop} (F : Nat) (tA : Nat) (t_stackV : Value) (t_codeA : Nat) (t_codeN : Nat) (t_waitingA : Nat) (t_waitingN : Nat) (p1A : Nat) (p1_signsV : Value) (p1_size : Int32) (p1_count : Int32) (p1_here : Int32) (p1_tokensA : Nat) (p1_tokensN : Nat) (p1_tokens : Nat → Int32) (p1_startsA : Nat) (p1_startsN : Nat) (p1_starts : Nat → Int32) (p1_valuesA : Nat) (p1_valuesN : Nat) (p1_values : Nat → Int64)  (t_size : Int32) (t_waits : Int32) (t_within : Int32) (t_brackets : Int32) (t_partIsDue : Int32) (t_code : Nat → Int32) (t_waiting : Nat → Int32) (p1_fault : Int32) (R : Int32 × (Int32) × (Int32) × (Int32) × (Int32) × (Int32) × (Nat → Int32) × (Nat → Int32) × (Int32)) (h : bX1_readPart_L146 F t_codeN t_waitingN p1_size p1_count p1_here p1_tokensN p1_tokens p1_startsN p1_starts p1_valuesN p1_values  t_size t_waits t_within t_brackets t_partIsDue t_code t_waiting p1_fault = some R) (hQ : Q (some (.int R.1)) (wX1_readPart cy tA R.2.1 R.2.2.1 R.2.2.2.1 R.2.2.2.2.1 R.2.2.2.2.2.1 t_stackV t_codeA t_codeN R.2.2.2.2.2.2.1 t_waitingA t_waitingN R.2.2.2.2.2.2.2.1 p1A p1_signsV p1_size p1_count p1_here R.2.2.2.2.2.2.2.2 p1_tokensA p1_tokensN p1_tokens p1_startsA p1_startsN p1_starts p1_valuesA p1_valuesN p1_values)) : V l D cy MX1_readPart 2 0 0 av ws0 Q 146 [] [] (wX1_readPart cy tA t_size t_waits t_within t_brackets t_partIsDue t_stackV t_codeA t_codeN t_code t_waitingA t_waitingN t_waiting p1A p1_signsV p1_size p1_count p1_here p1_fault p1_tokensA p1_tokensN p1_tokens p1_startsA p1_startsN p1_starts p1_valuesA p1_valuesN p1_values) 0 0 := by
  unfold bX1_readPart_L146 at h
  refine V.iconst (v := (1 : Int32)) dX1_readPart_146 (by decide) ?_
  have e9 := Option.some.inj h; subst e9
  exact V.iret (ty := .boolean) rfl rfl dX1_readPart_147 (Nat.le_refl _) (Nat.le_refl _) hQ
noncomputable def bX1_readPart_L139 (F : Nat) (t_codeN : Nat) (t_waitingN : Nat) (p1_size : Int32) (p1_count : Int32) (p1_here : Int32) (p1_tokensN : Nat) (p1_tokens : Nat → Int32) (p1_startsN : Nat) (p1_starts : Nat → Int32) (p1_valuesN : Nat) (p1_values : Nat → Int64)  (s1 : Int32) (t_size : Int32) (t_waits : Int32) (t_within : Int32) (t_brackets : Int32) (t_partIsDue : Int32) (t_code : Nat → Int32) (t_waiting : Nat → Int32) (p1_fault : Int32) : Option (Int32 × (Int32) × (Int32) × (Int32) × (Int32) × (Int32) × (Nat → Int32) × (Nat → Int32) × (Int32)) :=
  (fX1_put F t_codeN s1 t_size t_code).bind fun R139 => ((fX1_endPart F t_codeN t_waitingN t_waiting R139.1 t_waits t_within t_partIsDue R139.2).bind fun R143 => (bX1_readPart_L146 F t_codeN t_waitingN p1_size p1_count p1_here p1_tokensN p1_tokens p1_startsN p1_starts p1_valuesN p1_values R143.1 R143.2.1 R143.2.2.1 t_brackets R143.2.2.2.1 R143.2.2.2.2 t_waiting p1_fault))
theorem vX1_readPart_L139 {l : Launch} {D : va_G} {cy : Nat → ClassId} {av : List Value} {ws0 : va_W} {Q : Option Value → va_W → Prop} (F : Nat) (tA : Nat) (t_stackV : Value) (t_codeA : Nat) (t_codeN : Nat) (t_waitingA : Nat) (t_waitingN : Nat) (p1A : Nat) (p1_signsV : Value) (p1_size : Int32) (p1_count : Int32) (p1_here : Int32) (p1_tokensA : Nat) (p1_tokensN : Nat) (p1_tokens : Nat → Int32) (p1_startsA : Nat) (p1_startsN : Nat) (p1_starts : Nat → Int32) (p1_valuesA : Nat) (p1_valuesN : Nat) (p1_values : Nat → Int64)  (s1 : Int32) (t_size : Int32) (t_waits : Int32) (t_within : Int32) (t_brackets : Int32) (t_partIsDue : Int32) (t_code : Nat → Int32) (t_waiting : Nat → Int32) (p1_fault : Int32) (R : Int32 × (Int32) × (Int32) × (Int32) × (Int32) × (Int32) × (Nat → Int32) × (Nat → Int32) × (Int32)) (h : bX1_readPart_L139 F t_codeN t_waitingN p1_size p1_count p1_here p1_tokensN p1_tokens p1_startsN p1_starts p1_valuesN p1_values  s1 t_size t_waits t_within t_brackets t_partIsDue t_code t_waiting p1_fault = some R) (hQ : Q (some (.int R.1)) (wX1_readPart cy tA R.2.1 R.2.2.1 R.2.2.2.1 R.2.2.2.2.1 R.2.2.2.2.2.1 t_stackV t_codeA t_codeN R.2.2.2.2.2.2.1 t_waitingA t_waitingN R.2.2.2.2.2.2.2.1 p1A p1_signsV p1_size p1_count p1_here R.2.2.2.2.2.2.2.2 p1_tokensA p1_tokensN p1_tokens p1_startsA p1_startsN p1_starts p1_valuesA p1_valuesN p1_values)) : V l D cy MX1_readPart 2 0 0 av ws0 Q 139 [(0, .ref tA)] [.int s1, .ref tA] (wX1_readPart cy tA t_size t_waits t_within t_brackets t_partIsDue t_stackV t_codeA t_codeN t_code t_waitingA t_waitingN t_waiting p1A p1_signsV p1_size p1_count p1_here p1_fault p1_tokensA p1_tokensN p1_tokens p1_startsA p1_startsN p1_starts p1_valuesA p1_valuesN p1_values) 0 0 := by
  unfold bX1_readPart_L139 at h
  obtain ⟨R139, hg139, h⟩ := Option.bind_eq_some_iff.mp h
  refine V.callV (As := [.int s1]) (rest := []) (wc := (wX1_put cy tA t_size (.ref t_waitingA) t_waits t_within t_brackets t_partIsDue t_stackV t_codeA t_codeN t_code)) (wr := [(t_waitingA, .inl (cy 1, t_waitingN, .inl t_waiting)), (p1A, .inr (9, [p1_signsV, .int p1_size, .ref p1_tokensA, .ref p1_startsA, .ref p1_valuesA, .int p1_count, .int p1_here, .int p1_fault])), (p1_tokensA, .inl (cy 1, p1_tokensN, .inl p1_tokens)), (p1_startsA, .inl (cy 1, p1_startsN, .inl p1_starts)), (p1_valuesA, .inl (cy 2, p1_valuesN, .inr (.inl p1_values)))]) (q0 := 0) (CX1_put F tA t_size (.ref t_waitingA) t_waits t_within t_brackets t_partIsDue t_stackV t_codeA t_codeN t_code s1 R139 hg139) kvX1_put klX1_73 [0, 1] [2, 3, 4, 5, 6] rfl rfl (by decide) (by decide) (by decide) rfl rfl rfl rfl dX1_readPart_139 ⟨by decide, by decide, by decide, by decide⟩ (Nat.le_of_ble_eq_true rfl) (fun r w1 hq => ?_)
  obtain ⟨rfl, rfl⟩ := hq
  refine V.cells (ws' := (wX1_readPart cy tA R139.1 t_waits t_within t_brackets t_partIsDue t_stackV t_codeA t_codeN R139.2 t_waitingA t_waitingN t_waiting p1A p1_signsV p1_size p1_count p1_here p1_fault p1_tokensA p1_tokensN p1_tokens p1_startsA p1_startsN p1_starts p1_valuesA p1_valuesN p1_values)) [5, 6, 0, 1, 2, 3, 4] (by decide) rfl ?_
  show V l D cy MX1_readPart 2 0 0 _ _ _ 142 [(0, .ref tA)] [] (wX1_readPart cy tA R139.1 t_waits t_within t_brackets t_partIsDue t_stackV t_codeA t_codeN R139.2 t_waitingA t_waitingN t_waiting p1A p1_signsV p1_size p1_count p1_here p1_fault p1_tokensA p1_tokensN p1_tokens p1_startsA p1_startsN p1_starts p1_valuesA p1_valuesN p1_values) 0 0
  refine V.aload_n dX1_readPart_142 rfl 0 rfl ?_
  obtain ⟨R143, hg143, h⟩ := Option.bind_eq_some_iff.mp h
  refine V.callV (As := []) (rest := []) (wc := (wX1_endPart cy tA R139.1 t_waits t_within t_brackets t_partIsDue t_stackV t_codeA t_codeN R139.2 t_waitingA t_waitingN t_waiting)) (wr := [(p1A, .inr (9, [p1_signsV, .int p1_size, .ref p1_tokensA, .ref p1_startsA, .ref p1_valuesA, .int p1_count, .int p1_here, .int p1_fault])), (p1_tokensA, .inl (cy 1, p1_tokensN, .inl p1_tokens)), (p1_startsA, .inl (cy 1, p1_startsN, .inl p1_starts)), (p1_valuesA, .inl (cy 2, p1_valuesN, .inr (.inl p1_values)))]) (q0 := 0) (CX1_endPart F tA R139.1 t_waits t_within t_brackets t_partIsDue t_stackV t_codeA t_codeN R139.2 t_waitingA t_waitingN t_waiting R143 hg143) kvX1_endPart klX1_76 [0, 1, 2] [3, 4, 5, 6] rfl rfl (by decide) (by decide) (by decide) rfl rfl rfl rfl dX1_readPart_143 ⟨by decide, by decide, by decide, by decide⟩ (Nat.le_of_ble_eq_true rfl) (fun r w1 hq => ?_)
  obtain ⟨rfl, rfl⟩ := hq
  refine V.cells (ws' := (wX1_readPart cy tA R143.1 R143.2.1 R143.2.2.1 t_brackets R143.2.2.2.1 t_stackV t_codeA t_codeN R143.2.2.2.2 t_waitingA t_waitingN t_waiting p1A p1_signsV p1_size p1_count p1_here p1_fault p1_tokensA p1_tokensN p1_tokens p1_startsA p1_startsN p1_starts p1_valuesA p1_valuesN p1_values)) [4, 5, 6, 0, 1, 2, 3] (by decide) rfl ?_
  show V l D cy MX1_readPart 2 0 0 _ _ _ 146 [(0, .ref tA)] [] (wX1_readPart cy tA R143.1 R143.2.1 R143.2.2.1 t_brackets R143.2.2.2.1 t_stackV t_codeA t_codeN R143.2.2.2.2 t_waitingA t_waitingN t_waiting p1A p1_signsV p1_size p1_count p1_here p1_fault p1_tokensA p1_tokensN p1_tokens p1_startsA p1_startsN p1_starts p1_valuesA p1_valuesN p1_values) 0 0
  refine V.lvs [] rfl ?_
  exact vX1_readPart_L146 _ _ _ _ _ _ _ _ _ _ _ _ _ _ _ _ _ _ _ _ _   _ _ _ _ _ _ _ _ R h hQ
noncomputable def bX1_readPart_L115 (F : Nat) (t_codeN : Nat) (t_waitingN : Nat) (p1_size : Int32) (p1_count : Int32) (p1_here : Int32) (p1_tokensN : Nat) (p1_tokens : Nat → Int32) (p1_startsN : Nat) (p1_starts : Nat → Int32) (p1_valuesN : Nat) (p1_values : Nat → Int64)  (s1 : Int32) (s2 : Int32) (t_size : Int32) (t_waits : Int32) (t_within : Int32) (t_brackets : Int32) (t_partIsDue : Int32) (t_code : Nat → Int32) (t_waiting : Nat → Int32) (p1_fault : Int32) : Option (Int32 × (Int32) × (Int32) × (Int32) × (Int32) × (Int32) × (Nat → Int32) × (Nat → Int32) × (Int32)) :=
  bX1_readPart_L146 F t_codeN t_waitingN p1_size p1_count p1_here p1_tokensN p1_tokens p1_startsN p1_starts p1_valuesN p1_values t_size t_waits t_within (s1 + s2) t_partIsDue t_code t_waiting p1_fault
theorem vX1_readPart_L115 {l : Launch} {D : va_G} {cy : Nat → ClassId} {av : List Value} {ws0 : va_W} {Q : Option Value → va_W → Prop} (F : Nat) (tA : Nat) (t_stackV : Value) (t_codeA : Nat) (t_codeN : Nat) (t_waitingA : Nat) (t_waitingN : Nat) (p1A : Nat) (p1_signsV : Value) (p1_size : Int32) (p1_count : Int32) (p1_here : Int32) (p1_tokensA : Nat) (p1_tokensN : Nat) (p1_tokens : Nat → Int32) (p1_startsA : Nat) (p1_startsN : Nat) (p1_starts : Nat → Int32) (p1_valuesA : Nat) (p1_valuesN : Nat) (p1_values : Nat → Int64)  (s1 : Int32) (s2 : Int32) (t_size : Int32) (t_waits : Int32) (t_within : Int32) (t_brackets : Int32) (t_partIsDue : Int32) (t_code : Nat → Int32) (t_waiting : Nat → Int32) (p1_fault : Int32) (R : Int32 × (Int32) × (Int32) × (Int32) × (Int32) × (Int32) × (Nat → Int32) × (Nat → Int32) × (Int32)) (h : bX1_readPart_L115 F t_codeN t_waitingN p1_size p1_count p1_here p1_tokensN p1_tokens p1_startsN p1_starts p1_valuesN p1_values  s1 s2 t_size t_waits t_within t_brackets t_partIsDue t_code t_waiting p1_fault = some R) (hQ : Q (some (.int R.1)) (wX1_readPart cy tA R.2.1 R.2.2.1 R.2.2.2.1 R.2.2.2.2.1 R.2.2.2.2.2.1 t_stackV t_codeA t_codeN R.2.2.2.2.2.2.1 t_waitingA t_waitingN R.2.2.2.2.2.2.2.1 p1A p1_signsV p1_size p1_count p1_here R.2.2.2.2.2.2.2.2 p1_tokensA p1_tokensN p1_tokens p1_startsA p1_startsN p1_starts p1_valuesA p1_valuesN p1_values)) : V l D cy MX1_readPart 2 0 0 av ws0 Q 115 [] [.int s2, .int s1, .ref tA] (wX1_readPart cy tA t_size t_waits t_within t_brackets t_partIsDue t_stackV t_codeA t_codeN t_code t_waitingA t_waitingN t_waiting p1A p1_signsV p1_size p1_count p1_here p1_fault p1_tokensA p1_tokensN p1_tokens p1_startsA p1_startsN p1_starts p1_valuesA p1_valuesN p1_values) 0 0 := by
  unfold bX1_readPart_L115 at h
  refine V.iadd dX1_readPart_115 ?_
  refine V.put (ws' := (wX1_readPart cy tA t_size t_waits t_within (s1 + s2) t_partIsDue t_stackV t_codeA t_codeN t_code t_waitingA t_waitingN t_waiting p1A p1_signsV p1_size p1_count p1_here p1_fault p1_tokensA p1_tokensN p1_tokens p1_startsA p1_startsN p1_starts p1_valuesA p1_valuesN p1_values)) kfX1 tyX1 tyX1_ok nmX1 0 rfl rfl 5 (by decide) klX1_31 rfl (tyX1_ok 5 (by decide)) rfl rfl (Nat.le_of_ble_eq_true rfl) dX1_readPart_116 rfl ?_
  refine V.goto (tgt := 146) dX1_readPart_119 (by decide) ?_
  exact vX1_readPart_L146 _ _ _ _ _ _ _ _ _ _ _ _ _ _ _ _ _ _ _ _ _   _ _ _ _ _ _ _ _ R h hQ
noncomputable def bX1_readPart_L60 (F : Nat) (t_codeN : Nat) (t_waitingN : Nat) (p1_size : Int32) (p1_count : Int32) (p1_here : Int32) (p1_tokensN : Nat) (p1_tokens : Nat → Int32) (p1_startsN : Nat) (p1_starts : Nat → Int32) (p1_valuesN : Nat) (p1_values : Nat → Int64)  (x2 : Int32) (x3 : Int32) (t_size : Int32) (t_waits : Int32) (t_within : Int32) (t_brackets : Int32) (t_partIsDue : Int32) (t_code : Nat → Int32) (t_waiting : Nat → Int32) (p1_fault : Int32) : Option (Int32 × (Int32) × (Int32) × (Int32) × (Int32) × (Int32) × (Nat → Int32) × (Nat → Int32) × (Int32)) :=
  if t_within < (5 : Int32) then (if x2 = 0 then (if x3 = 0 then ((fX9_token F p1_count p1_here p1_tokensN p1_tokens).bind fun R135 => (bX1_readPart_L139 F t_codeN t_waitingN p1_size p1_count p1_here p1_tokensN p1_tokens p1_startsN p1_starts p1_valuesN p1_values (-R135) t_size t_waits t_within t_brackets t_partIsDue t_code t_waiting p1_fault)) else ((fX9_number F p1_count p1_here p1_valuesN p1_values).bind fun R128 => (bX1_readPart_L139 F t_codeN t_waitingN p1_size p1_count p1_here p1_tokensN p1_tokens p1_startsN p1_starts p1_valuesN p1_values R128 t_size t_waits t_within t_brackets t_partIsDue t_code t_waiting p1_fault))) else ((fX9_token F p1_count p1_here p1_tokensN p1_tokens).bind fun R80 => ((fX1_await F t_waitingN R80 t_waits t_waiting).bind fun R83 => ((fX9_token F p1_count p1_here p1_tokensN p1_tokens).bind fun R102 => (if R102 = (40 : Int32) then (bX1_readPart_L115 F t_codeN t_waitingN p1_size p1_count p1_here p1_tokensN p1_tokens p1_startsN p1_starts p1_valuesN p1_values t_brackets (1 : Int32) t_size R83.1 (t_within + (1 : Int32)) t_brackets t_partIsDue t_code R83.2 p1_fault) else (bX1_readPart_L115 F t_codeN t_waitingN p1_size p1_count p1_here p1_tokensN p1_tokens p1_startsN p1_starts p1_valuesN p1_values t_brackets (0 : Int32) t_size R83.1 (t_within + (1 : Int32)) t_brackets t_partIsDue t_code R83.2 p1_fault)))))) else ((fX9_wrong F p1_size p1_count p1_here p1_startsN p1_starts (5 : Int32) p1_fault).bind fun R70 => (if R70.1 = 0 ∨ R70.1 = 1 then some (R70.1, t_size, t_waits, t_within, t_brackets, t_partIsDue, t_code, t_waiting, R70.2) else none))
theorem vX1_readPart_L60 {l : Launch} {D : va_G} {cy : Nat → ClassId} {av : List Value} {ws0 : va_W} {Q : Option Value → va_W → Prop} (F : Nat) (tA : Nat) (t_stackV : Value) (t_codeA : Nat) (t_codeN : Nat) (t_waitingA : Nat) (t_waitingN : Nat) (p1A : Nat) (p1_signsV : Value) (p1_size : Int32) (p1_count : Int32) (p1_here : Int32) (p1_tokensA : Nat) (p1_tokensN : Nat) (p1_tokens : Nat → Int32) (p1_startsA : Nat) (p1_startsN : Nat) (p1_starts : Nat → Int32) (p1_valuesA : Nat) (p1_valuesN : Nat) (p1_values : Nat → Int64)  (x2 : Int32) (x3 : Int32) (t_size : Int32) (t_waits : Int32) (t_within : Int32) (t_brackets : Int32) (t_partIsDue : Int32) (t_code : Nat → Int32) (t_waiting : Nat → Int32) (p1_fault : Int32) (R : Int32 × (Int32) × (Int32) × (Int32) × (Int32) × (Int32) × (Nat → Int32) × (Nat → Int32) × (Int32)) (h : bX1_readPart_L60 F t_codeN t_waitingN p1_size p1_count p1_here p1_tokensN p1_tokens p1_startsN p1_starts p1_valuesN p1_values  x2 x3 t_size t_waits t_within t_brackets t_partIsDue t_code t_waiting p1_fault = some R) (hQ : Q (some (.int R.1)) (wX1_readPart cy tA R.2.1 R.2.2.1 R.2.2.2.1 R.2.2.2.2.1 R.2.2.2.2.2.1 t_stackV t_codeA t_codeN R.2.2.2.2.2.2.1 t_waitingA t_waitingN R.2.2.2.2.2.2.2.1 p1A p1_signsV p1_size p1_count p1_here R.2.2.2.2.2.2.2.2 p1_tokensA p1_tokensN p1_tokens p1_startsA p1_startsN p1_starts p1_valuesA p1_valuesN p1_values)) : V l D cy MX1_readPart 2 0 0 av ws0 Q 60 [(0, .ref tA), (1, .ref p1A), (2, .int x2), (3, .int x3)] [] (wX1_readPart cy tA t_size t_waits t_within t_brackets t_partIsDue t_stackV t_codeA t_codeN t_code t_waitingA t_waitingN t_waiting p1A p1_signsV p1_size p1_count p1_here p1_fault p1_tokensA p1_tokensN p1_tokens p1_startsA p1_startsN p1_starts p1_valuesA p1_valuesN p1_values) 0 0 := by
  unfold bX1_readPart_L60 at h
  refine V.aload_n dX1_readPart_60 rfl 0 rfl ?_
  refine V.get kfX1 0 rfl rfl 4 (by decide) klX1_28 rfl dX1_readPart_61 ?_
  refine V.iconst (v := (5 : Int32)) dX1_readPart_64 (by decide) ?_
  refine V.icmp_lt (tgt := 74) dX1_readPart_65 (by decide) (fun hc65 => ?_) (fun hc65 => ?_)
  · replace h := (if_pos hc65).symm.trans h
    refine V.iload_n dX1_readPart_74 rfl 2 rfl ?_
    refine V.if_eq (tgt := 122) dX1_readPart_75 (by decide) (fun hc75 => ?_) (fun hc75 => ?_)
    · replace h := (if_pos hc75).symm.trans h
      refine V.aload_n dX1_readPart_122 rfl 0 rfl ?_
      refine V.iload_n dX1_readPart_123 rfl 3 rfl ?_
      refine V.if_eq (tgt := 134) dX1_readPart_124 (by decide) (fun hc124 => ?_) (fun hc124 => ?_)
      · replace h := (if_pos hc124).symm.trans h
        refine V.aload_n dX1_readPart_134 rfl 1 rfl ?_
        obtain ⟨R135, hg135, h⟩ := Option.bind_eq_some_iff.mp h
        refine V.callV (As := []) (rest := [.ref tA]) (wc := (wX9_token cy p1A p1_signsV p1_size (.ref p1_startsA) (.ref p1_valuesA) p1_count p1_here p1_fault p1_tokensA p1_tokensN p1_tokens)) (wr := [(tA, .inr (1, [.ref t_codeA, .int t_size, .ref t_waitingA, .int t_waits, .int t_within, .int t_brackets, .int t_partIsDue, t_stackV])), (t_codeA, .inl (cy 1, t_codeN, .inl t_code)), (t_waitingA, .inl (cy 1, t_waitingN, .inl t_waiting)), (p1_startsA, .inl (cy 1, p1_startsN, .inl p1_starts)), (p1_valuesA, .inl (cy 2, p1_valuesN, .inr (.inl p1_values)))]) (q0 := 3) (CX9_token F p1A p1_signsV p1_size (.ref p1_startsA) (.ref p1_valuesA) p1_count p1_here p1_fault p1_tokensA p1_tokensN p1_tokens R135 hg135) kvX9_token klX1_41 [3, 4] [0, 1, 2, 5, 6] rfl rfl (by decide) (by decide) (by decide) rfl rfl rfl rfl dX1_readPart_135 ⟨by decide, by decide, by decide, by decide⟩ (Nat.le_of_ble_eq_true rfl) (fun r w1 hq => ?_)
        obtain ⟨rfl, rfl⟩ := hq
        refine V.cells (ws' := (wX1_readPart cy tA t_size t_waits t_within t_brackets t_partIsDue t_stackV t_codeA t_codeN t_code t_waitingA t_waitingN t_waiting p1A p1_signsV p1_size p1_count p1_here p1_fault p1_tokensA p1_tokensN p1_tokens p1_startsA p1_startsN p1_starts p1_valuesA p1_valuesN p1_values)) [0, 1, 2, 5, 6, 3, 4] (by decide) rfl ?_
        show V l D cy MX1_readPart 2 0 0 _ _ _ 138 [(0, .ref tA), (1, .ref p1A), (2, .int x2), (3, .int x3)] [.int R135, .ref tA] (wX1_readPart cy tA t_size t_waits t_within t_brackets t_partIsDue t_stackV t_codeA t_codeN t_code t_waitingA t_waitingN t_waiting p1A p1_signsV p1_size p1_count p1_here p1_fault p1_tokensA p1_tokensN p1_tokens p1_startsA p1_startsN p1_starts p1_valuesA p1_valuesN p1_values) 0 0
        refine V.ineg dX1_readPart_138 ?_
        refine V.lvs [0] rfl ?_
        exact vX1_readPart_L139 _ _ _ _ _ _ _ _ _ _ _ _ _ _ _ _ _ _ _ _ _   _ _ _ _ _ _ _ _ _ R h hQ
      · replace h := (if_neg hc124).symm.trans h
        refine V.aload_n dX1_readPart_127 rfl 1 rfl ?_
        obtain ⟨R128, hg128, h⟩ := Option.bind_eq_some_iff.mp h
        refine V.callV (As := []) (rest := [.ref tA]) (wc := (wX9_number cy p1A p1_signsV p1_size (.ref p1_tokensA) (.ref p1_startsA) p1_count p1_here p1_fault p1_valuesA p1_valuesN p1_values)) (wr := [(tA, .inr (1, [.ref t_codeA, .int t_size, .ref t_waitingA, .int t_waits, .int t_within, .int t_brackets, .int t_partIsDue, t_stackV])), (t_codeA, .inl (cy 1, t_codeN, .inl t_code)), (t_waitingA, .inl (cy 1, t_waitingN, .inl t_waiting)), (p1_tokensA, .inl (cy 1, p1_tokensN, .inl p1_tokens)), (p1_startsA, .inl (cy 1, p1_startsN, .inl p1_starts))]) (q0 := 3) (CX9_number F p1A p1_signsV p1_size (.ref p1_tokensA) (.ref p1_startsA) p1_count p1_here p1_fault p1_valuesA p1_valuesN p1_values R128 hg128) kvX9_number klX1_70 [3, 6] [0, 1, 2, 4, 5] rfl rfl (by decide) (by decide) (by decide) rfl rfl rfl rfl dX1_readPart_128 ⟨by decide, by decide, by decide, by decide⟩ (Nat.le_of_ble_eq_true rfl) (fun r w1 hq => ?_)
        obtain ⟨rfl, rfl⟩ := hq
        refine V.cells (ws' := (wX1_readPart cy tA t_size t_waits t_within t_brackets t_partIsDue t_stackV t_codeA t_codeN t_code t_waitingA t_waitingN t_waiting p1A p1_signsV p1_size p1_count p1_here p1_fault p1_tokensA p1_tokensN p1_tokens p1_startsA p1_startsN p1_starts p1_valuesA p1_valuesN p1_values)) [0, 1, 2, 5, 3, 4, 6] (by decide) rfl ?_
        show V l D cy MX1_readPart 2 0 0 _ _ _ 131 [(0, .ref tA), (1, .ref p1A), (2, .int x2), (3, .int x3)] [.int R128, .ref tA] (wX1_readPart cy tA t_size t_waits t_within t_brackets t_partIsDue t_stackV t_codeA t_codeN t_code t_waitingA t_waitingN t_waiting p1A p1_signsV p1_size p1_count p1_here p1_fault p1_tokensA p1_tokensN p1_tokens p1_startsA p1_startsN p1_starts p1_valuesA p1_valuesN p1_values) 0 0
        refine V.goto (tgt := 139) dX1_readPart_131 (by decide) ?_
        refine V.lvs [0] rfl ?_
        exact vX1_readPart_L139 _ _ _ _ _ _ _ _ _ _ _ _ _ _ _ _ _ _ _ _ _   _ _ _ _ _ _ _ _ _ R h hQ
    · replace h := (if_neg hc75).symm.trans h
      refine V.aload_n dX1_readPart_78 rfl 0 rfl ?_
      refine V.aload_n dX1_readPart_79 rfl 1 rfl ?_
      obtain ⟨R80, hg80, h⟩ := Option.bind_eq_some_iff.mp h
      refine V.callV (As := []) (rest := [.ref tA]) (wc := (wX9_token cy p1A p1_signsV p1_size (.ref p1_startsA) (.ref p1_valuesA) p1_count p1_here p1_fault p1_tokensA p1_tokensN p1_tokens)) (wr := [(tA, .inr (1, [.ref t_codeA, .int t_size, .ref t_waitingA, .int t_waits, .int t_within, .int t_brackets, .int t_partIsDue, t_stackV])), (t_codeA, .inl (cy 1, t_codeN, .inl t_code)), (t_waitingA, .inl (cy 1, t_waitingN, .inl t_waiting)), (p1_startsA, .inl (cy 1, p1_startsN, .inl p1_starts)), (p1_valuesA, .inl (cy 2, p1_valuesN, .inr (.inl p1_values)))]) (q0 := 3) (CX9_token F p1A p1_signsV p1_size (.ref p1_startsA) (.ref p1_valuesA) p1_count p1_here p1_fault p1_tokensA p1_tokensN p1_tokens R80 hg80) kvX9_token klX1_41 [3, 4] [0, 1, 2, 5, 6] rfl rfl (by decide) (by decide) (by decide) rfl rfl rfl rfl dX1_readPart_80 ⟨by decide, by decide, by decide, by decide⟩ (Nat.le_of_ble_eq_true rfl) (fun r w1 hq => ?_)
      obtain ⟨rfl, rfl⟩ := hq
      refine V.cells (ws' := (wX1_readPart cy tA t_size t_waits t_within t_brackets t_partIsDue t_stackV t_codeA t_codeN t_code t_waitingA t_waitingN t_waiting p1A p1_signsV p1_size p1_count p1_here p1_fault p1_tokensA p1_tokensN p1_tokens p1_startsA p1_startsN p1_starts p1_valuesA p1_valuesN p1_values)) [0, 1, 2, 5, 6, 3, 4] (by decide) rfl ?_
      show V l D cy MX1_readPart 2 0 0 _ _ _ 83 [(0, .ref tA), (1, .ref p1A), (2, .int x2), (3, .int x3)] [.int R80, .ref tA] (wX1_readPart cy tA t_size t_waits t_within t_brackets t_partIsDue t_stackV t_codeA t_codeN t_code t_waitingA t_waitingN t_waiting p1A p1_signsV p1_size p1_count p1_here p1_fault p1_tokensA p1_tokensN p1_tokens p1_startsA p1_startsN p1_starts p1_valuesA p1_valuesN p1_values) 0 0
      obtain ⟨R83, hg83, h⟩ := Option.bind_eq_some_iff.mp h
      refine V.callV (As := [.int R80]) (rest := []) (wc := (wX1_await cy tA (.ref t_codeA) t_size t_waits t_within t_brackets t_partIsDue t_stackV t_waitingA t_waitingN t_waiting)) (wr := [(t_codeA, .inl (cy 1, t_codeN, .inl t_code)), (p1A, .inr (9, [p1_signsV, .int p1_size, .ref p1_tokensA, .ref p1_startsA, .ref p1_valuesA, .int p1_count, .int p1_here, .int p1_fault])), (p1_tokensA, .inl (cy 1, p1_tokensN, .inl p1_tokens)), (p1_startsA, .inl (cy 1, p1_startsN, .inl p1_starts)), (p1_valuesA, .inl (cy 2, p1_valuesN, .inr (.inl p1_values)))]) (q0 := 0) (CX1_await F tA (.ref t_codeA) t_size t_waits t_within t_brackets t_partIsDue t_stackV t_waitingA t_waitingN t_waiting R80 R83 hg83) kvX1_await klX1_67 [0, 2] [1, 3, 4, 5, 6] rfl rfl (by decide) (by decide) (by decide) rfl rfl rfl rfl dX1_readPart_83 ⟨by decide, by decide, by decide, by decide⟩ (Nat.le_of_ble_eq_true rfl) (fun r w1 hq => ?_)
      obtain ⟨rfl, rfl⟩ := hq
      refine V.cells (ws' := (wX1_readPart cy tA t_size R83.1 t_within t_brackets t_partIsDue t_stackV t_codeA t_codeN t_code t_waitingA t_waitingN R83.2 p1A p1_signsV p1_size p1_count p1_here p1_fault p1_tokensA p1_tokensN p1_tokens p1_startsA p1_startsN p1_starts p1_valuesA p1_valuesN p1_values)) [5, 0, 6, 1, 2, 3, 4] (by decide) rfl ?_
      show V l D cy MX1_readPart 2 0 0 _ _ _ 86 [(0, .ref tA), (1, .ref p1A), (2, .int x2), (3, .int x3)] [] (wX1_readPart cy tA t_size R83.1 t_within t_brackets t_partIsDue t_stackV t_codeA t_codeN t_code t_waitingA t_waitingN R83.2 p1A p1_signsV p1_size p1_count p1_here p1_fault p1_tokensA p1_tokensN p1_tokens p1_startsA p1_startsN p1_starts p1_valuesA p1_valuesN p1_values) 0 0
      refine V.aload_n dX1_readPart_86 rfl 0 rfl ?_
      refine V.dup dX1_readPart_87 rfl ?_
      refine V.get kfX1 0 rfl rfl 4 (by decide) klX1_28 rfl dX1_readPart_88 ?_
      refine V.iconst (v := (1 : Int32)) dX1_readPart_91 (by decide) ?_
      refine V.iadd dX1_readPart_92 ?_
      refine V.put (ws' := (wX1_readPart cy tA t_size R83.1 (t_within + (1 : Int32)) t_brackets t_partIsDue t_stackV t_codeA t_codeN t_code t_waitingA t_waitingN R83.2 p1A p1_signsV p1_size p1_count p1_here p1_fault p1_tokensA p1_tokensN p1_tokens p1_startsA p1_startsN p1_starts p1_valuesA p1_valuesN p1_values)) kfX1 tyX1 tyX1_ok nmX1 0 rfl rfl 4 (by decide) klX1_28 rfl (tyX1_ok 4 (by decide)) rfl rfl (Nat.le_of_ble_eq_true rfl) dX1_readPart_93 rfl ?_
      refine V.aload_n dX1_readPart_96 rfl 0 rfl ?_
      refine V.dup dX1_readPart_97 rfl ?_
      refine V.get kfX1 0 rfl rfl 5 (by decide) klX1_31 rfl dX1_readPart_98 ?_
      refine V.aload_n dX1_readPart_101 rfl 1 rfl ?_
      obtain ⟨R102, hg102, h⟩ := Option.bind_eq_some_iff.mp h
      refine V.callV (As := []) (rest := [.int t_brackets, .ref tA]) (wc := (wX9_token cy p1A p1_signsV p1_size (.ref p1_startsA) (.ref p1_valuesA) p1_count p1_here p1_fault p1_tokensA p1_tokensN p1_tokens)) (wr := [(tA, .inr (1, [.ref t_codeA, .int t_size, .ref t_waitingA, .int R83.1, .int (t_within + (1 : Int32)), .int t_brackets, .int t_partIsDue, t_stackV])), (t_codeA, .inl (cy 1, t_codeN, .inl t_code)), (t_waitingA, .inl (cy 1, t_waitingN, .inl R83.2)), (p1_startsA, .inl (cy 1, p1_startsN, .inl p1_starts)), (p1_valuesA, .inl (cy 2, p1_valuesN, .inr (.inl p1_values)))]) (q0 := 3) (CX9_token F p1A p1_signsV p1_size (.ref p1_startsA) (.ref p1_valuesA) p1_count p1_here p1_fault p1_tokensA p1_tokensN p1_tokens R102 hg102) kvX9_token klX1_41 [3, 4] [0, 1, 2, 5, 6] rfl rfl (by decide) (by decide) (by decide) rfl rfl rfl rfl dX1_readPart_102 ⟨by decide, by decide, by decide, by decide⟩ (Nat.le_of_ble_eq_true rfl) (fun r w1 hq => ?_)
      obtain ⟨rfl, rfl⟩ := hq
      refine V.cells (ws' := (wX1_readPart cy tA t_size R83.1 (t_within + (1 : Int32)) t_brackets t_partIsDue t_stackV t_codeA t_codeN t_code t_waitingA t_waitingN R83.2 p1A p1_signsV p1_size p1_count p1_here p1_fault p1_tokensA p1_tokensN p1_tokens p1_startsA p1_startsN p1_starts p1_valuesA p1_valuesN p1_values)) [0, 1, 2, 5, 6, 3, 4] (by decide) rfl ?_
      show V l D cy MX1_readPart 2 0 0 _ _ _ 105 [(0, .ref tA), (1, .ref p1A), (2, .int x2), (3, .int x3)] [.int R102, .int t_brackets, .ref tA] (wX1_readPart cy tA t_size R83.1 (t_within + (1 : Int32)) t_brackets t_partIsDue t_stackV t_codeA t_codeN t_code t_waitingA t_waitingN R83.2 p1A p1_signsV p1_size p1_count p1_here p1_fault p1_tokensA p1_tokensN p1_tokens p1_startsA p1_startsN p1_starts p1_valuesA p1_valuesN p1_values) 0 0
      refine V.bipush (v := (40 : Int32)) dX1_readPart_105 (by decide) ?_
      refine V.icmp_ne (tgt := 114) dX1_readPart_107 (by decide) (fun hc107 => ?_) (fun hc107 => ?_)
      · replace h := (if_neg hc107).symm.trans h
        refine V.iconst (v := (0 : Int32)) dX1_readPart_114 (by decide) ?_
        refine V.lvs [] rfl ?_
        exact vX1_readPart_L115 _ _ _ _ _ _ _ _ _ _ _ _ _ _ _ _ _ _ _ _ _   _ _ _ _ _ _ _ _ _ _ R h hQ
      · replace h := (if_pos hc107).symm.trans h
        refine V.iconst (v := (1 : Int32)) dX1_readPart_110 (by decide) ?_
        refine V.goto (tgt := 115) dX1_readPart_111 (by decide) ?_
        refine V.lvs [] rfl ?_
        exact vX1_readPart_L115 _ _ _ _ _ _ _ _ _ _ _ _ _ _ _ _ _ _ _ _ _   _ _ _ _ _ _ _ _ _ _ R h hQ
  · replace h := (if_neg hc65).symm.trans h
    refine V.aload_n dX1_readPart_68 rfl 1 rfl ?_
    refine V.iconst (v := (5 : Int32)) dX1_readPart_69 (by decide) ?_
    obtain ⟨R70, hg70, h⟩ := Option.bind_eq_some_iff.mp h
    refine V.callV (As := [.int (5 : Int32)]) (rest := []) (wc := (wX9_wrong cy p1A p1_signsV p1_size (.ref p1_tokensA) (.ref p1_valuesA) p1_count p1_here p1_fault p1_startsA p1_startsN p1_starts)) (wr := [(tA, .inr (1, [.ref t_codeA, .int t_size, .ref t_waitingA, .int t_waits, .int t_within, .int t_brackets, .int t_partIsDue, t_stackV])), (t_codeA, .inl (cy 1, t_codeN, .inl t_code)), (t_waitingA, .inl (cy 1, t_waitingN, .inl t_waiting)), (p1_tokensA, .inl (cy 1, p1_tokensN, .inl p1_tokens)), (p1_valuesA, .inl (cy 2, p1_valuesN, .inr (.inl p1_values)))]) (q0 := 3) (CX9_wrong F p1A p1_signsV p1_size (.ref p1_tokensA) (.ref p1_valuesA) p1_count p1_here p1_fault p1_startsA p1_startsN p1_starts (5 : Int32) R70 hg70) kvX9_wrong klX1_59 [3, 5] [0, 1, 2, 4, 6] rfl rfl (by decide) (by decide) (by decide) rfl rfl rfl rfl dX1_readPart_70 ⟨by decide, by decide, by decide, by decide⟩ (Nat.le_of_ble_eq_true rfl) (fun r w1 hq => ?_)
    obtain ⟨rfl, rfl⟩ := hq
    refine V.cells (ws' := (wX1_readPart cy tA t_size t_waits t_within t_brackets t_partIsDue t_stackV t_codeA t_codeN t_code t_waitingA t_waitingN t_waiting p1A p1_signsV p1_size p1_count p1_here R70.2 p1_tokensA p1_tokensN p1_tokens p1_startsA p1_startsN p1_starts p1_valuesA p1_valuesN p1_values)) [0, 1, 2, 5, 3, 6, 4] (by decide) rfl ?_
    show V l D cy MX1_readPart 2 0 0 _ _ _ 73 [(0, .ref tA), (1, .ref p1A), (2, .int x2), (3, .int x3)] [.int R70.1] (wX1_readPart cy tA t_size t_waits t_within t_brackets t_partIsDue t_stackV t_codeA t_codeN t_code t_waitingA t_waitingN t_waiting p1A p1_signsV p1_size p1_count p1_here R70.2 p1_tokensA p1_tokensN p1_tokens p1_startsA p1_startsN p1_starts p1_valuesA p1_valuesN p1_values) 0 0
    by_cases hz73 : R70.1 = 0 ∨ R70.1 = 1
    case neg => exact vNone ((if_neg hz73).symm.trans h)
    replace h := (if_pos hz73).symm.trans h
    have e9 := Option.some.inj h; subst e9
    exact V.iret (ty := .boolean) rfl (vBool hz73).1 dX1_readPart_73 (Nat.le_refl _) (Nat.le_refl _) hQ
noncomputable def bX1_readPart_L38 (F : Nat) (t_codeN : Nat) (t_waitingN : Nat) (p1_size : Int32) (p1_count : Int32) (p1_here : Int32) (p1_tokensN : Nat) (p1_tokens : Nat → Int32) (p1_startsN : Nat) (p1_starts : Nat → Int32) (p1_valuesN : Nat) (p1_values : Nat → Int64)  (x2 : Int32) (s0 : Int32) (t_size : Int32) (t_waits : Int32) (t_within : Int32) (t_brackets : Int32) (t_partIsDue : Int32) (t_code : Nat → Int32) (t_waiting : Nat → Int32) (p1_fault : Int32) : Option (Int32 × (Int32) × (Int32) × (Int32) × (Int32) × (Int32) × (Nat → Int32) × (Nat → Int32) × (Int32)) :=
  if x2 = 0 then (if s0 = 0 then ((fX9_isFact F p1_count p1_here p1_tokensN p1_tokens).bind fun R48 => (if R48 = 0 then ((fX9_wrong F p1_size p1_count p1_here p1_startsN p1_starts (1 : Int32) p1_fault).bind fun R56 => (if R56.1 = 0 ∨ R56.1 = 1 then some (R56.1, t_size, t_waits, t_within, t_brackets, t_partIsDue, t_code, t_waiting, R56.2) else none)) else (bX1_readPart_L60 F t_codeN t_waitingN p1_size p1_count p1_here p1_tokensN p1_tokens p1_startsN p1_starts p1_valuesN p1_values x2 s0 t_size t_waits t_within t_brackets t_partIsDue t_code t_waiting p1_fault))) else (bX1_readPart_L60 F t_codeN t_waitingN p1_size p1_count p1_here p1_tokensN p1_tokens p1_startsN p1_starts p1_valuesN p1_values x2 s0 t_size t_waits t_within t_brackets t_partIsDue t_code t_waiting p1_fault)) else (bX1_readPart_L60 F t_codeN t_waitingN p1_size p1_count p1_here p1_tokensN p1_tokens p1_startsN p1_starts p1_valuesN p1_values x2 s0 t_size t_waits t_within t_brackets t_partIsDue t_code t_waiting p1_fault)
theorem vX1_readPart_L38 {l : Launch} {D : va_G} {cy : Nat → ClassId} {av : List Value} {ws0 : va_W} {Q : Option Value → va_W → Prop} (F : Nat) (tA : Nat) (t_stackV : Value) (t_codeA : Nat) (t_codeN : Nat) (t_waitingA : Nat) (t_waitingN : Nat) (p1A : Nat) (p1_signsV : Value) (p1_size : Int32) (p1_count : Int32) (p1_here : Int32) (p1_tokensA : Nat) (p1_tokensN : Nat) (p1_tokens : Nat → Int32) (p1_startsA : Nat) (p1_startsN : Nat) (p1_starts : Nat → Int32) (p1_valuesA : Nat) (p1_valuesN : Nat) (p1_values : Nat → Int64)  (x2 : Int32) (s0 : Int32) (t_size : Int32) (t_waits : Int32) (t_within : Int32) (t_brackets : Int32) (t_partIsDue : Int32) (t_code : Nat → Int32) (t_waiting : Nat → Int32) (p1_fault : Int32) (R : Int32 × (Int32) × (Int32) × (Int32) × (Int32) × (Int32) × (Nat → Int32) × (Nat → Int32) × (Int32)) (h : bX1_readPart_L38 F t_codeN t_waitingN p1_size p1_count p1_here p1_tokensN p1_tokens p1_startsN p1_starts p1_valuesN p1_values  x2 s0 t_size t_waits t_within t_brackets t_partIsDue t_code t_waiting p1_fault = some R) (hQ : Q (some (.int R.1)) (wX1_readPart cy tA R.2.1 R.2.2.1 R.2.2.2.1 R.2.2.2.2.1 R.2.2.2.2.2.1 t_stackV t_codeA t_codeN R.2.2.2.2.2.2.1 t_waitingA t_waitingN R.2.2.2.2.2.2.2.1 p1A p1_signsV p1_size p1_count p1_here R.2.2.2.2.2.2.2.2 p1_tokensA p1_tokensN p1_tokens p1_startsA p1_startsN p1_starts p1_valuesA p1_valuesN p1_values)) : V l D cy MX1_readPart 2 0 0 av ws0 Q 38 [(0, .ref tA), (1, .ref p1A), (2, .int x2)] [.int s0] (wX1_readPart cy tA t_size t_waits t_within t_brackets t_partIsDue t_stackV t_codeA t_codeN t_code t_waitingA t_waitingN t_waiting p1A p1_signsV p1_size p1_count p1_here p1_fault p1_tokensA p1_tokensN p1_tokens p1_startsA p1_startsN p1_starts p1_valuesA p1_valuesN p1_values) 0 0 := by
  unfold bX1_readPart_L38 at h
  refine V.istore_n (lv' := [(3, .int s0), (0, .ref tA), (1, .ref p1A), (2, .int x2)]) dX1_readPart_38 rfl (by decide) rfl ?_
  refine V.iload_n dX1_readPart_39 rfl 3 rfl ?_
  refine V.if_ne (tgt := 60) dX1_readPart_40 (by decide) (fun hc40 => ?_) (fun hc40 => ?_)
  · replace h := (if_neg hc40).symm.trans h
    refine V.lvs [1, 2, 3, 0] rfl ?_
    exact vX1_readPart_L60 _ _ _ _ _ _ _ _ _ _ _ _ _ _ _ _ _ _ _ _ _   _ _ _ _ _ _ _ _ _ _ R h hQ
  · replace h := (if_pos hc40).symm.trans h
    refine V.iload_n dX1_readPart_43 rfl 0 rfl ?_
    refine V.if_ne (tgt := 60) dX1_readPart_44 (by decide) (fun hc44 => ?_) (fun hc44 => ?_)
    · replace h := (if_neg hc44).symm.trans h
      refine V.lvs [1, 2, 3, 0] rfl ?_
      exact vX1_readPart_L60 _ _ _ _ _ _ _ _ _ _ _ _ _ _ _ _ _ _ _ _ _   _ _ _ _ _ _ _ _ _ _ R h hQ
    · replace h := (if_pos hc44).symm.trans h
      refine V.aload_n dX1_readPart_47 rfl 2 rfl ?_
      obtain ⟨R48, hg48, h⟩ := Option.bind_eq_some_iff.mp h
      refine V.callV (As := []) (rest := []) (wc := (wX9_isFact cy p1A p1_signsV p1_size (.ref p1_startsA) (.ref p1_valuesA) p1_count p1_here p1_fault p1_tokensA p1_tokensN p1_tokens)) (wr := [(tA, .inr (1, [.ref t_codeA, .int t_size, .ref t_waitingA, .int t_waits, .int t_within, .int t_brackets, .int t_partIsDue, t_stackV])), (t_codeA, .inl (cy 1, t_codeN, .inl t_code)), (t_waitingA, .inl (cy 1, t_waitingN, .inl t_waiting)), (p1_startsA, .inl (cy 1, p1_startsN, .inl p1_starts)), (p1_valuesA, .inl (cy 2, p1_valuesN, .inr (.inl p1_values)))]) (q0 := 3) (CX9_isFact F p1A p1_signsV p1_size (.ref p1_startsA) (.ref p1_valuesA) p1_count p1_here p1_fault p1_tokensA p1_tokensN p1_tokens R48 hg48) kvX9_isFact klX1_63 [3, 4] [0, 1, 2, 5, 6] rfl rfl (by decide) (by decide) (by decide) rfl rfl rfl rfl dX1_readPart_48 ⟨by decide, by decide, by decide, by decide⟩ (Nat.le_of_ble_eq_true rfl) (fun r w1 hq => ?_)
      obtain ⟨rfl, rfl⟩ := hq
      refine V.cells (ws' := (wX1_readPart cy tA t_size t_waits t_within t_brackets t_partIsDue t_stackV t_codeA t_codeN t_code t_waitingA t_waitingN t_waiting p1A p1_signsV p1_size p1_count p1_here p1_fault p1_tokensA p1_tokensN p1_tokens p1_startsA p1_startsN p1_starts p1_valuesA p1_valuesN p1_values)) [0, 1, 2, 5, 6, 3, 4] (by decide) rfl ?_
      show V l D cy MX1_readPart 2 0 0 _ _ _ 51 [(3, .int s0), (0, .ref tA), (1, .ref p1A), (2, .int x2)] [.int R48] (wX1_readPart cy tA t_size t_waits t_within t_brackets t_partIsDue t_stackV t_codeA t_codeN t_code t_waitingA t_waitingN t_waiting p1A p1_signsV p1_size p1_count p1_here p1_fault p1_tokensA p1_tokensN p1_tokens p1_startsA p1_startsN p1_starts p1_valuesA p1_valuesN p1_values) 0 0
      refine V.if_ne (tgt := 60) dX1_readPart_51 (by decide) (fun hc51 => ?_) (fun hc51 => ?_)
      · replace h := (if_neg hc51).symm.trans h
        refine V.lvs [1, 2, 3, 0] rfl ?_
        exact vX1_readPart_L60 _ _ _ _ _ _ _ _ _ _ _ _ _ _ _ _ _ _ _ _ _   _ _ _ _ _ _ _ _ _ _ R h hQ
      · replace h := (if_pos hc51).symm.trans h
        refine V.aload_n dX1_readPart_54 rfl 2 rfl ?_
        refine V.iconst (v := (1 : Int32)) dX1_readPart_55 (by decide) ?_
        obtain ⟨R56, hg56, h⟩ := Option.bind_eq_some_iff.mp h
        refine V.callV (As := [.int (1 : Int32)]) (rest := []) (wc := (wX9_wrong cy p1A p1_signsV p1_size (.ref p1_tokensA) (.ref p1_valuesA) p1_count p1_here p1_fault p1_startsA p1_startsN p1_starts)) (wr := [(tA, .inr (1, [.ref t_codeA, .int t_size, .ref t_waitingA, .int t_waits, .int t_within, .int t_brackets, .int t_partIsDue, t_stackV])), (t_codeA, .inl (cy 1, t_codeN, .inl t_code)), (t_waitingA, .inl (cy 1, t_waitingN, .inl t_waiting)), (p1_tokensA, .inl (cy 1, p1_tokensN, .inl p1_tokens)), (p1_valuesA, .inl (cy 2, p1_valuesN, .inr (.inl p1_values)))]) (q0 := 3) (CX9_wrong F p1A p1_signsV p1_size (.ref p1_tokensA) (.ref p1_valuesA) p1_count p1_here p1_fault p1_startsA p1_startsN p1_starts (1 : Int32) R56 hg56) kvX9_wrong klX1_59 [3, 5] [0, 1, 2, 4, 6] rfl rfl (by decide) (by decide) (by decide) rfl rfl rfl rfl dX1_readPart_56 ⟨by decide, by decide, by decide, by decide⟩ (Nat.le_of_ble_eq_true rfl) (fun r w1 hq => ?_)
        obtain ⟨rfl, rfl⟩ := hq
        refine V.cells (ws' := (wX1_readPart cy tA t_size t_waits t_within t_brackets t_partIsDue t_stackV t_codeA t_codeN t_code t_waitingA t_waitingN t_waiting p1A p1_signsV p1_size p1_count p1_here R56.2 p1_tokensA p1_tokensN p1_tokens p1_startsA p1_startsN p1_starts p1_valuesA p1_valuesN p1_values)) [0, 1, 2, 5, 3, 6, 4] (by decide) rfl ?_
        show V l D cy MX1_readPart 2 0 0 _ _ _ 59 [(3, .int s0), (0, .ref tA), (1, .ref p1A), (2, .int x2)] [.int R56.1] (wX1_readPart cy tA t_size t_waits t_within t_brackets t_partIsDue t_stackV t_codeA t_codeN t_code t_waitingA t_waitingN t_waiting p1A p1_signsV p1_size p1_count p1_here R56.2 p1_tokensA p1_tokensN p1_tokens p1_startsA p1_startsN p1_starts p1_valuesA p1_valuesN p1_values) 0 0
        by_cases hz59 : R56.1 = 0 ∨ R56.1 = 1
        case neg => exact vNone ((if_neg hz59).symm.trans h)
        replace h := (if_pos hz59).symm.trans h
        have e9 := Option.some.inj h; subst e9
        exact V.iret (ty := .boolean) rfl (vBool hz59).1 dX1_readPart_59 (Nat.le_refl _) (Nat.le_refl _) hQ
noncomputable def bX1_readPart_L23 (F : Nat) (t_codeN : Nat) (t_waitingN : Nat) (p1_size : Int32) (p1_count : Int32) (p1_here : Int32) (p1_tokensN : Nat) (p1_tokens : Nat → Int32) (p1_startsN : Nat) (p1_starts : Nat → Int32) (p1_valuesN : Nat) (p1_values : Nat → Int64)  (s0 : Int32) (t_size : Int32) (t_waits : Int32) (t_within : Int32) (t_brackets : Int32) (t_partIsDue : Int32) (t_code : Nat → Int32) (t_waiting : Nat → Int32) (p1_fault : Int32) : Option (Int32 × (Int32) × (Int32) × (Int32) × (Int32) × (Int32) × (Nat → Int32) × (Nat → Int32) × (Int32)) :=
  (fX9_token F p1_count p1_here p1_tokensN p1_tokens).bind fun R25 => (if R25 = (21 : Int32) then (bX1_readPart_L38 F t_codeN t_waitingN p1_size p1_count p1_here p1_tokensN p1_tokens p1_startsN p1_starts p1_valuesN p1_values s0 (1 : Int32) t_size t_waits t_within t_brackets t_partIsDue t_code t_waiting p1_fault) else (bX1_readPart_L38 F t_codeN t_waitingN p1_size p1_count p1_here p1_tokensN p1_tokens p1_startsN p1_starts p1_valuesN p1_values s0 (0 : Int32) t_size t_waits t_within t_brackets t_partIsDue t_code t_waiting p1_fault))
theorem vX1_readPart_L23 {l : Launch} {D : va_G} {cy : Nat → ClassId} {av : List Value} {ws0 : va_W} {Q : Option Value → va_W → Prop} (F : Nat) (tA : Nat) (t_stackV : Value) (t_codeA : Nat) (t_codeN : Nat) (t_waitingA : Nat) (t_waitingN : Nat) (p1A : Nat) (p1_signsV : Value) (p1_size : Int32) (p1_count : Int32) (p1_here : Int32) (p1_tokensA : Nat) (p1_tokensN : Nat) (p1_tokens : Nat → Int32) (p1_startsA : Nat) (p1_startsN : Nat) (p1_starts : Nat → Int32) (p1_valuesA : Nat) (p1_valuesN : Nat) (p1_values : Nat → Int64)  (s0 : Int32) (t_size : Int32) (t_waits : Int32) (t_within : Int32) (t_brackets : Int32) (t_partIsDue : Int32) (t_code : Nat → Int32) (t_waiting : Nat → Int32) (p1_fault : Int32) (R : Int32 × (Int32) × (Int32) × (Int32) × (Int32) × (Int32) × (Nat → Int32) × (Nat → Int32) × (Int32)) (h : bX1_readPart_L23 F t_codeN t_waitingN p1_size p1_count p1_here p1_tokensN p1_tokens p1_startsN p1_starts p1_valuesN p1_values  s0 t_size t_waits t_within t_brackets t_partIsDue t_code t_waiting p1_fault = some R) (hQ : Q (some (.int R.1)) (wX1_readPart cy tA R.2.1 R.2.2.1 R.2.2.2.1 R.2.2.2.2.1 R.2.2.2.2.2.1 t_stackV t_codeA t_codeN R.2.2.2.2.2.2.1 t_waitingA t_waitingN R.2.2.2.2.2.2.2.1 p1A p1_signsV p1_size p1_count p1_here R.2.2.2.2.2.2.2.2 p1_tokensA p1_tokensN p1_tokens p1_startsA p1_startsN p1_starts p1_valuesA p1_valuesN p1_values)) : V l D cy MX1_readPart 2 0 0 av ws0 Q 23 [(0, .ref tA), (1, .ref p1A)] [.int s0] (wX1_readPart cy tA t_size t_waits t_within t_brackets t_partIsDue t_stackV t_codeA t_codeN t_code t_waitingA t_waitingN t_waiting p1A p1_signsV p1_size p1_count p1_here p1_fault p1_tokensA p1_tokensN p1_tokens p1_startsA p1_startsN p1_starts p1_valuesA p1_valuesN p1_values) 0 0 := by
  unfold bX1_readPart_L23 at h
  refine V.istore_n (lv' := [(2, .int s0), (0, .ref tA), (1, .ref p1A)]) dX1_readPart_23 rfl (by decide) rfl ?_
  refine V.aload_n dX1_readPart_24 rfl 2 rfl ?_
  obtain ⟨R25, hg25, h⟩ := Option.bind_eq_some_iff.mp h
  refine V.callV (As := []) (rest := []) (wc := (wX9_token cy p1A p1_signsV p1_size (.ref p1_startsA) (.ref p1_valuesA) p1_count p1_here p1_fault p1_tokensA p1_tokensN p1_tokens)) (wr := [(tA, .inr (1, [.ref t_codeA, .int t_size, .ref t_waitingA, .int t_waits, .int t_within, .int t_brackets, .int t_partIsDue, t_stackV])), (t_codeA, .inl (cy 1, t_codeN, .inl t_code)), (t_waitingA, .inl (cy 1, t_waitingN, .inl t_waiting)), (p1_startsA, .inl (cy 1, p1_startsN, .inl p1_starts)), (p1_valuesA, .inl (cy 2, p1_valuesN, .inr (.inl p1_values)))]) (q0 := 3) (CX9_token F p1A p1_signsV p1_size (.ref p1_startsA) (.ref p1_valuesA) p1_count p1_here p1_fault p1_tokensA p1_tokensN p1_tokens R25 hg25) kvX9_token klX1_41 [3, 4] [0, 1, 2, 5, 6] rfl rfl (by decide) (by decide) (by decide) rfl rfl rfl rfl dX1_readPart_25 ⟨by decide, by decide, by decide, by decide⟩ (Nat.le_of_ble_eq_true rfl) (fun r w1 hq => ?_)
  obtain ⟨rfl, rfl⟩ := hq
  refine V.cells (ws' := (wX1_readPart cy tA t_size t_waits t_within t_brackets t_partIsDue t_stackV t_codeA t_codeN t_code t_waitingA t_waitingN t_waiting p1A p1_signsV p1_size p1_count p1_here p1_fault p1_tokensA p1_tokensN p1_tokens p1_startsA p1_startsN p1_starts p1_valuesA p1_valuesN p1_values)) [0, 1, 2, 5, 6, 3, 4] (by decide) rfl ?_
  show V l D cy MX1_readPart 2 0 0 _ _ _ 28 [(2, .int s0), (0, .ref tA), (1, .ref p1A)] [.int R25] (wX1_readPart cy tA t_size t_waits t_within t_brackets t_partIsDue t_stackV t_codeA t_codeN t_code t_waitingA t_waitingN t_waiting p1A p1_signsV p1_size p1_count p1_here p1_fault p1_tokensA p1_tokensN p1_tokens p1_startsA p1_startsN p1_starts p1_valuesA p1_valuesN p1_values) 0 0
  refine V.bipush (v := (21 : Int32)) dX1_readPart_28 (by decide) ?_
  refine V.icmp_ne (tgt := 37) dX1_readPart_30 (by decide) (fun hc30 => ?_) (fun hc30 => ?_)
  · replace h := (if_neg hc30).symm.trans h
    refine V.iconst (v := (0 : Int32)) dX1_readPart_37 (by decide) ?_
    refine V.lvs [1, 2, 0] rfl ?_
    exact vX1_readPart_L38 _ _ _ _ _ _ _ _ _ _ _ _ _ _ _ _ _ _ _ _ _   _ _ _ _ _ _ _ _ _ _ R h hQ
  · replace h := (if_pos hc30).symm.trans h
    refine V.iconst (v := (1 : Int32)) dX1_readPart_33 (by decide) ?_
    refine V.goto (tgt := 38) dX1_readPart_34 (by decide) ?_
    refine V.lvs [1, 2, 0] rfl ?_
    exact vX1_readPart_L38 _ _ _ _ _ _ _ _ _ _ _ _ _ _ _ _ _ _ _ _ _   _ _ _ _ _ _ _ _ _ _ R h hQ
noncomputable def bX1_readPart_L18 (F : Nat) (t_codeN : Nat) (t_waitingN : Nat) (p1_size : Int32) (p1_count : Int32) (p1_here : Int32) (p1_tokensN : Nat) (p1_tokens : Nat → Int32) (p1_startsN : Nat) (p1_starts : Nat → Int32) (p1_valuesN : Nat) (p1_values : Nat → Int64)  (t_size : Int32) (t_waits : Int32) (t_within : Int32) (t_brackets : Int32) (t_partIsDue : Int32) (t_code : Nat → Int32) (t_waiting : Nat → Int32) (p1_fault : Int32) : Option (Int32 × (Int32) × (Int32) × (Int32) × (Int32) × (Int32) × (Nat → Int32) × (Nat → Int32) × (Int32)) :=
  bX1_readPart_L23 F t_codeN t_waitingN p1_size p1_count p1_here p1_tokensN p1_tokens p1_startsN p1_starts p1_valuesN p1_values (1 : Int32) t_size t_waits t_within t_brackets t_partIsDue t_code t_waiting p1_fault
theorem vX1_readPart_L18 {l : Launch} {D : va_G} {cy : Nat → ClassId} {av : List Value} {ws0 : va_W} {Q : Option Value → va_W → Prop} (F : Nat) (tA : Nat) (t_stackV : Value) (t_codeA : Nat) (t_codeN : Nat) (t_waitingA : Nat) (t_waitingN : Nat) (p1A : Nat) (p1_signsV : Value) (p1_size : Int32) (p1_count : Int32) (p1_here : Int32) (p1_tokensA : Nat) (p1_tokensN : Nat) (p1_tokens : Nat → Int32) (p1_startsA : Nat) (p1_startsN : Nat) (p1_starts : Nat → Int32) (p1_valuesA : Nat) (p1_valuesN : Nat) (p1_values : Nat → Int64)  (t_size : Int32) (t_waits : Int32) (t_within : Int32) (t_brackets : Int32) (t_partIsDue : Int32) (t_code : Nat → Int32) (t_waiting : Nat → Int32) (p1_fault : Int32) (R : Int32 × (Int32) × (Int32) × (Int32) × (Int32) × (Int32) × (Nat → Int32) × (Nat → Int32) × (Int32)) (h : bX1_readPart_L18 F t_codeN t_waitingN p1_size p1_count p1_here p1_tokensN p1_tokens p1_startsN p1_starts p1_valuesN p1_values  t_size t_waits t_within t_brackets t_partIsDue t_code t_waiting p1_fault = some R) (hQ : Q (some (.int R.1)) (wX1_readPart cy tA R.2.1 R.2.2.1 R.2.2.2.1 R.2.2.2.2.1 R.2.2.2.2.2.1 t_stackV t_codeA t_codeN R.2.2.2.2.2.2.1 t_waitingA t_waitingN R.2.2.2.2.2.2.2.1 p1A p1_signsV p1_size p1_count p1_here R.2.2.2.2.2.2.2.2 p1_tokensA p1_tokensN p1_tokens p1_startsA p1_startsN p1_starts p1_valuesA p1_valuesN p1_values)) : V l D cy MX1_readPart 2 0 0 av ws0 Q 18 [(0, .ref tA), (1, .ref p1A)] [] (wX1_readPart cy tA t_size t_waits t_within t_brackets t_partIsDue t_stackV t_codeA t_codeN t_code t_waitingA t_waitingN t_waiting p1A p1_signsV p1_size p1_count p1_here p1_fault p1_tokensA p1_tokensN p1_tokens p1_startsA p1_startsN p1_starts p1_valuesA p1_valuesN p1_values) 0 0 := by
  unfold bX1_readPart_L18 at h
  refine V.iconst (v := (1 : Int32)) dX1_readPart_18 (by decide) ?_
  refine V.goto (tgt := 23) dX1_readPart_19 (by decide) ?_
  exact vX1_readPart_L23 _ _ _ _ _ _ _ _ _ _ _ _ _ _ _ _ _ _ _ _ _   _ _ _ _ _ _ _ _ _ R h hQ
noncomputable def fX1_readPart (F : Nat) (t_codeN : Nat) (t_waitingN : Nat) (p1_size : Int32) (p1_count : Int32) (p1_here : Int32) (p1_tokensN : Nat) (p1_tokens : Nat → Int32) (p1_startsN : Nat) (p1_starts : Nat → Int32) (p1_valuesN : Nat) (p1_values : Nat → Int64) (t_size : Int32) (t_waits : Int32) (t_within : Int32) (t_brackets : Int32) (t_partIsDue : Int32) (t_code : Nat → Int32) (t_waiting : Nat → Int32) (p1_fault : Int32) : Option (Int32 × (Int32) × (Int32) × (Int32) × (Int32) × (Int32) × (Nat → Int32) × (Nat → Int32) × (Int32)) :=
  (fX9_token F p1_count p1_here p1_tokensN p1_tokens).bind fun R1 => (if R1 = (13 : Int32) then (bX1_readPart_L18 F t_codeN t_waitingN p1_size p1_count p1_here p1_tokensN p1_tokens p1_startsN p1_starts p1_valuesN p1_values t_size t_waits t_within t_brackets t_partIsDue t_code t_waiting p1_fault) else ((fX9_token F p1_count p1_here p1_tokensN p1_tokens).bind fun R10 => (if R10 = (40 : Int32) then (bX1_readPart_L18 F t_codeN t_waitingN p1_size p1_count p1_here p1_tokensN p1_tokens p1_startsN p1_starts p1_valuesN p1_values t_size t_waits t_within t_brackets t_partIsDue t_code t_waiting p1_fault) else (bX1_readPart_L23 F t_codeN t_waitingN p1_size p1_count p1_here p1_tokensN p1_tokens p1_startsN p1_starts p1_valuesN p1_values (0 : Int32) t_size t_waits t_within t_brackets t_partIsDue t_code t_waiting p1_fault))))
theorem CX1_readPart {l : Launch} {D : va_G} {cy : Nat → ClassId} (F : Nat) (tA : Nat) (t_size : Int32) (t_waits : Int32) (t_within : Int32) (t_brackets : Int32) (t_partIsDue : Int32) (t_stackV : Value) (t_codeA : Nat) (t_codeN : Nat) (t_code : Nat → Int32) (t_waitingA : Nat) (t_waitingN : Nat) (t_waiting : Nat → Int32) (p1A : Nat) (p1_signsV : Value) (p1_size : Int32) (p1_count : Int32) (p1_here : Int32) (p1_fault : Int32) (p1_tokensA : Nat) (p1_tokensN : Nat) (p1_tokens : Nat → Int32) (p1_startsA : Nat) (p1_startsN : Nat) (p1_starts : Nat → Int32) (p1_valuesA : Nat) (p1_valuesN : Nat) (p1_values : Nat → Int64) (R : Int32 × (Int32) × (Int32) × (Int32) × (Int32) × (Int32) × (Nat → Int32) × (Nat → Int32) × (Int32)) (h : fX1_readPart F t_codeN t_waitingN p1_size p1_count p1_here p1_tokensN p1_tokens p1_startsN p1_starts p1_valuesN p1_values t_size t_waits t_within t_brackets t_partIsDue t_code t_waiting p1_fault = some R) : vMet l D cy MX1_readPart 2 0 0 [.ref tA, .ref p1A] (wX1_readPart cy tA t_size t_waits t_within t_brackets t_partIsDue t_stackV t_codeA t_codeN t_code t_waitingA t_waitingN t_waiting p1A p1_signsV p1_size p1_count p1_here p1_fault p1_tokensA p1_tokensN p1_tokens p1_startsA p1_startsN p1_starts p1_valuesA p1_valuesN p1_values) (fun (r : Option Value) (w : va_W) => r = (some (.int R.1)) ∧ w = (wX1_readPart cy tA R.2.1 R.2.2.1 R.2.2.2.1 R.2.2.2.2.1 R.2.2.2.2.2.1 t_stackV t_codeA t_codeN R.2.2.2.2.2.2.1 t_waitingA t_waitingN R.2.2.2.2.2.2.2.1 p1A p1_signsV p1_size p1_count p1_here R.2.2.2.2.2.2.2.2 p1_tokensA p1_tokensN p1_tokens p1_startsA p1_startsN p1_starts p1_valuesA p1_valuesN p1_values)) := by
  refine vMet.start (by decide +kernel) (Nat.le_of_ble_eq_true rfl) ?_
  generalize hQe : (fun (r : Option Value) (w : va_W) => r = (some (.int R.1)) ∧ w = (wX1_readPart cy tA R.2.1 R.2.2.1 R.2.2.2.1 R.2.2.2.2.1 R.2.2.2.2.2.1 t_stackV t_codeA t_codeN R.2.2.2.2.2.2.1 t_waitingA t_waitingN R.2.2.2.2.2.2.2.1 p1A p1_signsV p1_size p1_count p1_here R.2.2.2.2.2.2.2.2 p1_tokensA p1_tokensN p1_tokens p1_startsA p1_startsN p1_starts p1_valuesA p1_valuesN p1_values)) = Q
  have hQ : Q (some (.int R.1)) (wX1_readPart cy tA R.2.1 R.2.2.1 R.2.2.2.1 R.2.2.2.2.1 R.2.2.2.2.2.1 t_stackV t_codeA t_codeN R.2.2.2.2.2.2.1 t_waitingA t_waitingN R.2.2.2.2.2.2.2.1 p1A p1_signsV p1_size p1_count p1_here R.2.2.2.2.2.2.2.2 p1_tokensA p1_tokensN p1_tokens p1_startsA p1_startsN p1_starts p1_valuesA p1_valuesN p1_values) := by rw [← hQe]; exact ⟨rfl, rfl⟩
  show V l D cy MX1_readPart 2 0 0 _ _ Q 0 [(0, .ref tA), (1, .ref p1A)] [] _ 0 0
  show V l D cy MX1_readPart 2 0 0 [.ref tA, .ref p1A] _ Q 0 [(0, .ref tA), (1, .ref p1A)] [] (wX1_readPart cy tA t_size t_waits t_within t_brackets t_partIsDue t_stackV t_codeA t_codeN t_code t_waitingA t_waitingN t_waiting p1A p1_signsV p1_size p1_count p1_here p1_fault p1_tokensA p1_tokensN p1_tokens p1_startsA p1_startsN p1_starts p1_valuesA p1_valuesN p1_values) 0 0
  unfold fX1_readPart at h
  refine V.aload_n dX1_readPart_0 rfl 1 rfl ?_
  obtain ⟨R1, hg1, h⟩ := Option.bind_eq_some_iff.mp h
  refine V.callV (As := []) (rest := []) (wc := (wX9_token cy p1A p1_signsV p1_size (.ref p1_startsA) (.ref p1_valuesA) p1_count p1_here p1_fault p1_tokensA p1_tokensN p1_tokens)) (wr := [(tA, .inr (1, [.ref t_codeA, .int t_size, .ref t_waitingA, .int t_waits, .int t_within, .int t_brackets, .int t_partIsDue, t_stackV])), (t_codeA, .inl (cy 1, t_codeN, .inl t_code)), (t_waitingA, .inl (cy 1, t_waitingN, .inl t_waiting)), (p1_startsA, .inl (cy 1, p1_startsN, .inl p1_starts)), (p1_valuesA, .inl (cy 2, p1_valuesN, .inr (.inl p1_values)))]) (q0 := 3) (CX9_token F p1A p1_signsV p1_size (.ref p1_startsA) (.ref p1_valuesA) p1_count p1_here p1_fault p1_tokensA p1_tokensN p1_tokens R1 hg1) kvX9_token klX1_41 [3, 4] [0, 1, 2, 5, 6] rfl rfl (by decide) (by decide) (by decide) rfl rfl rfl rfl dX1_readPart_1 ⟨by decide, by decide, by decide, by decide⟩ (Nat.le_of_ble_eq_true rfl) (fun r w1 hq => ?_)
  obtain ⟨rfl, rfl⟩ := hq
  refine V.cells (ws' := (wX1_readPart cy tA t_size t_waits t_within t_brackets t_partIsDue t_stackV t_codeA t_codeN t_code t_waitingA t_waitingN t_waiting p1A p1_signsV p1_size p1_count p1_here p1_fault p1_tokensA p1_tokensN p1_tokens p1_startsA p1_startsN p1_starts p1_valuesA p1_valuesN p1_values)) [0, 1, 2, 5, 6, 3, 4] (by decide) rfl ?_
  show V l D cy MX1_readPart 2 0 0 _ _ _ 4 [(0, .ref tA), (1, .ref p1A)] [.int R1] (wX1_readPart cy tA t_size t_waits t_within t_brackets t_partIsDue t_stackV t_codeA t_codeN t_code t_waitingA t_waitingN t_waiting p1A p1_signsV p1_size p1_count p1_here p1_fault p1_tokensA p1_tokensN p1_tokens p1_startsA p1_startsN p1_starts p1_valuesA p1_valuesN p1_values) 0 0
  refine V.bipush (v := (13 : Int32)) dX1_readPart_4 (by decide) ?_
  refine V.icmp_eq (tgt := 18) dX1_readPart_6 (by decide) (fun hc6 => ?_) (fun hc6 => ?_)
  · replace h := (if_pos hc6).symm.trans h
    exact vX1_readPart_L18 _ _ _ _ _ _ _ _ _ _ _ _ _ _ _ _ _ _ _ _ _   _ _ _ _ _ _ _ _ R h hQ
  · replace h := (if_neg hc6).symm.trans h
    refine V.aload_n dX1_readPart_9 rfl 1 rfl ?_
    obtain ⟨R10, hg10, h⟩ := Option.bind_eq_some_iff.mp h
    refine V.callV (As := []) (rest := []) (wc := (wX9_token cy p1A p1_signsV p1_size (.ref p1_startsA) (.ref p1_valuesA) p1_count p1_here p1_fault p1_tokensA p1_tokensN p1_tokens)) (wr := [(tA, .inr (1, [.ref t_codeA, .int t_size, .ref t_waitingA, .int t_waits, .int t_within, .int t_brackets, .int t_partIsDue, t_stackV])), (t_codeA, .inl (cy 1, t_codeN, .inl t_code)), (t_waitingA, .inl (cy 1, t_waitingN, .inl t_waiting)), (p1_startsA, .inl (cy 1, p1_startsN, .inl p1_starts)), (p1_valuesA, .inl (cy 2, p1_valuesN, .inr (.inl p1_values)))]) (q0 := 3) (CX9_token F p1A p1_signsV p1_size (.ref p1_startsA) (.ref p1_valuesA) p1_count p1_here p1_fault p1_tokensA p1_tokensN p1_tokens R10 hg10) kvX9_token klX1_41 [3, 4] [0, 1, 2, 5, 6] rfl rfl (by decide) (by decide) (by decide) rfl rfl rfl rfl dX1_readPart_10 ⟨by decide, by decide, by decide, by decide⟩ (Nat.le_of_ble_eq_true rfl) (fun r w1 hq => ?_)
    obtain ⟨rfl, rfl⟩ := hq
    refine V.cells (ws' := (wX1_readPart cy tA t_size t_waits t_within t_brackets t_partIsDue t_stackV t_codeA t_codeN t_code t_waitingA t_waitingN t_waiting p1A p1_signsV p1_size p1_count p1_here p1_fault p1_tokensA p1_tokensN p1_tokens p1_startsA p1_startsN p1_starts p1_valuesA p1_valuesN p1_values)) [0, 1, 2, 5, 6, 3, 4] (by decide) rfl ?_
    show V l D cy MX1_readPart 2 0 0 _ _ _ 13 [(0, .ref tA), (1, .ref p1A)] [.int R10] (wX1_readPart cy tA t_size t_waits t_within t_brackets t_partIsDue t_stackV t_codeA t_codeN t_code t_waitingA t_waitingN t_waiting p1A p1_signsV p1_size p1_count p1_here p1_fault p1_tokensA p1_tokensN p1_tokens p1_startsA p1_startsN p1_starts p1_valuesA p1_valuesN p1_values) 0 0
    refine V.bipush (v := (40 : Int32)) dX1_readPart_13 (by decide) ?_
    refine V.icmp_ne (tgt := 22) dX1_readPart_15 (by decide) (fun hc15 => ?_) (fun hc15 => ?_)
    · replace h := (if_neg hc15).symm.trans h
      refine V.iconst (v := (0 : Int32)) dX1_readPart_22 (by decide) ?_
      exact vX1_readPart_L23 _ _ _ _ _ _ _ _ _ _ _ _ _ _ _ _ _ _ _ _ _   _ _ _ _ _ _ _ _ _ R h hQ
    · replace h := (if_pos hc15).symm.trans h
      exact vX1_readPart_L18 _ _ _ _ _ _ _ _ _ _ _ _ _ _ _ _ _ _ _ _ _   _ _ _ _ _ _ _ _ R h hQ
theorem dX1_readJoint_0 : decode cX1_readJoint 0 = .ok (.aload_n 1, 1) := by decide +kernel
theorem dX1_readJoint_1 : decode cX1_readJoint 1 = .ok (.invokevirtual 41, 3) := by decide +kernel
theorem dX1_readJoint_4 : decode cX1_readJoint 4 = .ok (.bipush 41, 2) := by decide +kernel
theorem dX1_readJoint_6 : decode cX1_readJoint 6 = .ok (.if_icmp .ne 51, 3) := by decide +kernel
theorem dX1_readJoint_9 : decode cX1_readJoint 9 = .ok (.aload_n 0, 1) := by decide +kernel
theorem dX1_readJoint_10 : decode cX1_readJoint 10 = .ok (.getfield 31, 3) := by decide +kernel
theorem dX1_readJoint_13 : decode cX1_readJoint 13 = .ok (.ifCond .le 44, 3) := by decide +kernel
theorem dX1_readJoint_16 : decode cX1_readJoint 16 = .ok (.aload_n 0, 1) := by decide +kernel
theorem dX1_readJoint_17 : decode cX1_readJoint 17 = .ok (.iconst 1, 1) := by decide +kernel
theorem dX1_readJoint_18 : decode cX1_readJoint 18 = .ok (.invokevirtual 45, 3) := by decide +kernel
theorem dX1_readJoint_21 : decode cX1_readJoint 21 = .ok (.aload_n 0, 1) := by decide +kernel
theorem dX1_readJoint_22 : decode cX1_readJoint 22 = .ok (.dup, 1) := by decide +kernel
theorem dX1_readJoint_23 : decode cX1_readJoint 23 = .ok (.getfield 25, 3) := by decide +kernel
theorem dX1_readJoint_26 : decode cX1_readJoint 26 = .ok (.iconst 1, 1) := by decide +kernel
theorem dX1_readJoint_27 : decode cX1_readJoint 27 = .ok (.isub, 1) := by decide +kernel
theorem dX1_readJoint_28 : decode cX1_readJoint 28 = .ok (.putfield 25, 3) := by decide +kernel
theorem dX1_readJoint_31 : decode cX1_readJoint 31 = .ok (.aload_n 0, 1) := by decide +kernel
theorem dX1_readJoint_32 : decode cX1_readJoint 32 = .ok (.dup, 1) := by decide +kernel
theorem dX1_readJoint_33 : decode cX1_readJoint 33 = .ok (.getfield 28, 3) := by decide +kernel
theorem dX1_readJoint_36 : decode cX1_readJoint 36 = .ok (.iconst 1, 1) := by decide +kernel
theorem dX1_readJoint_37 : decode cX1_readJoint 37 = .ok (.isub, 1) := by decide +kernel
theorem dX1_readJoint_38 : decode cX1_readJoint 38 = .ok (.putfield 28, 3) := by decide +kernel
theorem dX1_readJoint_41 : decode cX1_readJoint 41 = .ok (.aload_n 0, 1) := by decide +kernel
theorem dX1_readJoint_42 : decode cX1_readJoint 42 = .ok (.dup, 1) := by decide +kernel
theorem dX1_readJoint_43 : decode cX1_readJoint 43 = .ok (.getfield 31, 3) := by decide +kernel
theorem dX1_readJoint_46 : decode cX1_readJoint 46 = .ok (.iconst 1, 1) := by decide +kernel
theorem dX1_readJoint_47 : decode cX1_readJoint 47 = .ok (.isub, 1) := by decide +kernel
theorem dX1_readJoint_48 : decode cX1_readJoint 48 = .ok (.putfield 31, 3) := by decide +kernel
theorem dX1_readJoint_51 : decode cX1_readJoint 51 = .ok (.aload_n 0, 1) := by decide +kernel
theorem dX1_readJoint_52 : decode cX1_readJoint 52 = .ok (.invokevirtual 76, 3) := by decide +kernel
theorem dX1_readJoint_55 : decode cX1_readJoint 55 = .ok (.iconst 1, 1) := by decide +kernel
theorem dX1_readJoint_56 : decode cX1_readJoint 56 = .ok (.ireturn, 1) := by decide +kernel
theorem dX1_readJoint_57 : decode cX1_readJoint 57 = .ok (.aload_n 1, 1) := by decide +kernel
theorem dX1_readJoint_58 : decode cX1_readJoint 58 = .ok (.invokevirtual 41, 3) := by decide +kernel
theorem dX1_readJoint_61 : decode cX1_readJoint 61 = .ok (.invokestatic 79, 3) := by decide +kernel
theorem dX1_readJoint_64 : decode cX1_readJoint 64 = .ok (.istore_n 2, 1) := by decide +kernel
theorem dX1_readJoint_65 : decode cX1_readJoint 65 = .ok (.iload_n 2, 1) := by decide +kernel
theorem dX1_readJoint_66 : decode cX1_readJoint 66 = .ok (.ifCond .ne 9, 3) := by decide +kernel
theorem dX1_readJoint_69 : decode cX1_readJoint 69 = .ok (.aload_n 1, 1) := by decide +kernel
theorem dX1_readJoint_70 : decode cX1_readJoint 70 = .ok (.iconst 1, 1) := by decide +kernel
theorem dX1_readJoint_71 : decode cX1_readJoint 71 = .ok (.invokevirtual 59, 3) := by decide +kernel
theorem dX1_readJoint_74 : decode cX1_readJoint 74 = .ok (.ireturn, 1) := by decide +kernel
theorem dX1_readJoint_75 : decode cX1_readJoint 75 = .ok (.iload_n 2, 1) := by decide +kernel
theorem dX1_readJoint_76 : decode cX1_readJoint 76 = .ok (.iconst 2, 1) := by decide +kernel
theorem dX1_readJoint_77 : decode cX1_readJoint 77 = .ok (.if_icmp .ne 7, 3) := by decide +kernel
theorem dX1_readJoint_80 : decode cX1_readJoint 80 = .ok (.iconst 1, 1) := by decide +kernel
theorem dX1_readJoint_81 : decode cX1_readJoint 81 = .ok (.goto 4, 3) := by decide +kernel
theorem dX1_readJoint_84 : decode cX1_readJoint 84 = .ok (.iconst 0, 1) := by decide +kernel
theorem dX1_readJoint_85 : decode cX1_readJoint 85 = .ok (.istore_n 3, 1) := by decide +kernel
theorem dX1_readJoint_86 : decode cX1_readJoint 86 = .ok (.aload_n 0, 1) := by decide +kernel
theorem dX1_readJoint_87 : decode cX1_readJoint 87 = .ok (.iload_n 3, 1) := by decide +kernel
theorem dX1_readJoint_88 : decode cX1_readJoint 88 = .ok (.ifCond .eq 7, 3) := by decide +kernel
theorem dX1_readJoint_91 : decode cX1_readJoint 91 = .ok (.iconst 3, 1) := by decide +kernel
theorem dX1_readJoint_92 : decode cX1_readJoint 92 = .ok (.goto 4, 3) := by decide +kernel
theorem dX1_readJoint_95 : decode cX1_readJoint 95 = .ok (.iload_n 2, 1) := by decide +kernel
theorem dX1_readJoint_96 : decode cX1_readJoint 96 = .ok (.invokevirtual 45, 3) := by decide +kernel
theorem dX1_readJoint_99 : decode cX1_readJoint 99 = .ok (.iload_n 3, 1) := by decide +kernel
theorem dX1_readJoint_100 : decode cX1_readJoint 100 = .ok (.ifCond .eq 20, 3) := by decide +kernel
theorem dX1_readJoint_103 : decode cX1_readJoint 103 = .ok (.aload_n 0, 1) := by decide +kernel
theorem dX1_readJoint_104 : decode cX1_readJoint 104 = .ok (.invokevirtual 83, 3) := by decide +kernel
theorem dX1_readJoint_107 : decode cX1_readJoint 107 = .ok (.invokestatic 79, 3) := by decide +kernel
theorem dX1_readJoint_110 : decode cX1_readJoint 110 = .ok (.iconst 2, 1) := by decide +kernel
theorem dX1_readJoint_111 : decode cX1_readJoint 111 = .ok (.if_icmp .ne 9, 3) := by decide +kernel
theorem dX1_readJoint_114 : decode cX1_readJoint 114 = .ok (.aload_n 1, 1) := by decide +kernel
theorem dX1_readJoint_115 : decode cX1_readJoint 115 = .ok (.iconst 1, 1) := by decide +kernel
theorem dX1_readJoint_116 : decode cX1_readJoint 116 = .ok (.invokevirtual 59, 3) := by decide +kernel
theorem dX1_readJoint_119 : decode cX1_readJoint 119 = .ok (.ireturn, 1) := by decide +kernel
theorem dX1_readJoint_120 : decode cX1_readJoint 120 = .ok (.aload_n 0, 1) := by decide +kernel
theorem dX1_readJoint_121 : decode cX1_readJoint 121 = .ok (.aload_n 1, 1) := by decide +kernel
theorem dX1_readJoint_122 : decode cX1_readJoint 122 = .ok (.invokevirtual 41, 3) := by decide +kernel
theorem dX1_readJoint_125 : decode cX1_readJoint 125 = .ok (.invokevirtual 67, 3) := by decide +kernel
theorem dX1_readJoint_128 : decode cX1_readJoint 128 = .ok (.aload_n 0, 1) := by decide +kernel
theorem dX1_readJoint_129 : decode cX1_readJoint 129 = .ok (.iconst 1, 1) := by decide +kernel
theorem dX1_readJoint_130 : decode cX1_readJoint 130 = .ok (.putfield 34, 3) := by decide +kernel
theorem dX1_readJoint_133 : decode cX1_readJoint 133 = .ok (.iconst 1, 1) := by decide +kernel
theorem dX1_readJoint_134 : decode cX1_readJoint 134 = .ok (.ireturn, 1) := by decide +kernel
def wX1_readJoint (cy : Nat → ClassId) (tA : Nat) (t_size : Int32) (t_waits : Int32) (t_within : Int32) (t_brackets : Int32) (t_partIsDue : Int32) (t_stackV : Value) (t_codeA : Nat) (t_codeN : Nat) (t_code : Nat → Int32) (t_waitingA : Nat) (t_waitingN : Nat) (t_waiting : Nat → Int32) (p1A : Nat) (p1_signsV : Value) (p1_size : Int32) (p1_valuesV : Value) (p1_count : Int32) (p1_here : Int32) (p1_fault : Int32) (p1_tokensA : Nat) (p1_tokensN : Nat) (p1_tokens : Nat → Int32) (p1_startsA : Nat) (p1_startsN : Nat) (p1_starts : Nat → Int32) : va_W :=
  [(tA, .inr (1, [.ref t_codeA, .int t_size, .ref t_waitingA, .int t_waits, .int t_within, .int t_brackets, .int t_partIsDue, t_stackV])), (t_codeA, .inl (cy 1, t_codeN, .inl t_code)), (t_waitingA, .inl (cy 1, t_waitingN, .inl t_waiting)), (p1A, .inr (9, [p1_signsV, .int p1_size, .ref p1_tokensA, .ref p1_startsA, p1_valuesV, .int p1_count, .int p1_here, .int p1_fault])), (p1_tokensA, .inl (cy 1, p1_tokensN, .inl p1_tokens)), (p1_startsA, .inl (cy 1, p1_startsN, .inl p1_starts))]
noncomputable def bX1_readJoint_L120 (F : Nat) (t_codeN : Nat) (t_waitingN : Nat) (p1_size : Int32) (p1_count : Int32) (p1_here : Int32) (p1_tokensN : Nat) (p1_tokens : Nat → Int32) (p1_startsN : Nat) (p1_starts : Nat → Int32)  (t_size : Int32) (t_waits : Int32) (t_within : Int32) (t_brackets : Int32) (t_partIsDue : Int32) (t_code : Nat → Int32) (t_waiting : Nat → Int32) (p1_fault : Int32) : Option (Int32 × (Int32) × (Int32) × (Int32) × (Int32) × (Int32) × (Nat → Int32) × (Nat → Int32) × (Int32)) :=
  (fX9_token F p1_count p1_here p1_tokensN p1_tokens).bind fun R122 => ((fX1_await F t_waitingN R122 t_waits t_waiting).bind fun R125 => (some ((1 : Int32), t_size, R125.1, t_within, t_brackets, (1 : Int32), t_code, R125.2, p1_fault)))
theorem vX1_readJoint_L120 {l : Launch} {D : va_G} {cy : Nat → ClassId} {av : List Value} {ws0 : va_W} {Q : Option Value → va_W → Prop} (F : Nat) (tA : Nat) (t_stackV : Value) (t_codeA : Nat) (t_codeN : Nat) (t_waitingA : Nat) (t_waitingN : Nat) (p1A : Nat) (p1_signsV : Value) (p1_size : Int32) (p1_valuesV : Value) (p1_count : Int32) (p1_here : Int32) (p1_tokensA : Nat) (p1_tokensN : Nat) (p1_tokens : Nat → Int32) (p1_startsA : Nat) (p1_startsN : Nat) (p1_starts : Nat → Int32)  (t_size : Int32) (t_waits : Int32) (t_within : Int32) (t_brackets : Int32) (t_partIsDue : Int32) (t_code : Nat → Int32) (t_waiting : Nat → Int32) (p1_fault : Int32) (R : Int32 × (Int32) × (Int32) × (Int32) × (Int32) × (Int32) × (Nat → Int32) × (Nat → Int32) × (Int32)) (h : bX1_readJoint_L120 F t_codeN t_waitingN p1_size p1_count p1_here p1_tokensN p1_tokens p1_startsN p1_starts  t_size t_waits t_within t_brackets t_partIsDue t_code t_waiting p1_fault = some R) (hQ : Q (some (.int R.1)) (wX1_readJoint cy tA R.2.1 R.2.2.1 R.2.2.2.1 R.2.2.2.2.1 R.2.2.2.2.2.1 t_stackV t_codeA t_codeN R.2.2.2.2.2.2.1 t_waitingA t_waitingN R.2.2.2.2.2.2.2.1 p1A p1_signsV p1_size p1_valuesV p1_count p1_here R.2.2.2.2.2.2.2.2 p1_tokensA p1_tokensN p1_tokens p1_startsA p1_startsN p1_starts)) : V l D cy MX1_readJoint 2 0 0 av ws0 Q 120 [(0, .ref tA), (1, .ref p1A)] [] (wX1_readJoint cy tA t_size t_waits t_within t_brackets t_partIsDue t_stackV t_codeA t_codeN t_code t_waitingA t_waitingN t_waiting p1A p1_signsV p1_size p1_valuesV p1_count p1_here p1_fault p1_tokensA p1_tokensN p1_tokens p1_startsA p1_startsN p1_starts) 0 0 := by
  unfold bX1_readJoint_L120 at h
  refine V.aload_n dX1_readJoint_120 rfl 0 rfl ?_
  refine V.aload_n dX1_readJoint_121 rfl 1 rfl ?_
  obtain ⟨R122, hg122, h⟩ := Option.bind_eq_some_iff.mp h
  refine V.callV (As := []) (rest := [.ref tA]) (wc := (wX9_token cy p1A p1_signsV p1_size (.ref p1_startsA) p1_valuesV p1_count p1_here p1_fault p1_tokensA p1_tokensN p1_tokens)) (wr := [(tA, .inr (1, [.ref t_codeA, .int t_size, .ref t_waitingA, .int t_waits, .int t_within, .int t_brackets, .int t_partIsDue, t_stackV])), (t_codeA, .inl (cy 1, t_codeN, .inl t_code)), (t_waitingA, .inl (cy 1, t_waitingN, .inl t_waiting)), (p1_startsA, .inl (cy 1, p1_startsN, .inl p1_starts))]) (q0 := 3) (CX9_token F p1A p1_signsV p1_size (.ref p1_startsA) p1_valuesV p1_count p1_here p1_fault p1_tokensA p1_tokensN p1_tokens R122 hg122) kvX9_token klX1_41 [3, 4] [0, 1, 2, 5] rfl rfl (by decide) (by decide) (by decide) rfl rfl rfl rfl dX1_readJoint_122 ⟨by decide, by decide, by decide, by decide⟩ (Nat.le_of_ble_eq_true rfl) (fun r w1 hq => ?_)
  obtain ⟨rfl, rfl⟩ := hq
  refine V.cells (ws' := (wX1_readJoint cy tA t_size t_waits t_within t_brackets t_partIsDue t_stackV t_codeA t_codeN t_code t_waitingA t_waitingN t_waiting p1A p1_signsV p1_size p1_valuesV p1_count p1_here p1_fault p1_tokensA p1_tokensN p1_tokens p1_startsA p1_startsN p1_starts)) [0, 1, 2, 4, 5, 3] (by decide) rfl ?_
  show V l D cy MX1_readJoint 2 0 0 _ _ _ 125 [(0, .ref tA), (1, .ref p1A)] [.int R122, .ref tA] (wX1_readJoint cy tA t_size t_waits t_within t_brackets t_partIsDue t_stackV t_codeA t_codeN t_code t_waitingA t_waitingN t_waiting p1A p1_signsV p1_size p1_valuesV p1_count p1_here p1_fault p1_tokensA p1_tokensN p1_tokens p1_startsA p1_startsN p1_starts) 0 0
  obtain ⟨R125, hg125, h⟩ := Option.bind_eq_some_iff.mp h
  refine V.callV (As := [.int R122]) (rest := []) (wc := (wX1_await cy tA (.ref t_codeA) t_size t_waits t_within t_brackets t_partIsDue t_stackV t_waitingA t_waitingN t_waiting)) (wr := [(t_codeA, .inl (cy 1, t_codeN, .inl t_code)), (p1A, .inr (9, [p1_signsV, .int p1_size, .ref p1_tokensA, .ref p1_startsA, p1_valuesV, .int p1_count, .int p1_here, .int p1_fault])), (p1_tokensA, .inl (cy 1, p1_tokensN, .inl p1_tokens)), (p1_startsA, .inl (cy 1, p1_startsN, .inl p1_starts))]) (q0 := 0) (CX1_await F tA (.ref t_codeA) t_size t_waits t_within t_brackets t_partIsDue t_stackV t_waitingA t_waitingN t_waiting R122 R125 hg125) kvX1_await klX1_67 [0, 2] [1, 3, 4, 5] rfl rfl (by decide) (by decide) (by decide) rfl rfl rfl rfl dX1_readJoint_125 ⟨by decide, by decide, by decide, by decide⟩ (Nat.le_of_ble_eq_true rfl) (fun r w1 hq => ?_)
  obtain ⟨rfl, rfl⟩ := hq
  refine V.cells (ws' := (wX1_readJoint cy tA t_size R125.1 t_within t_brackets t_partIsDue t_stackV t_codeA t_codeN t_code t_waitingA t_waitingN R125.2 p1A p1_signsV p1_size p1_valuesV p1_count p1_here p1_fault p1_tokensA p1_tokensN p1_tokens p1_startsA p1_startsN p1_starts)) [4, 0, 5, 1, 2, 3] (by decide) rfl ?_
  show V l D cy MX1_readJoint 2 0 0 _ _ _ 128 [(0, .ref tA), (1, .ref p1A)] [] (wX1_readJoint cy tA t_size R125.1 t_within t_brackets t_partIsDue t_stackV t_codeA t_codeN t_code t_waitingA t_waitingN R125.2 p1A p1_signsV p1_size p1_valuesV p1_count p1_here p1_fault p1_tokensA p1_tokensN p1_tokens p1_startsA p1_startsN p1_starts) 0 0
  refine V.aload_n dX1_readJoint_128 rfl 0 rfl ?_
  refine V.iconst (v := (1 : Int32)) dX1_readJoint_129 (by decide) ?_
  refine V.put (ws' := (wX1_readJoint cy tA t_size R125.1 t_within t_brackets (1 : Int32) t_stackV t_codeA t_codeN t_code t_waitingA t_waitingN R125.2 p1A p1_signsV p1_size p1_valuesV p1_count p1_here p1_fault p1_tokensA p1_tokensN p1_tokens p1_startsA p1_startsN p1_starts)) kfX1 tyX1 tyX1_ok nmX1 0 rfl rfl 6 (by decide) klX1_34 rfl (tyX1_ok 6 (by decide)) rfl rfl (Nat.le_of_ble_eq_true rfl) dX1_readJoint_130 rfl ?_
  refine V.iconst (v := (1 : Int32)) dX1_readJoint_133 (by decide) ?_
  have e9 := Option.some.inj h; subst e9
  exact V.iret (ty := .boolean) rfl rfl dX1_readJoint_134 (Nat.le_refl _) (Nat.le_refl _) hQ
noncomputable def bX1_readJoint_L96 (F : Nat) (t_codeN : Nat) (t_waitingN : Nat) (p1_size : Int32) (p1_count : Int32) (p1_here : Int32) (p1_tokensN : Nat) (p1_tokens : Nat → Int32) (p1_startsN : Nat) (p1_starts : Nat → Int32)  (x3 : Int32) (s1 : Int32) (t_size : Int32) (t_waits : Int32) (t_within : Int32) (t_brackets : Int32) (t_partIsDue : Int32) (t_code : Nat → Int32) (t_waiting : Nat → Int32) (p1_fault : Int32) : Option (Int32 × (Int32) × (Int32) × (Int32) × (Int32) × (Int32) × (Nat → Int32) × (Nat → Int32) × (Int32)) :=
  (fX1_release F t_codeN t_waitingN t_waiting s1 t_size t_waits t_code).bind fun R96 => (if x3 = 0 then (bX1_readJoint_L120 F t_codeN t_waitingN p1_size p1_count p1_here p1_tokensN p1_tokens p1_startsN p1_starts R96.1 R96.2.1 t_within t_brackets t_partIsDue R96.2.2 t_waiting p1_fault) else ((fX1_last F R96.2.1 t_waitingN t_waiting).bind fun R104 => ((fX1_rankOf F R104).bind fun R107 => (if R107 = (2 : Int32) then ((fX9_wrong F p1_size p1_count p1_here p1_startsN p1_starts (1 : Int32) p1_fault).bind fun R116 => (if R116.1 = 0 ∨ R116.1 = 1 then some (R116.1, R96.1, R96.2.1, t_within, t_brackets, t_partIsDue, R96.2.2, t_waiting, R116.2) else none)) else (bX1_readJoint_L120 F t_codeN t_waitingN p1_size p1_count p1_here p1_tokensN p1_tokens p1_startsN p1_starts R96.1 R96.2.1 t_within t_brackets t_partIsDue R96.2.2 t_waiting p1_fault)))))
theorem vX1_readJoint_L96 {l : Launch} {D : va_G} {cy : Nat → ClassId} {av : List Value} {ws0 : va_W} {Q : Option Value → va_W → Prop} (F : Nat) (tA : Nat) (t_stackV : Value) (t_codeA : Nat) (t_codeN : Nat) (t_waitingA : Nat) (t_waitingN : Nat) (p1A : Nat) (p1_signsV : Value) (p1_size : Int32) (p1_valuesV : Value) (p1_count : Int32) (p1_here : Int32) (p1_tokensA : Nat) (p1_tokensN : Nat) (p1_tokens : Nat → Int32) (p1_startsA : Nat) (p1_startsN : Nat) (p1_starts : Nat → Int32)  (x3 : Int32) (s1 : Int32) (t_size : Int32) (t_waits : Int32) (t_within : Int32) (t_brackets : Int32) (t_partIsDue : Int32) (t_code : Nat → Int32) (t_waiting : Nat → Int32) (p1_fault : Int32) (R : Int32 × (Int32) × (Int32) × (Int32) × (Int32) × (Int32) × (Nat → Int32) × (Nat → Int32) × (Int32)) (h : bX1_readJoint_L96 F t_codeN t_waitingN p1_size p1_count p1_here p1_tokensN p1_tokens p1_startsN p1_starts  x3 s1 t_size t_waits t_within t_brackets t_partIsDue t_code t_waiting p1_fault = some R) (hQ : Q (some (.int R.1)) (wX1_readJoint cy tA R.2.1 R.2.2.1 R.2.2.2.1 R.2.2.2.2.1 R.2.2.2.2.2.1 t_stackV t_codeA t_codeN R.2.2.2.2.2.2.1 t_waitingA t_waitingN R.2.2.2.2.2.2.2.1 p1A p1_signsV p1_size p1_valuesV p1_count p1_here R.2.2.2.2.2.2.2.2 p1_tokensA p1_tokensN p1_tokens p1_startsA p1_startsN p1_starts)) : V l D cy MX1_readJoint 2 0 0 av ws0 Q 96 [(0, .ref tA), (1, .ref p1A), (3, .int x3)] [.int s1, .ref tA] (wX1_readJoint cy tA t_size t_waits t_within t_brackets t_partIsDue t_stackV t_codeA t_codeN t_code t_waitingA t_waitingN t_waiting p1A p1_signsV p1_size p1_valuesV p1_count p1_here p1_fault p1_tokensA p1_tokensN p1_tokens p1_startsA p1_startsN p1_starts) 0 0 := by
  unfold bX1_readJoint_L96 at h
  obtain ⟨R96, hg96, h⟩ := Option.bind_eq_some_iff.mp h
  refine V.callV (As := [.int s1]) (rest := []) (wc := (wX1_release cy tA t_size t_waits t_within t_brackets t_partIsDue t_stackV t_codeA t_codeN t_code t_waitingA t_waitingN t_waiting)) (wr := [(p1A, .inr (9, [p1_signsV, .int p1_size, .ref p1_tokensA, .ref p1_startsA, p1_valuesV, .int p1_count, .int p1_here, .int p1_fault])), (p1_tokensA, .inl (cy 1, p1_tokensN, .inl p1_tokens)), (p1_startsA, .inl (cy 1, p1_startsN, .inl p1_starts))]) (q0 := 0) (CX1_release F tA t_size t_waits t_within t_brackets t_partIsDue t_stackV t_codeA t_codeN t_code t_waitingA t_waitingN t_waiting s1 R96 hg96) kvX1_release klX1_45 [0, 1, 2] [3, 4, 5] rfl rfl (by decide) (by decide) (by decide) rfl rfl rfl rfl dX1_readJoint_96 ⟨by decide, by decide, by decide, by decide⟩ (Nat.le_of_ble_eq_true rfl) (fun r w1 hq => ?_)
  obtain ⟨rfl, rfl⟩ := hq
  refine V.cells (ws' := (wX1_readJoint cy tA R96.1 R96.2.1 t_within t_brackets t_partIsDue t_stackV t_codeA t_codeN R96.2.2 t_waitingA t_waitingN t_waiting p1A p1_signsV p1_size p1_valuesV p1_count p1_here p1_fault p1_tokensA p1_tokensN p1_tokens p1_startsA p1_startsN p1_starts)) [3, 4, 5, 0, 1, 2] (by decide) rfl ?_
  show V l D cy MX1_readJoint 2 0 0 _ _ _ 99 [(0, .ref tA), (1, .ref p1A), (3, .int x3)] [] (wX1_readJoint cy tA R96.1 R96.2.1 t_within t_brackets t_partIsDue t_stackV t_codeA t_codeN R96.2.2 t_waitingA t_waitingN t_waiting p1A p1_signsV p1_size p1_valuesV p1_count p1_here p1_fault p1_tokensA p1_tokensN p1_tokens p1_startsA p1_startsN p1_starts) 0 0
  refine V.iload_n dX1_readJoint_99 rfl 2 rfl ?_
  refine V.if_eq (tgt := 120) dX1_readJoint_100 (by decide) (fun hc100 => ?_) (fun hc100 => ?_)
  · replace h := (if_pos hc100).symm.trans h
    refine V.lvs [0, 1] rfl ?_
    exact vX1_readJoint_L120 _ _ _ _ _ _ _ _ _ _ _ _ _ _ _ _ _ _ _   _ _ _ _ _ _ _ _ R h hQ
  · replace h := (if_neg hc100).symm.trans h
    refine V.aload_n dX1_readJoint_103 rfl 0 rfl ?_
    obtain ⟨R104, hg104, h⟩ := Option.bind_eq_some_iff.mp h
    refine V.callV (As := []) (rest := []) (wc := (wX1_last cy tA (.ref t_codeA) R96.1 R96.2.1 t_within t_brackets t_partIsDue t_stackV t_waitingA t_waitingN t_waiting)) (wr := [(t_codeA, .inl (cy 1, t_codeN, .inl R96.2.2)), (p1A, .inr (9, [p1_signsV, .int p1_size, .ref p1_tokensA, .ref p1_startsA, p1_valuesV, .int p1_count, .int p1_here, .int p1_fault])), (p1_tokensA, .inl (cy 1, p1_tokensN, .inl p1_tokens)), (p1_startsA, .inl (cy 1, p1_startsN, .inl p1_starts))]) (q0 := 0) (CX1_last F tA (.ref t_codeA) R96.1 R96.2.1 t_within t_brackets t_partIsDue t_stackV t_waitingA t_waitingN t_waiting R104 hg104) kvX1_last klX1_83 [0, 2] [1, 3, 4, 5] rfl rfl (by decide) (by decide) (by decide) rfl rfl rfl rfl dX1_readJoint_104 ⟨by decide, by decide, by decide, by decide⟩ (Nat.le_of_ble_eq_true rfl) (fun r w1 hq => ?_)
    obtain ⟨rfl, rfl⟩ := hq
    refine V.cells (ws' := (wX1_readJoint cy tA R96.1 R96.2.1 t_within t_brackets t_partIsDue t_stackV t_codeA t_codeN R96.2.2 t_waitingA t_waitingN t_waiting p1A p1_signsV p1_size p1_valuesV p1_count p1_here p1_fault p1_tokensA p1_tokensN p1_tokens p1_startsA p1_startsN p1_starts)) [4, 0, 5, 1, 2, 3] (by decide) rfl ?_
    show V l D cy MX1_readJoint 2 0 0 _ _ _ 107 [(0, .ref tA), (1, .ref p1A), (3, .int x3)] [.int R104] (wX1_readJoint cy tA R96.1 R96.2.1 t_within t_brackets t_partIsDue t_stackV t_codeA t_codeN R96.2.2 t_waitingA t_waitingN t_waiting p1A p1_signsV p1_size p1_valuesV p1_count p1_here p1_fault p1_tokensA p1_tokensN p1_tokens p1_startsA p1_startsN p1_starts) 0 0
    obtain ⟨R107, hg107, h⟩ := Option.bind_eq_some_iff.mp h
    refine V.callS (As := [.int R104]) (rest := []) (wc := (wX1_rankOf cy )) (wr := [(tA, .inr (1, [.ref t_codeA, .int R96.1, .ref t_waitingA, .int R96.2.1, .int t_within, .int t_brackets, .int t_partIsDue, t_stackV])), (t_codeA, .inl (cy 1, t_codeN, .inl R96.2.2)), (t_waitingA, .inl (cy 1, t_waitingN, .inl t_waiting)), (p1A, .inr (9, [p1_signsV, .int p1_size, .ref p1_tokensA, .ref p1_startsA, p1_valuesV, .int p1_count, .int p1_here, .int p1_fault])), (p1_tokensA, .inl (cy 1, p1_tokensN, .inl p1_tokens)), (p1_startsA, .inl (cy 1, p1_startsN, .inl p1_starts))]) (CX1_rankOf F R104 R107 hg107) kvX1_rankOf klX1_79 [] [0, 1, 2, 3, 4, 5] rfl rfl (by decide) (by decide) (by decide) rfl dX1_readJoint_107 ⟨by decide, by decide, by decide, by decide⟩ (Nat.le_of_ble_eq_true rfl) (fun r w1 hq => ?_)
    obtain ⟨rfl, rfl⟩ := hq
    refine V.cells (ws' := (wX1_readJoint cy tA R96.1 R96.2.1 t_within t_brackets t_partIsDue t_stackV t_codeA t_codeN R96.2.2 t_waitingA t_waitingN t_waiting p1A p1_signsV p1_size p1_valuesV p1_count p1_here p1_fault p1_tokensA p1_tokensN p1_tokens p1_startsA p1_startsN p1_starts)) [0, 1, 2, 3, 4, 5] (by decide) rfl ?_
    show V l D cy MX1_readJoint 2 0 0 _ _ _ 110 [(0, .ref tA), (1, .ref p1A), (3, .int x3)] [.int R107] (wX1_readJoint cy tA R96.1 R96.2.1 t_within t_brackets t_partIsDue t_stackV t_codeA t_codeN R96.2.2 t_waitingA t_waitingN t_waiting p1A p1_signsV p1_size p1_valuesV p1_count p1_here p1_fault p1_tokensA p1_tokensN p1_tokens p1_startsA p1_startsN p1_starts) 0 0
    refine V.iconst (v := (2 : Int32)) dX1_readJoint_110 (by decide) ?_
    refine V.icmp_ne (tgt := 120) dX1_readJoint_111 (by decide) (fun hc111 => ?_) (fun hc111 => ?_)
    · replace h := (if_neg hc111).symm.trans h
      refine V.lvs [0, 1] rfl ?_
      exact vX1_readJoint_L120 _ _ _ _ _ _ _ _ _ _ _ _ _ _ _ _ _ _ _   _ _ _ _ _ _ _ _ R h hQ
    · replace h := (if_pos hc111).symm.trans h
      refine V.aload_n dX1_readJoint_114 rfl 1 rfl ?_
      refine V.iconst (v := (1 : Int32)) dX1_readJoint_115 (by decide) ?_
      obtain ⟨R116, hg116, h⟩ := Option.bind_eq_some_iff.mp h
      refine V.callV (As := [.int (1 : Int32)]) (rest := []) (wc := (wX9_wrong cy p1A p1_signsV p1_size (.ref p1_tokensA) p1_valuesV p1_count p1_here p1_fault p1_startsA p1_startsN p1_starts)) (wr := [(tA, .inr (1, [.ref t_codeA, .int R96.1, .ref t_waitingA, .int R96.2.1, .int t_within, .int t_brackets, .int t_partIsDue, t_stackV])), (t_codeA, .inl (cy 1, t_codeN, .inl R96.2.2)), (t_waitingA, .inl (cy 1, t_waitingN, .inl t_waiting)), (p1_tokensA, .inl (cy 1, p1_tokensN, .inl p1_tokens))]) (q0 := 3) (CX9_wrong F p1A p1_signsV p1_size (.ref p1_tokensA) p1_valuesV p1_count p1_here p1_fault p1_startsA p1_startsN p1_starts (1 : Int32) R116 hg116) kvX9_wrong klX1_59 [3, 5] [0, 1, 2, 4] rfl rfl (by decide) (by decide) (by decide) rfl rfl rfl rfl dX1_readJoint_116 ⟨by decide, by decide, by decide, by decide⟩ (Nat.le_of_ble_eq_true rfl) (fun r w1 hq => ?_)
      obtain ⟨rfl, rfl⟩ := hq
      refine V.cells (ws' := (wX1_readJoint cy tA R96.1 R96.2.1 t_within t_brackets t_partIsDue t_stackV t_codeA t_codeN R96.2.2 t_waitingA t_waitingN t_waiting p1A p1_signsV p1_size p1_valuesV p1_count p1_here R116.2 p1_tokensA p1_tokensN p1_tokens p1_startsA p1_startsN p1_starts)) [0, 1, 2, 4, 3, 5] (by decide) rfl ?_
      show V l D cy MX1_readJoint 2 0 0 _ _ _ 119 [(0, .ref tA), (1, .ref p1A), (3, .int x3)] [.int R116.1] (wX1_readJoint cy tA R96.1 R96.2.1 t_within t_brackets t_partIsDue t_stackV t_codeA t_codeN R96.2.2 t_waitingA t_waitingN t_waiting p1A p1_signsV p1_size p1_valuesV p1_count p1_here R116.2 p1_tokensA p1_tokensN p1_tokens p1_startsA p1_startsN p1_starts) 0 0
      by_cases hz119 : R116.1 = 0 ∨ R116.1 = 1
      case neg => exact vNone ((if_neg hz119).symm.trans h)
      replace h := (if_pos hz119).symm.trans h
      have e9 := Option.some.inj h; subst e9
      exact V.iret (ty := .boolean) rfl (vBool hz119).1 dX1_readJoint_119 (Nat.le_refl _) (Nat.le_refl _) hQ
noncomputable def bX1_readJoint_L85 (F : Nat) (t_codeN : Nat) (t_waitingN : Nat) (p1_size : Int32) (p1_count : Int32) (p1_here : Int32) (p1_tokensN : Nat) (p1_tokens : Nat → Int32) (p1_startsN : Nat) (p1_starts : Nat → Int32)  (x2 : Int32) (s0 : Int32) (t_size : Int32) (t_waits : Int32) (t_within : Int32) (t_brackets : Int32) (t_partIsDue : Int32) (t_code : Nat → Int32) (t_waiting : Nat → Int32) (p1_fault : Int32) : Option (Int32 × (Int32) × (Int32) × (Int32) × (Int32) × (Int32) × (Nat → Int32) × (Nat → Int32) × (Int32)) :=
  if s0 = 0 then (bX1_readJoint_L96 F t_codeN t_waitingN p1_size p1_count p1_here p1_tokensN p1_tokens p1_startsN p1_starts s0 x2 t_size t_waits t_within t_brackets t_partIsDue t_code t_waiting p1_fault) else (bX1_readJoint_L96 F t_codeN t_waitingN p1_size p1_count p1_here p1_tokensN p1_tokens p1_startsN p1_starts s0 (3 : Int32) t_size t_waits t_within t_brackets t_partIsDue t_code t_waiting p1_fault)
theorem vX1_readJoint_L85 {l : Launch} {D : va_G} {cy : Nat → ClassId} {av : List Value} {ws0 : va_W} {Q : Option Value → va_W → Prop} (F : Nat) (tA : Nat) (t_stackV : Value) (t_codeA : Nat) (t_codeN : Nat) (t_waitingA : Nat) (t_waitingN : Nat) (p1A : Nat) (p1_signsV : Value) (p1_size : Int32) (p1_valuesV : Value) (p1_count : Int32) (p1_here : Int32) (p1_tokensA : Nat) (p1_tokensN : Nat) (p1_tokens : Nat → Int32) (p1_startsA : Nat) (p1_startsN : Nat) (p1_starts : Nat → Int32)  (x2 : Int32) (s0 : Int32) (t_size : Int32) (t_waits : Int32) (t_within : Int32) (t_brackets : Int32) (t_partIsDue : Int32) (t_code : Nat → Int32) (t_waiting : Nat → Int32) (p1_fault : Int32) (R : Int32 × (Int32) × (Int32) × (Int32) × (Int32) × (Int32) × (Nat → Int32) × (Nat → Int32) × (Int32)) (h : bX1_readJoint_L85 F t_codeN t_waitingN p1_size p1_count p1_here p1_tokensN p1_tokens p1_startsN p1_starts  x2 s0 t_size t_waits t_within t_brackets t_partIsDue t_code t_waiting p1_fault = some R) (hQ : Q (some (.int R.1)) (wX1_readJoint cy tA R.2.1 R.2.2.1 R.2.2.2.1 R.2.2.2.2.1 R.2.2.2.2.2.1 t_stackV t_codeA t_codeN R.2.2.2.2.2.2.1 t_waitingA t_waitingN R.2.2.2.2.2.2.2.1 p1A p1_signsV p1_size p1_valuesV p1_count p1_here R.2.2.2.2.2.2.2.2 p1_tokensA p1_tokensN p1_tokens p1_startsA p1_startsN p1_starts)) : V l D cy MX1_readJoint 2 0 0 av ws0 Q 85 [(0, .ref tA), (1, .ref p1A), (2, .int x2)] [.int s0] (wX1_readJoint cy tA t_size t_waits t_within t_brackets t_partIsDue t_stackV t_codeA t_codeN t_code t_waitingA t_waitingN t_waiting p1A p1_signsV p1_size p1_valuesV p1_count p1_here p1_fault p1_tokensA p1_tokensN p1_tokens p1_startsA p1_startsN p1_starts) 0 0 := by
  unfold bX1_readJoint_L85 at h
  refine V.istore_n (lv' := [(3, .int s0), (0, .ref tA), (1, .ref p1A), (2, .int x2)]) dX1_readJoint_85 rfl (by decide) rfl ?_
  refine V.aload_n dX1_readJoint_86 rfl 1 rfl ?_
  refine V.iload_n dX1_readJoint_87 rfl 0 rfl ?_
  refine V.if_eq (tgt := 95) dX1_readJoint_88 (by decide) (fun hc88 => ?_) (fun hc88 => ?_)
  · replace h := (if_pos hc88).symm.trans h
    refine V.iload_n dX1_readJoint_95 rfl 3 rfl ?_
    refine V.lvs [1, 2, 0] rfl ?_
    exact vX1_readJoint_L96 _ _ _ _ _ _ _ _ _ _ _ _ _ _ _ _ _ _ _   _ _ _ _ _ _ _ _ _ _ R h hQ
  · replace h := (if_neg hc88).symm.trans h
    refine V.iconst (v := (3 : Int32)) dX1_readJoint_91 (by decide) ?_
    refine V.goto (tgt := 96) dX1_readJoint_92 (by decide) ?_
    refine V.lvs [1, 2, 0] rfl ?_
    exact vX1_readJoint_L96 _ _ _ _ _ _ _ _ _ _ _ _ _ _ _ _ _ _ _   _ _ _ _ _ _ _ _ _ _ R h hQ
noncomputable def bX1_readJoint_L57 (F : Nat) (t_codeN : Nat) (t_waitingN : Nat) (p1_size : Int32) (p1_count : Int32) (p1_here : Int32) (p1_tokensN : Nat) (p1_tokens : Nat → Int32) (p1_startsN : Nat) (p1_starts : Nat → Int32)  (t_size : Int32) (t_waits : Int32) (t_within : Int32) (t_brackets : Int32) (t_partIsDue : Int32) (t_code : Nat → Int32) (t_waiting : Nat → Int32) (p1_fault : Int32) : Option (Int32 × (Int32) × (Int32) × (Int32) × (Int32) × (Int32) × (Nat → Int32) × (Nat → Int32) × (Int32)) :=
  (fX9_token F p1_count p1_here p1_tokensN p1_tokens).bind fun R58 => ((fX1_rankOf F R58).bind fun R61 => (if R61 = 0 then ((fX9_wrong F p1_size p1_count p1_here p1_startsN p1_starts (1 : Int32) p1_fault).bind fun R71 => (if R71.1 = 0 ∨ R71.1 = 1 then some (R71.1, t_size, t_waits, t_within, t_brackets, t_partIsDue, t_code, t_waiting, R71.2) else none)) else (if R61 = (2 : Int32) then (bX1_readJoint_L85 F t_codeN t_waitingN p1_size p1_count p1_here p1_tokensN p1_tokens p1_startsN p1_starts R61 (1 : Int32) t_size t_waits t_within t_brackets t_partIsDue t_code t_waiting p1_fault) else (bX1_readJoint_L85 F t_codeN t_waitingN p1_size p1_count p1_here p1_tokensN p1_tokens p1_startsN p1_starts R61 (0 : Int32) t_size t_waits t_within t_brackets t_partIsDue t_code t_waiting p1_fault))))
theorem vX1_readJoint_L57 {l : Launch} {D : va_G} {cy : Nat → ClassId} {av : List Value} {ws0 : va_W} {Q : Option Value → va_W → Prop} (F : Nat) (tA : Nat) (t_stackV : Value) (t_codeA : Nat) (t_codeN : Nat) (t_waitingA : Nat) (t_waitingN : Nat) (p1A : Nat) (p1_signsV : Value) (p1_size : Int32) (p1_valuesV : Value) (p1_count : Int32) (p1_here : Int32) (p1_tokensA : Nat) (p1_tokensN : Nat) (p1_tokens : Nat → Int32) (p1_startsA : Nat) (p1_startsN : Nat) (p1_starts : Nat → Int32)  (t_size : Int32) (t_waits : Int32) (t_within : Int32) (t_brackets : Int32) (t_partIsDue : Int32) (t_code : Nat → Int32) (t_waiting : Nat → Int32) (p1_fault : Int32) (R : Int32 × (Int32) × (Int32) × (Int32) × (Int32) × (Int32) × (Nat → Int32) × (Nat → Int32) × (Int32)) (h : bX1_readJoint_L57 F t_codeN t_waitingN p1_size p1_count p1_here p1_tokensN p1_tokens p1_startsN p1_starts  t_size t_waits t_within t_brackets t_partIsDue t_code t_waiting p1_fault = some R) (hQ : Q (some (.int R.1)) (wX1_readJoint cy tA R.2.1 R.2.2.1 R.2.2.2.1 R.2.2.2.2.1 R.2.2.2.2.2.1 t_stackV t_codeA t_codeN R.2.2.2.2.2.2.1 t_waitingA t_waitingN R.2.2.2.2.2.2.2.1 p1A p1_signsV p1_size p1_valuesV p1_count p1_here R.2.2.2.2.2.2.2.2 p1_tokensA p1_tokensN p1_tokens p1_startsA p1_startsN p1_starts)) : V l D cy MX1_readJoint 2 0 0 av ws0 Q 57 [(0, .ref tA), (1, .ref p1A)] [] (wX1_readJoint cy tA t_size t_waits t_within t_brackets t_partIsDue t_stackV t_codeA t_codeN t_code t_waitingA t_waitingN t_waiting p1A p1_signsV p1_size p1_valuesV p1_count p1_here p1_fault p1_tokensA p1_tokensN p1_tokens p1_startsA p1_startsN p1_starts) 0 0 := by
  unfold bX1_readJoint_L57 at h
  refine V.aload_n dX1_readJoint_57 rfl 1 rfl ?_
  obtain ⟨R58, hg58, h⟩ := Option.bind_eq_some_iff.mp h
  refine V.callV (As := []) (rest := []) (wc := (wX9_token cy p1A p1_signsV p1_size (.ref p1_startsA) p1_valuesV p1_count p1_here p1_fault p1_tokensA p1_tokensN p1_tokens)) (wr := [(tA, .inr (1, [.ref t_codeA, .int t_size, .ref t_waitingA, .int t_waits, .int t_within, .int t_brackets, .int t_partIsDue, t_stackV])), (t_codeA, .inl (cy 1, t_codeN, .inl t_code)), (t_waitingA, .inl (cy 1, t_waitingN, .inl t_waiting)), (p1_startsA, .inl (cy 1, p1_startsN, .inl p1_starts))]) (q0 := 3) (CX9_token F p1A p1_signsV p1_size (.ref p1_startsA) p1_valuesV p1_count p1_here p1_fault p1_tokensA p1_tokensN p1_tokens R58 hg58) kvX9_token klX1_41 [3, 4] [0, 1, 2, 5] rfl rfl (by decide) (by decide) (by decide) rfl rfl rfl rfl dX1_readJoint_58 ⟨by decide, by decide, by decide, by decide⟩ (Nat.le_of_ble_eq_true rfl) (fun r w1 hq => ?_)
  obtain ⟨rfl, rfl⟩ := hq
  refine V.cells (ws' := (wX1_readJoint cy tA t_size t_waits t_within t_brackets t_partIsDue t_stackV t_codeA t_codeN t_code t_waitingA t_waitingN t_waiting p1A p1_signsV p1_size p1_valuesV p1_count p1_here p1_fault p1_tokensA p1_tokensN p1_tokens p1_startsA p1_startsN p1_starts)) [0, 1, 2, 4, 5, 3] (by decide) rfl ?_
  show V l D cy MX1_readJoint 2 0 0 _ _ _ 61 [(0, .ref tA), (1, .ref p1A)] [.int R58] (wX1_readJoint cy tA t_size t_waits t_within t_brackets t_partIsDue t_stackV t_codeA t_codeN t_code t_waitingA t_waitingN t_waiting p1A p1_signsV p1_size p1_valuesV p1_count p1_here p1_fault p1_tokensA p1_tokensN p1_tokens p1_startsA p1_startsN p1_starts) 0 0
  obtain ⟨R61, hg61, h⟩ := Option.bind_eq_some_iff.mp h
  refine V.callS (As := [.int R58]) (rest := []) (wc := (wX1_rankOf cy )) (wr := [(tA, .inr (1, [.ref t_codeA, .int t_size, .ref t_waitingA, .int t_waits, .int t_within, .int t_brackets, .int t_partIsDue, t_stackV])), (t_codeA, .inl (cy 1, t_codeN, .inl t_code)), (t_waitingA, .inl (cy 1, t_waitingN, .inl t_waiting)), (p1A, .inr (9, [p1_signsV, .int p1_size, .ref p1_tokensA, .ref p1_startsA, p1_valuesV, .int p1_count, .int p1_here, .int p1_fault])), (p1_tokensA, .inl (cy 1, p1_tokensN, .inl p1_tokens)), (p1_startsA, .inl (cy 1, p1_startsN, .inl p1_starts))]) (CX1_rankOf F R58 R61 hg61) kvX1_rankOf klX1_79 [] [0, 1, 2, 3, 4, 5] rfl rfl (by decide) (by decide) (by decide) rfl dX1_readJoint_61 ⟨by decide, by decide, by decide, by decide⟩ (Nat.le_of_ble_eq_true rfl) (fun r w1 hq => ?_)
  obtain ⟨rfl, rfl⟩ := hq
  refine V.cells (ws' := (wX1_readJoint cy tA t_size t_waits t_within t_brackets t_partIsDue t_stackV t_codeA t_codeN t_code t_waitingA t_waitingN t_waiting p1A p1_signsV p1_size p1_valuesV p1_count p1_here p1_fault p1_tokensA p1_tokensN p1_tokens p1_startsA p1_startsN p1_starts)) [0, 1, 2, 3, 4, 5] (by decide) rfl ?_
  show V l D cy MX1_readJoint 2 0 0 _ _ _ 64 [(0, .ref tA), (1, .ref p1A)] [.int R61] (wX1_readJoint cy tA t_size t_waits t_within t_brackets t_partIsDue t_stackV t_codeA t_codeN t_code t_waitingA t_waitingN t_waiting p1A p1_signsV p1_size p1_valuesV p1_count p1_here p1_fault p1_tokensA p1_tokensN p1_tokens p1_startsA p1_startsN p1_starts) 0 0
  refine V.istore_n (lv' := [(2, .int R61), (0, .ref tA), (1, .ref p1A)]) dX1_readJoint_64 rfl (by decide) rfl ?_
  refine V.iload_n dX1_readJoint_65 rfl 0 rfl ?_
  refine V.if_ne (tgt := 75) dX1_readJoint_66 (by decide) (fun hc66 => ?_) (fun hc66 => ?_)
  · replace h := (if_neg hc66).symm.trans h
    refine V.iload_n dX1_readJoint_75 rfl 0 rfl ?_
    refine V.iconst (v := (2 : Int32)) dX1_readJoint_76 (by decide) ?_
    refine V.icmp_ne (tgt := 84) dX1_readJoint_77 (by decide) (fun hc77 => ?_) (fun hc77 => ?_)
    · replace h := (if_neg hc77).symm.trans h
      refine V.iconst (v := (0 : Int32)) dX1_readJoint_84 (by decide) ?_
      refine V.lvs [1, 2, 0] rfl ?_
      exact vX1_readJoint_L85 _ _ _ _ _ _ _ _ _ _ _ _ _ _ _ _ _ _ _   _ _ _ _ _ _ _ _ _ _ R h hQ
    · replace h := (if_pos hc77).symm.trans h
      refine V.iconst (v := (1 : Int32)) dX1_readJoint_80 (by decide) ?_
      refine V.goto (tgt := 85) dX1_readJoint_81 (by decide) ?_
      refine V.lvs [1, 2, 0] rfl ?_
      exact vX1_readJoint_L85 _ _ _ _ _ _ _ _ _ _ _ _ _ _ _ _ _ _ _   _ _ _ _ _ _ _ _ _ _ R h hQ
  · replace h := (if_pos hc66).symm.trans h
    refine V.aload_n dX1_readJoint_69 rfl 2 rfl ?_
    refine V.iconst (v := (1 : Int32)) dX1_readJoint_70 (by decide) ?_
    obtain ⟨R71, hg71, h⟩ := Option.bind_eq_some_iff.mp h
    refine V.callV (As := [.int (1 : Int32)]) (rest := []) (wc := (wX9_wrong cy p1A p1_signsV p1_size (.ref p1_tokensA) p1_valuesV p1_count p1_here p1_fault p1_startsA p1_startsN p1_starts)) (wr := [(tA, .inr (1, [.ref t_codeA, .int t_size, .ref t_waitingA, .int t_waits, .int t_within, .int t_brackets, .int t_partIsDue, t_stackV])), (t_codeA, .inl (cy 1, t_codeN, .inl t_code)), (t_waitingA, .inl (cy 1, t_waitingN, .inl t_waiting)), (p1_tokensA, .inl (cy 1, p1_tokensN, .inl p1_tokens))]) (q0 := 3) (CX9_wrong F p1A p1_signsV p1_size (.ref p1_tokensA) p1_valuesV p1_count p1_here p1_fault p1_startsA p1_startsN p1_starts (1 : Int32) R71 hg71) kvX9_wrong klX1_59 [3, 5] [0, 1, 2, 4] rfl rfl (by decide) (by decide) (by decide) rfl rfl rfl rfl dX1_readJoint_71 ⟨by decide, by decide, by decide, by decide⟩ (Nat.le_of_ble_eq_true rfl) (fun r w1 hq => ?_)
    obtain ⟨rfl, rfl⟩ := hq
    refine V.cells (ws' := (wX1_readJoint cy tA t_size t_waits t_within t_brackets t_partIsDue t_stackV t_codeA t_codeN t_code t_waitingA t_waitingN t_waiting p1A p1_signsV p1_size p1_valuesV p1_count p1_here R71.2 p1_tokensA p1_tokensN p1_tokens p1_startsA p1_startsN p1_starts)) [0, 1, 2, 4, 3, 5] (by decide) rfl ?_
    show V l D cy MX1_readJoint 2 0 0 _ _ _ 74 [(2, .int R61), (0, .ref tA), (1, .ref p1A)] [.int R71.1] (wX1_readJoint cy tA t_size t_waits t_within t_brackets t_partIsDue t_stackV t_codeA t_codeN t_code t_waitingA t_waitingN t_waiting p1A p1_signsV p1_size p1_valuesV p1_count p1_here R71.2 p1_tokensA p1_tokensN p1_tokens p1_startsA p1_startsN p1_starts) 0 0
    by_cases hz74 : R71.1 = 0 ∨ R71.1 = 1
    case neg => exact vNone ((if_neg hz74).symm.trans h)
    replace h := (if_pos hz74).symm.trans h
    have e9 := Option.some.inj h; subst e9
    exact V.iret (ty := .boolean) rfl (vBool hz74).1 dX1_readJoint_74 (Nat.le_refl _) (Nat.le_refl _) hQ
noncomputable def fX1_readJoint (F : Nat) (t_codeN : Nat) (t_waitingN : Nat) (p1_size : Int32) (p1_count : Int32) (p1_here : Int32) (p1_tokensN : Nat) (p1_tokens : Nat → Int32) (p1_startsN : Nat) (p1_starts : Nat → Int32) (t_size : Int32) (t_waits : Int32) (t_within : Int32) (t_brackets : Int32) (t_partIsDue : Int32) (t_code : Nat → Int32) (t_waiting : Nat → Int32) (p1_fault : Int32) : Option (Int32 × (Int32) × (Int32) × (Int32) × (Int32) × (Int32) × (Nat → Int32) × (Nat → Int32) × (Int32)) :=
  (fX9_token F p1_count p1_here p1_tokensN p1_tokens).bind fun R1 => (if R1 = (41 : Int32) then (if t_brackets ≤ 0 then (bX1_readJoint_L57 F t_codeN t_waitingN p1_size p1_count p1_here p1_tokensN p1_tokens p1_startsN p1_starts t_size t_waits t_within t_brackets t_partIsDue t_code t_waiting p1_fault) else ((fX1_release F t_codeN t_waitingN t_waiting (1 : Int32) t_size t_waits t_code).bind fun R18 => ((fX1_endPart F t_codeN t_waitingN t_waiting R18.1 (R18.2.1 - (1 : Int32)) (t_within - (1 : Int32)) t_partIsDue R18.2.2).bind fun R52 => (some ((1 : Int32), R52.1, R52.2.1, R52.2.2.1, t_brackets - (1 : Int32), R52.2.2.2.1, R52.2.2.2.2, t_waiting, p1_fault))))) else (bX1_readJoint_L57 F t_codeN t_waitingN p1_size p1_count p1_here p1_tokensN p1_tokens p1_startsN p1_starts t_size t_waits t_within t_brackets t_partIsDue t_code t_waiting p1_fault))
theorem CX1_readJoint {l : Launch} {D : va_G} {cy : Nat → ClassId} (F : Nat) (tA : Nat) (t_size : Int32) (t_waits : Int32) (t_within : Int32) (t_brackets : Int32) (t_partIsDue : Int32) (t_stackV : Value) (t_codeA : Nat) (t_codeN : Nat) (t_code : Nat → Int32) (t_waitingA : Nat) (t_waitingN : Nat) (t_waiting : Nat → Int32) (p1A : Nat) (p1_signsV : Value) (p1_size : Int32) (p1_valuesV : Value) (p1_count : Int32) (p1_here : Int32) (p1_fault : Int32) (p1_tokensA : Nat) (p1_tokensN : Nat) (p1_tokens : Nat → Int32) (p1_startsA : Nat) (p1_startsN : Nat) (p1_starts : Nat → Int32) (R : Int32 × (Int32) × (Int32) × (Int32) × (Int32) × (Int32) × (Nat → Int32) × (Nat → Int32) × (Int32)) (h : fX1_readJoint F t_codeN t_waitingN p1_size p1_count p1_here p1_tokensN p1_tokens p1_startsN p1_starts t_size t_waits t_within t_brackets t_partIsDue t_code t_waiting p1_fault = some R) : vMet l D cy MX1_readJoint 2 0 0 [.ref tA, .ref p1A] (wX1_readJoint cy tA t_size t_waits t_within t_brackets t_partIsDue t_stackV t_codeA t_codeN t_code t_waitingA t_waitingN t_waiting p1A p1_signsV p1_size p1_valuesV p1_count p1_here p1_fault p1_tokensA p1_tokensN p1_tokens p1_startsA p1_startsN p1_starts) (fun (r : Option Value) (w : va_W) => r = (some (.int R.1)) ∧ w = (wX1_readJoint cy tA R.2.1 R.2.2.1 R.2.2.2.1 R.2.2.2.2.1 R.2.2.2.2.2.1 t_stackV t_codeA t_codeN R.2.2.2.2.2.2.1 t_waitingA t_waitingN R.2.2.2.2.2.2.2.1 p1A p1_signsV p1_size p1_valuesV p1_count p1_here R.2.2.2.2.2.2.2.2 p1_tokensA p1_tokensN p1_tokens p1_startsA p1_startsN p1_starts)) := by
  refine vMet.start (by decide +kernel) (Nat.le_of_ble_eq_true rfl) ?_
  generalize hQe : (fun (r : Option Value) (w : va_W) => r = (some (.int R.1)) ∧ w = (wX1_readJoint cy tA R.2.1 R.2.2.1 R.2.2.2.1 R.2.2.2.2.1 R.2.2.2.2.2.1 t_stackV t_codeA t_codeN R.2.2.2.2.2.2.1 t_waitingA t_waitingN R.2.2.2.2.2.2.2.1 p1A p1_signsV p1_size p1_valuesV p1_count p1_here R.2.2.2.2.2.2.2.2 p1_tokensA p1_tokensN p1_tokens p1_startsA p1_startsN p1_starts)) = Q
  have hQ : Q (some (.int R.1)) (wX1_readJoint cy tA R.2.1 R.2.2.1 R.2.2.2.1 R.2.2.2.2.1 R.2.2.2.2.2.1 t_stackV t_codeA t_codeN R.2.2.2.2.2.2.1 t_waitingA t_waitingN R.2.2.2.2.2.2.2.1 p1A p1_signsV p1_size p1_valuesV p1_count p1_here R.2.2.2.2.2.2.2.2 p1_tokensA p1_tokensN p1_tokens p1_startsA p1_startsN p1_starts) := by rw [← hQe]; exact ⟨rfl, rfl⟩
  show V l D cy MX1_readJoint 2 0 0 _ _ Q 0 [(0, .ref tA), (1, .ref p1A)] [] _ 0 0
  show V l D cy MX1_readJoint 2 0 0 [.ref tA, .ref p1A] _ Q 0 [(0, .ref tA), (1, .ref p1A)] [] (wX1_readJoint cy tA t_size t_waits t_within t_brackets t_partIsDue t_stackV t_codeA t_codeN t_code t_waitingA t_waitingN t_waiting p1A p1_signsV p1_size p1_valuesV p1_count p1_here p1_fault p1_tokensA p1_tokensN p1_tokens p1_startsA p1_startsN p1_starts) 0 0
  unfold fX1_readJoint at h
  refine V.aload_n dX1_readJoint_0 rfl 1 rfl ?_
  obtain ⟨R1, hg1, h⟩ := Option.bind_eq_some_iff.mp h
  refine V.callV (As := []) (rest := []) (wc := (wX9_token cy p1A p1_signsV p1_size (.ref p1_startsA) p1_valuesV p1_count p1_here p1_fault p1_tokensA p1_tokensN p1_tokens)) (wr := [(tA, .inr (1, [.ref t_codeA, .int t_size, .ref t_waitingA, .int t_waits, .int t_within, .int t_brackets, .int t_partIsDue, t_stackV])), (t_codeA, .inl (cy 1, t_codeN, .inl t_code)), (t_waitingA, .inl (cy 1, t_waitingN, .inl t_waiting)), (p1_startsA, .inl (cy 1, p1_startsN, .inl p1_starts))]) (q0 := 3) (CX9_token F p1A p1_signsV p1_size (.ref p1_startsA) p1_valuesV p1_count p1_here p1_fault p1_tokensA p1_tokensN p1_tokens R1 hg1) kvX9_token klX1_41 [3, 4] [0, 1, 2, 5] rfl rfl (by decide) (by decide) (by decide) rfl rfl rfl rfl dX1_readJoint_1 ⟨by decide, by decide, by decide, by decide⟩ (Nat.le_of_ble_eq_true rfl) (fun r w1 hq => ?_)
  obtain ⟨rfl, rfl⟩ := hq
  refine V.cells (ws' := (wX1_readJoint cy tA t_size t_waits t_within t_brackets t_partIsDue t_stackV t_codeA t_codeN t_code t_waitingA t_waitingN t_waiting p1A p1_signsV p1_size p1_valuesV p1_count p1_here p1_fault p1_tokensA p1_tokensN p1_tokens p1_startsA p1_startsN p1_starts)) [0, 1, 2, 4, 5, 3] (by decide) rfl ?_
  show V l D cy MX1_readJoint 2 0 0 _ _ _ 4 [(0, .ref tA), (1, .ref p1A)] [.int R1] (wX1_readJoint cy tA t_size t_waits t_within t_brackets t_partIsDue t_stackV t_codeA t_codeN t_code t_waitingA t_waitingN t_waiting p1A p1_signsV p1_size p1_valuesV p1_count p1_here p1_fault p1_tokensA p1_tokensN p1_tokens p1_startsA p1_startsN p1_starts) 0 0
  refine V.bipush (v := (41 : Int32)) dX1_readJoint_4 (by decide) ?_
  refine V.icmp_ne (tgt := 57) dX1_readJoint_6 (by decide) (fun hc6 => ?_) (fun hc6 => ?_)
  · replace h := (if_neg hc6).symm.trans h
    exact vX1_readJoint_L57 _ _ _ _ _ _ _ _ _ _ _ _ _ _ _ _ _ _ _   _ _ _ _ _ _ _ _ R h hQ
  · replace h := (if_pos hc6).symm.trans h
    refine V.aload_n dX1_readJoint_9 rfl 0 rfl ?_
    refine V.get kfX1 0 rfl rfl 5 (by decide) klX1_31 rfl dX1_readJoint_10 ?_
    refine V.if_le (tgt := 57) dX1_readJoint_13 (by decide) (fun hc13 => ?_) (fun hc13 => ?_)
    · replace h := (if_pos hc13).symm.trans h
      exact vX1_readJoint_L57 _ _ _ _ _ _ _ _ _ _ _ _ _ _ _ _ _ _ _   _ _ _ _ _ _ _ _ R h hQ
    · replace h := (if_neg hc13).symm.trans h
      refine V.aload_n dX1_readJoint_16 rfl 0 rfl ?_
      refine V.iconst (v := (1 : Int32)) dX1_readJoint_17 (by decide) ?_
      obtain ⟨R18, hg18, h⟩ := Option.bind_eq_some_iff.mp h
      refine V.callV (As := [.int (1 : Int32)]) (rest := []) (wc := (wX1_release cy tA t_size t_waits t_within t_brackets t_partIsDue t_stackV t_codeA t_codeN t_code t_waitingA t_waitingN t_waiting)) (wr := [(p1A, .inr (9, [p1_signsV, .int p1_size, .ref p1_tokensA, .ref p1_startsA, p1_valuesV, .int p1_count, .int p1_here, .int p1_fault])), (p1_tokensA, .inl (cy 1, p1_tokensN, .inl p1_tokens)), (p1_startsA, .inl (cy 1, p1_startsN, .inl p1_starts))]) (q0 := 0) (CX1_release F tA t_size t_waits t_within t_brackets t_partIsDue t_stackV t_codeA t_codeN t_code t_waitingA t_waitingN t_waiting (1 : Int32) R18 hg18) kvX1_release klX1_45 [0, 1, 2] [3, 4, 5] rfl rfl (by decide) (by decide) (by decide) rfl rfl rfl rfl dX1_readJoint_18 ⟨by decide, by decide, by decide, by decide⟩ (Nat.le_of_ble_eq_true rfl) (fun r w1 hq => ?_)
      obtain ⟨rfl, rfl⟩ := hq
      refine V.cells (ws' := (wX1_readJoint cy tA R18.1 R18.2.1 t_within t_brackets t_partIsDue t_stackV t_codeA t_codeN R18.2.2 t_waitingA t_waitingN t_waiting p1A p1_signsV p1_size p1_valuesV p1_count p1_here p1_fault p1_tokensA p1_tokensN p1_tokens p1_startsA p1_startsN p1_starts)) [3, 4, 5, 0, 1, 2] (by decide) rfl ?_
      show V l D cy MX1_readJoint 2 0 0 _ _ _ 21 [(0, .ref tA), (1, .ref p1A)] [] (wX1_readJoint cy tA R18.1 R18.2.1 t_within t_brackets t_partIsDue t_stackV t_codeA t_codeN R18.2.2 t_waitingA t_waitingN t_waiting p1A p1_signsV p1_size p1_valuesV p1_count p1_here p1_fault p1_tokensA p1_tokensN p1_tokens p1_startsA p1_startsN p1_starts) 0 0
      refine V.aload_n dX1_readJoint_21 rfl 0 rfl ?_
      refine V.dup dX1_readJoint_22 rfl ?_
      refine V.get kfX1 0 rfl rfl 3 (by decide) klX1_25 rfl dX1_readJoint_23 ?_
      refine V.iconst (v := (1 : Int32)) dX1_readJoint_26 (by decide) ?_
      refine V.isub dX1_readJoint_27 ?_
      refine V.put (ws' := (wX1_readJoint cy tA R18.1 (R18.2.1 - (1 : Int32)) t_within t_brackets t_partIsDue t_stackV t_codeA t_codeN R18.2.2 t_waitingA t_waitingN t_waiting p1A p1_signsV p1_size p1_valuesV p1_count p1_here p1_fault p1_tokensA p1_tokensN p1_tokens p1_startsA p1_startsN p1_starts)) kfX1 tyX1 tyX1_ok nmX1 0 rfl rfl 3 (by decide) klX1_25 rfl (tyX1_ok 3 (by decide)) rfl rfl (Nat.le_of_ble_eq_true rfl) dX1_readJoint_28 rfl ?_
      refine V.aload_n dX1_readJoint_31 rfl 0 rfl ?_
      refine V.dup dX1_readJoint_32 rfl ?_
      refine V.get kfX1 0 rfl rfl 4 (by decide) klX1_28 rfl dX1_readJoint_33 ?_
      refine V.iconst (v := (1 : Int32)) dX1_readJoint_36 (by decide) ?_
      refine V.isub dX1_readJoint_37 ?_
      refine V.put (ws' := (wX1_readJoint cy tA R18.1 (R18.2.1 - (1 : Int32)) (t_within - (1 : Int32)) t_brackets t_partIsDue t_stackV t_codeA t_codeN R18.2.2 t_waitingA t_waitingN t_waiting p1A p1_signsV p1_size p1_valuesV p1_count p1_here p1_fault p1_tokensA p1_tokensN p1_tokens p1_startsA p1_startsN p1_starts)) kfX1 tyX1 tyX1_ok nmX1 0 rfl rfl 4 (by decide) klX1_28 rfl (tyX1_ok 4 (by decide)) rfl rfl (Nat.le_of_ble_eq_true rfl) dX1_readJoint_38 rfl ?_
      refine V.aload_n dX1_readJoint_41 rfl 0 rfl ?_
      refine V.dup dX1_readJoint_42 rfl ?_
      refine V.get kfX1 0 rfl rfl 5 (by decide) klX1_31 rfl dX1_readJoint_43 ?_
      refine V.iconst (v := (1 : Int32)) dX1_readJoint_46 (by decide) ?_
      refine V.isub dX1_readJoint_47 ?_
      refine V.put (ws' := (wX1_readJoint cy tA R18.1 (R18.2.1 - (1 : Int32)) (t_within - (1 : Int32)) (t_brackets - (1 : Int32)) t_partIsDue t_stackV t_codeA t_codeN R18.2.2 t_waitingA t_waitingN t_waiting p1A p1_signsV p1_size p1_valuesV p1_count p1_here p1_fault p1_tokensA p1_tokensN p1_tokens p1_startsA p1_startsN p1_starts)) kfX1 tyX1 tyX1_ok nmX1 0 rfl rfl 5 (by decide) klX1_31 rfl (tyX1_ok 5 (by decide)) rfl rfl (Nat.le_of_ble_eq_true rfl) dX1_readJoint_48 rfl ?_
      refine V.aload_n dX1_readJoint_51 rfl 0 rfl ?_
      obtain ⟨R52, hg52, h⟩ := Option.bind_eq_some_iff.mp h
      refine V.callV (As := []) (rest := []) (wc := (wX1_endPart cy tA R18.1 (R18.2.1 - (1 : Int32)) (t_within - (1 : Int32)) (t_brackets - (1 : Int32)) t_partIsDue t_stackV t_codeA t_codeN R18.2.2 t_waitingA t_waitingN t_waiting)) (wr := [(p1A, .inr (9, [p1_signsV, .int p1_size, .ref p1_tokensA, .ref p1_startsA, p1_valuesV, .int p1_count, .int p1_here, .int p1_fault])), (p1_tokensA, .inl (cy 1, p1_tokensN, .inl p1_tokens)), (p1_startsA, .inl (cy 1, p1_startsN, .inl p1_starts))]) (q0 := 0) (CX1_endPart F tA R18.1 (R18.2.1 - (1 : Int32)) (t_within - (1 : Int32)) (t_brackets - (1 : Int32)) t_partIsDue t_stackV t_codeA t_codeN R18.2.2 t_waitingA t_waitingN t_waiting R52 hg52) kvX1_endPart klX1_76 [0, 1, 2] [3, 4, 5] rfl rfl (by decide) (by decide) (by decide) rfl rfl rfl rfl dX1_readJoint_52 ⟨by decide, by decide, by decide, by decide⟩ (Nat.le_of_ble_eq_true rfl) (fun r w1 hq => ?_)
      obtain ⟨rfl, rfl⟩ := hq
      refine V.cells (ws' := (wX1_readJoint cy tA R52.1 R52.2.1 R52.2.2.1 (t_brackets - (1 : Int32)) R52.2.2.2.1 t_stackV t_codeA t_codeN R52.2.2.2.2 t_waitingA t_waitingN t_waiting p1A p1_signsV p1_size p1_valuesV p1_count p1_here p1_fault p1_tokensA p1_tokensN p1_tokens p1_startsA p1_startsN p1_starts)) [3, 4, 5, 0, 1, 2] (by decide) rfl ?_
      show V l D cy MX1_readJoint 2 0 0 _ _ _ 55 [(0, .ref tA), (1, .ref p1A)] [] (wX1_readJoint cy tA R52.1 R52.2.1 R52.2.2.1 (t_brackets - (1 : Int32)) R52.2.2.2.1 t_stackV t_codeA t_codeN R52.2.2.2.2 t_waitingA t_waitingN t_waiting p1A p1_signsV p1_size p1_valuesV p1_count p1_here p1_fault p1_tokensA p1_tokensN p1_tokens p1_startsA p1_startsN p1_starts) 0 0
      refine V.iconst (v := (1 : Int32)) dX1_readJoint_55 (by decide) ?_
      have e9 := Option.some.inj h; subst e9
      exact V.iret (ty := .boolean) rfl rfl dX1_readJoint_56 (Nat.le_refl _) (Nat.le_refl _) hQ
theorem dX1_readLaw_0 : decode cX1_readLaw 0 = .ok (.aload_n 0, 1) := by decide +kernel
theorem dX1_readLaw_1 : decode cX1_readLaw 1 = .ok (.invokevirtual 38, 3) := by decide +kernel
theorem dX1_readLaw_4 : decode cX1_readLaw 4 = .ok (.iconst 0, 1) := by decide +kernel
theorem dX1_readLaw_5 : decode cX1_readLaw 5 = .ok (.istore_n 2, 1) := by decide +kernel
theorem dX1_readLaw_6 : decode cX1_readLaw 6 = .ok (.iload_n 2, 1) := by decide +kernel
theorem dX1_readLaw_7 : decode cX1_readLaw 7 = .ok (.sipush 1000, 3) := by decide +kernel
theorem dX1_readLaw_10 : decode cX1_readLaw 10 = .ok (.if_icmp .gt 70, 3) := by decide +kernel
theorem dX1_readLaw_13 : decode cX1_readLaw 13 = .ok (.aload_n 0, 1) := by decide +kernel
theorem dX1_readLaw_14 : decode cX1_readLaw 14 = .ok (.getfield 34, 3) := by decide +kernel
theorem dX1_readLaw_17 : decode cX1_readLaw 17 = .ok (.ifCond .ne 26, 3) := by decide +kernel
theorem dX1_readLaw_20 : decode cX1_readLaw 20 = .ok (.aload_n 0, 1) := by decide +kernel
theorem dX1_readLaw_21 : decode cX1_readLaw 21 = .ok (.getfield 31, 3) := by decide +kernel
theorem dX1_readLaw_24 : decode cX1_readLaw 24 = .ok (.ifCond .ne 19, 3) := by decide +kernel
theorem dX1_readLaw_27 : decode cX1_readLaw 27 = .ok (.aload_n 1, 1) := by decide +kernel
theorem dX1_readLaw_28 : decode cX1_readLaw 28 = .ok (.invokevirtual 41, 3) := by decide +kernel
theorem dX1_readLaw_31 : decode cX1_readLaw 31 = .ok (.bipush 59, 2) := by decide +kernel
theorem dX1_readLaw_33 : decode cX1_readLaw 33 = .ok (.if_icmp .ne 10, 3) := by decide +kernel
theorem dX1_readLaw_36 : decode cX1_readLaw 36 = .ok (.aload_n 0, 1) := by decide +kernel
theorem dX1_readLaw_37 : decode cX1_readLaw 37 = .ok (.iconst 1, 1) := by decide +kernel
theorem dX1_readLaw_38 : decode cX1_readLaw 38 = .ok (.invokevirtual 45, 3) := by decide +kernel
theorem dX1_readLaw_41 : decode cX1_readLaw 41 = .ok (.iconst 1, 1) := by decide +kernel
theorem dX1_readLaw_42 : decode cX1_readLaw 42 = .ok (.ireturn, 1) := by decide +kernel
theorem dX1_readLaw_43 : decode cX1_readLaw 43 = .ok (.aload_n 0, 1) := by decide +kernel
theorem dX1_readLaw_44 : decode cX1_readLaw 44 = .ok (.getfield 34, 3) := by decide +kernel
theorem dX1_readLaw_47 : decode cX1_readLaw 47 = .ok (.ifCond .eq 11, 3) := by decide +kernel
theorem dX1_readLaw_50 : decode cX1_readLaw 50 = .ok (.aload_n 0, 1) := by decide +kernel
theorem dX1_readLaw_51 : decode cX1_readLaw 51 = .ok (.aload_n 1, 1) := by decide +kernel
theorem dX1_readLaw_52 : decode cX1_readLaw 52 = .ok (.invokevirtual 49, 3) := by decide +kernel
theorem dX1_readLaw_55 : decode cX1_readLaw 55 = .ok (.goto 8, 3) := by decide +kernel
theorem dX1_readLaw_58 : decode cX1_readLaw 58 = .ok (.aload_n 0, 1) := by decide +kernel
theorem dX1_readLaw_59 : decode cX1_readLaw 59 = .ok (.aload_n 1, 1) := by decide +kernel
theorem dX1_readLaw_60 : decode cX1_readLaw 60 = .ok (.invokevirtual 53, 3) := by decide +kernel
theorem dX1_readLaw_63 : decode cX1_readLaw 63 = .ok (.istore_n 3, 1) := by decide +kernel
theorem dX1_readLaw_64 : decode cX1_readLaw 64 = .ok (.iload_n 3, 1) := by decide +kernel
theorem dX1_readLaw_65 : decode cX1_readLaw 65 = .ok (.ifCond .ne 5, 3) := by decide +kernel
theorem dX1_readLaw_68 : decode cX1_readLaw 68 = .ok (.iconst 0, 1) := by decide +kernel
theorem dX1_readLaw_69 : decode cX1_readLaw 69 = .ok (.ireturn, 1) := by decide +kernel
theorem dX1_readLaw_70 : decode cX1_readLaw 70 = .ok (.aload_n 1, 1) := by decide +kernel
theorem dX1_readLaw_71 : decode cX1_readLaw 71 = .ok (.invokevirtual 56, 3) := by decide +kernel
theorem dX1_readLaw_74 : decode cX1_readLaw 74 = .ok (.iinc 2 1, 3) := by decide +kernel
theorem dX1_readLaw_77 : decode cX1_readLaw 77 = .ok (.goto (-71), 3) := by decide +kernel
theorem dX1_readLaw_80 : decode cX1_readLaw 80 = .ok (.aload_n 1, 1) := by decide +kernel
theorem dX1_readLaw_81 : decode cX1_readLaw 81 = .ok (.iconst 1, 1) := by decide +kernel
theorem dX1_readLaw_82 : decode cX1_readLaw 82 = .ok (.invokevirtual 59, 3) := by decide +kernel
theorem dX1_readLaw_85 : decode cX1_readLaw 85 = .ok (.ireturn, 1) := by decide +kernel
def wX1_readLaw (cy : Nat → ClassId) (tA : Nat) (t_size : Int32) (t_waits : Int32) (t_within : Int32) (t_brackets : Int32) (t_partIsDue : Int32) (t_stackV : Value) (t_codeA : Nat) (t_codeN : Nat) (t_code : Nat → Int32) (t_waitingA : Nat) (t_waitingN : Nat) (t_waiting : Nat → Int32) (p1A : Nat) (p1_signsV : Value) (p1_size : Int32) (p1_count : Int32) (p1_here : Int32) (p1_fault : Int32) (p1_tokensA : Nat) (p1_tokensN : Nat) (p1_tokens : Nat → Int32) (p1_startsA : Nat) (p1_startsN : Nat) (p1_starts : Nat → Int32) (p1_valuesA : Nat) (p1_valuesN : Nat) (p1_values : Nat → Int64) : va_W :=
  [(tA, .inr (1, [.ref t_codeA, .int t_size, .ref t_waitingA, .int t_waits, .int t_within, .int t_brackets, .int t_partIsDue, t_stackV])), (t_codeA, .inl (cy 1, t_codeN, .inl t_code)), (t_waitingA, .inl (cy 1, t_waitingN, .inl t_waiting)), (p1A, .inr (9, [p1_signsV, .int p1_size, .ref p1_tokensA, .ref p1_startsA, .ref p1_valuesA, .int p1_count, .int p1_here, .int p1_fault])), (p1_tokensA, .inl (cy 1, p1_tokensN, .inl p1_tokens)), (p1_startsA, .inl (cy 1, p1_startsN, .inl p1_starts)), (p1_valuesA, .inl (cy 2, p1_valuesN, .inr (.inl p1_values)))]
noncomputable def bX1_readLaw_L63 (F : Nat) (t_codeN : Nat) (t_waitingN : Nat) (p1_size : Int32) (p1_count : Int32) (p1_tokensN : Nat) (p1_tokens : Nat → Int32) (p1_startsN : Nat) (p1_starts : Nat → Int32) (p1_valuesN : Nat) (p1_values : Nat → Int64) (k6 : Int32 → Int32 → Int32 → Int32 → Int32 → Int32 → (Nat → Int32) → (Nat → Int32) → Int32 → Int32 → Option (Int32 × (Int32) × (Int32) × (Int32) × (Int32) × (Int32) × (Nat → Int32) × (Nat → Int32) × (Int32) × (Int32))) (x2 : Int32) (s0 : Int32) (t_size : Int32) (t_waits : Int32) (t_within : Int32) (t_brackets : Int32) (t_partIsDue : Int32) (t_code : Nat → Int32) (t_waiting : Nat → Int32) (p1_here : Int32) (p1_fault : Int32) : Option (Int32 × (Int32) × (Int32) × (Int32) × (Int32) × (Int32) × (Nat → Int32) × (Nat → Int32) × (Int32) × (Int32)) :=
  if s0 = 0 then (some ((0 : Int32), t_size, t_waits, t_within, t_brackets, t_partIsDue, t_code, t_waiting, p1_here, p1_fault)) else ((fX9_step F p1_count p1_here).bind fun R71 => (k6 (x2 + (1 : Int32)) t_size t_waits t_within t_brackets t_partIsDue t_code t_waiting R71 p1_fault))
theorem vX1_readLaw_L63 {l : Launch} {D : va_G} {cy : Nat → ClassId} {av : List Value} {ws0 : va_W} {Q : Option Value → va_W → Prop} (F : Nat) (tA : Nat) (t_stackV : Value) (t_codeA : Nat) (t_codeN : Nat) (t_waitingA : Nat) (t_waitingN : Nat) (p1A : Nat) (p1_signsV : Value) (p1_size : Int32) (p1_count : Int32) (p1_tokensA : Nat) (p1_tokensN : Nat) (p1_tokens : Nat → Int32) (p1_startsA : Nat) (p1_startsN : Nat) (p1_starts : Nat → Int32) (p1_valuesA : Nat) (p1_valuesN : Nat) (p1_values : Nat → Int64) (k6 : Int32 → Int32 → Int32 → Int32 → Int32 → Int32 → (Nat → Int32) → (Nat → Int32) → Int32 → Int32 → Option (Int32 × (Int32) × (Int32) × (Int32) × (Int32) × (Int32) × (Nat → Int32) × (Nat → Int32) × (Int32) × (Int32))) (hk6 : ∀ (x2 : Int32) (t_size : Int32) (t_waits : Int32) (t_within : Int32) (t_brackets : Int32) (t_partIsDue : Int32) (t_code : Nat → Int32) (t_waiting : Nat → Int32) (p1_here : Int32) (p1_fault : Int32) (R : Int32 × (Int32) × (Int32) × (Int32) × (Int32) × (Int32) × (Nat → Int32) × (Nat → Int32) × (Int32) × (Int32)), k6 x2 t_size t_waits t_within t_brackets t_partIsDue t_code t_waiting p1_here p1_fault = some R → Q (some (.int R.1)) (wX1_readLaw cy tA R.2.1 R.2.2.1 R.2.2.2.1 R.2.2.2.2.1 R.2.2.2.2.2.1 t_stackV t_codeA t_codeN R.2.2.2.2.2.2.1 t_waitingA t_waitingN R.2.2.2.2.2.2.2.1 p1A p1_signsV p1_size p1_count R.2.2.2.2.2.2.2.2.1 R.2.2.2.2.2.2.2.2.2 p1_tokensA p1_tokensN p1_tokens p1_startsA p1_startsN p1_starts p1_valuesA p1_valuesN p1_values) → V l D cy MX1_readLaw 3 0 0 av ws0 Q 6 [(0, .ref tA), (1, .ref p1A), (2, .int x2)] [] (wX1_readLaw cy tA t_size t_waits t_within t_brackets t_partIsDue t_stackV t_codeA t_codeN t_code t_waitingA t_waitingN t_waiting p1A p1_signsV p1_size p1_count p1_here p1_fault p1_tokensA p1_tokensN p1_tokens p1_startsA p1_startsN p1_starts p1_valuesA p1_valuesN p1_values) 0 0) (x2 : Int32) (s0 : Int32) (t_size : Int32) (t_waits : Int32) (t_within : Int32) (t_brackets : Int32) (t_partIsDue : Int32) (t_code : Nat → Int32) (t_waiting : Nat → Int32) (p1_here : Int32) (p1_fault : Int32) (R : Int32 × (Int32) × (Int32) × (Int32) × (Int32) × (Int32) × (Nat → Int32) × (Nat → Int32) × (Int32) × (Int32)) (h : bX1_readLaw_L63 F t_codeN t_waitingN p1_size p1_count p1_tokensN p1_tokens p1_startsN p1_starts p1_valuesN p1_values k6 x2 s0 t_size t_waits t_within t_brackets t_partIsDue t_code t_waiting p1_here p1_fault = some R) (hQ : Q (some (.int R.1)) (wX1_readLaw cy tA R.2.1 R.2.2.1 R.2.2.2.1 R.2.2.2.2.1 R.2.2.2.2.2.1 t_stackV t_codeA t_codeN R.2.2.2.2.2.2.1 t_waitingA t_waitingN R.2.2.2.2.2.2.2.1 p1A p1_signsV p1_size p1_count R.2.2.2.2.2.2.2.2.1 R.2.2.2.2.2.2.2.2.2 p1_tokensA p1_tokensN p1_tokens p1_startsA p1_startsN p1_starts p1_valuesA p1_valuesN p1_values)) : V l D cy MX1_readLaw 3 0 0 av ws0 Q 63 [(0, .ref tA), (1, .ref p1A), (2, .int x2)] [.int s0] (wX1_readLaw cy tA t_size t_waits t_within t_brackets t_partIsDue t_stackV t_codeA t_codeN t_code t_waitingA t_waitingN t_waiting p1A p1_signsV p1_size p1_count p1_here p1_fault p1_tokensA p1_tokensN p1_tokens p1_startsA p1_startsN p1_starts p1_valuesA p1_valuesN p1_values) 0 0 := by
  unfold bX1_readLaw_L63 at h
  refine V.istore_n (lv' := [(3, .int s0), (0, .ref tA), (1, .ref p1A), (2, .int x2)]) dX1_readLaw_63 rfl (by decide) rfl ?_
  refine V.iload_n dX1_readLaw_64 rfl 0 rfl ?_
  refine V.if_ne (tgt := 70) dX1_readLaw_65 (by decide) (fun hc65 => ?_) (fun hc65 => ?_)
  · replace h := (if_neg hc65).symm.trans h
    refine V.aload_n dX1_readLaw_70 rfl 2 rfl ?_
    obtain ⟨R71, hg71, h⟩ := Option.bind_eq_some_iff.mp h
    refine V.callV (As := []) (rest := []) (wc := (wX9_step cy p1A p1_signsV p1_size (.ref p1_tokensA) (.ref p1_startsA) (.ref p1_valuesA) p1_count p1_here p1_fault)) (wr := [(tA, .inr (1, [.ref t_codeA, .int t_size, .ref t_waitingA, .int t_waits, .int t_within, .int t_brackets, .int t_partIsDue, t_stackV])), (t_codeA, .inl (cy 1, t_codeN, .inl t_code)), (t_waitingA, .inl (cy 1, t_waitingN, .inl t_waiting)), (p1_tokensA, .inl (cy 1, p1_tokensN, .inl p1_tokens)), (p1_startsA, .inl (cy 1, p1_startsN, .inl p1_starts)), (p1_valuesA, .inl (cy 2, p1_valuesN, .inr (.inl p1_values)))]) (q0 := 3) (CX9_step F p1A p1_signsV p1_size (.ref p1_tokensA) (.ref p1_startsA) (.ref p1_valuesA) p1_count p1_here p1_fault R71 hg71) kvX9_step klX1_56 [3] [0, 1, 2, 4, 5, 6] rfl rfl (by decide) (by decide) (by decide) rfl rfl rfl rfl dX1_readLaw_71 ⟨by decide, by decide, by decide, by decide⟩ (Nat.le_of_ble_eq_true rfl) (fun r w1 hq => ?_)
    obtain ⟨rfl, rfl⟩ := hq
    refine V.cells (ws' := (wX1_readLaw cy tA t_size t_waits t_within t_brackets t_partIsDue t_stackV t_codeA t_codeN t_code t_waitingA t_waitingN t_waiting p1A p1_signsV p1_size p1_count R71 p1_fault p1_tokensA p1_tokensN p1_tokens p1_startsA p1_startsN p1_starts p1_valuesA p1_valuesN p1_values)) [0, 1, 2, 6, 3, 4, 5] (by decide) rfl ?_
    show V l D cy MX1_readLaw 3 0 0 _ _ _ 74 [(3, .int s0), (0, .ref tA), (1, .ref p1A), (2, .int x2)] [] (wX1_readLaw cy tA t_size t_waits t_within t_brackets t_partIsDue t_stackV t_codeA t_codeN t_code t_waitingA t_waitingN t_waiting p1A p1_signsV p1_size p1_count R71 p1_fault p1_tokensA p1_tokensN p1_tokens p1_startsA p1_startsN p1_starts p1_valuesA p1_valuesN p1_values) 0 0
    refine V.iinc (v := x2 + (1 : Int32)) (lv' := [(2, .int (x2 + (1 : Int32))), (3, .int s0), (0, .ref tA), (1, .ref p1A)]) dX1_readLaw_74 3 rfl rfl (by decide) rfl ?_
    refine V.goto (tgt := 6) dX1_readLaw_77 (by decide) ?_
    refine V.lvs [2, 3, 0] rfl ?_
    exact hk6 _ _ _ _ _ _ _ _ _ _ R h hQ
  · replace h := (if_pos hc65).symm.trans h
    refine V.iconst (v := (0 : Int32)) dX1_readLaw_68 (by decide) ?_
    have e9 := Option.some.inj h; subst e9
    exact V.iret (ty := .boolean) rfl rfl dX1_readLaw_69 (Nat.le_refl _) (Nat.le_refl _) hQ
noncomputable def bX1_readLaw_L43 (F : Nat) (t_codeN : Nat) (t_waitingN : Nat) (p1_size : Int32) (p1_count : Int32) (p1_tokensN : Nat) (p1_tokens : Nat → Int32) (p1_startsN : Nat) (p1_starts : Nat → Int32) (p1_valuesN : Nat) (p1_values : Nat → Int64) (k6 : Int32 → Int32 → Int32 → Int32 → Int32 → Int32 → (Nat → Int32) → (Nat → Int32) → Int32 → Int32 → Option (Int32 × (Int32) × (Int32) × (Int32) × (Int32) × (Int32) × (Nat → Int32) × (Nat → Int32) × (Int32) × (Int32))) (x2 : Int32) (t_size : Int32) (t_waits : Int32) (t_within : Int32) (t_brackets : Int32) (t_partIsDue : Int32) (t_code : Nat → Int32) (t_waiting : Nat → Int32) (p1_here : Int32) (p1_fault : Int32) : Option (Int32 × (Int32) × (Int32) × (Int32) × (Int32) × (Int32) × (Nat → Int32) × (Nat → Int32) × (Int32) × (Int32)) :=
  if t_partIsDue = 0 then ((fX1_readJoint F t_codeN t_waitingN p1_size p1_count p1_here p1_tokensN p1_tokens p1_startsN p1_starts t_size t_waits t_within t_brackets t_partIsDue t_code t_waiting p1_fault).bind fun R60 => (bX1_readLaw_L63 F t_codeN t_waitingN p1_size p1_count p1_tokensN p1_tokens p1_startsN p1_starts p1_valuesN p1_values k6 x2 R60.1 R60.2.1 R60.2.2.1 R60.2.2.2.1 R60.2.2.2.2.1 R60.2.2.2.2.2.1 R60.2.2.2.2.2.2.1 R60.2.2.2.2.2.2.2.1 p1_here R60.2.2.2.2.2.2.2.2)) else ((fX1_readPart F t_codeN t_waitingN p1_size p1_count p1_here p1_tokensN p1_tokens p1_startsN p1_starts p1_valuesN p1_values t_size t_waits t_within t_brackets t_partIsDue t_code t_waiting p1_fault).bind fun R52 => (bX1_readLaw_L63 F t_codeN t_waitingN p1_size p1_count p1_tokensN p1_tokens p1_startsN p1_starts p1_valuesN p1_values k6 x2 R52.1 R52.2.1 R52.2.2.1 R52.2.2.2.1 R52.2.2.2.2.1 R52.2.2.2.2.2.1 R52.2.2.2.2.2.2.1 R52.2.2.2.2.2.2.2.1 p1_here R52.2.2.2.2.2.2.2.2))
theorem vX1_readLaw_L43 {l : Launch} {D : va_G} {cy : Nat → ClassId} {av : List Value} {ws0 : va_W} {Q : Option Value → va_W → Prop} (F : Nat) (tA : Nat) (t_stackV : Value) (t_codeA : Nat) (t_codeN : Nat) (t_waitingA : Nat) (t_waitingN : Nat) (p1A : Nat) (p1_signsV : Value) (p1_size : Int32) (p1_count : Int32) (p1_tokensA : Nat) (p1_tokensN : Nat) (p1_tokens : Nat → Int32) (p1_startsA : Nat) (p1_startsN : Nat) (p1_starts : Nat → Int32) (p1_valuesA : Nat) (p1_valuesN : Nat) (p1_values : Nat → Int64) (k6 : Int32 → Int32 → Int32 → Int32 → Int32 → Int32 → (Nat → Int32) → (Nat → Int32) → Int32 → Int32 → Option (Int32 × (Int32) × (Int32) × (Int32) × (Int32) × (Int32) × (Nat → Int32) × (Nat → Int32) × (Int32) × (Int32))) (hk6 : ∀ (x2 : Int32) (t_size : Int32) (t_waits : Int32) (t_within : Int32) (t_brackets : Int32) (t_partIsDue : Int32) (t_code : Nat → Int32) (t_waiting : Nat → Int32) (p1_here : Int32) (p1_fault : Int32) (R : Int32 × (Int32) × (Int32) × (Int32) × (Int32) × (Int32) × (Nat → Int32) × (Nat → Int32) × (Int32) × (Int32)), k6 x2 t_size t_waits t_within t_brackets t_partIsDue t_code t_waiting p1_here p1_fault = some R → Q (some (.int R.1)) (wX1_readLaw cy tA R.2.1 R.2.2.1 R.2.2.2.1 R.2.2.2.2.1 R.2.2.2.2.2.1 t_stackV t_codeA t_codeN R.2.2.2.2.2.2.1 t_waitingA t_waitingN R.2.2.2.2.2.2.2.1 p1A p1_signsV p1_size p1_count R.2.2.2.2.2.2.2.2.1 R.2.2.2.2.2.2.2.2.2 p1_tokensA p1_tokensN p1_tokens p1_startsA p1_startsN p1_starts p1_valuesA p1_valuesN p1_values) → V l D cy MX1_readLaw 3 0 0 av ws0 Q 6 [(0, .ref tA), (1, .ref p1A), (2, .int x2)] [] (wX1_readLaw cy tA t_size t_waits t_within t_brackets t_partIsDue t_stackV t_codeA t_codeN t_code t_waitingA t_waitingN t_waiting p1A p1_signsV p1_size p1_count p1_here p1_fault p1_tokensA p1_tokensN p1_tokens p1_startsA p1_startsN p1_starts p1_valuesA p1_valuesN p1_values) 0 0) (x2 : Int32) (t_size : Int32) (t_waits : Int32) (t_within : Int32) (t_brackets : Int32) (t_partIsDue : Int32) (t_code : Nat → Int32) (t_waiting : Nat → Int32) (p1_here : Int32) (p1_fault : Int32) (R : Int32 × (Int32) × (Int32) × (Int32) × (Int32) × (Int32) × (Nat → Int32) × (Nat → Int32) × (Int32) × (Int32)) (h : bX1_readLaw_L43 F t_codeN t_waitingN p1_size p1_count p1_tokensN p1_tokens p1_startsN p1_starts p1_valuesN p1_values k6 x2 t_size t_waits t_within t_brackets t_partIsDue t_code t_waiting p1_here p1_fault = some R) (hQ : Q (some (.int R.1)) (wX1_readLaw cy tA R.2.1 R.2.2.1 R.2.2.2.1 R.2.2.2.2.1 R.2.2.2.2.2.1 t_stackV t_codeA t_codeN R.2.2.2.2.2.2.1 t_waitingA t_waitingN R.2.2.2.2.2.2.2.1 p1A p1_signsV p1_size p1_count R.2.2.2.2.2.2.2.2.1 R.2.2.2.2.2.2.2.2.2 p1_tokensA p1_tokensN p1_tokens p1_startsA p1_startsN p1_starts p1_valuesA p1_valuesN p1_values)) : V l D cy MX1_readLaw 3 0 0 av ws0 Q 43 [(0, .ref tA), (1, .ref p1A), (2, .int x2)] [] (wX1_readLaw cy tA t_size t_waits t_within t_brackets t_partIsDue t_stackV t_codeA t_codeN t_code t_waitingA t_waitingN t_waiting p1A p1_signsV p1_size p1_count p1_here p1_fault p1_tokensA p1_tokensN p1_tokens p1_startsA p1_startsN p1_starts p1_valuesA p1_valuesN p1_values) 0 0 := by
  unfold bX1_readLaw_L43 at h
  refine V.aload_n dX1_readLaw_43 rfl 0 rfl ?_
  refine V.get kfX1 0 rfl rfl 6 (by decide) klX1_34 rfl dX1_readLaw_44 ?_
  refine V.if_eq (tgt := 58) dX1_readLaw_47 (by decide) (fun hc47 => ?_) (fun hc47 => ?_)
  · replace h := (if_pos hc47).symm.trans h
    refine V.aload_n dX1_readLaw_58 rfl 0 rfl ?_
    refine V.aload_n dX1_readLaw_59 rfl 1 rfl ?_
    obtain ⟨R60, hg60, h⟩ := Option.bind_eq_some_iff.mp h
    refine V.callV (As := [.ref p1A]) (rest := []) (wc := (wX1_readJoint cy tA t_size t_waits t_within t_brackets t_partIsDue t_stackV t_codeA t_codeN t_code t_waitingA t_waitingN t_waiting p1A p1_signsV p1_size (.ref p1_valuesA) p1_count p1_here p1_fault p1_tokensA p1_tokensN p1_tokens p1_startsA p1_startsN p1_starts)) (wr := [(p1_valuesA, .inl (cy 2, p1_valuesN, .inr (.inl p1_values)))]) (q0 := 0) (CX1_readJoint F tA t_size t_waits t_within t_brackets t_partIsDue t_stackV t_codeA t_codeN t_code t_waitingA t_waitingN t_waiting p1A p1_signsV p1_size (.ref p1_valuesA) p1_count p1_here p1_fault p1_tokensA p1_tokensN p1_tokens p1_startsA p1_startsN p1_starts R60 hg60) kvX1_readJoint klX1_53 [0, 1, 2, 3, 4, 5] [6] rfl rfl (by decide) (by decide) (by decide) rfl rfl rfl rfl dX1_readLaw_60 ⟨by decide, by decide, by decide, by decide⟩ (Nat.le_of_ble_eq_true rfl) (fun r w1 hq => ?_)
    obtain ⟨rfl, rfl⟩ := hq
    refine V.cells (ws' := (wX1_readLaw cy tA R60.2.1 R60.2.2.1 R60.2.2.2.1 R60.2.2.2.2.1 R60.2.2.2.2.2.1 t_stackV t_codeA t_codeN R60.2.2.2.2.2.2.1 t_waitingA t_waitingN R60.2.2.2.2.2.2.2.1 p1A p1_signsV p1_size p1_count p1_here R60.2.2.2.2.2.2.2.2 p1_tokensA p1_tokensN p1_tokens p1_startsA p1_startsN p1_starts p1_valuesA p1_valuesN p1_values)) [1, 2, 3, 4, 5, 6, 0] (by decide) rfl ?_
    show V l D cy MX1_readLaw 3 0 0 _ _ _ 63 [(0, .ref tA), (1, .ref p1A), (2, .int x2)] [.int R60.1] (wX1_readLaw cy tA R60.2.1 R60.2.2.1 R60.2.2.2.1 R60.2.2.2.2.1 R60.2.2.2.2.2.1 t_stackV t_codeA t_codeN R60.2.2.2.2.2.2.1 t_waitingA t_waitingN R60.2.2.2.2.2.2.2.1 p1A p1_signsV p1_size p1_count p1_here R60.2.2.2.2.2.2.2.2 p1_tokensA p1_tokensN p1_tokens p1_startsA p1_startsN p1_starts p1_valuesA p1_valuesN p1_values) 0 0
    exact vX1_readLaw_L63 _ _ _ _ _ _ _ _ _ _ _ _ _ _ _ _ _ _ _ _ _ hk6  _ _ _ _ _ _ _ _ _ _ _ R h hQ
  · replace h := (if_neg hc47).symm.trans h
    refine V.aload_n dX1_readLaw_50 rfl 0 rfl ?_
    refine V.aload_n dX1_readLaw_51 rfl 1 rfl ?_
    obtain ⟨R52, hg52, h⟩ := Option.bind_eq_some_iff.mp h
    refine V.callV (As := [.ref p1A]) (rest := []) (wc := (wX1_readPart cy tA t_size t_waits t_within t_brackets t_partIsDue t_stackV t_codeA t_codeN t_code t_waitingA t_waitingN t_waiting p1A p1_signsV p1_size p1_count p1_here p1_fault p1_tokensA p1_tokensN p1_tokens p1_startsA p1_startsN p1_starts p1_valuesA p1_valuesN p1_values)) (wr := []) (q0 := 0) (CX1_readPart F tA t_size t_waits t_within t_brackets t_partIsDue t_stackV t_codeA t_codeN t_code t_waitingA t_waitingN t_waiting p1A p1_signsV p1_size p1_count p1_here p1_fault p1_tokensA p1_tokensN p1_tokens p1_startsA p1_startsN p1_starts p1_valuesA p1_valuesN p1_values R52 hg52) kvX1_readPart klX1_49 [0, 1, 2, 3, 4, 5, 6] [] rfl rfl (by decide) (by decide) (by decide) rfl rfl rfl rfl dX1_readLaw_52 ⟨by decide, by decide, by decide, by decide⟩ (Nat.le_of_ble_eq_true rfl) (fun r w1 hq => ?_)
    obtain ⟨rfl, rfl⟩ := hq
    refine V.cells (ws' := (wX1_readLaw cy tA R52.2.1 R52.2.2.1 R52.2.2.2.1 R52.2.2.2.2.1 R52.2.2.2.2.2.1 t_stackV t_codeA t_codeN R52.2.2.2.2.2.2.1 t_waitingA t_waitingN R52.2.2.2.2.2.2.2.1 p1A p1_signsV p1_size p1_count p1_here R52.2.2.2.2.2.2.2.2 p1_tokensA p1_tokensN p1_tokens p1_startsA p1_startsN p1_starts p1_valuesA p1_valuesN p1_values)) [0, 1, 2, 3, 4, 5, 6] (by decide) rfl ?_
    show V l D cy MX1_readLaw 3 0 0 _ _ _ 55 [(0, .ref tA), (1, .ref p1A), (2, .int x2)] [.int R52.1] (wX1_readLaw cy tA R52.2.1 R52.2.2.1 R52.2.2.2.1 R52.2.2.2.2.1 R52.2.2.2.2.2.1 t_stackV t_codeA t_codeN R52.2.2.2.2.2.2.1 t_waitingA t_waitingN R52.2.2.2.2.2.2.2.1 p1A p1_signsV p1_size p1_count p1_here R52.2.2.2.2.2.2.2.2 p1_tokensA p1_tokensN p1_tokens p1_startsA p1_startsN p1_starts p1_valuesA p1_valuesN p1_values) 0 0
    refine V.goto (tgt := 63) dX1_readLaw_55 (by decide) ?_
    exact vX1_readLaw_L63 _ _ _ _ _ _ _ _ _ _ _ _ _ _ _ _ _ _ _ _ _ hk6  _ _ _ _ _ _ _ _ _ _ _ R h hQ
noncomputable def bX1_readLaw_L6 (F : Nat) (t_codeN : Nat) (t_waitingN : Nat) (p1_size : Int32) (p1_count : Int32) (p1_tokensN : Nat) (p1_tokens : Nat → Int32) (p1_startsN : Nat) (p1_starts : Nat → Int32) (p1_valuesN : Nat) (p1_values : Nat → Int64) (k6 : Int32 → Int32 → Int32 → Int32 → Int32 → Int32 → (Nat → Int32) → (Nat → Int32) → Int32 → Int32 → Option (Int32 × (Int32) × (Int32) × (Int32) × (Int32) × (Int32) × (Nat → Int32) × (Nat → Int32) × (Int32) × (Int32))) (x2 : Int32) (t_size : Int32) (t_waits : Int32) (t_within : Int32) (t_brackets : Int32) (t_partIsDue : Int32) (t_code : Nat → Int32) (t_waiting : Nat → Int32) (p1_here : Int32) (p1_fault : Int32) : Option (Int32 × (Int32) × (Int32) × (Int32) × (Int32) × (Int32) × (Nat → Int32) × (Nat → Int32) × (Int32) × (Int32)) :=
  if (1000 : Int32) < x2 then ((fX9_wrong F p1_size p1_count p1_here p1_startsN p1_starts (1 : Int32) p1_fault).bind fun R82 => (if R82.1 = 0 ∨ R82.1 = 1 then some (R82.1, t_size, t_waits, t_within, t_brackets, t_partIsDue, t_code, t_waiting, p1_here, R82.2) else none)) else (if t_partIsDue = 0 then (if t_brackets = 0 then ((fX9_token F p1_count p1_here p1_tokensN p1_tokens).bind fun R28 => (if R28 = (59 : Int32) then ((fX1_release F t_codeN t_waitingN t_waiting (1 : Int32) t_size t_waits t_code).bind fun R38 => (some ((1 : Int32), R38.1, R38.2.1, t_within, t_brackets, t_partIsDue, R38.2.2, t_waiting, p1_here, p1_fault))) else (bX1_readLaw_L43 F t_codeN t_waitingN p1_size p1_count p1_tokensN p1_tokens p1_startsN p1_starts p1_valuesN p1_values k6 x2 t_size t_waits t_within t_brackets t_partIsDue t_code t_waiting p1_here p1_fault))) else (bX1_readLaw_L43 F t_codeN t_waitingN p1_size p1_count p1_tokensN p1_tokens p1_startsN p1_starts p1_valuesN p1_values k6 x2 t_size t_waits t_within t_brackets t_partIsDue t_code t_waiting p1_here p1_fault)) else (bX1_readLaw_L43 F t_codeN t_waitingN p1_size p1_count p1_tokensN p1_tokens p1_startsN p1_starts p1_valuesN p1_values k6 x2 t_size t_waits t_within t_brackets t_partIsDue t_code t_waiting p1_here p1_fault))
theorem vbX1_readLaw_L6 {l : Launch} {D : va_G} {cy : Nat → ClassId} {av : List Value} {ws0 : va_W} {Q : Option Value → va_W → Prop} (F : Nat) (tA : Nat) (t_stackV : Value) (t_codeA : Nat) (t_codeN : Nat) (t_waitingA : Nat) (t_waitingN : Nat) (p1A : Nat) (p1_signsV : Value) (p1_size : Int32) (p1_count : Int32) (p1_tokensA : Nat) (p1_tokensN : Nat) (p1_tokens : Nat → Int32) (p1_startsA : Nat) (p1_startsN : Nat) (p1_starts : Nat → Int32) (p1_valuesA : Nat) (p1_valuesN : Nat) (p1_values : Nat → Int64) (k6 : Int32 → Int32 → Int32 → Int32 → Int32 → Int32 → (Nat → Int32) → (Nat → Int32) → Int32 → Int32 → Option (Int32 × (Int32) × (Int32) × (Int32) × (Int32) × (Int32) × (Nat → Int32) × (Nat → Int32) × (Int32) × (Int32))) (hk6 : ∀ (x2 : Int32) (t_size : Int32) (t_waits : Int32) (t_within : Int32) (t_brackets : Int32) (t_partIsDue : Int32) (t_code : Nat → Int32) (t_waiting : Nat → Int32) (p1_here : Int32) (p1_fault : Int32) (R : Int32 × (Int32) × (Int32) × (Int32) × (Int32) × (Int32) × (Nat → Int32) × (Nat → Int32) × (Int32) × (Int32)), k6 x2 t_size t_waits t_within t_brackets t_partIsDue t_code t_waiting p1_here p1_fault = some R → Q (some (.int R.1)) (wX1_readLaw cy tA R.2.1 R.2.2.1 R.2.2.2.1 R.2.2.2.2.1 R.2.2.2.2.2.1 t_stackV t_codeA t_codeN R.2.2.2.2.2.2.1 t_waitingA t_waitingN R.2.2.2.2.2.2.2.1 p1A p1_signsV p1_size p1_count R.2.2.2.2.2.2.2.2.1 R.2.2.2.2.2.2.2.2.2 p1_tokensA p1_tokensN p1_tokens p1_startsA p1_startsN p1_starts p1_valuesA p1_valuesN p1_values) → V l D cy MX1_readLaw 3 0 0 av ws0 Q 6 [(0, .ref tA), (1, .ref p1A), (2, .int x2)] [] (wX1_readLaw cy tA t_size t_waits t_within t_brackets t_partIsDue t_stackV t_codeA t_codeN t_code t_waitingA t_waitingN t_waiting p1A p1_signsV p1_size p1_count p1_here p1_fault p1_tokensA p1_tokensN p1_tokens p1_startsA p1_startsN p1_starts p1_valuesA p1_valuesN p1_values) 0 0) (x2 : Int32) (t_size : Int32) (t_waits : Int32) (t_within : Int32) (t_brackets : Int32) (t_partIsDue : Int32) (t_code : Nat → Int32) (t_waiting : Nat → Int32) (p1_here : Int32) (p1_fault : Int32) (R : Int32 × (Int32) × (Int32) × (Int32) × (Int32) × (Int32) × (Nat → Int32) × (Nat → Int32) × (Int32) × (Int32)) (h : bX1_readLaw_L6 F t_codeN t_waitingN p1_size p1_count p1_tokensN p1_tokens p1_startsN p1_starts p1_valuesN p1_values k6 x2 t_size t_waits t_within t_brackets t_partIsDue t_code t_waiting p1_here p1_fault = some R) (hQ : Q (some (.int R.1)) (wX1_readLaw cy tA R.2.1 R.2.2.1 R.2.2.2.1 R.2.2.2.2.1 R.2.2.2.2.2.1 t_stackV t_codeA t_codeN R.2.2.2.2.2.2.1 t_waitingA t_waitingN R.2.2.2.2.2.2.2.1 p1A p1_signsV p1_size p1_count R.2.2.2.2.2.2.2.2.1 R.2.2.2.2.2.2.2.2.2 p1_tokensA p1_tokensN p1_tokens p1_startsA p1_startsN p1_starts p1_valuesA p1_valuesN p1_values)) : V l D cy MX1_readLaw 3 0 0 av ws0 Q 6 [(0, .ref tA), (1, .ref p1A), (2, .int x2)] [] (wX1_readLaw cy tA t_size t_waits t_within t_brackets t_partIsDue t_stackV t_codeA t_codeN t_code t_waitingA t_waitingN t_waiting p1A p1_signsV p1_size p1_count p1_here p1_fault p1_tokensA p1_tokensN p1_tokens p1_startsA p1_startsN p1_starts p1_valuesA p1_valuesN p1_values) 0 0 := by
  unfold bX1_readLaw_L6 at h
  refine V.iload_n dX1_readLaw_6 rfl 2 rfl ?_
  refine V.sipush (v := (1000 : Int32)) dX1_readLaw_7 (by decide) ?_
  refine V.icmp_gt (tgt := 80) dX1_readLaw_10 (by decide) (fun hc10 => ?_) (fun hc10 => ?_)
  · replace h := (if_pos hc10).symm.trans h
    refine V.aload_n dX1_readLaw_80 rfl 1 rfl ?_
    refine V.iconst (v := (1 : Int32)) dX1_readLaw_81 (by decide) ?_
    obtain ⟨R82, hg82, h⟩ := Option.bind_eq_some_iff.mp h
    refine V.callV (As := [.int (1 : Int32)]) (rest := []) (wc := (wX9_wrong cy p1A p1_signsV p1_size (.ref p1_tokensA) (.ref p1_valuesA) p1_count p1_here p1_fault p1_startsA p1_startsN p1_starts)) (wr := [(tA, .inr (1, [.ref t_codeA, .int t_size, .ref t_waitingA, .int t_waits, .int t_within, .int t_brackets, .int t_partIsDue, t_stackV])), (t_codeA, .inl (cy 1, t_codeN, .inl t_code)), (t_waitingA, .inl (cy 1, t_waitingN, .inl t_waiting)), (p1_tokensA, .inl (cy 1, p1_tokensN, .inl p1_tokens)), (p1_valuesA, .inl (cy 2, p1_valuesN, .inr (.inl p1_values)))]) (q0 := 3) (CX9_wrong F p1A p1_signsV p1_size (.ref p1_tokensA) (.ref p1_valuesA) p1_count p1_here p1_fault p1_startsA p1_startsN p1_starts (1 : Int32) R82 hg82) kvX9_wrong klX1_59 [3, 5] [0, 1, 2, 4, 6] rfl rfl (by decide) (by decide) (by decide) rfl rfl rfl rfl dX1_readLaw_82 ⟨by decide, by decide, by decide, by decide⟩ (Nat.le_of_ble_eq_true rfl) (fun r w1 hq => ?_)
    obtain ⟨rfl, rfl⟩ := hq
    refine V.cells (ws' := (wX1_readLaw cy tA t_size t_waits t_within t_brackets t_partIsDue t_stackV t_codeA t_codeN t_code t_waitingA t_waitingN t_waiting p1A p1_signsV p1_size p1_count p1_here R82.2 p1_tokensA p1_tokensN p1_tokens p1_startsA p1_startsN p1_starts p1_valuesA p1_valuesN p1_values)) [0, 1, 2, 5, 3, 6, 4] (by decide) rfl ?_
    show V l D cy MX1_readLaw 3 0 0 _ _ _ 85 [(0, .ref tA), (1, .ref p1A), (2, .int x2)] [.int R82.1] (wX1_readLaw cy tA t_size t_waits t_within t_brackets t_partIsDue t_stackV t_codeA t_codeN t_code t_waitingA t_waitingN t_waiting p1A p1_signsV p1_size p1_count p1_here R82.2 p1_tokensA p1_tokensN p1_tokens p1_startsA p1_startsN p1_starts p1_valuesA p1_valuesN p1_values) 0 0
    by_cases hz85 : R82.1 = 0 ∨ R82.1 = 1
    case neg => exact vNone ((if_neg hz85).symm.trans h)
    replace h := (if_pos hz85).symm.trans h
    have e9 := Option.some.inj h; subst e9
    exact V.iret (ty := .boolean) rfl (vBool hz85).1 dX1_readLaw_85 (Nat.le_refl _) (Nat.le_refl _) hQ
  · replace h := (if_neg hc10).symm.trans h
    refine V.aload_n dX1_readLaw_13 rfl 0 rfl ?_
    refine V.get kfX1 0 rfl rfl 6 (by decide) klX1_34 rfl dX1_readLaw_14 ?_
    refine V.if_ne (tgt := 43) dX1_readLaw_17 (by decide) (fun hc17 => ?_) (fun hc17 => ?_)
    · replace h := (if_neg hc17).symm.trans h
      exact vX1_readLaw_L43 _ _ _ _ _ _ _ _ _ _ _ _ _ _ _ _ _ _ _ _ _ hk6  _ _ _ _ _ _ _ _ _ _ R h hQ
    · replace h := (if_pos hc17).symm.trans h
      refine V.aload_n dX1_readLaw_20 rfl 0 rfl ?_
      refine V.get kfX1 0 rfl rfl 5 (by decide) klX1_31 rfl dX1_readLaw_21 ?_
      refine V.if_ne (tgt := 43) dX1_readLaw_24 (by decide) (fun hc24 => ?_) (fun hc24 => ?_)
      · replace h := (if_neg hc24).symm.trans h
        exact vX1_readLaw_L43 _ _ _ _ _ _ _ _ _ _ _ _ _ _ _ _ _ _ _ _ _ hk6  _ _ _ _ _ _ _ _ _ _ R h hQ
      · replace h := (if_pos hc24).symm.trans h
        refine V.aload_n dX1_readLaw_27 rfl 1 rfl ?_
        obtain ⟨R28, hg28, h⟩ := Option.bind_eq_some_iff.mp h
        refine V.callV (As := []) (rest := []) (wc := (wX9_token cy p1A p1_signsV p1_size (.ref p1_startsA) (.ref p1_valuesA) p1_count p1_here p1_fault p1_tokensA p1_tokensN p1_tokens)) (wr := [(tA, .inr (1, [.ref t_codeA, .int t_size, .ref t_waitingA, .int t_waits, .int t_within, .int t_brackets, .int t_partIsDue, t_stackV])), (t_codeA, .inl (cy 1, t_codeN, .inl t_code)), (t_waitingA, .inl (cy 1, t_waitingN, .inl t_waiting)), (p1_startsA, .inl (cy 1, p1_startsN, .inl p1_starts)), (p1_valuesA, .inl (cy 2, p1_valuesN, .inr (.inl p1_values)))]) (q0 := 3) (CX9_token F p1A p1_signsV p1_size (.ref p1_startsA) (.ref p1_valuesA) p1_count p1_here p1_fault p1_tokensA p1_tokensN p1_tokens R28 hg28) kvX9_token klX1_41 [3, 4] [0, 1, 2, 5, 6] rfl rfl (by decide) (by decide) (by decide) rfl rfl rfl rfl dX1_readLaw_28 ⟨by decide, by decide, by decide, by decide⟩ (Nat.le_of_ble_eq_true rfl) (fun r w1 hq => ?_)
        obtain ⟨rfl, rfl⟩ := hq
        refine V.cells (ws' := (wX1_readLaw cy tA t_size t_waits t_within t_brackets t_partIsDue t_stackV t_codeA t_codeN t_code t_waitingA t_waitingN t_waiting p1A p1_signsV p1_size p1_count p1_here p1_fault p1_tokensA p1_tokensN p1_tokens p1_startsA p1_startsN p1_starts p1_valuesA p1_valuesN p1_values)) [0, 1, 2, 5, 6, 3, 4] (by decide) rfl ?_
        show V l D cy MX1_readLaw 3 0 0 _ _ _ 31 [(0, .ref tA), (1, .ref p1A), (2, .int x2)] [.int R28] (wX1_readLaw cy tA t_size t_waits t_within t_brackets t_partIsDue t_stackV t_codeA t_codeN t_code t_waitingA t_waitingN t_waiting p1A p1_signsV p1_size p1_count p1_here p1_fault p1_tokensA p1_tokensN p1_tokens p1_startsA p1_startsN p1_starts p1_valuesA p1_valuesN p1_values) 0 0
        refine V.bipush (v := (59 : Int32)) dX1_readLaw_31 (by decide) ?_
        refine V.icmp_ne (tgt := 43) dX1_readLaw_33 (by decide) (fun hc33 => ?_) (fun hc33 => ?_)
        · replace h := (if_neg hc33).symm.trans h
          exact vX1_readLaw_L43 _ _ _ _ _ _ _ _ _ _ _ _ _ _ _ _ _ _ _ _ _ hk6  _ _ _ _ _ _ _ _ _ _ R h hQ
        · replace h := (if_pos hc33).symm.trans h
          refine V.aload_n dX1_readLaw_36 rfl 0 rfl ?_
          refine V.iconst (v := (1 : Int32)) dX1_readLaw_37 (by decide) ?_
          obtain ⟨R38, hg38, h⟩ := Option.bind_eq_some_iff.mp h
          refine V.callV (As := [.int (1 : Int32)]) (rest := []) (wc := (wX1_release cy tA t_size t_waits t_within t_brackets t_partIsDue t_stackV t_codeA t_codeN t_code t_waitingA t_waitingN t_waiting)) (wr := [(p1A, .inr (9, [p1_signsV, .int p1_size, .ref p1_tokensA, .ref p1_startsA, .ref p1_valuesA, .int p1_count, .int p1_here, .int p1_fault])), (p1_tokensA, .inl (cy 1, p1_tokensN, .inl p1_tokens)), (p1_startsA, .inl (cy 1, p1_startsN, .inl p1_starts)), (p1_valuesA, .inl (cy 2, p1_valuesN, .inr (.inl p1_values)))]) (q0 := 0) (CX1_release F tA t_size t_waits t_within t_brackets t_partIsDue t_stackV t_codeA t_codeN t_code t_waitingA t_waitingN t_waiting (1 : Int32) R38 hg38) kvX1_release klX1_45 [0, 1, 2] [3, 4, 5, 6] rfl rfl (by decide) (by decide) (by decide) rfl rfl rfl rfl dX1_readLaw_38 ⟨by decide, by decide, by decide, by decide⟩ (Nat.le_of_ble_eq_true rfl) (fun r w1 hq => ?_)
          obtain ⟨rfl, rfl⟩ := hq
          refine V.cells (ws' := (wX1_readLaw cy tA R38.1 R38.2.1 t_within t_brackets t_partIsDue t_stackV t_codeA t_codeN R38.2.2 t_waitingA t_waitingN t_waiting p1A p1_signsV p1_size p1_count p1_here p1_fault p1_tokensA p1_tokensN p1_tokens p1_startsA p1_startsN p1_starts p1_valuesA p1_valuesN p1_values)) [4, 5, 6, 0, 1, 2, 3] (by decide) rfl ?_
          show V l D cy MX1_readLaw 3 0 0 _ _ _ 41 [(0, .ref tA), (1, .ref p1A), (2, .int x2)] [] (wX1_readLaw cy tA R38.1 R38.2.1 t_within t_brackets t_partIsDue t_stackV t_codeA t_codeN R38.2.2 t_waitingA t_waitingN t_waiting p1A p1_signsV p1_size p1_count p1_here p1_fault p1_tokensA p1_tokensN p1_tokens p1_startsA p1_startsN p1_starts p1_valuesA p1_valuesN p1_values) 0 0
          refine V.iconst (v := (1 : Int32)) dX1_readLaw_41 (by decide) ?_
          have e9 := Option.some.inj h; subst e9
          exact V.iret (ty := .boolean) rfl rfl dX1_readLaw_42 (Nat.le_refl _) (Nat.le_refl _) hQ
noncomputable def fX1_readLaw_L6 (F : Nat) (t_codeN : Nat) (t_waitingN : Nat) (p1_size : Int32) (p1_count : Int32) (p1_tokensN : Nat) (p1_tokens : Nat → Int32) (p1_startsN : Nat) (p1_starts : Nat → Int32) (p1_valuesN : Nat) (p1_values : Nat → Int64)  : Nat → Int32 → Int32 → Int32 → Int32 → Int32 → Int32 → (Nat → Int32) → (Nat → Int32) → Int32 → Int32 → Option (Int32 × (Int32) × (Int32) × (Int32) × (Int32) × (Int32) × (Nat → Int32) × (Nat → Int32) × (Int32) × (Int32))
  | 0 => fun _ _ _ _ _ _ _ _ _ _ => none
  | n + 1 => bX1_readLaw_L6 F t_codeN t_waitingN p1_size p1_count p1_tokensN p1_tokens p1_startsN p1_starts p1_valuesN p1_values (fX1_readLaw_L6 F t_codeN t_waitingN p1_size p1_count p1_tokensN p1_tokens p1_startsN p1_starts p1_valuesN p1_values  n)
theorem vX1_readLaw_L6 {l : Launch} {D : va_G} {cy : Nat → ClassId} {av : List Value} {ws0 : va_W} {Q : Option Value → va_W → Prop} (F : Nat) (tA : Nat) (t_stackV : Value) (t_codeA : Nat) (t_codeN : Nat) (t_waitingA : Nat) (t_waitingN : Nat) (p1A : Nat) (p1_signsV : Value) (p1_size : Int32) (p1_count : Int32) (p1_tokensA : Nat) (p1_tokensN : Nat) (p1_tokens : Nat → Int32) (p1_startsA : Nat) (p1_startsN : Nat) (p1_starts : Nat → Int32) (p1_valuesA : Nat) (p1_valuesN : Nat) (p1_values : Nat → Int64)  : ∀ (n : Nat) (x2 : Int32) (t_size : Int32) (t_waits : Int32) (t_within : Int32) (t_brackets : Int32) (t_partIsDue : Int32) (t_code : Nat → Int32) (t_waiting : Nat → Int32) (p1_here : Int32) (p1_fault : Int32) (R : Int32 × (Int32) × (Int32) × (Int32) × (Int32) × (Int32) × (Nat → Int32) × (Nat → Int32) × (Int32) × (Int32)), fX1_readLaw_L6 F t_codeN t_waitingN p1_size p1_count p1_tokensN p1_tokens p1_startsN p1_starts p1_valuesN p1_values  n x2 t_size t_waits t_within t_brackets t_partIsDue t_code t_waiting p1_here p1_fault = some R → Q (some (.int R.1)) (wX1_readLaw cy tA R.2.1 R.2.2.1 R.2.2.2.1 R.2.2.2.2.1 R.2.2.2.2.2.1 t_stackV t_codeA t_codeN R.2.2.2.2.2.2.1 t_waitingA t_waitingN R.2.2.2.2.2.2.2.1 p1A p1_signsV p1_size p1_count R.2.2.2.2.2.2.2.2.1 R.2.2.2.2.2.2.2.2.2 p1_tokensA p1_tokensN p1_tokens p1_startsA p1_startsN p1_starts p1_valuesA p1_valuesN p1_values) → V l D cy MX1_readLaw 3 0 0 av ws0 Q 6 [(0, .ref tA), (1, .ref p1A), (2, .int x2)] [] (wX1_readLaw cy tA t_size t_waits t_within t_brackets t_partIsDue t_stackV t_codeA t_codeN t_code t_waitingA t_waitingN t_waiting p1A p1_signsV p1_size p1_count p1_here p1_fault p1_tokensA p1_tokensN p1_tokens p1_startsA p1_startsN p1_starts p1_valuesA p1_valuesN p1_values) 0 0 := by
  intro n
  induction n with
  | zero => intro x2 t_size t_waits t_within t_brackets t_partIsDue t_code t_waiting p1_here p1_fault R h; exact vNone h
  | succ n ih => intro x2 t_size t_waits t_within t_brackets t_partIsDue t_code t_waiting p1_here p1_fault R h hQ; exact vbX1_readLaw_L6 F tA t_stackV t_codeA t_codeN t_waitingA t_waitingN p1A p1_signsV p1_size p1_count p1_tokensA p1_tokensN p1_tokens p1_startsA p1_startsN p1_starts p1_valuesA p1_valuesN p1_values _ ih x2 t_size t_waits t_within t_brackets t_partIsDue t_code t_waiting p1_here p1_fault R h hQ
noncomputable def fX1_readLaw (F : Nat) (t_codeN : Nat) (t_waitingN : Nat) (p1_size : Int32) (p1_count : Int32) (p1_tokensN : Nat) (p1_tokens : Nat → Int32) (p1_startsN : Nat) (p1_starts : Nat → Int32) (p1_valuesN : Nat) (p1_values : Nat → Int64) (t_size : Int32) (t_waits : Int32) (t_within : Int32) (t_brackets : Int32) (t_partIsDue : Int32) (t_code : Nat → Int32) (t_waiting : Nat → Int32) (p1_here : Int32) (p1_fault : Int32) : Option (Int32 × (Int32) × (Int32) × (Int32) × (Int32) × (Int32) × (Nat → Int32) × (Nat → Int32) × (Int32) × (Int32)) :=
  (fX1_clear F t_size t_waits t_within t_brackets t_partIsDue).bind fun R1 => (fX1_readLaw_L6 F t_codeN t_waitingN p1_size p1_count p1_tokensN p1_tokens p1_startsN p1_starts p1_valuesN p1_values F (0 : Int32) R1.1 R1.2.1 R1.2.2.1 R1.2.2.2.1 R1.2.2.2.2 t_code t_waiting p1_here p1_fault)
theorem CX1_readLaw {l : Launch} {D : va_G} {cy : Nat → ClassId} (F : Nat) (tA : Nat) (t_size : Int32) (t_waits : Int32) (t_within : Int32) (t_brackets : Int32) (t_partIsDue : Int32) (t_stackV : Value) (t_codeA : Nat) (t_codeN : Nat) (t_code : Nat → Int32) (t_waitingA : Nat) (t_waitingN : Nat) (t_waiting : Nat → Int32) (p1A : Nat) (p1_signsV : Value) (p1_size : Int32) (p1_count : Int32) (p1_here : Int32) (p1_fault : Int32) (p1_tokensA : Nat) (p1_tokensN : Nat) (p1_tokens : Nat → Int32) (p1_startsA : Nat) (p1_startsN : Nat) (p1_starts : Nat → Int32) (p1_valuesA : Nat) (p1_valuesN : Nat) (p1_values : Nat → Int64) (R : Int32 × (Int32) × (Int32) × (Int32) × (Int32) × (Int32) × (Nat → Int32) × (Nat → Int32) × (Int32) × (Int32)) (h : fX1_readLaw F t_codeN t_waitingN p1_size p1_count p1_tokensN p1_tokens p1_startsN p1_starts p1_valuesN p1_values t_size t_waits t_within t_brackets t_partIsDue t_code t_waiting p1_here p1_fault = some R) : vMet l D cy MX1_readLaw 3 0 0 [.ref tA, .ref p1A] (wX1_readLaw cy tA t_size t_waits t_within t_brackets t_partIsDue t_stackV t_codeA t_codeN t_code t_waitingA t_waitingN t_waiting p1A p1_signsV p1_size p1_count p1_here p1_fault p1_tokensA p1_tokensN p1_tokens p1_startsA p1_startsN p1_starts p1_valuesA p1_valuesN p1_values) (fun (r : Option Value) (w : va_W) => r = (some (.int R.1)) ∧ w = (wX1_readLaw cy tA R.2.1 R.2.2.1 R.2.2.2.1 R.2.2.2.2.1 R.2.2.2.2.2.1 t_stackV t_codeA t_codeN R.2.2.2.2.2.2.1 t_waitingA t_waitingN R.2.2.2.2.2.2.2.1 p1A p1_signsV p1_size p1_count R.2.2.2.2.2.2.2.2.1 R.2.2.2.2.2.2.2.2.2 p1_tokensA p1_tokensN p1_tokens p1_startsA p1_startsN p1_starts p1_valuesA p1_valuesN p1_values)) := by
  refine vMet.start (by decide +kernel) (Nat.le_of_ble_eq_true rfl) ?_
  generalize hQe : (fun (r : Option Value) (w : va_W) => r = (some (.int R.1)) ∧ w = (wX1_readLaw cy tA R.2.1 R.2.2.1 R.2.2.2.1 R.2.2.2.2.1 R.2.2.2.2.2.1 t_stackV t_codeA t_codeN R.2.2.2.2.2.2.1 t_waitingA t_waitingN R.2.2.2.2.2.2.2.1 p1A p1_signsV p1_size p1_count R.2.2.2.2.2.2.2.2.1 R.2.2.2.2.2.2.2.2.2 p1_tokensA p1_tokensN p1_tokens p1_startsA p1_startsN p1_starts p1_valuesA p1_valuesN p1_values)) = Q
  have hQ : Q (some (.int R.1)) (wX1_readLaw cy tA R.2.1 R.2.2.1 R.2.2.2.1 R.2.2.2.2.1 R.2.2.2.2.2.1 t_stackV t_codeA t_codeN R.2.2.2.2.2.2.1 t_waitingA t_waitingN R.2.2.2.2.2.2.2.1 p1A p1_signsV p1_size p1_count R.2.2.2.2.2.2.2.2.1 R.2.2.2.2.2.2.2.2.2 p1_tokensA p1_tokensN p1_tokens p1_startsA p1_startsN p1_starts p1_valuesA p1_valuesN p1_values) := by rw [← hQe]; exact ⟨rfl, rfl⟩
  show V l D cy MX1_readLaw 3 0 0 _ _ Q 0 [(0, .ref tA), (1, .ref p1A)] [] _ 0 0
  show V l D cy MX1_readLaw 3 0 0 [.ref tA, .ref p1A] _ Q 0 [(0, .ref tA), (1, .ref p1A)] [] (wX1_readLaw cy tA t_size t_waits t_within t_brackets t_partIsDue t_stackV t_codeA t_codeN t_code t_waitingA t_waitingN t_waiting p1A p1_signsV p1_size p1_count p1_here p1_fault p1_tokensA p1_tokensN p1_tokens p1_startsA p1_startsN p1_starts p1_valuesA p1_valuesN p1_values) 0 0
  unfold fX1_readLaw at h
  refine V.aload_n dX1_readLaw_0 rfl 0 rfl ?_
  obtain ⟨R1, hg1, h⟩ := Option.bind_eq_some_iff.mp h
  refine V.callV (As := []) (rest := []) (wc := (wX1_clear cy tA (.ref t_codeA) t_size (.ref t_waitingA) t_waits t_within t_brackets t_partIsDue t_stackV)) (wr := [(t_codeA, .inl (cy 1, t_codeN, .inl t_code)), (t_waitingA, .inl (cy 1, t_waitingN, .inl t_waiting)), (p1A, .inr (9, [p1_signsV, .int p1_size, .ref p1_tokensA, .ref p1_startsA, .ref p1_valuesA, .int p1_count, .int p1_here, .int p1_fault])), (p1_tokensA, .inl (cy 1, p1_tokensN, .inl p1_tokens)), (p1_startsA, .inl (cy 1, p1_startsN, .inl p1_starts)), (p1_valuesA, .inl (cy 2, p1_valuesN, .inr (.inl p1_values)))]) (q0 := 0) (CX1_clear F tA (.ref t_codeA) t_size (.ref t_waitingA) t_waits t_within t_brackets t_partIsDue t_stackV R1 hg1) kvX1_clear klX1_38 [0] [1, 2, 3, 4, 5, 6] rfl rfl (by decide) (by decide) (by decide) rfl rfl rfl rfl dX1_readLaw_1 ⟨by decide, by decide, by decide, by decide⟩ (Nat.le_of_ble_eq_true rfl) (fun r w1 hq => ?_)
  obtain ⟨rfl, rfl⟩ := hq
  refine V.cells (ws' := (wX1_readLaw cy tA R1.1 R1.2.1 R1.2.2.1 R1.2.2.2.1 R1.2.2.2.2 t_stackV t_codeA t_codeN t_code t_waitingA t_waitingN t_waiting p1A p1_signsV p1_size p1_count p1_here p1_fault p1_tokensA p1_tokensN p1_tokens p1_startsA p1_startsN p1_starts p1_valuesA p1_valuesN p1_values)) [6, 0, 1, 2, 3, 4, 5] (by decide) rfl ?_
  show V l D cy MX1_readLaw 3 0 0 _ _ _ 4 [(0, .ref tA), (1, .ref p1A)] [] (wX1_readLaw cy tA R1.1 R1.2.1 R1.2.2.1 R1.2.2.2.1 R1.2.2.2.2 t_stackV t_codeA t_codeN t_code t_waitingA t_waitingN t_waiting p1A p1_signsV p1_size p1_count p1_here p1_fault p1_tokensA p1_tokensN p1_tokens p1_startsA p1_startsN p1_starts p1_valuesA p1_valuesN p1_values) 0 0
  refine V.iconst (v := (0 : Int32)) dX1_readLaw_4 (by decide) ?_
  refine V.istore_n (lv' := [(2, .int (0 : Int32)), (0, .ref tA), (1, .ref p1A)]) dX1_readLaw_5 rfl (by decide) rfl ?_
  refine V.lvs [1, 2, 0] rfl ?_
  exact vX1_readLaw_L6 _ _ _ _ _ _ _ _ _ _ _ _ _ _ _ _ _ _ _ _  _ _ _ _ _ _ _ _ _ _ _ R h hQ
