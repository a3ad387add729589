theorem dX4_clear_0 : decode cX4_clear 0 = .ok (.aload_n 0, 1) := by decide +kernel
theorem dX4_clear_1 : decode cX4_clear 1 = .ok (.iconst 0, 1) := by decide +kernel
theorem dX4_clear_2 : decode cX4_clear 2 = .ok (.putfield 20, 3) := by decide +kernel
theorem dX4_clear_5 : decode cX4_clear 5 = .ok (.return_, 1) := by decide +kernel
def wX4_clear (cy : Nat → ClassId) (tA : Nat) (t_rowsV : Value) (t_oldest : Int32) (t_size : Int32) : va_W :=
  [(tA, .inr (4, [t_rowsV, .int t_oldest, .int t_size]))]
noncomputable def fX4_clear (F : Nat) (t_size : Int32) : Option ((Int32)) :=
  some (0 : Int32)
theorem CX4_clear {l : Launch} {D : va_G} {cy : Nat → ClassId} (F : Nat) (tA : Nat) (t_rowsV : Value) (t_oldest : Int32) (t_size : Int32) (R : (Int32)) (h : fX4_clear F t_size = some R) : vMet l D cy MX4_clear 0 0 0 [.ref tA] (wX4_clear cy tA t_rowsV t_oldest t_size) (fun (r : Option Value) (w : va_W) => r = none ∧ w = (wX4_clear cy tA t_rowsV t_oldest R)) := by
  refine vMet.start (by decide +kernel) (Nat.le_of_ble_eq_true rfl) ?_
  generalize hQe : (fun (r : Option Value) (w : va_W) => r = none ∧ w = (wX4_clear cy tA t_rowsV t_oldest R)) = Q
  have hQ : Q none (wX4_clear cy tA t_rowsV t_oldest R) := by rw [← hQe]; exact ⟨rfl, rfl⟩
  show V l D cy MX4_clear 0 0 0 _ _ Q 0 [(0, .ref tA)] [] _ 0 0
  show V l D cy MX4_clear 0 0 0 [.ref tA] _ Q 0 [(0, .ref tA)] [] (wX4_clear cy tA t_rowsV t_oldest t_size) 0 0
  unfold fX4_clear at h
  refine V.aload_n dX4_clear_0 rfl 0 rfl ?_
  refine V.iconst (v := (0 : Int32)) dX4_clear_1 (by decide) ?_
  refine V.put (ws' := (wX4_clear cy tA t_rowsV t_oldest (0 : Int32))) kfX4 tyX4 tyX4_ok nmX4 0 rfl rfl 2 (by decide) klX4_20 rfl (tyX4_ok 2 (by decide)) rfl rfl (Nat.le_of_ble_eq_true rfl) dX4_clear_2 rfl ?_
  have e9 := Option.some.inj h; subst e9
  exact V.vret rfl dX4_clear_5 (Nat.le_refl _) (Nat.le_refl _) hQ
