theorem dX9_init_0 : decode cX9_init 0 = .ok (.aload_n 0, 1) := by decide +kernel
theorem dX9_init_1 : decode cX9_init 1 = .ok (.invokespecial 1, 3) := by decide +kernel
theorem dX9_init_4 : decode cX9_init 4 = .ok (.aload_n 0, 1) := by decide +kernel
theorem dX9_init_5 : decode cX9_init 5 = .ok (.sipush 1000, 3) := by decide +kernel
theorem dX9_init_8 : decode cX9_init 8 = .ok (.newarray .byte, 2) := by decide +kernel
theorem dX9_init_10 : decode cX9_init 10 = .ok (.putfield 9, 3) := by decide +kernel
theorem dX9_init_13 : decode cX9_init 13 = .ok (.aload_n 0, 1) := by decide +kernel
theorem dX9_init_14 : decode cX9_init 14 = .ok (.sipush 1001, 3) := by decide +kernel
theorem dX9_init_17 : decode cX9_init 17 = .ok (.newarray .int, 2) := by decide +kernel
theorem dX9_init_19 : decode cX9_init 19 = .ok (.putfield 13, 3) := by decide +kernel
theorem dX9_init_22 : decode cX9_init 22 = .ok (.aload_n 0, 1) := by decide +kernel
theorem dX9_init_23 : decode cX9_init 23 = .ok (.sipush 1001, 3) := by decide +kernel
theorem dX9_init_26 : decode cX9_init 26 = .ok (.newarray .int, 2) := by decide +kernel
theorem dX9_init_28 : decode cX9_init 28 = .ok (.putfield 17, 3) := by decide +kernel
theorem dX9_init_31 : decode cX9_init 31 = .ok (.aload_n 0, 1) := by decide +kernel
theorem dX9_init_32 : decode cX9_init 32 = .ok (.sipush 1001, 3) := by decide +kernel
theorem dX9_init_35 : decode cX9_init 35 = .ok (.newarray .long, 2) := by decide +kernel
theorem dX9_init_37 : decode cX9_init 37 = .ok (.putfield 20, 3) := by decide +kernel
theorem dX9_init_40 : decode cX9_init 40 = .ok (.return_, 1) := by decide +kernel
set_option maxRecDepth 100000 in
theorem CX9_init {l : Launch} {D : va_G} {cy : Nat → ClassId} (tA : Nat) : vMet l D cy MX9_init 0 4 4003 [.ref tA] [(tA, .inr (9, [.null, .int 0, .null, .null, .null, .int 0, .int 0, .int 0]))] (fun (r : Option Value) (w : va_W) => ∃ ad : Nat → Nat, r = none ∧ w = [(tA, .inr (9, [.ref (ad 0), .int 0, .ref (ad 1), .ref (ad 2), .ref (ad 3), .int 0, .int 0, .int 0])), (ad 0, .inl (cy 0, 1000, .inl (fun _ => 0))), (ad 1, .inl (cy 1, 1001, .inl (fun _ => 0))), (ad 2, .inl (cy 1, 1001, .inl (fun _ => 0))), (ad 3, .inl (cy 2, 1001, .inr (.inl (fun _ => 0))))]) := by
  refine vMet.start (by decide +kernel) (Nat.le_of_ble_eq_true rfl) ?_
  show V l D cy MX9_init 0 4 4003 _ _ _ 0 [(0, .ref tA)] [] [(tA, .inr (9, [.null, .int 0, .null, .null, .null, .int 0, .int 0, .int 0]))] 0 0
  refine V.aload_n dX9_init_0 rfl 0 rfl ?_
  refine V.objInit klX9_1 kp_obj.1 kp_obj.2 dX9_init_1 (Nat.le_of_ble_eq_true rfl) ?_
  refine V.aload_n dX9_init_4 rfl 0 rfl ?_
  refine V.sipush (v := (1000 : Int32)) dX9_init_5 (by decide) ?_
  refine V.newa (atype := .byte) (ty := .byte) (N' := 1000) (1000, .inl (fun _ => 0)) 0 ka_0 rfl rfl (fun _ => rfl) (by decide) (by decide) (by decide) (by decide) (by decide) dX9_init_8 (fun q0 => ?_)
  show V l D cy MX9_init 0 4 4003 _ _ _ 10 [(0, .ref tA)] [.ref q0, .ref tA] [(tA, .inr (9, [.null, .int 0, .null, .null, .null, .int 0, .int 0, .int 0])), (q0, .inl (cy 0, 1000, .inl (fun _ => 0)))] 1 1000
  refine V.putF (ws' := [(tA, .inr (9, [.ref q0, .int 0, .null, .null, .null, .int 0, .int 0, .int 0])), (q0, .inl (cy 0, 1000, .inl (fun _ => 0)))]) kfX9 tyX9 tyX9_ok nmX9 0 rfl rfl 0 (by decide) klX9_9 rfl rfl rfl (tyX9_ok 0 (by decide)) rfl rfl (Nat.le_of_ble_eq_true rfl) dX9_init_10 rfl ?_
  refine V.aload_n dX9_init_13 rfl 0 rfl ?_
  refine V.sipush (v := (1001 : Int32)) dX9_init_14 (by decide) ?_
  refine V.newa (atype := .int) (ty := .int) (N' := 1001) (1001, .inl (fun _ => 0)) 1 ka_1 rfl rfl (fun _ => rfl) (by decide) (by decide) (by decide) (by decide) (by decide) dX9_init_17 (fun q1 => ?_)
  show V l D cy MX9_init 0 4 4003 _ _ _ 19 [(0, .ref tA)] [.ref q1, .ref tA] [(tA, .inr (9, [.ref q0, .int 0, .null, .null, .null, .int 0, .int 0, .int 0])), (q0, .inl (cy 0, 1000, .inl (fun _ => 0))), (q1, .inl (cy 1, 1001, .inl (fun _ => 0)))] 2 2001
  refine V.putF (ws' := [(tA, .inr (9, [.ref q0, .int 0, .ref q1, .null, .null, .int 0, .int 0, .int 0])), (q0, .inl (cy 0, 1000, .inl (fun _ => 0))), (q1, .inl (cy 1, 1001, .inl (fun _ => 0)))]) kfX9 tyX9 tyX9_ok nmX9 0 rfl rfl 2 (by decide) klX9_13 rfl rfl rfl (tyX9_ok 2 (by decide)) rfl rfl (Nat.le_of_ble_eq_true rfl) dX9_init_19 rfl ?_
  refine V.aload_n dX9_init_22 rfl 0 rfl ?_
  refine V.sipush (v := (1001 : Int32)) dX9_init_23 (by decide) ?_
  refine V.newa (atype := .int) (ty := .int) (N' := 1001) (1001, .inl (fun _ => 0)) 1 ka_1 rfl rfl (fun _ => rfl) (by decide) (by decide) (by decide) (by decide) (by decide) dX9_init_26 (fun q2 => ?_)
  show V l D cy MX9_init 0 4 4003 _ _ _ 28 [(0, .ref tA)] [.ref q2, .ref tA] [(tA, .inr (9, [.ref q0, .int 0, .ref q1, .null, .null, .int 0, .int 0, .int 0])), (q0, .inl (cy 0, 1000, .inl (fun _ => 0))), (q1, .inl (cy 1, 1001, .inl (fun _ => 0))), (q2, .inl (cy 1, 1001, .inl (fun _ => 0)))] 3 3002
  refine V.putF (ws' := [(tA, .inr (9, [.ref q0, .int 0, .ref q1, .ref q2, .null, .int 0, .int 0, .int 0])), (q0, .inl (cy 0, 1000, .inl (fun _ => 0))), (q1, .inl (cy 1, 1001, .inl (fun _ => 0))), (q2, .inl (cy 1, 1001, .inl (fun _ => 0)))]) kfX9 tyX9 tyX9_ok nmX9 0 rfl rfl 3 (by decide) klX9_17 rfl rfl rfl (tyX9_ok 3 (by decide)) rfl rfl (Nat.le_of_ble_eq_true rfl) dX9_init_28 rfl ?_
  refine V.aload_n dX9_init_31 rfl 0 rfl ?_
  refine V.sipush (v := (1001 : Int32)) dX9_init_32 (by decide) ?_
  refine V.newa (atype := .long) (ty := .long) (N' := 1001) (1001, .inr (.inl (fun _ => 0))) 2 ka_2 rfl rfl (fun _ => rfl) (by decide) (by decide) (by decide) (by decide) (by decide) dX9_init_35 (fun q3 => ?_)
  show V l D cy MX9_init 0 4 4003 _ _ _ 37 [(0, .ref tA)] [.ref q3, .ref tA] [(tA, .inr (9, [.ref q0, .int 0, .ref q1, .ref q2, .null, .int 0, .int 0, .int 0])), (q0, .inl (cy 0, 1000, .inl (fun _ => 0))), (q1, .inl (cy 1, 1001, .inl (fun _ => 0))), (q2, .inl (cy 1, 1001, .inl (fun _ => 0))), (q3, .inl (cy 2, 1001, .inr (.inl (fun _ => 0))))] 4 4003
  refine V.putF (ws' := [(tA, .inr (9, [.ref q0, .int 0, .ref q1, .ref q2, .ref q3, .int 0, .int 0, .int 0])), (q0, .inl (cy 0, 1000, .inl (fun _ => 0))), (q1, .inl (cy 1, 1001, .inl (fun _ => 0))), (q2, .inl (cy 1, 1001, .inl (fun _ => 0))), (q3, .inl (cy 2, 1001, .inr (.inl (fun _ => 0))))]) kfX9 tyX9 tyX9_ok nmX9 0 rfl rfl 4 (by decide) klX9_20 rfl rfl rfl (tyX9_ok 4 (by decide)) rfl rfl (Nat.le_of_ble_eq_true rfl) dX9_init_37 rfl ?_
  exact V.vret rfl dX9_init_40 (by decide) (by decide) ⟨fun k => ([q0, q1, q2, q3] : List Nat).getD k 0, rfl, rfl⟩
theorem dX1_init_0 : decode cX1_init 0 = .ok (.aload_n 0, 1) := by decide +kernel
theorem dX1_init_1 : decode cX1_init 1 = .ok (.invokespecial 1, 3) := by decide +kernel
theorem dX1_init_4 : decode cX1_init 4 = .ok (.aload_n 0, 1) := by decide +kernel
theorem dX1_init_5 : decode cX1_init 5 = .ok (.sipush 1000, 3) := by decide +kernel
theorem dX1_init_8 : decode cX1_init 8 = .ok (.newarray .int, 2) := by decide +kernel
theorem dX1_init_10 : decode cX1_init 10 = .ok (.putfield 9, 3) := by decide +kernel
theorem dX1_init_13 : decode cX1_init 13 = .ok (.aload_n 0, 1) := by decide +kernel
theorem dX1_init_14 : decode cX1_init 14 = .ok (.bipush 64, 2) := by decide +kernel
theorem dX1_init_16 : decode cX1_init 16 = .ok (.newarray .int, 2) := by decide +kernel
theorem dX1_init_18 : decode cX1_init 18 = .ok (.putfield 15, 3) := by decide +kernel
theorem dX1_init_21 : decode cX1_init 21 = .ok (.aload_n 0, 1) := by decide +kernel
theorem dX1_init_22 : decode cX1_init 22 = .ok (.bipush 64, 2) := by decide +kernel
theorem dX1_init_24 : decode cX1_init 24 = .ok (.newarray .int, 2) := by decide +kernel
theorem dX1_init_26 : decode cX1_init 26 = .ok (.putfield 18, 3) := by decide +kernel
theorem dX1_init_29 : decode cX1_init 29 = .ok (.return_, 1) := by decide +kernel
set_option maxRecDepth 100000 in
theorem CX1_init {l : Launch} {D : va_G} {cy : Nat → ClassId} (tA : Nat) : vMet l D cy MX1_init 0 3 1128 [.ref tA] [(tA, .inr (1, [.null, .int 0, .null, .int 0, .int 0, .int 0, .int 0, .null]))] (fun (r : Option Value) (w : va_W) => ∃ ad : Nat → Nat, r = none ∧ w = [(tA, .inr (1, [.ref (ad 0), .int 0, .ref (ad 1), .int 0, .int 0, .int 0, .int 0, .ref (ad 2)])), (ad 0, .inl (cy 1, 1000, .inl (fun _ => 0))), (ad 1, .inl (cy 1, 64, .inl (fun _ => 0))), (ad 2, .inl (cy 1, 64, .inl (fun _ => 0)))]) := by
  refine vMet.start (by decide +kernel) (Nat.le_of_ble_eq_true rfl) ?_
  show V l D cy MX1_init 0 3 1128 _ _ _ 0 [(0, .ref tA)] [] [(tA, .inr (1, [.null, .int 0, .null, .int 0, .int 0, .int 0, .int 0, .null]))] 0 0
  refine V.aload_n dX1_init_0 rfl 0 rfl ?_
  refine V.objInit klX1_1 kp_obj.1 kp_obj.2 dX1_init_1 (Nat.le_of_ble_eq_true rfl) ?_
  refine V.aload_n dX1_init_4 rfl 0 rfl ?_
  refine V.sipush (v := (1000 : Int32)) dX1_init_5 (by decide) ?_
  refine V.newa (atype := .int) (ty := .int) (N' := 1000) (1000, .inl (fun _ => 0)) 1 ka_1 rfl rfl (fun _ => rfl) (by decide) (by decide) (by decide) (by decide) (by decide) dX1_init_8 (fun q0 => ?_)
  show V l D cy MX1_init 0 3 1128 _ _ _ 10 [(0, .ref tA)] [.ref q0, .ref tA] [(tA, .inr (1, [.null, .int 0, .null, .int 0, .int 0, .int 0, .int 0, .null])), (q0, .inl (cy 1, 1000, .inl (fun _ => 0)))] 1 1000
  refine V.putF (ws' := [(tA, .inr (1, [.ref q0, .int 0, .null, .int 0, .int 0, .int 0, .int 0, .null])), (q0, .inl (cy 1, 1000, .inl (fun _ => 0)))]) kfX1 tyX1 tyX1_ok nmX1 0 rfl rfl 0 (by decide) klX1_9 rfl rfl rfl (tyX1_ok 0 (by decide)) rfl rfl (Nat.le_of_ble_eq_true rfl) dX1_init_10 rfl ?_
  refine V.aload_n dX1_init_13 rfl 0 rfl ?_
  refine V.bipush (v := (64 : Int32)) dX1_init_14 (by decide) ?_
  refine V.newa (atype := .int) (ty := .int) (N' := 64) (64, .inl (fun _ => 0)) 1 ka_1 rfl rfl (fun _ => rfl) (by decide) (by decide) (by decide) (by decide) (by decide) dX1_init_16 (fun q1 => ?_)
  show V l D cy MX1_init 0 3 1128 _ _ _ 18 [(0, .ref tA)] [.ref q1, .ref tA] [(tA, .inr (1, [.ref q0, .int 0, .null, .int 0, .int 0, .int 0, .int 0, .null])), (q0, .inl (cy 1, 1000, .inl (fun _ => 0))), (q1, .inl (cy 1, 64, .inl (fun _ => 0)))] 2 1064
  refine V.putF (ws' := [(tA, .inr (1, [.ref q0, .int 0, .ref q1, .int 0, .int 0, .int 0, .int 0, .null])), (q0, .inl (cy 1, 1000, .inl (fun _ => 0))), (q1, .inl (cy 1, 64, .inl (fun _ => 0)))]) kfX1 tyX1 tyX1_ok nmX1 0 rfl rfl 2 (by decide) klX1_15 rfl rfl rfl (tyX1_ok 2 (by decide)) rfl rfl (Nat.le_of_ble_eq_true rfl) dX1_init_18 rfl ?_
  refine V.aload_n dX1_init_21 rfl 0 rfl ?_
  refine V.bipush (v := (64 : Int32)) dX1_init_22 (by decide) ?_
  refine V.newa (atype := .int) (ty := .int) (N' := 64) (64, .inl (fun _ => 0)) 1 ka_1 rfl rfl (fun _ => rfl) (by decide) (by decide) (by decide) (by decide) (by decide) dX1_init_24 (fun q2 => ?_)
  show V l D cy MX1_init 0 3 1128 _ _ _ 26 [(0, .ref tA)] [.ref q2, .ref tA] [(tA, .inr (1, [.ref q0, .int 0, .ref q1, .int 0, .int 0, .int 0, .int 0, .null])), (q0, .inl (cy 1, 1000, .inl (fun _ => 0))), (q1, .inl (cy 1, 64, .inl (fun _ => 0))), (q2, .inl (cy 1, 64, .inl (fun _ => 0)))] 3 1128
  refine V.putF (ws' := [(tA, .inr (1, [.ref q0, .int 0, .ref q1, .int 0, .int 0, .int 0, .int 0, .ref q2])), (q0, .inl (cy 1, 1000, .inl (fun _ => 0))), (q1, .inl (cy 1, 64, .inl (fun _ => 0))), (q2, .inl (cy 1, 64, .inl (fun _ => 0)))]) kfX1 tyX1 tyX1_ok nmX1 0 rfl rfl 7 (by decide) klX1_18 rfl rfl rfl (tyX1_ok 7 (by decide)) rfl rfl (Nat.le_of_ble_eq_true rfl) dX1_init_26 rfl ?_
  exact V.vret rfl dX1_init_29 (by decide) (by decide) ⟨fun k => ([q0, q1, q2] : List Nat).getD k 0, rfl, rfl⟩
theorem dX7_init_0 : decode cX7_init 0 = .ok (.aload_n 0, 1) := by decide +kernel
theorem dX7_init_1 : decode cX7_init 1 = .ok (.invokespecial 3, 3) := by decide +kernel
theorem dX7_init_4 : decode cX7_init 4 = .ok (.aload_n 0, 1) := by decide +kernel
theorem dX7_init_5 : decode cX7_init 5 = .ok (.iload_n 1, 1) := by decide +kernel
theorem dX7_init_6 : decode cX7_init 6 = .ok (.ifCond .le 7, 3) := by decide +kernel
theorem dX7_init_9 : decode cX7_init 9 = .ok (.iload_n 1, 1) := by decide +kernel
theorem dX7_init_10 : decode cX7_init 10 = .ok (.goto 4, 3) := by decide +kernel
theorem dX7_init_13 : decode cX7_init 13 = .ok (.iconst 0, 1) := by decide +kernel
theorem dX7_init_14 : decode cX7_init 14 = .ok (.newarray .int, 2) := by decide +kernel
theorem dX7_init_16 : decode cX7_init 16 = .ok (.putfield 9, 3) := by decide +kernel
theorem dX7_init_19 : decode cX7_init 19 = .ok (.return_, 1) := by decide +kernel
set_option maxRecDepth 100000 in
theorem CX7_init_40 {l : Launch} {D : va_G} {cy : Nat → ClassId} (tA : Nat) : vMet l D cy MX7_init 0 1 40 [.ref tA, .int (40 : Int32)] [(tA, .inr (7, [.null, .int 0]))] (fun (r : Option Value) (w : va_W) => ∃ ad : Nat → Nat, r = none ∧ w = [(tA, .inr (7, [.ref (ad 0), .int 0])), (ad 0, .inl (cy 1, 40, .inl (fun _ => 0)))]) := by
  refine vMet.start (by decide +kernel) (Nat.le_of_ble_eq_true rfl) ?_
  show V l D cy MX7_init 0 1 40 _ _ _ 0 [(0, .ref tA), (1, .int (40 : Int32))] [] [(tA, .inr (7, [.null, .int 0]))] 0 0
  refine V.aload_n dX7_init_0 rfl 0 rfl ?_
  refine V.objInit klX7_3 kp_obj.1 kp_obj.2 dX7_init_1 (Nat.le_of_ble_eq_true rfl) ?_
  refine V.aload_n dX7_init_4 rfl 0 rfl ?_
  refine V.iload_n dX7_init_5 rfl 1 rfl ?_
  refine V.if_le (tgt := 13) dX7_init_6 (by decide) (fun hc => absurd hc (by decide)) (fun _ => ?_)
  refine V.iload_n dX7_init_9 rfl 1 rfl ?_
  refine V.goto (tgt := 14) dX7_init_10 (by decide) ?_
  refine V.newa (atype := .int) (ty := .int) (N' := 40) (40, .inl (fun _ => 0)) 1 ka_1 rfl rfl (fun _ => rfl) (by decide) (by decide) (by decide) (by decide) (by decide) dX7_init_14 (fun q0 => ?_)
  show V l D cy MX7_init 0 1 40 _ _ _ 16 [(0, .ref tA), (1, .int (40 : Int32))] [.ref q0, .ref tA] [(tA, .inr (7, [.null, .int 0])), (q0, .inl (cy 1, 40, .inl (fun _ => 0)))] 1 40
  refine V.putF (ws' := [(tA, .inr (7, [.ref q0, .int 0])), (q0, .inl (cy 1, 40, .inl (fun _ => 0)))]) kfX7 tyX7 tyX7_ok nmX7 0 rfl rfl 0 (by decide) klX7_9 rfl rfl rfl (tyX7_ok 0 (by decide)) rfl rfl (Nat.le_of_ble_eq_true rfl) dX7_init_16 rfl ?_
  exact V.vret rfl dX7_init_19 (by decide) (by decide) ⟨fun k => ([q0] : List Nat).getD k 0, rfl, rfl⟩
set_option maxRecDepth 100000 in
theorem CX7_init_24 {l : Launch} {D : va_G} {cy : Nat → ClassId} (tA : Nat) : vMet l D cy MX7_init 0 1 24 [.ref tA, .int (24 : Int32)] [(tA, .inr (7, [.null, .int 0]))] (fun (r : Option Value) (w : va_W) => ∃ ad : Nat → Nat, r = none ∧ w = [(tA, .inr (7, [.ref (ad 0), .int 0])), (ad 0, .inl (cy 1, 24, .inl (fun _ => 0)))]) := by
  refine vMet.start (by decide +kernel) (Nat.le_of_ble_eq_true rfl) ?_
  show V l D cy MX7_init 0 1 24 _ _ _ 0 [(0, .ref tA), (1, .int (24 : Int32))] [] [(tA, .inr (7, [.null, .int 0]))] 0 0
  refine V.aload_n dX7_init_0 rfl 0 rfl ?_
  refine V.objInit klX7_3 kp_obj.1 kp_obj.2 dX7_init_1 (Nat.le_of_ble_eq_true rfl) ?_
  refine V.aload_n dX7_init_4 rfl 0 rfl ?_
  refine V.iload_n dX7_init_5 rfl 1 rfl ?_
  refine V.if_le (tgt := 13) dX7_init_6 (by decide) (fun hc => absurd hc (by decide)) (fun _ => ?_)
  refine V.iload_n dX7_init_9 rfl 1 rfl ?_
  refine V.goto (tgt := 14) dX7_init_10 (by decide) ?_
  refine V.newa (atype := .int) (ty := .int) (N' := 24) (24, .inl (fun _ => 0)) 1 ka_1 rfl rfl (fun _ => rfl) (by decide) (by decide) (by decide) (by decide) (by decide) dX7_init_14 (fun q0 => ?_)
  show V l D cy MX7_init 0 1 24 _ _ _ 16 [(0, .ref tA), (1, .int (24 : Int32))] [.ref q0, .ref tA] [(tA, .inr (7, [.null, .int 0])), (q0, .inl (cy 1, 24, .inl (fun _ => 0)))] 1 24
  refine V.putF (ws' := [(tA, .inr (7, [.ref q0, .int 0])), (q0, .inl (cy 1, 24, .inl (fun _ => 0)))]) kfX7 tyX7 tyX7_ok nmX7 0 rfl rfl 0 (by decide) klX7_9 rfl rfl rfl (tyX7_ok 0 (by decide)) rfl rfl (Nat.le_of_ble_eq_true rfl) dX7_init_16 rfl ?_
  exact V.vret rfl dX7_init_19 (by decide) (by decide) ⟨fun k => ([q0] : List Nat).getD k 0, rfl, rfl⟩
theorem dX5_init_0 : decode cX5_init 0 = .ok (.aload_n 0, 1) := by decide +kernel
theorem dX5_init_1 : decode cX5_init 1 = .ok (.invokespecial 3, 3) := by decide +kernel
theorem dX5_init_4 : decode cX5_init 4 = .ok (.iload_n 1, 1) := by decide +kernel
theorem dX5_init_5 : decode cX5_init 5 = .ok (.ifCond .le 7, 3) := by decide +kernel
theorem dX5_init_8 : decode cX5_init 8 = .ok (.iload_n 1, 1) := by decide +kernel
theorem dX5_init_9 : decode cX5_init 9 = .ok (.goto 4, 3) := by decide +kernel
theorem dX5_init_12 : decode cX5_init 12 = .ok (.iconst 0, 1) := by decide +kernel
theorem dX5_init_13 : decode cX5_init 13 = .ok (.istore_n 2, 1) := by decide +kernel
theorem dX5_init_14 : decode cX5_init 14 = .ok (.aload_n 0, 1) := by decide +kernel
theorem dX5_init_15 : decode cX5_init 15 = .ok (.iload_n 2, 1) := by decide +kernel
theorem dX5_init_16 : decode cX5_init 16 = .ok (.newarray .int, 2) := by decide +kernel
theorem dX5_init_18 : decode cX5_init 18 = .ok (.putfield 9, 3) := by decide +kernel
theorem dX5_init_21 : decode cX5_init 21 = .ok (.aload_n 0, 1) := by decide +kernel
theorem dX5_init_22 : decode cX5_init 22 = .ok (.iload_n 2, 1) := by decide +kernel
theorem dX5_init_23 : decode cX5_init 23 = .ok (.newarray .int, 2) := by decide +kernel
theorem dX5_init_25 : decode cX5_init 25 = .ok (.putfield 15, 3) := by decide +kernel
theorem dX5_init_28 : decode cX5_init 28 = .ok (.aload_n 0, 1) := by decide +kernel
theorem dX5_init_29 : decode cX5_init 29 = .ok (.iload_n 2, 1) := by decide +kernel
theorem dX5_init_30 : decode cX5_init 30 = .ok (.newarray .boolean, 2) := by decide +kernel
theorem dX5_init_32 : decode cX5_init 32 = .ok (.putfield 18, 3) := by decide +kernel
theorem dX5_init_35 : decode cX5_init 35 = .ok (.return_, 1) := by decide +kernel
set_option maxRecDepth 100000 in
theorem CX5_init_96 {l : Launch} {D : va_G} {cy : Nat → ClassId} (tA : Nat) : vMet l D cy MX5_init 0 3 288 [.ref tA, .int (96 : Int32)] [(tA, .inr (5, [.null, .null, .null, .int 0]))] (fun (r : Option Value) (w : va_W) => ∃ ad : Nat → Nat, r = none ∧ w = [(tA, .inr (5, [.ref (ad 0), .ref (ad 1), .ref (ad 2), .int 0])), (ad 0, .inl (cy 1, 96, .inl (fun _ => 0))), (ad 1, .inl (cy 1, 96, .inl (fun _ => 0))), (ad 2, .inl (cy 3, 96, .inl (fun _ => 0)))]) := by
  refine vMet.start (by decide +kernel) (Nat.le_of_ble_eq_true rfl) ?_
  show V l D cy MX5_init 0 3 288 _ _ _ 0 [(0, .ref tA), (1, .int (96 : Int32))] [] [(tA, .inr (5, [.null, .null, .null, .int 0]))] 0 0
  refine V.aload_n dX5_init_0 rfl 0 rfl ?_
  refine V.objInit klX5_3 kp_obj.1 kp_obj.2 dX5_init_1 (Nat.le_of_ble_eq_true rfl) ?_
  refine V.iload_n dX5_init_4 rfl 1 rfl ?_
  refine V.if_le (tgt := 12) dX5_init_5 (by decide) (fun hc => absurd hc (by decide)) (fun _ => ?_)
  refine V.iload_n dX5_init_8 rfl 1 rfl ?_
  refine V.goto (tgt := 13) dX5_init_9 (by decide) ?_
  refine V.istore_n (lv' := [(2, .int (96 : Int32)), (0, .ref tA), (1, .int (96 : Int32))]) dX5_init_13 rfl (by decide) rfl ?_
  refine V.aload_n dX5_init_14 rfl 1 rfl ?_
  refine V.iload_n dX5_init_15 rfl 0 rfl ?_
  refine V.newa (atype := .int) (ty := .int) (N' := 96) (96, .inl (fun _ => 0)) 1 ka_1 rfl rfl (fun _ => rfl) (by decide) (by decide) (by decide) (by decide) (by decide) dX5_init_16 (fun q0 => ?_)
  show V l D cy MX5_init 0 3 288 _ _ _ 18 [(2, .int (96 : Int32)), (0, .ref tA), (1, .int (96 : Int32))] [.ref q0, .ref tA] [(tA, .inr (5, [.null, .null, .null, .int 0])), (q0, .inl (cy 1, 96, .inl (fun _ => 0)))] 1 96
  refine V.putF (ws' := [(tA, .inr (5, [.ref q0, .null, .null, .int 0])), (q0, .inl (cy 1, 96, .inl (fun _ => 0)))]) kfX5 tyX5 tyX5_ok nmX5 0 rfl rfl 0 (by decide) klX5_9 rfl rfl rfl (tyX5_ok 0 (by decide)) rfl rfl (Nat.le_of_ble_eq_true rfl) dX5_init_18 rfl ?_
  refine V.aload_n dX5_init_21 rfl 1 rfl ?_
  refine V.iload_n dX5_init_22 rfl 0 rfl ?_
  refine V.newa (atype := .int) (ty := .int) (N' := 96) (96, .inl (fun _ => 0)) 1 ka_1 rfl rfl (fun _ => rfl) (by decide) (by decide) (by decide) (by decide) (by decide) dX5_init_23 (fun q1 => ?_)
  show V l D cy MX5_init 0 3 288 _ _ _ 25 [(2, .int (96 : Int32)), (0, .ref tA), (1, .int (96 : Int32))] [.ref q1, .ref tA] [(tA, .inr (5, [.ref q0, .null, .null, .int 0])), (q0, .inl (cy 1, 96, .inl (fun _ => 0))), (q1, .inl (cy 1, 96, .inl (fun _ => 0)))] 2 192
  refine V.putF (ws' := [(tA, .inr (5, [.ref q0, .ref q1, .null, .int 0])), (q0, .inl (cy 1, 96, .inl (fun _ => 0))), (q1, .inl (cy 1, 96, .inl (fun _ => 0)))]) kfX5 tyX5 tyX5_ok nmX5 0 rfl rfl 1 (by decide) klX5_15 rfl rfl rfl (tyX5_ok 1 (by decide)) rfl rfl (Nat.le_of_ble_eq_true rfl) dX5_init_25 rfl ?_
  refine V.aload_n dX5_init_28 rfl 1 rfl ?_
  refine V.iload_n dX5_init_29 rfl 0 rfl ?_
  refine V.newa (atype := .boolean) (ty := .boolean) (N' := 96) (96, .inl (fun _ => 0)) 3 ka_3 rfl rfl (fun _ => rfl) (by decide) (by decide) (by decide) (by decide) (by decide) dX5_init_30 (fun q2 => ?_)
  show V l D cy MX5_init 0 3 288 _ _ _ 32 [(2, .int (96 : Int32)), (0, .ref tA), (1, .int (96 : Int32))] [.ref q2, .ref tA] [(tA, .inr (5, [.ref q0, .ref q1, .null, .int 0])), (q0, .inl (cy 1, 96, .inl (fun _ => 0))), (q1, .inl (cy 1, 96, .inl (fun _ => 0))), (q2, .inl (cy 3, 96, .inl (fun _ => 0)))] 3 288
  refine V.putF (ws' := [(tA, .inr (5, [.ref q0, .ref q1, .ref q2, .int 0])), (q0, .inl (cy 1, 96, .inl (fun _ => 0))), (q1, .inl (cy 1, 96, .inl (fun _ => 0))), (q2, .inl (cy 3, 96, .inl (fun _ => 0)))]) kfX5 tyX5 tyX5_ok nmX5 0 rfl rfl 2 (by decide) klX5_18 rfl rfl rfl (tyX5_ok 2 (by decide)) rfl rfl (Nat.le_of_ble_eq_true rfl) dX5_init_32 rfl ?_
  exact V.vret rfl dX5_init_35 (by decide) (by decide) ⟨fun k => ([q0, q1, q2] : List Nat).getD k 0, rfl, rfl⟩
set_option maxRecDepth 100000 in
theorem CX5_init_24 {l : Launch} {D : va_G} {cy : Nat → ClassId} (tA : Nat) : vMet l D cy MX5_init 0 3 72 [.ref tA, .int (24 : Int32)] [(tA, .inr (5, [.null, .null, .null, .int 0]))] (fun (r : Option Value) (w : va_W) => ∃ ad : Nat → Nat, r = none ∧ w = [(tA, .inr (5, [.ref (ad 0), .ref (ad 1), .ref (ad 2), .int 0])), (ad 0, .inl (cy 1, 24, .inl (fun _ => 0))), (ad 1, .inl (cy 1, 24, .inl (fun _ => 0))), (ad 2, .inl (cy 3, 24, .inl (fun _ => 0)))]) := by
  refine vMet.start (by decide +kernel) (Nat.le_of_ble_eq_true rfl) ?_
  show V l D cy MX5_init 0 3 72 _ _ _ 0 [(0, .ref tA), (1, .int (24 : Int32))] [] [(tA, .inr (5, [.null, .null, .null, .int 0]))] 0 0
  refine V.aload_n dX5_init_0 rfl 0 rfl ?_
  refine V.objInit klX5_3 kp_obj.1 kp_obj.2 dX5_init_1 (Nat.le_of_ble_eq_true rfl) ?_
  refine V.iload_n dX5_init_4 rfl 1 rfl ?_
  refine V.if_le (tgt := 12) dX5_init_5 (by decide) (fun hc => absurd hc (by decide)) (fun _ => ?_)
  refine V.iload_n dX5_init_8 rfl 1 rfl ?_
  refine V.goto (tgt := 13) dX5_init_9 (by decide) ?_
  refine V.istore_n (lv' := [(2, .int (24 : Int32)), (0, .ref tA), (1, .int (24 : Int32))]) dX5_init_13 rfl (by decide) rfl ?_
  refine V.aload_n dX5_init_14 rfl 1 rfl ?_
  refine V.iload_n dX5_init_15 rfl 0 rfl ?_
  refine V.newa (atype := .int) (ty := .int) (N' := 24) (24, .inl (fun _ => 0)) 1 ka_1 rfl rfl (fun _ => rfl) (by decide) (by decide) (by decide) (by decide) (by decide) dX5_init_16 (fun q0 => ?_)
  show V l D cy MX5_init 0 3 72 _ _ _ 18 [(2, .int (24 : Int32)), (0, .ref tA), (1, .int (24 : Int32))] [.ref q0, .ref tA] [(tA, .inr (5, [.null, .null, .null, .int 0])), (q0, .inl (cy 1, 24, .inl (fun _ => 0)))] 1 24
  refine V.putF (ws' := [(tA, .inr (5, [.ref q0, .null, .null, .int 0])), (q0, .inl (cy 1, 24, .inl (fun _ => 0)))]) kfX5 tyX5 tyX5_ok nmX5 0 rfl rfl 0 (by decide) klX5_9 rfl rfl rfl (tyX5_ok 0 (by decide)) rfl rfl (Nat.le_of_ble_eq_true rfl) dX5_init_18 rfl ?_
  refine V.aload_n dX5_init_21 rfl 1 rfl ?_
  refine V.iload_n dX5_init_22 rfl 0 rfl ?_
  refine V.newa (atype := .int) (ty := .int) (N' := 24) (24, .inl (fun _ => 0)) 1 ka_1 rfl rfl (fun _ => rfl) (by decide) (by decide) (by decide) (by decide) (by decide) dX5_init_23 (fun q1 => ?_)
  show V l D cy MX5_init 0 3 72 _ _ _ 25 [(2, .int (24 : Int32)), (0, .ref tA), (1, .int (24 : Int32))] [.ref q1, .ref tA] [(tA, .inr (5, [.ref q0, .null, .null, .int 0])), (q0, .inl (cy 1, 24, .inl (fun _ => 0))), (q1, .inl (cy 1, 24, .inl (fun _ => 0)))] 2 48
  refine V.putF (ws' := [(tA, .inr (5, [.ref q0, .ref q1, .null, .int 0])), (q0, .inl (cy 1, 24, .inl (fun _ => 0))), (q1, .inl (cy 1, 24, .inl (fun _ => 0)))]) kfX5 tyX5 tyX5_ok nmX5 0 rfl rfl 1 (by decide) klX5_15 rfl rfl rfl (tyX5_ok 1 (by decide)) rfl rfl (Nat.le_of_ble_eq_true rfl) dX5_init_25 rfl ?_
  refine V.aload_n dX5_init_28 rfl 1 rfl ?_
  refine V.iload_n dX5_init_29 rfl 0 rfl ?_
  refine V.newa (atype := .boolean) (ty := .boolean) (N' := 24) (24, .inl (fun _ => 0)) 3 ka_3 rfl rfl (fun _ => rfl) (by decide) (by decide) (by decide) (by decide) (by decide) dX5_init_30 (fun q2 => ?_)
  show V l D cy MX5_init 0 3 72 _ _ _ 32 [(2, .int (24 : Int32)), (0, .ref tA), (1, .int (24 : Int32))] [.ref q2, .ref tA] [(tA, .inr (5, [.ref q0, .ref q1, .null, .int 0])), (q0, .inl (cy 1, 24, .inl (fun _ => 0))), (q1, .inl (cy 1, 24, .inl (fun _ => 0))), (q2, .inl (cy 3, 24, .inl (fun _ => 0)))] 3 72
  refine V.putF (ws' := [(tA, .inr (5, [.ref q0, .ref q1, .ref q2, .int 0])), (q0, .inl (cy 1, 24, .inl (fun _ => 0))), (q1, .inl (cy 1, 24, .inl (fun _ => 0))), (q2, .inl (cy 3, 24, .inl (fun _ => 0)))]) kfX5 tyX5 tyX5_ok nmX5 0 rfl rfl 2 (by decide) klX5_18 rfl rfl rfl (tyX5_ok 2 (by decide)) rfl rfl (Nat.le_of_ble_eq_true rfl) dX5_init_32 rfl ?_
  exact V.vret rfl dX5_init_35 (by decide) (by decide) ⟨fun k => ([q0, q1, q2] : List Nat).getD k 0, rfl, rfl⟩
set_option maxRecDepth 100000 in
theorem CX5_init_14 {l : Launch} {D : va_G} {cy : Nat → ClassId} (tA : Nat) : vMet l D cy MX5_init 0 3 42 [.ref tA, .int (14 : Int32)] [(tA, .inr (5, [.null, .null, .null, .int 0]))] (fun (r : Option Value) (w : va_W) => ∃ ad : Nat → Nat, r = none ∧ w = [(tA, .inr (5, [.ref (ad 0), .ref (ad 1), .ref (ad 2), .int 0])), (ad 0, .inl (cy 1, 14, .inl (fun _ => 0))), (ad 1, .inl (cy 1, 14, .inl (fun _ => 0))), (ad 2, .inl (cy 3, 14, .inl (fun _ => 0)))]) := by
  refine vMet.start (by decide +kernel) (Nat.le_of_ble_eq_true rfl) ?_
  show V l D cy MX5_init 0 3 42 _ _ _ 0 [(0, .ref tA), (1, .int (14 : Int32))] [] [(tA, .inr (5, [.null, .null, .null, .int 0]))] 0 0
  refine V.aload_n dX5_init_0 rfl 0 rfl ?_
  refine V.objInit klX5_3 kp_obj.1 kp_obj.2 dX5_init_1 (Nat.le_of_ble_eq_true rfl) ?_
  refine V.iload_n dX5_init_4 rfl 1 rfl ?_
  refine V.if_le (tgt := 12) dX5_init_5 (by decide) (fun hc => absurd hc (by decide)) (fun _ => ?_)
  refine V.iload_n dX5_init_8 rfl 1 rfl ?_
  refine V.goto (tgt := 13) dX5_init_9 (by decide) ?_
  refine V.istore_n (lv' := [(2, .int (14 : Int32)), (0, .ref tA), (1, .int (14 : Int32))]) dX5_init_13 rfl (by decide) rfl ?_
  refine V.aload_n dX5_init_14 rfl 1 rfl ?_
  refine V.iload_n dX5_init_15 rfl 0 rfl ?_
  refine V.newa (atype := .int) (ty := .int) (N' := 14) (14, .inl (fun _ => 0)) 1 ka_1 rfl rfl (fun _ => rfl) (by decide) (by decide) (by decide) (by decide) (by decide) dX5_init_16 (fun q0 => ?_)
  show V l D cy MX5_init 0 3 42 _ _ _ 18 [(2, .int (14 : Int32)), (0, .ref tA), (1, .int (14 : Int32))] [.ref q0, .ref tA] [(tA, .inr (5, [.null, .null, .null, .int 0])), (q0, .inl (cy 1, 14, .inl (fun _ => 0)))] 1 14
  refine V.putF (ws' := [(tA, .inr (5, [.ref q0, .null, .null, .int 0])), (q0, .inl (cy 1, 14, .inl (fun _ => 0)))]) kfX5 tyX5 tyX5_ok nmX5 0 rfl rfl 0 (by decide) klX5_9 rfl rfl rfl (tyX5_ok 0 (by decide)) rfl rfl (Nat.le_of_ble_eq_true rfl) dX5_init_18 rfl ?_
  refine V.aload_n dX5_init_21 rfl 1 rfl ?_
  refine V.iload_n dX5_init_22 rfl 0 rfl ?_
  refine V.newa (atype := .int) (ty := .int) (N' := 14) (14, .inl (fun _ => 0)) 1 ka_1 rfl rfl (fun _ => rfl) (by decide) (by decide) (by decide) (by decide) (by decide) dX5_init_23 (fun q1 => ?_)
  show V l D cy MX5_init 0 3 42 _ _ _ 25 [(2, .int (14 : Int32)), (0, .ref tA), (1, .int (14 : Int32))] [.ref q1, .ref tA] [(tA, .inr (5, [.ref q0, .null, .null, .int 0])), (q0, .inl (cy 1, 14, .inl (fun _ => 0))), (q1, .inl (cy 1, 14, .inl (fun _ => 0)))] 2 28
  refine V.putF (ws' := [(tA, .inr (5, [.ref q0, .ref q1, .null, .int 0])), (q0, .inl (cy 1, 14, .inl (fun _ => 0))), (q1, .inl (cy 1, 14, .inl (fun _ => 0)))]) kfX5 tyX5 tyX5_ok nmX5 0 rfl rfl 1 (by decide) klX5_15 rfl rfl rfl (tyX5_ok 1 (by decide)) rfl rfl (Nat.le_of_ble_eq_true rfl) dX5_init_25 rfl ?_
  refine V.aload_n dX5_init_28 rfl 1 rfl ?_
  refine V.iload_n dX5_init_29 rfl 0 rfl ?_
  refine V.newa (atype := .boolean) (ty := .boolean) (N' := 14) (14, .inl (fun _ => 0)) 3 ka_3 rfl rfl (fun _ => rfl) (by decide) (by decide) (by decide) (by decide) (by decide) dX5_init_30 (fun q2 => ?_)
  show V l D cy MX5_init 0 3 42 _ _ _ 32 [(2, .int (14 : Int32)), (0, .ref tA), (1, .int (14 : Int32))] [.ref q2, .ref tA] [(tA, .inr (5, [.ref q0, .ref q1, .null, .int 0])), (q0, .inl (cy 1, 14, .inl (fun _ => 0))), (q1, .inl (cy 1, 14, .inl (fun _ => 0))), (q2, .inl (cy 3, 14, .inl (fun _ => 0)))] 3 42
  refine V.putF (ws' := [(tA, .inr (5, [.ref q0, .ref q1, .ref q2, .int 0])), (q0, .inl (cy 1, 14, .inl (fun _ => 0))), (q1, .inl (cy 1, 14, .inl (fun _ => 0))), (q2, .inl (cy 3, 14, .inl (fun _ => 0)))]) kfX5 tyX5 tyX5_ok nmX5 0 rfl rfl 2 (by decide) klX5_18 rfl rfl rfl (tyX5_ok 2 (by decide)) rfl rfl (Nat.le_of_ble_eq_true rfl) dX5_init_32 rfl ?_
  exact V.vret rfl dX5_init_35 (by decide) (by decide) ⟨fun k => ([q0, q1, q2] : List Nat).getD k 0, rfl, rfl⟩
theorem dX3_init_0 : decode cX3_init 0 = .ok (.aload_n 0, 1) := by decide +kernel
theorem dX3_init_1 : decode cX3_init 1 = .ok (.invokespecial 3, 3) := by decide +kernel
theorem dX3_init_4 : decode cX3_init 4 = .ok (.aload_n 0, 1) := by decide +kernel
theorem dX3_init_5 : decode cX3_init 5 = .ok (.bipush 14, 2) := by decide +kernel
theorem dX3_init_7 : decode cX3_init 7 = .ok (.newarray .int, 2) := by decide +kernel
theorem dX3_init_9 : decode cX3_init 9 = .ok (.putfield 9, 3) := by decide +kernel
theorem dX3_init_12 : decode cX3_init 12 = .ok (.aload_n 0, 1) := by decide +kernel
theorem dX3_init_13 : decode cX3_init 13 = .ok (.bipush 84, 2) := by decide +kernel
theorem dX3_init_15 : decode cX3_init 15 = .ok (.newarray .int, 2) := by decide +kernel
theorem dX3_init_17 : decode cX3_init 17 = .ok (.putfield 15, 3) := by decide +kernel
theorem dX3_init_20 : decode cX3_init 20 = .ok (.aload_n 0, 1) := by decide +kernel
theorem dX3_init_21 : decode cX3_init 21 = .ok (.bipush 6, 2) := by decide +kernel
theorem dX3_init_23 : decode cX3_init 23 = .ok (.newarray .int, 2) := by decide +kernel
theorem dX3_init_25 : decode cX3_init 25 = .ok (.putfield 18, 3) := by decide +kernel
theorem dX3_init_28 : decode cX3_init 28 = .ok (.aload_n 0, 1) := by decide +kernel
theorem dX3_init_29 : decode cX3_init 29 = .ok (.bipush 6, 2) := by decide +kernel
theorem dX3_init_31 : decode cX3_init 31 = .ok (.newarray .int, 2) := by decide +kernel
theorem dX3_init_33 : decode cX3_init 33 = .ok (.putfield 21, 3) := by decide +kernel
theorem dX3_init_36 : decode cX3_init 36 = .ok (.aload_n 0, 1) := by decide +kernel
theorem dX3_init_37 : decode cX3_init 37 = .ok (.sipush 1296, 3) := by decide +kernel
theorem dX3_init_40 : decode cX3_init 40 = .ok (.newarray .int, 2) := by decide +kernel
theorem dX3_init_42 : decode cX3_init 42 = .ok (.putfield 24, 3) := by decide +kernel
theorem dX3_init_45 : decode cX3_init 45 = .ok (.aload_n 0, 1) := by decide +kernel
theorem dX3_init_46 : decode cX3_init 46 = .ok (.sipush 1296, 3) := by decide +kernel
theorem dX3_init_49 : decode cX3_init 49 = .ok (.newarray .long, 2) := by decide +kernel
theorem dX3_init_51 : decode cX3_init 51 = .ok (.putfield 27, 3) := by decide +kernel
theorem dX3_init_54 : decode cX3_init 54 = .ok (.aload_n 0, 1) := by decide +kernel
theorem dX3_init_55 : decode cX3_init 55 = .ok (.sipush 1296, 3) := by decide +kernel
theorem dX3_init_58 : decode cX3_init 58 = .ok (.newarray .long, 2) := by decide +kernel
theorem dX3_init_60 : decode cX3_init 60 = .ok (.putfield 31, 3) := by decide +kernel
theorem dX3_init_63 : decode cX3_init 63 = .ok (.aload_n 0, 1) := by decide +kernel
theorem dX3_init_64 : decode cX3_init 64 = .ok (.sipush 196, 3) := by decide +kernel
theorem dX3_init_67 : decode cX3_init 67 = .ok (.newarray .long, 2) := by decide +kernel
theorem dX3_init_69 : decode cX3_init 69 = .ok (.putfield 34, 3) := by decide +kernel
theorem dX3_init_72 : decode cX3_init 72 = .ok (.return_, 1) := by decide +kernel
set_option maxRecDepth 100000 in
theorem CX3_init {l : Launch} {D : va_G} {cy : Nat → ClassId} (tA : Nat) : vMet l D cy MX3_init 0 8 4194 [.ref tA] [(tA, .inr (3, [.null, .null, .null, .null, .null, .null, .null, .null, .int 0, .int 0]))] (fun (r : Option Value) (w : va_W) => ∃ ad : Nat → Nat, r = none ∧ w = [(tA, .inr (3, [.ref (ad 0), .ref (ad 1), .ref (ad 2), .ref (ad 3), .ref (ad 4), .ref (ad 5), .ref (ad 6), .ref (ad 7), .int 0, .int 0])), (ad 0, .inl (cy 1, 14, .inl (fun _ => 0))), (ad 1, .inl (cy 1, 84, .inl (fun _ => 0))), (ad 2, .inl (cy 1, 6, .inl (fun _ => 0))), (ad 3, .inl (cy 1, 6, .inl (fun _ => 0))), (ad 4, .inl (cy 1, 1296, .inl (fun _ => 0))), (ad 5, .inl (cy 2, 1296, .inr (.inl (fun _ => 0)))), (ad 6, .inl (cy 2, 1296, .inr (.inl (fun _ => 0)))), (ad 7, .inl (cy 2, 196, .inr (.inl (fun _ => 0))))]) := by
  refine vMet.start (by decide +kernel) (Nat.le_of_ble_eq_true rfl) ?_
  show V l D cy MX3_init 0 8 4194 _ _ _ 0 [(0, .ref tA)] [] [(tA, .inr (3, [.null, .null, .null, .null, .null, .null, .null, .null, .int 0, .int 0]))] 0 0
  refine V.aload_n dX3_init_0 rfl 0 rfl ?_
  refine V.objInit klX3_3 kp_obj.1 kp_obj.2 dX3_init_1 (Nat.le_of_ble_eq_true rfl) ?_
  refine V.aload_n dX3_init_4 rfl 0 rfl ?_
  refine V.bipush (v := (14 : Int32)) dX3_init_5 (by decide) ?_
  refine V.newa (atype := .int) (ty := .int) (N' := 14) (14, .inl (fun _ => 0)) 1 ka_1 rfl rfl (fun _ => rfl) (by decide) (by decide) (by decide) (by decide) (by decide) dX3_init_7 (fun q0 => ?_)
  show V l D cy MX3_init 0 8 4194 _ _ _ 9 [(0, .ref tA)] [.ref q0, .ref tA] [(tA, .inr (3, [.null, .null, .null, .null, .null, .null, .null, .null, .int 0, .int 0])), (q0, .inl (cy 1, 14, .inl (fun _ => 0)))] 1 14
  refine V.putF (ws' := [(tA, .inr (3, [.ref q0, .null, .null, .null, .null, .null, .null, .null, .int 0, .int 0])), (q0, .inl (cy 1, 14, .inl (fun _ => 0)))]) kfX3 tyX3 tyX3_ok nmX3 0 rfl rfl 0 (by decide) klX3_9 rfl rfl rfl (tyX3_ok 0 (by decide)) rfl rfl (Nat.le_of_ble_eq_true rfl) dX3_init_9 rfl ?_
  refine V.aload_n dX3_init_12 rfl 0 rfl ?_
  refine V.bipush (v := (84 : Int32)) dX3_init_13 (by decide) ?_
  refine V.newa (atype := .int) (ty := .int) (N' := 84) (84, .inl (fun _ => 0)) 1 ka_1 rfl rfl (fun _ => rfl) (by decide) (by decide) (by decide) (by decide) (by decide) dX3_init_15 (fun q1 => ?_)
  show V l D cy MX3_init 0 8 4194 _ _ _ 17 [(0, .ref tA)] [.ref q1, .ref tA] [(tA, .inr (3, [.ref q0, .null, .null, .null, .null, .null, .null, .null, .int 0, .int 0])), (q0, .inl (cy 1, 14, .inl (fun _ => 0))), (q1, .inl (cy 1, 84, .inl (fun _ => 0)))] 2 98
  refine V.putF (ws' := [(tA, .inr (3, [.ref q0, .ref q1, .null, .null, .null, .null, .null, .null, .int 0, .int 0])), (q0, .inl (cy 1, 14, .inl (fun _ => 0))), (q1, .inl (cy 1, 84, .inl (fun _ => 0)))]) kfX3 tyX3 tyX3_ok nmX3 0 rfl rfl 1 (by decide) klX3_15 rfl rfl rfl (tyX3_ok 1 (by decide)) rfl rfl (Nat.le_of_ble_eq_true rfl) dX3_init_17 rfl ?_
  refine V.aload_n dX3_init_20 rfl 0 rfl ?_
  refine V.bipush (v := (6 : Int32)) dX3_init_21 (by decide) ?_
  refine V.newa (atype := .int) (ty := .int) (N' := 6) (6, .inl (fun _ => 0)) 1 ka_1 rfl rfl (fun _ => rfl) (by decide) (by decide) (by decide) (by decide) (by decide) dX3_init_23 (fun q2 => ?_)
  show V l D cy MX3_init 0 8 4194 _ _ _ 25 [(0, .ref tA)] [.ref q2, .ref tA] [(tA, .inr (3, [.ref q0, .ref q1, .null, .null, .null, .null, .null, .null, .int 0, .int 0])), (q0, .inl (cy 1, 14, .inl (fun _ => 0))), (q1, .inl (cy 1, 84, .inl (fun _ => 0))), (q2, .inl (cy 1, 6, .inl (fun _ => 0)))] 3 104
  refine V.putF (ws' := [(tA, .inr (3, [.ref q0, .ref q1, .ref q2, .null, .null, .null, .null, .null, .int 0, .int 0])), (q0, .inl (cy 1, 14, .inl (fun _ => 0))), (q1, .inl (cy 1, 84, .inl (fun _ => 0))), (q2, .inl (cy 1, 6, .inl (fun _ => 0)))]) kfX3 tyX3 tyX3_ok nmX3 0 rfl rfl 2 (by decide) klX3_18 rfl rfl rfl (tyX3_ok 2 (by decide)) rfl rfl (Nat.le_of_ble_eq_true rfl) dX3_init_25 rfl ?_
  refine V.aload_n dX3_init_28 rfl 0 rfl ?_
  refine V.bipush (v := (6 : Int32)) dX3_init_29 (by decide) ?_
  refine V.newa (atype := .int) (ty := .int) (N' := 6) (6, .inl (fun _ => 0)) 1 ka_1 rfl rfl (fun _ => rfl) (by decide) (by decide) (by decide) (by decide) (by decide) dX3_init_31 (fun q3 => ?_)
  show V l D cy MX3_init 0 8 4194 _ _ _ 33 [(0, .ref tA)] [.ref q3, .ref tA] [(tA, .inr (3, [.ref q0, .ref q1, .ref q2, .null, .null, .null, .null, .null, .int 0, .int 0])), (q0, .inl (cy 1, 14, .inl (fun _ => 0))), (q1, .inl (cy 1, 84, .inl (fun _ => 0))), (q2, .inl (cy 1, 6, .inl (fun _ => 0))), (q3, .inl (cy 1, 6, .inl (fun _ => 0)))] 4 110
  refine V.putF (ws' := [(tA, .inr (3, [.ref q0, .ref q1, .ref q2, .ref q3, .null, .null, .null, .null, .int 0, .int 0])), (q0, .inl (cy 1, 14, .inl (fun _ => 0))), (q1, .inl (cy 1, 84, .inl (fun _ => 0))), (q2, .inl (cy 1, 6, .inl (fun _ => 0))), (q3, .inl (cy 1, 6, .inl (fun _ => 0)))]) kfX3 tyX3 tyX3_ok nmX3 0 rfl rfl 3 (by decide) klX3_21 rfl rfl rfl (tyX3_ok 3 (by decide)) rfl rfl (Nat.le_of_ble_eq_true rfl) dX3_init_33 rfl ?_
  refine V.aload_n dX3_init_36 rfl 0 rfl ?_
  refine V.sipush (v := (1296 : Int32)) dX3_init_37 (by decide) ?_
  refine V.newa (atype := .int) (ty := .int) (N' := 1296) (1296, .inl (fun _ => 0)) 1 ka_1 rfl rfl (fun _ => rfl) (by decide) (by decide) (by decide) (by decide) (by decide) dX3_init_40 (fun q4 => ?_)
  show V l D cy MX3_init 0 8 4194 _ _ _ 42 [(0, .ref tA)] [.ref q4, .ref tA] [(tA, .inr (3, [.ref q0, .ref q1, .ref q2, .ref q3, .null, .null, .null, .null, .int 0, .int 0])), (q0, .inl (cy 1, 14, .inl (fun _ => 0))), (q1, .inl (cy 1, 84, .inl (fun _ => 0))), (q2, .inl (cy 1, 6, .inl (fun _ => 0))), (q3, .inl (cy 1, 6, .inl (fun _ => 0))), (q4, .inl (cy 1, 1296, .inl (fun _ => 0)))] 5 1406
  refine V.putF (ws' := [(tA, .inr (3, [.ref q0, .ref q1, .ref q2, .ref q3, .ref q4, .null, .null, .null, .int 0, .int 0])), (q0, .inl (cy 1, 14, .inl (fun _ => 0))), (q1, .inl (cy 1, 84, .inl (fun _ => 0))), (q2, .inl (cy 1, 6, .inl (fun _ => 0))), (q3, .inl (cy 1, 6, .inl (fun _ => 0))), (q4, .inl (cy 1, 1296, .inl (fun _ => 0)))]) kfX3 tyX3 tyX3_ok nmX3 0 rfl rfl 4 (by decide) klX3_24 rfl rfl rfl (tyX3_ok 4 (by decide)) rfl rfl (Nat.le_of_ble_eq_true rfl) dX3_init_42 rfl ?_
  refine V.aload_n dX3_init_45 rfl 0 rfl ?_
  refine V.sipush (v := (1296 : Int32)) dX3_init_46 (by decide) ?_
  refine V.newa (atype := .long) (ty := .long) (N' := 1296) (1296, .inr (.inl (fun _ => 0))) 2 ka_2 rfl rfl (fun _ => rfl) (by decide) (by decide) (by decide) (by decide) (by decide) dX3_init_49 (fun q5 => ?_)
  show V l D cy MX3_init 0 8 4194 _ _ _ 51 [(0, .ref tA)] [.ref q5, .ref tA] [(tA, .inr (3, [.ref q0, .ref q1, .ref q2, .ref q3, .ref q4, .null, .null, .null, .int 0, .int 0])), (q0, .inl (cy 1, 14, .inl (fun _ => 0))), (q1, .inl (cy 1, 84, .inl (fun _ => 0))), (q2, .inl (cy 1, 6, .inl (fun _ => 0))), (q3, .inl (cy 1, 6, .inl (fun _ => 0))), (q4, .inl (cy 1, 1296, .inl (fun _ => 0))), (q5, .inl (cy 2, 1296, .inr (.inl (fun _ => 0))))] 6 2702
  refine V.putF (ws' := [(tA, .inr (3, [.ref q0, .ref q1, .ref q2, .ref q3, .ref q4, .ref q5, .null, .null, .int 0, .int 0])), (q0, .inl (cy 1, 14, .inl (fun _ => 0))), (q1, .inl (cy 1, 84, .inl (fun _ => 0))), (q2, .inl (cy 1, 6, .inl (fun _ => 0))), (q3, .inl (cy 1, 6, .inl (fun _ => 0))), (q4, .inl (cy 1, 1296, .inl (fun _ => 0))), (q5, .inl (cy 2, 1296, .inr (.inl (fun _ => 0))))]) kfX3 tyX3 tyX3_ok nmX3 0 rfl rfl 5 (by decide) klX3_27 rfl rfl rfl (tyX3_ok 5 (by decide)) rfl rfl (Nat.le_of_ble_eq_true rfl) dX3_init_51 rfl ?_
  refine V.aload_n dX3_init_54 rfl 0 rfl ?_
  refine V.sipush (v := (1296 : Int32)) dX3_init_55 (by decide) ?_
  refine V.newa (atype := .long) (ty := .long) (N' := 1296) (1296, .inr (.inl (fun _ => 0))) 2 ka_2 rfl rfl (fun _ => rfl) (by decide) (by decide) (by decide) (by decide) (by decide) dX3_init_58 (fun q6 => ?_)
  show V l D cy MX3_init 0 8 4194 _ _ _ 60 [(0, .ref tA)] [.ref q6, .ref tA] [(tA, .inr (3, [.ref q0, .ref q1, .ref q2, .ref q3, .ref q4, .ref q5, .null, .null, .int 0, .int 0])), (q0, .inl (cy 1, 14, .inl (fun _ => 0))), (q1, .inl (cy 1, 84, .inl (fun _ => 0))), (q2, .inl (cy 1, 6, .inl (fun _ => 0))), (q3, .inl (cy 1, 6, .inl (fun _ => 0))), (q4, .inl (cy 1, 1296, .inl (fun _ => 0))), (q5, .inl (cy 2, 1296, .inr (.inl (fun _ => 0)))), (q6, .inl (cy 2, 1296, .inr (.inl (fun _ => 0))))] 7 3998
  refine V.putF (ws' := [(tA, .inr (3, [.ref q0, .ref q1, .ref q2, .ref q3, .ref q4, .ref q5, .ref q6, .null, .int 0, .int 0])), (q0, .inl (cy 1, 14, .inl (fun _ => 0))), (q1, .inl (cy 1, 84, .inl (fun _ => 0))), (q2, .inl (cy 1, 6, .inl (fun _ => 0))), (q3, .inl (cy 1, 6, .inl (fun _ => 0))), (q4, .inl (cy 1, 1296, .inl (fun _ => 0))), (q5, .inl (cy 2, 1296, .inr (.inl (fun _ => 0)))), (q6, .inl (cy 2, 1296, .inr (.inl (fun _ => 0))))]) kfX3 tyX3 tyX3_ok nmX3 0 rfl rfl 6 (by decide) klX3_31 rfl rfl rfl (tyX3_ok 6 (by decide)) rfl rfl (Nat.le_of_ble_eq_true rfl) dX3_init_60 rfl ?_
  refine V.aload_n dX3_init_63 rfl 0 rfl ?_
  refine V.sipush (v := (196 : Int32)) dX3_init_64 (by decide) ?_
  refine V.newa (atype := .long) (ty := .long) (N' := 196) (196, .inr (.inl (fun _ => 0))) 2 ka_2 rfl rfl (fun _ => rfl) (by decide) (by decide) (by decide) (by decide) (by decide) dX3_init_67 (fun q7 => ?_)
  show V l D cy MX3_init 0 8 4194 _ _ _ 69 [(0, .ref tA)] [.ref q7, .ref tA] [(tA, .inr (3, [.ref q0, .ref q1, .ref q2, .ref q3, .ref q4, .ref q5, .ref q6, .null, .int 0, .int 0])), (q0, .inl (cy 1, 14, .inl (fun _ => 0))), (q1, .inl (cy 1, 84, .inl (fun _ => 0))), (q2, .inl (cy 1, 6, .inl (fun _ => 0))), (q3, .inl (cy 1, 6, .inl (fun _ => 0))), (q4, .inl (cy 1, 1296, .inl (fun _ => 0))), (q5, .inl (cy 2, 1296, .inr (.inl (fun _ => 0)))), (q6, .inl (cy 2, 1296, .inr (.inl (fun _ => 0)))), (q7, .inl (cy 2, 196, .inr (.inl (fun _ => 0))))] 8 4194
  refine V.putF (ws' := [(tA, .inr (3, [.ref q0, .ref q1, .ref q2, .ref q3, .ref q4, .ref q5, .ref q6, .ref q7, .int 0, .int 0])), (q0, .inl (cy 1, 14, .inl (fun _ => 0))), (q1, .inl (cy 1, 84, .inl (fun _ => 0))), (q2, .inl (cy 1, 6, .inl (fun _ => 0))), (q3, .inl (cy 1, 6, .inl (fun _ => 0))), (q4, .inl (cy 1, 1296, .inl (fun _ => 0))), (q5, .inl (cy 2, 1296, .inr (.inl (fun _ => 0)))), (q6, .inl (cy 2, 1296, .inr (.inl (fun _ => 0)))), (q7, .inl (cy 2, 196, .inr (.inl (fun _ => 0))))]) kfX3 tyX3 tyX3_ok nmX3 0 rfl rfl 7 (by decide) klX3_34 rfl rfl rfl (tyX3_ok 7 (by decide)) rfl rfl (Nat.le_of_ble_eq_true rfl) dX3_init_69 rfl ?_
  exact V.vret rfl dX3_init_72 (by decide) (by decide) ⟨fun k => ([q0, q1, q2, q3, q4, q5, q6, q7] : List Nat).getD k 0, rfl, rfl⟩
theorem dX8_init_0 : decode cX8_init 0 = .ok (.aload_n 0, 1) := by decide +kernel
theorem dX8_init_1 : decode cX8_init 1 = .ok (.invokespecial 3, 3) := by decide +kernel
theorem dX8_init_4 : decode cX8_init 4 = .ok (.aload_n 0, 1) := by decide +kernel
theorem dX8_init_5 : decode cX8_init 5 = .ok (.new 9, 3) := by decide +kernel
theorem dX8_init_8 : decode cX8_init 8 = .ok (.dup, 1) := by decide +kernel
theorem dX8_init_9 : decode cX8_init 9 = .ok (.bipush 24, 2) := by decide +kernel
theorem dX8_init_11 : decode cX8_init 11 = .ok (.invokespecial 11, 3) := by decide +kernel
theorem dX8_init_14 : decode cX8_init 14 = .ok (.putfield 14, 3) := by decide +kernel
theorem dX8_init_17 : decode cX8_init 17 = .ok (.aload_n 0, 1) := by decide +kernel
theorem dX8_init_18 : decode cX8_init 18 = .ok (.new 9, 3) := by decide +kernel
theorem dX8_init_21 : decode cX8_init 21 = .ok (.dup, 1) := by decide +kernel
theorem dX8_init_22 : decode cX8_init 22 = .ok (.bipush 40, 2) := by decide +kernel
theorem dX8_init_24 : decode cX8_init 24 = .ok (.invokespecial 11, 3) := by decide +kernel
theorem dX8_init_27 : decode cX8_init 27 = .ok (.putfield 20, 3) := by decide +kernel
theorem dX8_init_30 : decode cX8_init 30 = .ok (.aload_n 0, 1) := by decide +kernel
theorem dX8_init_31 : decode cX8_init 31 = .ok (.new 9, 3) := by decide +kernel
theorem dX8_init_34 : decode cX8_init 34 = .ok (.dup, 1) := by decide +kernel
theorem dX8_init_35 : decode cX8_init 35 = .ok (.bipush 24, 2) := by decide +kernel
theorem dX8_init_37 : decode cX8_init 37 = .ok (.invokespecial 11, 3) := by decide +kernel
theorem dX8_init_40 : decode cX8_init 40 = .ok (.putfield 23, 3) := by decide +kernel
theorem dX8_init_43 : decode cX8_init 43 = .ok (.aload_n 0, 1) := by decide +kernel
theorem dX8_init_44 : decode cX8_init 44 = .ok (.bipush 8, 2) := by decide +kernel
theorem dX8_init_46 : decode cX8_init 46 = .ok (.newarray .int, 2) := by decide +kernel
theorem dX8_init_48 : decode cX8_init 48 = .ok (.putfield 26, 3) := by decide +kernel
theorem dX8_init_51 : decode cX8_init 51 = .ok (.aload_n 0, 1) := by decide +kernel
theorem dX8_init_52 : decode cX8_init 52 = .ok (.bipush 8, 2) := by decide +kernel
theorem dX8_init_54 : decode cX8_init 54 = .ok (.newarray .int, 2) := by decide +kernel
theorem dX8_init_56 : decode cX8_init 56 = .ok (.putfield 30, 3) := by decide +kernel
theorem dX8_init_59 : decode cX8_init 59 = .ok (.return_, 1) := by decide +kernel
set_option maxRecDepth 100000 in
theorem CX8_init {l : Launch} {D : va_G} {cy : Nat → ClassId} (tA : Nat) : vMet l D cy MX8_init 1 8 110 [.ref tA] [(tA, .inr (8, [.null, .null, .null, .null, .null, .int 0, .int 0]))] (fun (r : Option Value) (w : va_W) => ∃ ad : Nat → Nat, r = none ∧ w = [(tA, .inr (8, [.ref (ad 0), .ref (ad 2), .ref (ad 4), .ref (ad 6), .ref (ad 7), .int 0, .int 0])), (ad 0, .inr (7, [.ref (ad 1), .int 0])), (ad 1, .inl (cy 1, 24, .inl (fun _ => 0))), (ad 2, .inr (7, [.ref (ad 3), .int 0])), (ad 3, .inl (cy 1, 40, .inl (fun _ => 0))), (ad 4, .inr (7, [.ref (ad 5), .int 0])), (ad 5, .inl (cy 1, 24, .inl (fun _ => 0))), (ad 6, .inl (cy 1, 8, .inl (fun _ => 0))), (ad 7, .inl (cy 1, 8, .inl (fun _ => 0)))]) := by
  refine vMet.start (by decide +kernel) (Nat.le_of_ble_eq_true rfl) ?_
  show V l D cy MX8_init 1 8 110 _ _ _ 0 [(0, .ref tA)] [] [(tA, .inr (8, [.null, .null, .null, .null, .null, .int 0, .int 0]))] 0 0
  refine V.aload_n dX8_init_0 rfl 0 rfl ?_
  refine V.objInit klX8_3 kp_obj.1 kp_obj.2 dX8_init_1 (Nat.le_of_ble_eq_true rfl) ?_
  refine V.aload_n dX8_init_4 rfl 0 rfl ?_
  refine V.new kfX7 tyX7 tyX7_ok klX8_9 knX7 kiX7 (ci := 7) rfl [.null, .int 0] (by decide) (by decide) (by decide) dX8_init_5 (fun q0 => ?_)
  show V l D cy MX8_init 1 8 110 _ _ _ 8 [(0, .ref tA)] [.ref q0, .ref tA] [(tA, .inr (8, [.null, .null, .null, .null, .null, .int 0, .int 0])), (q0, .inr (7, [.null, .int 0]))] 1 2
  refine V.dup dX8_init_8 rfl ?_
  refine V.bipush (v := (24 : Int32)) dX8_init_9 (by decide) ?_
  refine V.callI (As := [.int (24 : Int32)]) (rest := [.ref q0, .ref tA]) (wc := [(q0, .inr (7, [.null, .int 0]))]) (wr := [(tA, .inr (8, [.null, .null, .null, .null, .null, .int 0, .int 0]))]) (CX7_init_24 q0) kvX7_init klX8_11 [1] [0] rfl rfl (by decide) (by decide) (by decide) rfl dX8_init_11 ⟨by decide, by decide, by decide, by decide⟩ (Nat.le_of_ble_eq_true rfl) (fun r w1 hq => ?_)
  obtain ⟨ad1, rfl, rfl⟩ := hq
  show V l D cy MX8_init 1 8 110 _ _ _ 14 [(0, .ref tA)] [.ref q0, .ref tA] [(tA, .inr (8, [.null, .null, .null, .null, .null, .int 0, .int 0])), (q0, .inr (7, [.ref (ad1 0), .int 0])), (ad1 0, .inl (cy 1, 24, .inl (fun _ => 0)))] 2 26
  refine V.putF (ws' := [(tA, .inr (8, [.ref q0, .null, .null, .null, .null, .int 0, .int 0])), (q0, .inr (7, [.ref (ad1 0), .int 0])), (ad1 0, .inl (cy 1, 24, .inl (fun _ => 0)))]) kfX8 tyX8 tyX8_ok nmX8 0 rfl rfl 0 (by decide) klX8_14 rfl rfl rfl (tyX8_ok 0 (by decide)) rfl rfl (Nat.le_of_ble_eq_true rfl) dX8_init_14 rfl ?_
  refine V.aload_n dX8_init_17 rfl 0 rfl ?_
  refine V.new kfX7 tyX7 tyX7_ok klX8_9 knX7 kiX7 (ci := 7) rfl [.null, .int 0] (by decide) (by decide) (by decide) dX8_init_18 (fun q2 => ?_)
  show V l D cy MX8_init 1 8 110 _ _ _ 21 [(0, .ref tA)] [.ref q2, .ref tA] [(tA, .inr (8, [.ref q0, .null, .null, .null, .null, .int 0, .int 0])), (q0, .inr (7, [.ref (ad1 0), .int 0])), (ad1 0, .inl (cy 1, 24, .inl (fun _ => 0))), (q2, .inr (7, [.null, .int 0]))] 3 28
  refine V.dup dX8_init_21 rfl ?_
  refine V.bipush (v := (40 : Int32)) dX8_init_22 (by decide) ?_
  refine V.callI (As := [.int (40 : Int32)]) (rest := [.ref q2, .ref tA]) (wc := [(q2, .inr (7, [.null, .int 0]))]) (wr := [(tA, .inr (8, [.ref q0, .null, .null, .null, .null, .int 0, .int 0])), (q0, .inr (7, [.ref (ad1 0), .int 0])), (ad1 0, .inl (cy 1, 24, .inl (fun _ => 0)))]) (CX7_init_40 q2) kvX7_init klX8_11 [3] [0, 1, 2] rfl rfl (by decide) (by decide) (by decide) rfl dX8_init_24 ⟨by decide, by decide, by decide, by decide⟩ (Nat.le_of_ble_eq_true rfl) (fun r w1 hq => ?_)
  obtain ⟨ad3, rfl, rfl⟩ := hq
  show V l D cy MX8_init 1 8 110 _ _ _ 27 [(0, .ref tA)] [.ref q2, .ref tA] [(tA, .inr (8, [.ref q0, .null, .null, .null, .null, .int 0, .int 0])), (q0, .inr (7, [.ref (ad1 0), .int 0])), (ad1 0, .inl (cy 1, 24, .inl (fun _ => 0))), (q2, .inr (7, [.ref (ad3 0), .int 0])), (ad3 0, .inl (cy 1, 40, .inl (fun _ => 0)))] 4 68
  refine V.putF (ws' := [(tA, .inr (8, [.ref q0, .ref q2, .null, .null, .null, .int 0, .int 0])), (q0, .inr (7, [.ref (ad1 0), .int 0])), (ad1 0, .inl (cy 1, 24, .inl (fun _ => 0))), (q2, .inr (7, [.ref (ad3 0), .int 0])), (ad3 0, .inl (cy 1, 40, .inl (fun _ => 0)))]) kfX8 tyX8 tyX8_ok nmX8 0 rfl rfl 1 (by decide) klX8_20 rfl rfl rfl (tyX8_ok 1 (by decide)) rfl rfl (Nat.le_of_ble_eq_true rfl) dX8_init_27 rfl ?_
  refine V.aload_n dX8_init_30 rfl 0 rfl ?_
  refine V.new kfX7 tyX7 tyX7_ok klX8_9 knX7 kiX7 (ci := 7) rfl [.null, .int 0] (by decide) (by decide) (by decide) dX8_init_31 (fun q4 => ?_)
  show V l D cy MX8_init 1 8 110 _ _ _ 34 [(0, .ref tA)] [.ref q4, .ref tA] [(tA, .inr (8, [.ref q0, .ref q2, .null, .null, .null, .int 0, .int 0])), (q0, .inr (7, [.ref (ad1 0), .int 0])), (ad1 0, .inl (cy 1, 24, .inl (fun _ => 0))), (q2, .inr (7, [.ref (ad3 0), .int 0])), (ad3 0, .inl (cy 1, 40, .inl (fun _ => 0))), (q4, .inr (7, [.null, .int 0]))] 5 70
  refine V.dup dX8_init_34 rfl ?_
  refine V.bipush (v := (24 : Int32)) dX8_init_35 (by decide) ?_
  refine V.callI (As := [.int (24 : Int32)]) (rest := [.ref q4, .ref tA]) (wc := [(q4, .inr (7, [.null, .int 0]))]) (wr := [(tA, .inr (8, [.ref q0, .ref q2, .null, .null, .null, .int 0, .int 0])), (q0, .inr (7, [.ref (ad1 0), .int 0])), (ad1 0, .inl (cy 1, 24, .inl (fun _ => 0))), (q2, .inr (7, [.ref (ad3 0), .int 0])), (ad3 0, .inl (cy 1, 40, .inl (fun _ => 0)))]) (CX7_init_24 q4) kvX7_init klX8_11 [5] [0, 1, 2, 3, 4] rfl rfl (by decide) (by decide) (by decide) rfl dX8_init_37 ⟨by decide, by decide, by decide, by decide⟩ (Nat.le_of_ble_eq_true rfl) (fun r w1 hq => ?_)
  obtain ⟨ad5, rfl, rfl⟩ := hq
  show V l D cy MX8_init 1 8 110 _ _ _ 40 [(0, .ref tA)] [.ref q4, .ref tA] [(tA, .inr (8, [.ref q0, .ref q2, .null, .null, .null, .int 0, .int 0])), (q0, .inr (7, [.ref (ad1 0), .int 0])), (ad1 0, .inl (cy 1, 24, .inl (fun _ => 0))), (q2, .inr (7, [.ref (ad3 0), .int 0])), (ad3 0, .inl (cy 1, 40, .inl (fun _ => 0))), (q4, .inr (7, [.ref (ad5 0), .int 0])), (ad5 0, .inl (cy 1, 24, .inl (fun _ => 0)))] 6 94
  refine V.putF (ws' := [(tA, .inr (8, [.ref q0, .ref q2, .ref q4, .null, .null, .int 0, .int 0])), (q0, .inr (7, [.ref (ad1 0), .int 0])), (ad1 0, .inl (cy 1, 24, .inl (fun _ => 0))), (q2, .inr (7, [.ref (ad3 0), .int 0])), (ad3 0, .inl (cy 1, 40, .inl (fun _ => 0))), (q4, .inr (7, [.ref (ad5 0), .int 0])), (ad5 0, .inl (cy 1, 24, .inl (fun _ => 0)))]) kfX8 tyX8 tyX8_ok nmX8 0 rfl rfl 2 (by decide) klX8_23 rfl rfl rfl (tyX8_ok 2 (by decide)) rfl rfl (Nat.le_of_ble_eq_true rfl) dX8_init_40 rfl ?_
  refine V.aload_n dX8_init_43 rfl 0 rfl ?_
  refine V.bipush (v := (8 : Int32)) dX8_init_44 (by decide) ?_
  refine V.newa (atype := .int) (ty := .int) (N' := 8) (8, .inl (fun _ => 0)) 1 ka_1 rfl rfl (fun _ => rfl) (by decide) (by decide) (by decide) (by decide) (by decide) dX8_init_46 (fun q6 => ?_)
  show V l D cy MX8_init 1 8 110 _ _ _ 48 [(0, .ref tA)] [.ref q6, .ref tA] [(tA, .inr (8, [.ref q0, .ref q2, .ref q4, .null, .null, .int 0, .int 0])), (q0, .inr (7, [.ref (ad1 0), .int 0])), (ad1 0, .inl (cy 1, 24, .inl (fun _ => 0))), (q2, .inr (7, [.ref (ad3 0), .int 0])), (ad3 0, .inl (cy 1, 40, .inl (fun _ => 0))), (q4, .inr (7, [.ref (ad5 0), .int 0])), (ad5 0, .inl (cy 1, 24, .inl (fun _ => 0))), (q6, .inl (cy 1, 8, .inl (fun _ => 0)))] 7 102
  refine V.putF (ws' := [(tA, .inr (8, [.ref q0, .ref q2, .ref q4, .ref q6, .null, .int 0, .int 0])), (q0, .inr (7, [.ref (ad1 0), .int 0])), (ad1 0, .inl (cy 1, 24, .inl (fun _ => 0))), (q2, .inr (7, [.ref (ad3 0), .int 0])), (ad3 0, .inl (cy 1, 40, .inl (fun _ => 0))), (q4, .inr (7, [.ref (ad5 0), .int 0])), (ad5 0, .inl (cy 1, 24, .inl (fun _ => 0))), (q6, .inl (cy 1, 8, .inl (fun _ => 0)))]) kfX8 tyX8 tyX8_ok nmX8 0 rfl rfl 3 (by decide) klX8_26 rfl rfl rfl (tyX8_ok 3 (by decide)) rfl rfl (Nat.le_of_ble_eq_true rfl) dX8_init_48 rfl ?_
  refine V.aload_n dX8_init_51 rfl 0 rfl ?_
  refine V.bipush (v := (8 : Int32)) dX8_init_52 (by decide) ?_
  refine V.newa (atype := .int) (ty := .int) (N' := 8) (8, .inl (fun _ => 0)) 1 ka_1 rfl rfl (fun _ => rfl) (by decide) (by decide) (by decide) (by decide) (by decide) dX8_init_54 (fun q7 => ?_)
  show V l D cy MX8_init 1 8 110 _ _ _ 56 [(0, .ref tA)] [.ref q7, .ref tA] [(tA, .inr (8, [.ref q0, .ref q2, .ref q4, .ref q6, .null, .int 0, .int 0])), (q0, .inr (7, [.ref (ad1 0), .int 0])), (ad1 0, .inl (cy 1, 24, .inl (fun _ => 0))), (q2, .inr (7, [.ref (ad3 0), .int 0])), (ad3 0, .inl (cy 1, 40, .inl (fun _ => 0))), (q4, .inr (7, [.ref (ad5 0), .int 0])), (ad5 0, .inl (cy 1, 24, .inl (fun _ => 0))), (q6, .inl (cy 1, 8, .inl (fun _ => 0))), (q7, .inl (cy 1, 8, .inl (fun _ => 0)))] 8 110
  refine V.putF (ws' := [(tA, .inr (8, [.ref q0, .ref q2, .ref q4, .ref q6, .ref q7, .int 0, .int 0])), (q0, .inr (7, [.ref (ad1 0), .int 0])), (ad1 0, .inl (cy 1, 24, .inl (fun _ => 0))), (q2, .inr (7, [.ref (ad3 0), .int 0])), (ad3 0, .inl (cy 1, 40, .inl (fun _ => 0))), (q4, .inr (7, [.ref (ad5 0), .int 0])), (ad5 0, .inl (cy 1, 24, .inl (fun _ => 0))), (q6, .inl (cy 1, 8, .inl (fun _ => 0))), (q7, .inl (cy 1, 8, .inl (fun _ => 0)))]) kfX8 tyX8 tyX8_ok nmX8 0 rfl rfl 4 (by decide) klX8_30 rfl rfl rfl (tyX8_ok 4 (by decide)) rfl rfl (Nat.le_of_ble_eq_true rfl) dX8_init_56 rfl ?_
  exact V.vret rfl dX8_init_59 (by decide) (by decide) ⟨fun k => ([q0, ad1 0, q2, ad3 0, q4, ad5 0, q6, q7] : List Nat).getD k 0, rfl, rfl⟩
theorem dX10_init_0 : decode cX10_init 0 = .ok (.aload_n 0, 1) := by decide +kernel
theorem dX10_init_1 : decode cX10_init 1 = .ok (.invokespecial 3, 3) := by decide +kernel
theorem dX10_init_4 : decode cX10_init 4 = .ok (.aload_n 0, 1) := by decide +kernel
theorem dX10_init_5 : decode cX10_init 5 = .ok (.new 9, 3) := by decide +kernel
theorem dX10_init_8 : decode cX10_init 8 = .ok (.dup, 1) := by decide +kernel
theorem dX10_init_9 : decode cX10_init 9 = .ok (.bipush 24, 2) := by decide +kernel
theorem dX10_init_11 : decode cX10_init 11 = .ok (.invokespecial 11, 3) := by decide +kernel
theorem dX10_init_14 : decode cX10_init 14 = .ok (.putfield 14, 3) := by decide +kernel
theorem dX10_init_17 : decode cX10_init 17 = .ok (.aload_n 0, 1) := by decide +kernel
theorem dX10_init_18 : decode cX10_init 18 = .ok (.new 9, 3) := by decide +kernel
theorem dX10_init_21 : decode cX10_init 21 = .ok (.dup, 1) := by decide +kernel
theorem dX10_init_22 : decode cX10_init 22 = .ok (.bipush 24, 2) := by decide +kernel
theorem dX10_init_24 : decode cX10_init 24 = .ok (.invokespecial 11, 3) := by decide +kernel
theorem dX10_init_27 : decode cX10_init 27 = .ok (.putfield 20, 3) := by decide +kernel
theorem dX10_init_30 : decode cX10_init 30 = .ok (.aload_n 0, 1) := by decide +kernel
theorem dX10_init_31 : decode cX10_init 31 = .ok (.new 23, 3) := by decide +kernel
theorem dX10_init_34 : decode cX10_init 34 = .ok (.dup, 1) := by decide +kernel
theorem dX10_init_35 : decode cX10_init 35 = .ok (.bipush 24, 2) := by decide +kernel
theorem dX10_init_37 : decode cX10_init 37 = .ok (.invokespecial 25, 3) := by decide +kernel
theorem dX10_init_40 : decode cX10_init 40 = .ok (.putfield 26, 3) := by decide +kernel
theorem dX10_init_43 : decode cX10_init 43 = .ok (.aload_n 0, 1) := by decide +kernel
theorem dX10_init_44 : decode cX10_init 44 = .ok (.iconst 3, 1) := by decide +kernel
theorem dX10_init_45 : decode cX10_init 45 = .ok (.newarray .int, 2) := by decide +kernel
theorem dX10_init_47 : decode cX10_init 47 = .ok (.putfield 30, 3) := by decide +kernel
theorem dX10_init_50 : decode cX10_init 50 = .ok (.return_, 1) := by decide +kernel
set_option maxRecDepth 100000 in
theorem CX10_init {l : Launch} {D : va_G} {cy : Nat → ClassId} (tA : Nat) : vMet l D cy MX10_init 1 9 131 [.ref tA] [(tA, .inr (10, [.null, .null, .null, .null, .long 0]))] (fun (r : Option Value) (w : va_W) => ∃ ad : Nat → Nat, r = none ∧ w = [(tA, .inr (10, [.ref (ad 0), .ref (ad 2), .ref (ad 4), .ref (ad 8), .long 0])), (ad 0, .inr (7, [.ref (ad 1), .int 0])), (ad 1, .inl (cy 1, 24, .inl (fun _ => 0))), (ad 2, .inr (7, [.ref (ad 3), .int 0])), (ad 3, .inl (cy 1, 24, .inl (fun _ => 0))), (ad 4, .inr (5, [.ref (ad 5), .ref (ad 6), .ref (ad 7), .int 0])), (ad 5, .inl (cy 1, 24, .inl (fun _ => 0))), (ad 6, .inl (cy 1, 24, .inl (fun _ => 0))), (ad 7, .inl (cy 3, 24, .inl (fun _ => 0))), (ad 8, .inl (cy 1, 3, .inl (fun _ => 0)))]) := by
  refine vMet.start (by decide +kernel) (Nat.le_of_ble_eq_true rfl) ?_
  show V l D cy MX10_init 1 9 131 _ _ _ 0 [(0, .ref tA)] [] [(tA, .inr (10, [.null, .null, .null, .null, .long 0]))] 0 0
  refine V.aload_n dX10_init_0 rfl 0 rfl ?_
  refine V.objInit klX10_3 kp_obj.1 kp_obj.2 dX10_init_1 (Nat.le_of_ble_eq_true rfl) ?_
  refine V.aload_n dX10_init_4 rfl 0 rfl ?_
  refine V.new kfX7 tyX7 tyX7_ok klX10_9 knX7 kiX7 (ci := 7) rfl [.null, .int 0] (by decide) (by decide) (by decide) dX10_init_5 (fun q0 => ?_)
  show V l D cy MX10_init 1 9 131 _ _ _ 8 [(0, .ref tA)] [.ref q0, .ref tA] [(tA, .inr (10, [.null, .null, .null, .null, .long 0])), (q0, .inr (7, [.null, .int 0]))] 1 2
  refine V.dup dX10_init_8 rfl ?_
  refine V.bipush (v := (24 : Int32)) dX10_init_9 (by decide) ?_
  refine V.callI (As := [.int (24 : Int32)]) (rest := [.ref q0, .ref tA]) (wc := [(q0, .inr (7, [.null, .int 0]))]) (wr := [(tA, .inr (10, [.null, .null, .null, .null, .long 0]))]) (CX7_init_24 q0) kvX7_init klX10_11 [1] [0] rfl rfl (by decide) (by decide) (by decide) rfl dX10_init_11 ⟨by decide, by decide, by decide, by decide⟩ (Nat.le_of_ble_eq_true rfl) (fun r w1 hq => ?_)
  obtain ⟨ad1, rfl, rfl⟩ := hq
  show V l D cy MX10_init 1 9 131 _ _ _ 14 [(0, .ref tA)] [.ref q0, .ref tA] [(tA, .inr (10, [.null, .null, .null, .null, .long 0])), (q0, .inr (7, [.ref (ad1 0), .int 0])), (ad1 0, .inl (cy 1, 24, .inl (fun _ => 0)))] 2 26
  refine V.putF (ws' := [(tA, .inr (10, [.ref q0, .null, .null, .null, .long 0])), (q0, .inr (7, [.ref (ad1 0), .int 0])), (ad1 0, .inl (cy 1, 24, .inl (fun _ => 0)))]) kfX10 tyX10 tyX10_ok nmX10 0 rfl rfl 0 (by decide) klX10_14 rfl rfl rfl (tyX10_ok 0 (by decide)) rfl rfl (Nat.le_of_ble_eq_true rfl) dX10_init_14 rfl ?_
  refine V.aload_n dX10_init_17 rfl 0 rfl ?_
  refine V.new kfX7 tyX7 tyX7_ok klX10_9 knX7 kiX7 (ci := 7) rfl [.null, .int 0] (by decide) (by decide) (by decide) dX10_init_18 (fun q2 => ?_)
  show V l D cy MX10_init 1 9 131 _ _ _ 21 [(0, .ref tA)] [.ref q2, .ref tA] [(tA, .inr (10, [.ref q0, .null, .null, .null, .long 0])), (q0, .inr (7, [.ref (ad1 0), .int 0])), (ad1 0, .inl (cy 1, 24, .inl (fun _ => 0))), (q2, .inr (7, [.null, .int 0]))] 3 28
  refine V.dup dX10_init_21 rfl ?_
  refine V.bipush (v := (24 : Int32)) dX10_init_22 (by decide) ?_
  refine V.callI (As := [.int (24 : Int32)]) (rest := [.ref q2, .ref tA]) (wc := [(q2, .inr (7, [.null, .int 0]))]) (wr := [(tA, .inr (10, [.ref q0, .null, .null, .null, .long 0])), (q0, .inr (7, [.ref (ad1 0), .int 0])), (ad1 0, .inl (cy 1, 24, .inl (fun _ => 0)))]) (CX7_init_24 q2) kvX7_init klX10_11 [3] [0, 1, 2] rfl rfl (by decide) (by decide) (by decide) rfl dX10_init_24 ⟨by decide, by decide, by decide, by decide⟩ (Nat.le_of_ble_eq_true rfl) (fun r w1 hq => ?_)
  obtain ⟨ad3, rfl, rfl⟩ := hq
  show V l D cy MX10_init 1 9 131 _ _ _ 27 [(0, .ref tA)] [.ref q2, .ref tA] [(tA, .inr (10, [.ref q0, .null, .null, .null, .long 0])), (q0, .inr (7, [.ref (ad1 0), .int 0])), (ad1 0, .inl (cy 1, 24, .inl (fun _ => 0))), (q2, .inr (7, [.ref (ad3 0), .int 0])), (ad3 0, .inl (cy 1, 24, .inl (fun _ => 0)))] 4 52
  refine V.putF (ws' := [(tA, .inr (10, [.ref q0, .ref q2, .null, .null, .long 0])), (q0, .inr (7, [.ref (ad1 0), .int 0])), (ad1 0, .inl (cy 1, 24, .inl (fun _ => 0))), (q2, .inr (7, [.ref (ad3 0), .int 0])), (ad3 0, .inl (cy 1, 24, .inl (fun _ => 0)))]) kfX10 tyX10 tyX10_ok nmX10 0 rfl rfl 1 (by decide) klX10_20 rfl rfl rfl (tyX10_ok 1 (by decide)) rfl rfl (Nat.le_of_ble_eq_true rfl) dX10_init_27 rfl ?_
  refine V.aload_n dX10_init_30 rfl 0 rfl ?_
  refine V.new kfX5 tyX5 tyX5_ok klX10_23 knX5 kiX5 (ci := 5) rfl [.null, .null, .null, .int 0] (by decide) (by decide) (by decide) dX10_init_31 (fun q4 => ?_)
  show V l D cy MX10_init 1 9 131 _ _ _ 34 [(0, .ref tA)] [.ref q4, .ref tA] [(tA, .inr (10, [.ref q0, .ref q2, .null, .null, .long 0])), (q0, .inr (7, [.ref (ad1 0), .int 0])), (ad1 0, .inl (cy 1, 24, .inl (fun _ => 0))), (q2, .inr (7, [.ref (ad3 0), .int 0])), (ad3 0, .inl (cy 1, 24, .inl (fun _ => 0))), (q4, .inr (5, [.null, .null, .null, .int 0]))] 5 56
  refine V.dup dX10_init_34 rfl ?_
  refine V.bipush (v := (24 : Int32)) dX10_init_35 (by decide) ?_
  refine V.callI (As := [.int (24 : Int32)]) (rest := [.ref q4, .ref tA]) (wc := [(q4, .inr (5, [.null, .null, .null, .int 0]))]) (wr := [(tA, .inr (10, [.ref q0, .ref q2, .null, .null, .long 0])), (q0, .inr (7, [.ref (ad1 0), .int 0])), (ad1 0, .inl (cy 1, 24, .inl (fun _ => 0))), (q2, .inr (7, [.ref (ad3 0), .int 0])), (ad3 0, .inl (cy 1, 24, .inl (fun _ => 0)))]) (CX5_init_24 q4) kvX5_init klX10_25 [5] [0, 1, 2, 3, 4] rfl rfl (by decide) (by decide) (by decide) rfl dX10_init_37 ⟨by decide, by decide, by decide, by decide⟩ (Nat.le_of_ble_eq_true rfl) (fun r w1 hq => ?_)
  obtain ⟨ad5, rfl, rfl⟩ := hq
  show V l D cy MX10_init 1 9 131 _ _ _ 40 [(0, .ref tA)] [.ref q4, .ref tA] [(tA, .inr (10, [.ref q0, .ref q2, .null, .null, .long 0])), (q0, .inr (7, [.ref (ad1 0), .int 0])), (ad1 0, .inl (cy 1, 24, .inl (fun _ => 0))), (q2, .inr (7, [.ref (ad3 0), .int 0])), (ad3 0, .inl (cy 1, 24, .inl (fun _ => 0))), (q4, .inr (5, [.ref (ad5 0), .ref (ad5 1), .ref (ad5 2), .int 0])), (ad5 0, .inl (cy 1, 24, .inl (fun _ => 0))), (ad5 1, .inl (cy 1, 24, .inl (fun _ => 0))), (ad5 2, .inl (cy 3, 24, .inl (fun _ => 0)))] 8 128
  refine V.putF (ws' := [(tA, .inr (10, [.ref q0, .ref q2, .ref q4, .null, .long 0])), (q0, .inr (7, [.ref (ad1 0), .int 0])), (ad1 0, .inl (cy 1, 24, .inl (fun _ => 0))), (q2, .inr (7, [.ref (ad3 0), .int 0])), (ad3 0, .inl (cy 1, 24, .inl (fun _ => 0))), (q4, .inr (5, [.ref (ad5 0), .ref (ad5 1), .ref (ad5 2), .int 0])), (ad5 0, .inl (cy 1, 24, .inl (fun _ => 0))), (ad5 1, .inl (cy 1, 24, .inl (fun _ => 0))), (ad5 2, .inl (cy 3, 24, .inl (fun _ => 0)))]) kfX10 tyX10 tyX10_ok nmX10 0 rfl rfl 2 (by decide) klX10_26 rfl rfl rfl (tyX10_ok 2 (by decide)) rfl rfl (Nat.le_of_ble_eq_true rfl) dX10_init_40 rfl ?_
  refine V.aload_n dX10_init_43 rfl 0 rfl ?_
  refine V.iconst (v := (3 : Int32)) dX10_init_44 (by decide) ?_
  refine V.newa (atype := .int) (ty := .int) (N' := 3) (3, .inl (fun _ => 0)) 1 ka_1 rfl rfl (fun _ => rfl) (by decide) (by decide) (by decide) (by decide) (by decide) dX10_init_45 (fun q6 => ?_)
  show V l D cy MX10_init 1 9 131 _ _ _ 47 [(0, .ref tA)] [.ref q6, .ref tA] [(tA, .inr (10, [.ref q0, .ref q2, .ref q4, .null, .long 0])), (q0, .inr (7, [.ref (ad1 0), .int 0])), (ad1 0, .inl (cy 1, 24, .inl (fun _ => 0))), (q2, .inr (7, [.ref (ad3 0), .int 0])), (ad3 0, .inl (cy 1, 24, .inl (fun _ => 0))), (q4, .inr (5, [.ref (ad5 0), .ref (ad5 1), .ref (ad5 2), .int 0])), (ad5 0, .inl (cy 1, 24, .inl (fun _ => 0))), (ad5 1, .inl (cy 1, 24, .inl (fun _ => 0))), (ad5 2, .inl (cy 3, 24, .inl (fun _ => 0))), (q6, .inl (cy 1, 3, .inl (fun _ => 0)))] 9 131
  refine V.putF (ws' := [(tA, .inr (10, [.ref q0, .ref q2, .ref q4, .ref q6, .long 0])), (q0, .inr (7, [.ref (ad1 0), .int 0])), (ad1 0, .inl (cy 1, 24, .inl (fun _ => 0))), (q2, .inr (7, [.ref (ad3 0), .int 0])), (ad3 0, .inl (cy 1, 24, .inl (fun _ => 0))), (q4, .inr (5, [.ref (ad5 0), .ref (ad5 1), .ref (ad5 2), .int 0])), (ad5 0, .inl (cy 1, 24, .inl (fun _ => 0))), (ad5 1, .inl (cy 1, 24, .inl (fun _ => 0))), (ad5 2, .inl (cy 3, 24, .inl (fun _ => 0))), (q6, .inl (cy 1, 3, .inl (fun _ => 0)))]) kfX10 tyX10 tyX10_ok nmX10 0 rfl rfl 3 (by decide) klX10_30 rfl rfl rfl (tyX10_ok 3 (by decide)) rfl rfl (Nat.le_of_ble_eq_true rfl) dX10_init_47 rfl ?_
  exact V.vret rfl dX10_init_50 (by decide) (by decide) ⟨fun k => ([q0, ad1 0, q2, ad3 0, q4, ad5 0, ad5 1, ad5 2, q6] : List Nat).getD k 0, rfl, rfl⟩
theorem dX6_init_0 : decode cX6_init 0 = .ok (.aload_n 0, 1) := by decide +kernel
theorem dX6_init_1 : decode cX6_init 1 = .ok (.invokespecial 3, 3) := by decide +kernel
theorem dX6_init_4 : decode cX6_init 4 = .ok (.aload_n 0, 1) := by decide +kernel
theorem dX6_init_5 : decode cX6_init 5 = .ok (.new 9, 3) := by decide +kernel
theorem dX6_init_8 : decode cX6_init 8 = .ok (.dup, 1) := by decide +kernel
theorem dX6_init_9 : decode cX6_init 9 = .ok (.bipush 24, 2) := by decide +kernel
theorem dX6_init_11 : decode cX6_init 11 = .ok (.invokespecial 11, 3) := by decide +kernel
theorem dX6_init_14 : decode cX6_init 14 = .ok (.putfield 14, 3) := by decide +kernel
theorem dX6_init_17 : decode cX6_init 17 = .ok (.aload_n 0, 1) := by decide +kernel
theorem dX6_init_18 : decode cX6_init 18 = .ok (.new 9, 3) := by decide +kernel
theorem dX6_init_21 : decode cX6_init 21 = .ok (.dup, 1) := by decide +kernel
theorem dX6_init_22 : decode cX6_init 22 = .ok (.bipush 24, 2) := by decide +kernel
theorem dX6_init_24 : decode cX6_init 24 = .ok (.invokespecial 11, 3) := by decide +kernel
theorem dX6_init_27 : decode cX6_init 27 = .ok (.putfield 20, 3) := by decide +kernel
theorem dX6_init_30 : decode cX6_init 30 = .ok (.aload_n 0, 1) := by decide +kernel
theorem dX6_init_31 : decode cX6_init 31 = .ok (.new 9, 3) := by decide +kernel
theorem dX6_init_34 : decode cX6_init 34 = .ok (.dup, 1) := by decide +kernel
theorem dX6_init_35 : decode cX6_init 35 = .ok (.bipush 24, 2) := by decide +kernel
theorem dX6_init_37 : decode cX6_init 37 = .ok (.invokespecial 11, 3) := by decide +kernel
theorem dX6_init_40 : decode cX6_init 40 = .ok (.putfield 23, 3) := by decide +kernel
theorem dX6_init_43 : decode cX6_init 43 = .ok (.aload_n 0, 1) := by decide +kernel
theorem dX6_init_44 : decode cX6_init 44 = .ok (.new 9, 3) := by decide +kernel
theorem dX6_init_47 : decode cX6_init 47 = .ok (.dup, 1) := by decide +kernel
theorem dX6_init_48 : decode cX6_init 48 = .ok (.bipush 24, 2) := by decide +kernel
theorem dX6_init_50 : decode cX6_init 50 = .ok (.invokespecial 11, 3) := by decide +kernel
theorem dX6_init_53 : decode cX6_init 53 = .ok (.putfield 26, 3) := by decide +kernel
theorem dX6_init_56 : decode cX6_init 56 = .ok (.aload_n 0, 1) := by decide +kernel
theorem dX6_init_57 : decode cX6_init 57 = .ok (.new 9, 3) := by decide +kernel
theorem dX6_init_60 : decode cX6_init 60 = .ok (.dup, 1) := by decide +kernel
theorem dX6_init_61 : decode cX6_init 61 = .ok (.bipush 24, 2) := by decide +kernel
theorem dX6_init_63 : decode cX6_init 63 = .ok (.invokespecial 11, 3) := by decide +kernel
theorem dX6_init_66 : decode cX6_init 66 = .ok (.putfield 29, 3) := by decide +kernel
theorem dX6_init_69 : decode cX6_init 69 = .ok (.aload_n 0, 1) := by decide +kernel
theorem dX6_init_70 : decode cX6_init 70 = .ok (.new 32, 3) := by decide +kernel
theorem dX6_init_73 : decode cX6_init 73 = .ok (.dup, 1) := by decide +kernel
theorem dX6_init_74 : decode cX6_init 74 = .ok (.bipush 24, 2) := by decide +kernel
theorem dX6_init_76 : decode cX6_init 76 = .ok (.invokespecial 34, 3) := by decide +kernel
theorem dX6_init_79 : decode cX6_init 79 = .ok (.putfield 35, 3) := by decide +kernel
theorem dX6_init_82 : decode cX6_init 82 = .ok (.aload_n 0, 1) := by decide +kernel
theorem dX6_init_83 : decode cX6_init 83 = .ok (.new 32, 3) := by decide +kernel
theorem dX6_init_86 : decode cX6_init 86 = .ok (.dup, 1) := by decide +kernel
theorem dX6_init_87 : decode cX6_init 87 = .ok (.bipush 24, 2) := by decide +kernel
theorem dX6_init_89 : decode cX6_init 89 = .ok (.invokespecial 34, 3) := by decide +kernel
theorem dX6_init_92 : decode cX6_init 92 = .ok (.putfield 39, 3) := by decide +kernel
theorem dX6_init_95 : decode cX6_init 95 = .ok (.return_, 1) := by decide +kernel
set_option maxRecDepth 100000 in
theorem CX6_init {l : Launch} {D : va_G} {cy : Nat → ClassId} (tA : Nat) : vMet l D cy MX6_init 1 24 432 [.ref tA] [(tA, .inr (6, [.null, .null, .null, .null, .null, .null, .null]))] (fun (r : Option Value) (w : va_W) => ∃ ad : Nat → Nat, r = none ∧ w = [(tA, .inr (6, [.ref (ad 0), .ref (ad 4), .ref (ad 8), .ref (ad 12), .ref (ad 16), .ref (ad 20), .ref (ad 22)])), (ad 0, .inr (5, [.ref (ad 1), .ref (ad 2), .ref (ad 3), .int 0])), (ad 1, .inl (cy 1, 24, .inl (fun _ => 0))), (ad 2, .inl (cy 1, 24, .inl (fun _ => 0))), (ad 3, .inl (cy 3, 24, .inl (fun _ => 0))), (ad 4, .inr (5, [.ref (ad 5), .ref (ad 6), .ref (ad 7), .int 0])), (ad 5, .inl (cy 1, 24, .inl (fun _ => 0))), (ad 6, .inl (cy 1, 24, .inl (fun _ => 0))), (ad 7, .inl (cy 3, 24, .inl (fun _ => 0))), (ad 8, .inr (5, [.ref (ad 9), .ref (ad 10), .ref (ad 11), .int 0])), (ad 9, .inl (cy 1, 24, .inl (fun _ => 0))), (ad 10, .inl (cy 1, 24, .inl (fun _ => 0))), (ad 11, .inl (cy 3, 24, .inl (fun _ => 0))), (ad 12, .inr (5, [.ref (ad 13), .ref (ad 14), .ref (ad 15), .int 0])), (ad 13, .inl (cy 1, 24, .inl (fun _ => 0))), (ad 14, .inl (cy 1, 24, .inl (fun _ => 0))), (ad 15, .inl (cy 3, 24, .inl (fun _ => 0))), (ad 16, .inr (5, [.ref (ad 17), .ref (ad 18), .ref (ad 19), .int 0])), (ad 17, .inl (cy 1, 24, .inl (fun _ => 0))), (ad 18, .inl (cy 1, 24, .inl (fun _ => 0))), (ad 19, .inl (cy 3, 24, .inl (fun _ => 0))), (ad 20, .inr (7, [.ref (ad 21), .int 0])), (ad 21, .inl (cy 1, 24, .inl (fun _ => 0))), (ad 22, .inr (7, [.ref (ad 23), .int 0])), (ad 23, .inl (cy 1, 24, .inl (fun _ => 0)))]) := by
  refine vMet.start (by decide +kernel) (Nat.le_of_ble_eq_true rfl) ?_
  show V l D cy MX6_init 1 24 432 _ _ _ 0 [(0, .ref tA)] [] [(tA, .inr (6, [.null, .null, .null, .null, .null, .null, .null]))] 0 0
  refine V.aload_n dX6_init_0 rfl 0 rfl ?_
  refine V.objInit klX6_3 kp_obj.1 kp_obj.2 dX6_init_1 (Nat.le_of_ble_eq_true rfl) ?_
  refine V.aload_n dX6_init_4 rfl 0 rfl ?_
  refine V.new kfX5 tyX5 tyX5_ok klX6_9 knX5 kiX5 (ci := 5) rfl [.null, .null, .null, .int 0] (by decide) (by decide) (by decide) dX6_init_5 (fun q0 => ?_)
  show V l D cy MX6_init 1 24 432 _ _ _ 8 [(0, .ref tA)] [.ref q0, .ref tA] [(tA, .inr (6, [.null, .null, .null, .null, .null, .null, .null])), (q0, .inr (5, [.null, .null, .null, .int 0]))] 1 4
  refine V.dup dX6_init_8 rfl ?_
  refine V.bipush (v := (24 : Int32)) dX6_init_9 (by decide) ?_
  refine V.callI (As := [.int (24 : Int32)]) (rest := [.ref q0, .ref tA]) (wc := [(q0, .inr (5, [.null, .null, .null, .int 0]))]) (wr := [(tA, .inr (6, [.null, .null, .null, .null, .null, .null, .null]))]) (CX5_init_24 q0) kvX5_init klX6_11 [1] [0] rfl rfl (by decide) (by decide) (by decide) rfl dX6_init_11 ⟨by decide, by decide, by decide, by decide⟩ (Nat.le_of_ble_eq_true rfl) (fun r w1 hq => ?_)
  obtain ⟨ad1, rfl, rfl⟩ := hq
  show V l D cy MX6_init 1 24 432 _ _ _ 14 [(0, .ref tA)] [.ref q0, .ref tA] [(tA, .inr (6, [.null, .null, .null, .null, .null, .null, .null])), (q0, .inr (5, [.ref (ad1 0), .ref (ad1 1), .ref (ad1 2), .int 0])), (ad1 0, .inl (cy 1, 24, .inl (fun _ => 0))), (ad1 1, .inl (cy 1, 24, .inl (fun _ => 0))), (ad1 2, .inl (cy 3, 24, .inl (fun _ => 0)))] 4 76
  refine V.putF (ws' := [(tA, .inr (6, [.ref q0, .null, .null, .null, .null, .null, .null])), (q0, .inr (5, [.ref (ad1 0), .ref (ad1 1), .ref (ad1 2), .int 0])), (ad1 0, .inl (cy 1, 24, .inl (fun _ => 0))), (ad1 1, .inl (cy 1, 24, .inl (fun _ => 0))), (ad1 2, .inl (cy 3, 24, .inl (fun _ => 0)))]) kfX6 tyX6 tyX6_ok nmX6 0 rfl rfl 0 (by decide) klX6_14 rfl rfl rfl (tyX6_ok 0 (by decide)) rfl rfl (Nat.le_of_ble_eq_true rfl) dX6_init_14 rfl ?_
  refine V.aload_n dX6_init_17 rfl 0 rfl ?_
  refine V.new kfX5 tyX5 tyX5_ok klX6_9 knX5 kiX5 (ci := 5) rfl [.null, .null, .null, .int 0] (by decide) (by decide) (by decide) dX6_init_18 (fun q2 => ?_)
  show V l D cy MX6_init 1 24 432 _ _ _ 21 [(0, .ref tA)] [.ref q2, .ref tA] [(tA, .inr (6, [.ref q0, .null, .null, .null, .null, .null, .null])), (q0, .inr (5, [.ref (ad1 0), .ref (ad1 1), .ref (ad1 2), .int 0])), (ad1 0, .inl (cy 1, 24, .inl (fun _ => 0))), (ad1 1, .inl (cy 1, 24, .inl (fun _ => 0))), (ad1 2, .inl (cy 3, 24, .inl (fun _ => 0))), (q2, .inr (5, [.null, .null, .null, .int 0]))] 5 80
  refine V.dup dX6_init_21 rfl ?_
  refine V.bipush (v := (24 : Int32)) dX6_init_22 (by decide) ?_
  refine V.callI (As := [.int (24 : Int32)]) (rest := [.ref q2, .ref tA]) (wc := [(q2, .inr (5, [.null, .null, .null, .int 0]))]) (wr := [(tA, .inr (6, [.ref q0, .null, .null, .null, .null, .null, .null])), (q0, .inr (5, [.ref (ad1 0), .ref (ad1 1), .ref (ad1 2), .int 0])), (ad1 0, .inl (cy 1, 24, .inl (fun _ => 0))), (ad1 1, .inl (cy 1, 24, .inl (fun _ => 0))), (ad1 2, .inl (cy 3, 24, .inl (fun _ => 0)))]) (CX5_init_24 q2) kvX5_init klX6_11 [5] [0, 1, 2, 3, 4] rfl rfl (by decide) (by decide) (by decide) rfl dX6_init_24 ⟨by decide, by decide, by decide, by decide⟩ (Nat.le_of_ble_eq_true rfl) (fun r w1 hq => ?_)
  obtain ⟨ad3, rfl, rfl⟩ := hq
  show V l D cy MX6_init 1 24 432 _ _ _ 27 [(0, .ref tA)] [.ref q2, .ref tA] [(tA, .inr (6, [.ref q0, .null, .null, .null, .null, .null, .null])), (q0, .inr (5, [.ref (ad1 0), .ref (ad1 1), .ref (ad1 2), .int 0])), (ad1 0, .inl (cy 1, 24, .inl (fun _ => 0))), (ad1 1, .inl (cy 1, 24, .inl (fun _ => 0))), (ad1 2, .inl (cy 3, 24, .inl (fun _ => 0))), (q2, .inr (5, [.ref (ad3 0), .ref (ad3 1), .ref (ad3 2), .int 0])), (ad3 0, .inl (cy 1, 24, .inl (fun _ => 0))), (ad3 1, .inl (cy 1, 24, .inl (fun _ => 0))), (ad3 2, .inl (cy 3, 24, .inl (fun _ => 0)))] 8 152
  refine V.putF (ws' := [(tA, .inr (6, [.ref q0, .ref q2, .null, .null, .null, .null, .null])), (q0, .inr (5, [.ref (ad1 0), .ref (ad1 1), .ref (ad1 2), .int 0])), (ad1 0, .inl (cy 1, 24, .inl (fun _ => 0))), (ad1 1, .inl (cy 1, 24, .inl (fun _ => 0))), (ad1 2, .inl (cy 3, 24, .inl (fun _ => 0))), (q2, .inr (5, [.ref (ad3 0), .ref (ad3 1), .ref (ad3 2), .int 0])), (ad3 0, .inl (cy 1, 24, .inl (fun _ => 0))), (ad3 1, .inl (cy 1, 24, .inl (fun _ => 0))), (ad3 2, .inl (cy 3, 24, .inl (fun _ => 0)))]) kfX6 tyX6 tyX6_ok nmX6 0 rfl rfl 1 (by decide) klX6_20 rfl rfl rfl (tyX6_ok 1 (by decide)) rfl rfl (Nat.le_of_ble_eq_true rfl) dX6_init_27 rfl ?_
  refine V.aload_n dX6_init_30 rfl 0 rfl ?_
  refine V.new kfX5 tyX5 tyX5_ok klX6_9 knX5 kiX5 (ci := 5) rfl [.null, .null, .null, .int 0] (by decide) (by decide) (by decide) dX6_init_31 (fun q4 => ?_)
  show V l D cy MX6_init 1 24 432 _ _ _ 34 [(0, .ref tA)] [.ref q4, .ref tA] [(tA, .inr (6, [.ref q0, .ref q2, .null, .null, .null, .null, .null])), (q0, .inr (5, [.ref (ad1 0), .ref (ad1 1), .ref (ad1 2), .int 0])), (ad1 0, .inl (cy 1, 24, .inl (fun _ => 0))), (ad1 1, .inl (cy 1, 24, .inl (fun _ => 0))), (ad1 2, .inl (cy 3, 24, .inl (fun _ => 0))), (q2, .inr (5, [.ref (ad3 0), .ref (ad3 1), .ref (ad3 2), .int 0])), (ad3 0, .inl (cy 1, 24, .inl (fun _ => 0))), (ad3 1, .inl (cy 1, 24, .inl (fun _ => 0))), (ad3 2, .inl (cy 3, 24, .inl (fun _ => 0))), (q4, .inr (5, [.null, .null, .null, .int 0]))] 9 156
  refine V.dup dX6_init_34 rfl ?_
  refine V.bipush (v := (24 : Int32)) dX6_init_35 (by decide) ?_
  refine V.callI (As := [.int (24 : Int32)]) (rest := [.ref q4, .ref tA]) (wc := [(q4, .inr (5, [.null, .null, .null, .int 0]))]) (wr := [(tA, .inr (6, [.ref q0, .ref q2, .null, .null, .null, .null, .null])), (q0, .inr (5, [.ref (ad1 0), .ref (ad1 1), .ref (ad1 2), .int 0])), (ad1 0, .inl (cy 1, 24, .inl (fun _ => 0))), (ad1 1, .inl (cy 1, 24, .inl (fun _ => 0))), (ad1 2, .inl (cy 3, 24, .inl (fun _ => 0))), (q2, .inr (5, [.ref (ad3 0), .ref (ad3 1), .ref (ad3 2), .int 0])), (ad3 0, .inl (cy 1, 24, .inl (fun _ => 0))), (ad3 1, .inl (cy 1, 24, .inl (fun _ => 0))), (ad3 2, .inl (cy 3, 24, .inl (fun _ => 0)))]) (CX5_init_24 q4) kvX5_init klX6_11 [9] [0, 1, 2, 3, 4, 5, 6, 7, 8] rfl rfl (by decide) (by decide) (by decide) rfl dX6_init_37 ⟨by decide, by decide, by decide, by decide⟩ (Nat.le_of_ble_eq_true rfl) (fun r w1 hq => ?_)
  obtain ⟨ad5, rfl, rfl⟩ := hq
  show V l D cy MX6_init 1 24 432 _ _ _ 40 [(0, .ref tA)] [.ref q4, .ref tA] [(tA, .inr (6, [.ref q0, .ref q2, .null, .null, .null, .null, .null])), (q0, .inr (5, [.ref (ad1 0), .ref (ad1 1), .ref (ad1 2), .int 0])), (ad1 0, .inl (cy 1, 24, .inl (fun _ => 0))), (ad1 1, .inl (cy 1, 24, .inl (fun _ => 0))), (ad1 2, .inl (cy 3, 24, .inl (fun _ => 0))), (q2, .inr (5, [.ref (ad3 0), .ref (ad3 1), .ref (ad3 2), .int 0])), (ad3 0, .inl (cy 1, 24, .inl (fun _ => 0))), (ad3 1, .inl (cy 1, 24, .inl (fun _ => 0))), (ad3 2, .inl (cy 3, 24, .inl (fun _ => 0))), (q4, .inr (5, [.ref (ad5 0), .ref (ad5 1), .ref (ad5 2), .int 0])), (ad5 0, .inl (cy 1, 24, .inl (fun _ => 0))), (ad5 1, .inl (cy 1, 24, .inl (fun _ => 0))), (ad5 2, .inl (cy 3, 24, .inl (fun _ => 0)))] 12 228
  refine V.putF (ws' := [(tA, .inr (6, [.ref q0, .ref q2, .ref q4, .null, .null, .null, .null])), (q0, .inr (5, [.ref (ad1 0), .ref (ad1 1), .ref (ad1 2), .int 0])), (ad1 0, .inl (cy 1, 24, .inl (fun _ => 0))), (ad1 1, .inl (cy 1, 24, .inl (fun _ => 0))), (ad1 2, .inl (cy 3, 24, .inl (fun _ => 0))), (q2, .inr (5, [.ref (ad3 0), .ref (ad3 1), .ref (ad3 2), .int 0])), (ad3 0, .inl (cy 1, 24, .inl (fun _ => 0))), (ad3 1, .inl (cy 1, 24, .inl (fun _ => 0))), (ad3 2, .inl (cy 3, 24, .inl (fun _ => 0))), (q4, .inr (5, [.ref (ad5 0), .ref (ad5 1), .ref (ad5 2), .int 0])), (ad5 0, .inl (cy 1, 24, .inl (fun _ => 0))), (ad5 1, .inl (cy 1, 24, .inl (fun _ => 0))), (ad5 2, .inl (cy 3, 24, .inl (fun _ => 0)))]) kfX6 tyX6 tyX6_ok nmX6 0 rfl rfl 2 (by decide) klX6_23 rfl rfl rfl (tyX6_ok 2 (by decide)) rfl rfl (Nat.le_of_ble_eq_true rfl) dX6_init_40 rfl ?_
  refine V.aload_n dX6_init_43 rfl 0 rfl ?_
  refine V.new kfX5 tyX5 tyX5_ok klX6_9 knX5 kiX5 (ci := 5) rfl [.null, .null, .null, .int 0] (by decide) (by decide) (by decide) dX6_init_44 (fun q6 => ?_)
  show V l D cy MX6_init 1 24 432 _ _ _ 47 [(0, .ref tA)] [.ref q6, .ref tA] [(tA, .inr (6, [.ref q0, .ref q2, .ref q4, .null, .null, .null, .null])), (q0, .inr (5, [.ref (ad1 0), .ref (ad1 1), .ref (ad1 2), .int 0])), (ad1 0, .inl (cy 1, 24, .inl (fun _ => 0))), (ad1 1, .inl (cy 1, 24, .inl (fun _ => 0))), (ad1 2, .inl (cy 3, 24, .inl (fun _ => 0))), (q2, .inr (5, [.ref (ad3 0), .ref (ad3 1), .ref (ad3 2), .int 0])), (ad3 0, .inl (cy 1, 24, .inl (fun _ => 0))), (ad3 1, .inl (cy 1, 24, .inl (fun _ => 0))), (ad3 2, .inl (cy 3, 24, .inl (fun _ => 0))), (q4, .inr (5, [.ref (ad5 0), .ref (ad5 1), .ref (ad5 2), .int 0])), (ad5 0, .inl (cy 1, 24, .inl (fun _ => 0))), (ad5 1, .inl (cy 1, 24, .inl (fun _ => 0))), (ad5 2, .inl (cy 3, 24, .inl (fun _ => 0))), (q6, .inr (5, [.null, .null, .null, .int 0]))] 13 232
  refine V.dup dX6_init_47 rfl ?_
  refine V.bipush (v := (24 : Int32)) dX6_init_48 (by decide) ?_
  refine V.callI (As := [.int (24 : Int32)]) (rest := [.ref q6, .ref tA]) (wc := [(q6, .inr (5, [.null, .null, .null, .int 0]))]) (wr := [(tA, .inr (6, [.ref q0, .ref q2, .ref q4, .null, .null, .null, .null])), (q0, .inr (5, [.ref (ad1 0), .ref (ad1 1), .ref (ad1 2), .int 0])), (ad1 0, .inl (cy 1, 24, .inl (fun _ => 0))), (ad1 1, .inl (cy 1, 24, .inl (fun _ => 0))), (ad1 2, .inl (cy 3, 24, .inl (fun _ => 0))), (q2, .inr (5, [.ref (ad3 0), .ref (ad3 1), .ref (ad3 2), .int 0])), (ad3 0, .inl (cy 1, 24, .inl (fun _ => 0))), (ad3 1, .inl (cy 1, 24, .inl (fun _ => 0))), (ad3 2, .inl (cy 3, 24, .inl (fun _ => 0))), (q4, .inr (5, [.ref (ad5 0), .ref (ad5 1), .ref (ad5 2), .int 0])), (ad5 0, .inl (cy 1, 24, .inl (fun _ => 0))), (ad5 1, .inl (cy 1, 24, .inl (fun _ => 0))), (ad5 2, .inl (cy 3, 24, .inl (fun _ => 0)))]) (CX5_init_24 q6) kvX5_init klX6_11 [13] [0, 1, 2, 3, 4, 5, 6, 7, 8, 9, 10, 11, 12] rfl rfl (by decide) (by decide) (by decide) rfl dX6_init_50 ⟨by decide, by decide, by decide, by decide⟩ (Nat.le_of_ble_eq_true rfl) (fun r w1 hq => ?_)
  obtain ⟨ad7, rfl, rfl⟩ := hq
  show V l D cy MX6_init 1 24 432 _ _ _ 53 [(0, .ref tA)] [.ref q6, .ref tA] [(tA, .inr (6, [.ref q0, .ref q2, .ref q4, .null, .null, .null, .null])), (q0, .inr (5, [.ref (ad1 0), .ref (ad1 1), .ref (ad1 2), .int 0])), (ad1 0, .inl (cy 1, 24, .inl (fun _ => 0))), (ad1 1, .inl (cy 1, 24, .inl (fun _ => 0))), (ad1 2, .inl (cy 3, 24, .inl (fun _ => 0))), (q2, .inr (5, [.ref (ad3 0), .ref (ad3 1), .ref (ad3 2), .int 0])), (ad3 0, .inl (cy 1, 24, .inl (fun _ => 0))), (ad3 1, .inl (cy 1, 24, .inl (fun _ => 0))), (ad3 2, .inl (cy 3, 24, .inl (fun _ => 0))), (q4, .inr (5, [.ref (ad5 0), .ref (ad5 1), .ref (ad5 2), .int 0])), (ad5 0, .inl (cy 1, 24, .inl (fun _ => 0))), (ad5 1, .inl (cy 1, 24, .inl (fun _ => 0))), (ad5 2, .inl (cy 3, 24, .inl (fun _ => 0))), (q6, .inr (5, [.ref (ad7 0), .ref (ad7 1), .ref (ad7 2), .int 0])), (ad7 0, .inl (cy 1, 24, .inl (fun _ => 0))), (ad7 1, .inl (cy 1, 24, .inl (fun _ => 0))), (ad7 2, .inl (cy 3, 24, .inl (fun _ => 0)))] 16 304
  refine V.putF (ws' := [(tA, .inr (6, [.ref q0, .ref q2, .ref q4, .ref q6, .null, .null, .null])), (q0, .inr (5, [.ref (ad1 0), .ref (ad1 1), .ref (ad1 2), .int 0])), (ad1 0, .inl (cy 1, 24, .inl (fun _ => 0))), (ad1 1, .inl (cy 1, 24, .inl (fun _ => 0))), (ad1 2, .inl (cy 3, 24, .inl (fun _ => 0))), (q2, .inr (5, [.ref (ad3 0), .ref (ad3 1), .ref (ad3 2), .int 0])), (ad3 0, .inl (cy 1, 24, .inl (fun _ => 0))), (ad3 1, .inl (cy 1, 24, .inl (fun _ => 0))), (ad3 2, .inl (cy 3, 24, .inl (fun _ => 0))), (q4, .inr (5, [.ref (ad5 0), .ref (ad5 1), .ref (ad5 2), .int 0])), (ad5 0, .inl (cy 1, 24, .inl (fun _ => 0))), (ad5 1, .inl (cy 1, 24, .inl (fun _ => 0))), (ad5 2, .inl (cy 3, 24, .inl (fun _ => 0))), (q6, .inr (5, [.ref (ad7 0), .ref (ad7 1), .ref (ad7 2), .int 0])), (ad7 0, .inl (cy 1, 24, .inl (fun _ => 0))), (ad7 1, .inl (cy 1, 24, .inl (fun _ => 0))), (ad7 2, .inl (cy 3, 24, .inl (fun _ => 0)))]) kfX6 tyX6 tyX6_ok nmX6 0 rfl rfl 3 (by decide) klX6_26 rfl rfl rfl (tyX6_ok 3 (by decide)) rfl rfl (Nat.le_of_ble_eq_true rfl) dX6_init_53 rfl ?_
  refine V.aload_n dX6_init_56 rfl 0 rfl ?_
  refine V.new kfX5 tyX5 tyX5_ok klX6_9 knX5 kiX5 (ci := 5) rfl [.null, .null, .null, .int 0] (by decide) (by decide) (by decide) dX6_init_57 (fun q8 => ?_)
  show V l D cy MX6_init 1 24 432 _ _ _ 60 [(0, .ref tA)] [.ref q8, .ref tA] [(tA, .inr (6, [.ref q0, .ref q2, .ref q4, .ref q6, .null, .null, .null])), (q0, .inr (5, [.ref (ad1 0), .ref (ad1 1), .ref (ad1 2), .int 0])), (ad1 0, .inl (cy 1, 24, .inl (fun _ => 0))), (ad1 1, .inl (cy 1, 24, .inl (fun _ => 0))), (ad1 2, .inl (cy 3, 24, .inl (fun _ => 0))), (q2, .inr (5, [.ref (ad3 0), .ref (ad3 1), .ref (ad3 2), .int 0])), (ad3 0, .inl (cy 1, 24, .inl (fun _ => 0))), (ad3 1, .inl (cy 1, 24, .inl (fun _ => 0))), (ad3 2, .inl (cy 3, 24, .inl (fun _ => 0))), (q4, .inr (5, [.ref (ad5 0), .ref (ad5 1), .ref (ad5 2), .int 0])), (ad5 0, .inl (cy 1, 24, .inl (fun _ => 0))), (ad5 1, .inl (cy 1, 24, .inl (fun _ => 0))), (ad5 2, .inl (cy 3, 24, .inl (fun _ => 0))), (q6, .inr (5, [.ref (ad7 0), .ref (ad7 1), .ref (ad7 2), .int 0])), (ad7 0, .inl (cy 1, 24, .inl (fun _ => 0))), (ad7 1, .inl (cy 1, 24, .inl (fun _ => 0))), (ad7 2, .inl (cy 3, 24, .inl (fun _ => 0))), (q8, .inr (5, [.null, .null, .null, .int 0]))] 17 308
  refine V.dup dX6_init_60 rfl ?_
  refine V.bipush (v := (24 : Int32)) dX6_init_61 (by decide) ?_
  refine V.callI (As := [.int (24 : Int32)]) (rest := [.ref q8, .ref tA]) (wc := [(q8, .inr (5, [.null, .null, .null, .int 0]))]) (wr := [(tA, .inr (6, [.ref q0, .ref q2, .ref q4, .ref q6, .null, .null, .null])), (q0, .inr (5, [.ref (ad1 0), .ref (ad1 1), .ref (ad1 2), .int 0])), (ad1 0, .inl (cy 1, 24, .inl (fun _ => 0))), (ad1 1, .inl (cy 1, 24, .inl (fun _ => 0))), (ad1 2, .inl (cy 3, 24, .inl (fun _ => 0))), (q2, .inr (5, [.ref (ad3 0), .ref (ad3 1), .ref (ad3 2), .int 0])), (ad3 0, .inl (cy 1, 24, .inl (fun _ => 0))), (ad3 1, .inl (cy 1, 24, .inl (fun _ => 0))), (ad3 2, .inl (cy 3, 24, .inl (fun _ => 0))), (q4, .inr (5, [.ref (ad5 0), .ref (ad5 1), .ref (ad5 2), .int 0])), (ad5 0, .inl (cy 1, 24, .inl (fun _ => 0))), (ad5 1, .inl (cy 1, 24, .inl (fun _ => 0))), (ad5 2, .inl (cy 3, 24, .inl (fun _ => 0))), (q6, .inr (5, [.ref (ad7 0), .ref (ad7 1), .ref (ad7 2), .int 0])), (ad7 0, .inl (cy 1, 24, .inl (fun _ => 0))), (ad7 1, .inl (cy 1, 24, .inl (fun _ => 0))), (ad7 2, .inl (cy 3, 24, .inl (fun _ => 0)))]) (CX5_init_24 q8) kvX5_init klX6_11 [17] [0, 1, 2, 3, 4, 5, 6, 7, 8, 9, 10, 11, 12, 13, 14, 15, 16] rfl rfl (by decide) (by decide) (by decide) rfl dX6_init_63 ⟨by decide, by decide, by decide, by decide⟩ (Nat.le_of_ble_eq_true rfl) (fun r w1 hq => ?_)
  obtain ⟨ad9, rfl, rfl⟩ := hq
  show V l D cy MX6_init 1 24 432 _ _ _ 66 [(0, .ref tA)] [.ref q8, .ref tA] [(tA, .inr (6, [.ref q0, .ref q2, .ref q4, .ref q6, .null, .null, .null])), (q0, .inr (5, [.ref (ad1 0), .ref (ad1 1), .ref (ad1 2), .int 0])), (ad1 0, .inl (cy 1, 24, .inl (fun _ => 0))), (ad1 1, .inl (cy 1, 24, .inl (fun _ => 0))), (ad1 2, .inl (cy 3, 24, .inl (fun _ => 0))), (q2, .inr (5, [.ref (ad3 0), .ref (ad3 1), .ref (ad3 2), .int 0])), (ad3 0, .inl (cy 1, 24, .inl (fun _ => 0))), (ad3 1, .inl (cy 1, 24, .inl (fun _ => 0))), (ad3 2, .inl (cy 3, 24, .inl (fun _ => 0))), (q4, .inr (5, [.ref (ad5 0), .ref (ad5 1), .ref (ad5 2), .int 0])), (ad5 0, .inl (cy 1, 24, .inl (fun _ => 0))), (ad5 1, .inl (cy 1, 24, .inl (fun _ => 0))), (ad5 2, .inl (cy 3, 24, .inl (fun _ => 0))), (q6, .inr (5, [.ref (ad7 0), .ref (ad7 1), .ref (ad7 2), .int 0])), (ad7 0, .inl (cy 1, 24, .inl (fun _ => 0))), (ad7 1, .inl (cy 1, 24, .inl (fun _ => 0))), (ad7 2, .inl (cy 3, 24, .inl (fun _ => 0))), (q8, .inr (5, [.ref (ad9 0), .ref (ad9 1), .ref (ad9 2), .int 0])), (ad9 0, .inl (cy 1, 24, .inl (fun _ => 0))), (ad9 1, .inl (cy 1, 24, .inl (fun _ => 0))), (ad9 2, .inl (cy 3, 24, .inl (fun _ => 0)))] 20 380
  refine V.putF (ws' := [(tA, .inr (6, [.ref q0, .ref q2, .ref q4, .ref q6, .ref q8, .null, .null])), (q0, .inr (5, [.ref (ad1 0), .ref (ad1 1), .ref (ad1 2), .int 0])), (ad1 0, .inl (cy 1, 24, .inl (fun _ => 0))), (ad1 1, .inl (cy 1, 24, .inl (fun _ => 0))), (ad1 2, .inl (cy 3, 24, .inl (fun _ => 0))), (q2, .inr (5, [.ref (ad3 0), .ref (ad3 1), .ref (ad3 2), .int 0])), (ad3 0, .inl (cy 1, 24, .inl (fun _ => 0))), (ad3 1, .inl (cy 1, 24, .inl (fun _ => 0))), (ad3 2, .inl (cy 3, 24, .inl (fun _ => 0))), (q4, .inr (5, [.ref (ad5 0), .ref (ad5 1), .ref (ad5 2), .int 0])), (ad5 0, .inl (cy 1, 24, .inl (fun _ => 0))), (ad5 1, .inl (cy 1, 24, .inl (fun _ => 0))), (ad5 2, .inl (cy 3, 24, .inl (fun _ => 0))), (q6, .inr (5, [.ref (ad7 0), .ref (ad7 1), .ref (ad7 2), .int 0])), (ad7 0, .inl (cy 1, 24, .inl (fun _ => 0))), (ad7 1, .inl (cy 1, 24, .inl (fun _ => 0))), (ad7 2, .inl (cy 3, 24, .inl (fun _ => 0))), (q8, .inr (5, [.ref (ad9 0), .ref (ad9 1), .ref (ad9 2), .int 0])), (ad9 0, .inl (cy 1, 24, .inl (fun _ => 0))), (ad9 1, .inl (cy 1, 24, .inl (fun _ => 0))), (ad9 2, .inl (cy 3, 24, .inl (fun _ => 0)))]) kfX6 tyX6 tyX6_ok nmX6 0 rfl rfl 4 (by decide) klX6_29 rfl rfl rfl (tyX6_ok 4 (by decide)) rfl rfl (Nat.le_of_ble_eq_true rfl) dX6_init_66 rfl ?_
  refine V.aload_n dX6_init_69 rfl 0 rfl ?_
  refine V.new kfX7 tyX7 tyX7_ok klX6_32 knX7 kiX7 (ci := 7) rfl [.null, .int 0] (by decide) (by decide) (by decide) dX6_init_70 (fun q10 => ?_)
  show V l D cy MX6_init 1 24 432 _ _ _ 73 [(0, .ref tA)] [.ref q10, .ref tA] [(tA, .inr (6, [.ref q0, .ref q2, .ref q4, .ref q6, .ref q8, .null, .null])), (q0, .inr (5, [.ref (ad1 0), .ref (ad1 1), .ref (ad1 2), .int 0])), (ad1 0, .inl (cy 1, 24, .inl (fun _ => 0))), (ad1 1, .inl (cy 1, 24, .inl (fun _ => 0))), (ad1 2, .inl (cy 3, 24, .inl (fun _ => 0))), (q2, .inr (5, [.ref (ad3 0), .ref (ad3 1), .ref (ad3 2), .int 0])), (ad3 0, .inl (cy 1, 24, .inl (fun _ => 0))), (ad3 1, .inl (cy 1, 24, .inl (fun _ => 0))), (ad3 2, .inl (cy 3, 24, .inl (fun _ => 0))), (q4, .inr (5, [.ref (ad5 0), .ref (ad5 1), .ref (ad5 2), .int 0])), (ad5 0, .inl (cy 1, 24, .inl (fun _ => 0))), (ad5 1, .inl (cy 1, 24, .inl (fun _ => 0))), (ad5 2, .inl (cy 3, 24, .inl (fun _ => 0))), (q6, .inr (5, [.ref (ad7 0), .ref (ad7 1), .ref (ad7 2), .int 0])), (ad7 0, .inl (cy 1, 24, .inl (fun _ => 0))), (ad7 1, .inl (cy 1, 24, .inl (fun _ => 0))), (ad7 2, .inl (cy 3, 24, .inl (fun _ => 0))), (q8, .inr (5, [.ref (ad9 0), .ref (ad9 1), .ref (ad9 2), .int 0])), (ad9 0, .inl (cy 1, 24, .inl (fun _ => 0))), (ad9 1, .inl (cy 1, 24, .inl (fun _ => 0))), (ad9 2, .inl (cy 3, 24, .inl (fun _ => 0))), (q10, .inr (7, [.null, .int 0]))] 21 382
  refine V.dup dX6_init_73 rfl ?_
  refine V.bipush (v := (24 : Int32)) dX6_init_74 (by decide) ?_
  refine V.callI (As := [.int (24 : Int32)]) (rest := [.ref q10, .ref tA]) (wc := [(q10, .inr (7, [.null, .int 0]))]) (wr := [(tA, .inr (6, [.ref q0, .ref q2, .ref q4, .ref q6, .ref q8, .null, .null])), (q0, .inr (5, [.ref (ad1 0), .ref (ad1 1), .ref (ad1 2), .int 0])), (ad1 0, .inl (cy 1, 24, .inl (fun _ => 0))), (ad1 1, .inl (cy 1, 24, .inl (fun _ => 0))), (ad1 2, .inl (cy 3, 24, .inl (fun _ => 0))), (q2, .inr (5, [.ref (ad3 0), .ref (ad3 1), .ref (ad3 2), .int 0])), (ad3 0, .inl (cy 1, 24, .inl (fun _ => 0))), (ad3 1, .inl (cy 1, 24, .inl (fun _ => 0))), (ad3 2, .inl (cy 3, 24, .inl (fun _ => 0))), (q4, .inr (5, [.ref (ad5 0), .ref (ad5 1), .ref (ad5 2), .int 0])), (ad5 0, .inl (cy 1, 24, .inl (fun _ => 0))), (ad5 1, .inl (cy 1, 24, .inl (fun _ => 0))), (ad5 2, .inl (cy 3, 24, .inl (fun _ => 0))), (q6, .inr (5, [.ref (ad7 0), .ref (ad7 1), .ref (ad7 2), .int 0])), (ad7 0, .inl (cy 1, 24, .inl (fun _ => 0))), (ad7 1, .inl (cy 1, 24, .inl (fun _ => 0))), (ad7 2, .inl (cy 3, 24, .inl (fun _ => 0))), (q8, .inr (5, [.ref (ad9 0), .ref (ad9 1), .ref (ad9 2), .int 0])), (ad9 0, .inl (cy 1, 24, .inl (fun _ => 0))), (ad9 1, .inl (cy 1, 24, .inl (fun _ => 0))), (ad9 2, .inl (cy 3, 24, .inl (fun _ => 0)))]) (CX7_init_24 q10) kvX7_init klX6_34 [21] [0, 1, 2, 3, 4, 5, 6, 7, 8, 9, 10, 11, 12, 13, 14, 15, 16, 17, 18, 19, 20] rfl rfl (by decide) (by decide) (by decide) rfl dX6_init_76 ⟨by decide, by decide, by decide, by decide⟩ (Nat.le_of_ble_eq_true rfl) (fun r w1 hq => ?_)
  obtain ⟨ad11, rfl, rfl⟩ := hq
  show V l D cy MX6_init 1 24 432 _ _ _ 79 [(0, .ref tA)] [.ref q10, .ref tA] [(tA, .inr (6, [.ref q0, .ref q2, .ref q4, .ref q6, .ref q8, .null, .null])), (q0, .inr (5, [.ref (ad1 0), .ref (ad1 1), .ref (ad1 2), .int 0])), (ad1 0, .inl (cy 1, 24, .inl (fun _ => 0))), (ad1 1, .inl (cy 1, 24, .inl (fun _ => 0))), (ad1 2, .inl (cy 3, 24, .inl (fun _ => 0))), (q2, .inr (5, [.ref (ad3 0), .ref (ad3 1), .ref (ad3 2), .int 0])), (ad3 0, .inl (cy 1, 24, .inl (fun _ => 0))), (ad3 1, .inl (cy 1, 24, .inl (fun _ => 0))), (ad3 2, .inl (cy 3, 24, .inl (fun _ => 0))), (q4, .inr (5, [.ref (ad5 0), .ref (ad5 1), .ref (ad5 2), .int 0])), (ad5 0, .inl (cy 1, 24, .inl (fun _ => 0))), (ad5 1, .inl (cy 1, 24, .inl (fun _ => 0))), (ad5 2, .inl (cy 3, 24, .inl (fun _ => 0))), (q6, .inr (5, [.ref (ad7 0), .ref (ad7 1), .ref (ad7 2), .int 0])), (ad7 0, .inl (cy 1, 24, .inl (fun _ => 0))), (ad7 1, .inl (cy 1, 24, .inl (fun _ => 0))), (ad7 2, .inl (cy 3, 24, .inl (fun _ => 0))), (q8, .inr (5, [.ref (ad9 0), .ref (ad9 1), .ref (ad9 2), .int 0])), (ad9 0, .inl (cy 1, 24, .inl (fun _ => 0))), (ad9 1, .inl (cy 1, 24, .inl (fun _ => 0))), (ad9 2, .inl (cy 3, 24, .inl (fun _ => 0))), (q10, .inr (7, [.ref (ad11 0), .int 0])), (ad11 0, .inl (cy 1, 24, .inl (fun _ => 0)))] 22 406
  refine V.putF (ws' := [(tA, .inr (6, [.ref q0, .ref q2, .ref q4, .ref q6, .ref q8, .ref q10, .null])), (q0, .inr (5, [.ref (ad1 0), .ref (ad1 1), .ref (ad1 2), .int 0])), (ad1 0, .inl (cy 1, 24, .inl (fun _ => 0))), (ad1 1, .inl (cy 1, 24, .inl (fun _ => 0))), (ad1 2, .inl (cy 3, 24, .inl (fun _ => 0))), (q2, .inr (5, [.ref (ad3 0), .ref (ad3 1), .ref (ad3 2), .int 0])), (ad3 0, .inl (cy 1, 24, .inl (fun _ => 0))), (ad3 1, .inl (cy 1, 24, .inl (fun _ => 0))), (ad3 2, .inl (cy 3, 24, .inl (fun _ => 0))), (q4, .inr (5, [.ref (ad5 0), .ref (ad5 1), .ref (ad5 2), .int 0])), (ad5 0, .inl (cy 1, 24, .inl (fun _ => 0))), (ad5 1, .inl (cy 1, 24, .inl (fun _ => 0))), (ad5 2, .inl (cy 3, 24, .inl (fun _ => 0))), (q6, .inr (5, [.ref (ad7 0), .ref (ad7 1), .ref (ad7 2), .int 0])), (ad7 0, .inl (cy 1, 24, .inl (fun _ => 0))), (ad7 1, .inl (cy 1, 24, .inl (fun _ => 0))), (ad7 2, .inl (cy 3, 24, .inl (fun _ => 0))), (q8, .inr (5, [.ref (ad9 0), .ref (ad9 1), .ref (ad9 2), .int 0])), (ad9 0, .inl (cy 1, 24, .inl (fun _ => 0))), (ad9 1, .inl (cy 1, 24, .inl (fun _ => 0))), (ad9 2, .inl (cy 3, 24, .inl (fun _ => 0))), (q10, .inr (7, [.ref (ad11 0), .int 0])), (ad11 0, .inl (cy 1, 24, .inl (fun _ => 0)))]) kfX6 tyX6 tyX6_ok nmX6 0 rfl rfl 5 (by decide) klX6_35 rfl rfl rfl (tyX6_ok 5 (by decide)) rfl rfl (Nat.le_of_ble_eq_true rfl) dX6_init_79 rfl ?_
  refine V.aload_n dX6_init_82 rfl 0 rfl ?_
  refine V.new kfX7 tyX7 tyX7_ok klX6_32 knX7 kiX7 (ci := 7) rfl [.null, .int 0] (by decide) (by decide) (by decide) dX6_init_83 (fun q12 => ?_)
  show V l D cy MX6_init 1 24 432 _ _ _ 86 [(0, .ref tA)] [.ref q12, .ref tA] [(tA, .inr (6, [.ref q0, .ref q2, .ref q4, .ref q6, .ref q8, .ref q10, .null])), (q0, .inr (5, [.ref (ad1 0), .ref (ad1 1), .ref (ad1 2), .int 0])), (ad1 0, .inl (cy 1, 24, .inl (fun _ => 0))), (ad1 1, .inl (cy 1, 24, .inl (fun _ => 0))), (ad1 2, .inl (cy 3, 24, .inl (fun _ => 0))), (q2, .inr (5, [.ref (ad3 0), .ref (ad3 1), .ref (ad3 2), .int 0])), (ad3 0, .inl (cy 1, 24, .inl (fun _ => 0))), (ad3 1, .inl (cy 1, 24, .inl (fun _ => 0))), (ad3 2, .inl (cy 3, 24, .inl (fun _ => 0))), (q4, .inr (5, [.ref (ad5 0), .ref (ad5 1), .ref (ad5 2), .int 0])), (ad5 0, .inl (cy 1, 24, .inl (fun _ => 0))), (ad5 1, .inl (cy 1, 24, .inl (fun _ => 0))), (ad5 2, .inl (cy 3, 24, .inl (fun _ => 0))), (q6, .inr (5, [.ref (ad7 0), .ref (ad7 1), .ref (ad7 2), .int 0])), (ad7 0, .inl (cy 1, 24, .inl (fun _ => 0))), (ad7 1, .inl (cy 1, 24, .inl (fun _ => 0))), (ad7 2, .inl (cy 3, 24, .inl (fun _ => 0))), (q8, .inr (5, [.ref (ad9 0), .ref (ad9 1), .ref (ad9 2), .int 0])), (ad9 0, .inl (cy 1, 24, .inl (fun _ => 0))), (ad9 1, .inl (cy 1, 24, .inl (fun _ => 0))), (ad9 2, .inl (cy 3, 24, .inl (fun _ => 0))), (q10, .inr (7, [.ref (ad11 0), .int 0])), (ad11 0, .inl (cy 1, 24, .inl (fun _ => 0))), (q12, .inr (7, [.null, .int 0]))] 23 408
  refine V.dup dX6_init_86 rfl ?_
  refine V.bipush (v := (24 : Int32)) dX6_init_87 (by decide) ?_
  refine V.callI (As := [.int (24 : Int32)]) (rest := [.ref q12, .ref tA]) (wc := [(q12, .inr (7, [.null, .int 0]))]) (wr := [(tA, .inr (6, [.ref q0, .ref q2, .ref q4, .ref q6, .ref q8, .ref q10, .null])), (q0, .inr (5, [.ref (ad1 0), .ref (ad1 1), .ref (ad1 2), .int 0])), (ad1 0, .inl (cy 1, 24, .inl (fun _ => 0))), (ad1 1, .inl (cy 1, 24, .inl (fun _ => 0))), (ad1 2, .inl (cy 3, 24, .inl (fun _ => 0))), (q2, .inr (5, [.ref (ad3 0), .ref (ad3 1), .ref (ad3 2), .int 0])), (ad3 0, .inl (cy 1, 24, .inl (fun _ => 0))), (ad3 1, .inl (cy 1, 24, .inl (fun _ => 0))), (ad3 2, .inl (cy 3, 24, .inl (fun _ => 0))), (q4, .inr (5, [.ref (ad5 0), .ref (ad5 1), .ref (ad5 2), .int 0])), (ad5 0, .inl (cy 1, 24, .inl (fun _ => 0))), (ad5 1, .inl (cy 1, 24, .inl (fun _ => 0))), (ad5 2, .inl (cy 3, 24, .inl (fun _ => 0))), (q6, .inr (5, [.ref (ad7 0), .ref (ad7 1), .ref (ad7 2), .int 0])), (ad7 0, .inl (cy 1, 24, .inl (fun _ => 0))), (ad7 1, .inl (cy 1, 24, .inl (fun _ => 0))), (ad7 2, .inl (cy 3, 24, .inl (fun _ => 0))), (q8, .inr (5, [.ref (ad9 0), .ref (ad9 1), .ref (ad9 2), .int 0])), (ad9 0, .inl (cy 1, 24, .inl (fun _ => 0))), (ad9 1, .inl (cy 1, 24, .inl (fun _ => 0))), (ad9 2, .inl (cy 3, 24, .inl (fun _ => 0))), (q10, .inr (7, [.ref (ad11 0), .int 0])), (ad11 0, .inl (cy 1, 24, .inl (fun _ => 0)))]) (CX7_init_24 q12) kvX7_init klX6_34 [23] [0, 1, 2, 3, 4, 5, 6, 7, 8, 9, 10, 11, 12, 13, 14, 15, 16, 17, 18, 19, 20, 21, 22] rfl rfl (by decide) (by decide) (by decide) rfl dX6_init_89 ⟨by decide, by decide, by decide, by decide⟩ (Nat.le_of_ble_eq_true rfl) (fun r w1 hq => ?_)
  obtain ⟨ad13, rfl, rfl⟩ := hq
  show V l D cy MX6_init 1 24 432 _ _ _ 92 [(0, .ref tA)] [.ref q12, .ref tA] [(tA, .inr (6, [.ref q0, .ref q2, .ref q4, .ref q6, .ref q8, .ref q10, .null])), (q0, .inr (5, [.ref (ad1 0), .ref (ad1 1), .ref (ad1 2), .int 0])), (ad1 0, .inl (cy 1, 24, .inl (fun _ => 0))), (ad1 1, .inl (cy 1, 24, .inl (fun _ => 0))), (ad1 2, .inl (cy 3, 24, .inl (fun _ => 0))), (q2, .inr (5, [.ref (ad3 0), .ref (ad3 1), .ref (ad3 2), .int 0])), (ad3 0, .inl (cy 1, 24, .inl (fun _ => 0))), (ad3 1, .inl (cy 1, 24, .inl (fun _ => 0))), (ad3 2, .inl (cy 3, 24, .inl (fun _ => 0))), (q4, .inr (5, [.ref (ad5 0), .ref (ad5 1), .ref (ad5 2), .int 0])), (ad5 0, .inl (cy 1, 24, .inl (fun _ => 0))), (ad5 1, .inl (cy 1, 24, .inl (fun _ => 0))), (ad5 2, .inl (cy 3, 24, .inl (fun _ => 0))), (q6, .inr (5, [.ref (ad7 0), .ref (ad7 1), .ref (ad7 2), .int 0])), (ad7 0, .inl (cy 1, 24, .inl (fun _ => 0))), (ad7 1, .inl (cy 1, 24, .inl (fun _ => 0))), (ad7 2, .inl (cy 3, 24, .inl (fun _ => 0))), (q8, .inr (5, [.ref (ad9 0), .ref (ad9 1), .ref (ad9 2), .int 0])), (ad9 0, .inl (cy 1, 24, .inl (fun _ => 0))), (ad9 1, .inl (cy 1, 24, .inl (fun _ => 0))), (ad9 2, .inl (cy 3, 24, .inl (fun _ => 0))), (q10, .inr (7, [.ref (ad11 0), .int 0])), (ad11 0, .inl (cy 1, 24, .inl (fun _ => 0))), (q12, .inr (7, [.ref (ad13 0), .int 0])), (ad13 0, .inl (cy 1, 24, .inl (fun _ => 0)))] 24 432
  refine V.putF (ws' := [(tA, .inr (6, [.ref q0, .ref q2, .ref q4, .ref q6, .ref q8, .ref q10, .ref q12])), (q0, .inr (5, [.ref (ad1 0), .ref (ad1 1), .ref (ad1 2), .int 0])), (ad1 0, .inl (cy 1, 24, .inl (fun _ => 0))), (ad1 1, .inl (cy 1, 24, .inl (fun _ => 0))), (ad1 2, .inl (cy 3, 24, .inl (fun _ => 0))), (q2, .inr (5, [.ref (ad3 0), .ref (ad3 1), .ref (ad3 2), .int 0])), (ad3 0, .inl (cy 1, 24, .inl (fun _ => 0))), (ad3 1, .inl (cy 1, 24, .inl (fun _ => 0))), (ad3 2, .inl (cy 3, 24, .inl (fun _ => 0))), (q4, .inr (5, [.ref (ad5 0), .ref (ad5 1), .ref (ad5 2), .int 0])), (ad5 0, .inl (cy 1, 24, .inl (fun _ => 0))), (ad5 1, .inl (cy 1, 24, .inl (fun _ => 0))), (ad5 2, .inl (cy 3, 24, .inl (fun _ => 0))), (q6, .inr (5, [.ref (ad7 0), .ref (ad7 1), .ref (ad7 2), .int 0])), (ad7 0, .inl (cy 1, 24, .inl (fun _ => 0))), (ad7 1, .inl (cy 1, 24, .inl (fun _ => 0))), (ad7 2, .inl (cy 3, 24, .inl (fun _ => 0))), (q8, .inr (5, [.ref (ad9 0), .ref (ad9 1), .ref (ad9 2), .int 0])), (ad9 0, .inl (cy 1, 24, .inl (fun _ => 0))), (ad9 1, .inl (cy 1, 24, .inl (fun _ => 0))), (ad9 2, .inl (cy 3, 24, .inl (fun _ => 0))), (q10, .inr (7, [.ref (ad11 0), .int 0])), (ad11 0, .inl (cy 1, 24, .inl (fun _ => 0))), (q12, .inr (7, [.ref (ad13 0), .int 0])), (ad13 0, .inl (cy 1, 24, .inl (fun _ => 0)))]) kfX6 tyX6 tyX6_ok nmX6 0 rfl rfl 6 (by decide) klX6_39 rfl rfl rfl (tyX6_ok 6 (by decide)) rfl rfl (Nat.le_of_ble_eq_true rfl) dX6_init_92 rfl ?_
  exact V.vret rfl dX6_init_95 (by decide) (by decide) ⟨fun k => ([q0, ad1 0, ad1 1, ad1 2, q2, ad3 0, ad3 1, ad3 2, q4, ad5 0, ad5 1, ad5 2, q6, ad7 0, ad7 1, ad7 2, q8, ad9 0, ad9 1, ad9 2, q10, ad11 0, q12, ad13 0] : List Nat).getD k 0, rfl, rfl⟩
theorem dX2_init_0 : decode cX2_init 0 = .ok (.aload_n 0, 1) := by decide +kernel
theorem dX2_init_1 : decode cX2_init 1 = .ok (.invokespecial 3, 3) := by decide +kernel
theorem dX2_init_4 : decode cX2_init 4 = .ok (.aload_n 0, 1) := by decide +kernel
theorem dX2_init_5 : decode cX2_init 5 = .ok (.bipush 6, 2) := by decide +kernel
theorem dX2_init_7 : decode cX2_init 7 = .ok (.newarray .long, 2) := by decide +kernel
theorem dX2_init_9 : decode cX2_init 9 = .ok (.putfield 9, 3) := by decide +kernel
theorem dX2_init_12 : decode cX2_init 12 = .ok (.aload_n 0, 1) := by decide +kernel
theorem dX2_init_13 : decode cX2_init 13 = .ok (.bipush 6, 2) := by decide +kernel
theorem dX2_init_15 : decode cX2_init 15 = .ok (.newarray .int, 2) := by decide +kernel
theorem dX2_init_17 : decode cX2_init 17 = .ok (.putfield 15, 3) := by decide +kernel
theorem dX2_init_20 : decode cX2_init 20 = .ok (.aload_n 0, 1) := by decide +kernel
theorem dX2_init_21 : decode cX2_init 21 = .ok (.bipush 6, 2) := by decide +kernel
theorem dX2_init_23 : decode cX2_init 23 = .ok (.newarray .int, 2) := by decide +kernel
theorem dX2_init_25 : decode cX2_init 25 = .ok (.putfield 19, 3) := by decide +kernel
theorem dX2_init_28 : decode cX2_init 28 = .ok (.aload_n 0, 1) := by decide +kernel
theorem dX2_init_29 : decode cX2_init 29 = .ok (.bipush 6, 2) := by decide +kernel
theorem dX2_init_31 : decode cX2_init 31 = .ok (.newarray .int, 2) := by decide +kernel
theorem dX2_init_33 : decode cX2_init 33 = .ok (.putfield 22, 3) := by decide +kernel
theorem dX2_init_36 : decode cX2_init 36 = .ok (.aload_n 0, 1) := by decide +kernel
theorem dX2_init_37 : decode cX2_init 37 = .ok (.bipush 6, 2) := by decide +kernel
theorem dX2_init_39 : decode cX2_init 39 = .ok (.newarray .int, 2) := by decide +kernel
theorem dX2_init_41 : decode cX2_init 41 = .ok (.putfield 25, 3) := by decide +kernel
theorem dX2_init_44 : decode cX2_init 44 = .ok (.aload_n 0, 1) := by decide +kernel
theorem dX2_init_45 : decode cX2_init 45 = .ok (.new 28, 3) := by decide +kernel
theorem dX2_init_48 : decode cX2_init 48 = .ok (.dup, 1) := by decide +kernel
theorem dX2_init_49 : decode cX2_init 49 = .ok (.invokespecial 30, 3) := by decide +kernel
theorem dX2_init_52 : decode cX2_init 52 = .ok (.putfield 31, 3) := by decide +kernel
theorem dX2_init_55 : decode cX2_init 55 = .ok (.aload_n 0, 1) := by decide +kernel
theorem dX2_init_56 : decode cX2_init 56 = .ok (.sipush 288, 3) := by decide +kernel
theorem dX2_init_59 : decode cX2_init 59 = .ok (.newarray .int, 2) := by decide +kernel
theorem dX2_init_61 : decode cX2_init 61 = .ok (.putfield 35, 3) := by decide +kernel
theorem dX2_init_64 : decode cX2_init 64 = .ok (.aload_n 0, 1) := by decide +kernel
theorem dX2_init_65 : decode cX2_init 65 = .ok (.invokevirtual 38, 3) := by decide +kernel
theorem dX2_init_68 : decode cX2_init 68 = .ok (.return_, 1) := by decide +kernel
set_option maxRecDepth 100000 in
theorem CX2_init {l : Launch} {D : va_G} {cy : Nat → ClassId} (tA : Nat) : vMet l D cy MX2_init 2 10 1454 [.ref tA] [(tA, .inr (2, [.null, .null, .null, .null, .null, .int 0, .int 0, .int 0, .int 0, .int 0, .int 0, .null, .null]))] (fun (r : Option Value) (w : va_W) => ∃ ad : Nat → Nat, r = none ∧ w = [(ad 0, .inl (cy 2, 6, .inr (.inl (fun _ => 0)))), (ad 1, .inl (cy 1, 6, .inl (fun _ => 0))), (ad 2, .inl (cy 1, 6, .inl (fun _ => 0))), (ad 3, .inl (cy 1, 1000, .inl (fun _ => 0))), (ad 4, .inl (cy 1, 64, .inl (fun _ => 0))), (ad 5, .inl (cy 1, 64, .inl (fun _ => 0))), (ad 6, .inl (cy 1, 288, .inl (fun _ => 0))), (tA, .inr (2, [.ref (ad 0), .ref (ad 1), .ref (ad 7), .ref (ad 8), .ref (ad 2), .int 0, .int 0, .int 24, .int 200, .int 0, .int 0, .ref (ad 9), .ref (ad 6)])), (ad 7, .inl (cy 1, 6, .inl (fun _ => 0))), (ad 8, .inl (cy 1, 6, .inl (fun _ => 0))), (ad 9, .inr (1, [.ref (ad 3), .int 0, .ref (ad 4), .int 0, .int 0, .int 0, .int 1, .ref (ad 5)]))]) := by
  refine vMet.start (by decide +kernel) (Nat.le_of_ble_eq_true rfl) ?_
  show V l D cy MX2_init 2 10 1454 _ _ _ 0 [(0, .ref tA)] [] [(tA, .inr (2, [.null, .null, .null, .null, .null, .int 0, .int 0, .int 0, .int 0, .int 0, .int 0, .null, .null]))] 0 0
  refine V.aload_n dX2_init_0 rfl 0 rfl ?_
  refine V.objInit klX2_3 kp_obj.1 kp_obj.2 dX2_init_1 (Nat.le_of_ble_eq_true rfl) ?_
  refine V.aload_n dX2_init_4 rfl 0 rfl ?_
  refine V.bipush (v := (6 : Int32)) dX2_init_5 (by decide) ?_
  refine V.newa (atype := .long) (ty := .long) (N' := 6) (6, .inr (.inl (fun _ => 0))) 2 ka_2 rfl rfl (fun _ => rfl) (by decide) (by decide) (by decide) (by decide) (by decide) dX2_init_7 (fun q0 => ?_)
  show V l D cy MX2_init 2 10 1454 _ _ _ 9 [(0, .ref tA)] [.ref q0, .ref tA] [(tA, .inr (2, [.null, .null, .null, .null, .null, .int 0, .int 0, .int 0, .int 0, .int 0, .int 0, .null, .null])), (q0, .inl (cy 2, 6, .inr (.inl (fun _ => 0))))] 1 6
  refine V.putF (ws' := [(tA, .inr (2, [.ref q0, .null, .null, .null, .null, .int 0, .int 0, .int 0, .int 0, .int 0, .int 0, .null, .null])), (q0, .inl (cy 2, 6, .inr (.inl (fun _ => 0))))]) kfX2 tyX2 tyX2_ok nmX2 0 rfl rfl 0 (by decide) klX2_9 rfl rfl rfl (tyX2_ok 0 (by decide)) rfl rfl (Nat.le_of_ble_eq_true rfl) dX2_init_9 rfl ?_
  refine V.aload_n dX2_init_12 rfl 0 rfl ?_
  refine V.bipush (v := (6 : Int32)) dX2_init_13 (by decide) ?_
  refine V.newa (atype := .int) (ty := .int) (N' := 6) (6, .inl (fun _ => 0)) 1 ka_1 rfl rfl (fun _ => rfl) (by decide) (by decide) (by decide) (by decide) (by decide) dX2_init_15 (fun q1 => ?_)
  show V l D cy MX2_init 2 10 1454 _ _ _ 17 [(0, .ref tA)] [.ref q1, .ref tA] [(tA, .inr (2, [.ref q0, .null, .null, .null, .null, .int 0, .int 0, .int 0, .int 0, .int 0, .int 0, .null, .null])), (q0, .inl (cy 2, 6, .inr (.inl (fun _ => 0)))), (q1, .inl (cy 1, 6, .inl (fun _ => 0)))] 2 12
  refine V.putF (ws' := [(tA, .inr (2, [.ref q0, .ref q1, .null, .null, .null, .int 0, .int 0, .int 0, .int 0, .int 0, .int 0, .null, .null])), (q0, .inl (cy 2, 6, .inr (.inl (fun _ => 0)))), (q1, .inl (cy 1, 6, .inl (fun _ => 0)))]) kfX2 tyX2 tyX2_ok nmX2 0 rfl rfl 1 (by decide) klX2_15 rfl rfl rfl (tyX2_ok 1 (by decide)) rfl rfl (Nat.le_of_ble_eq_true rfl) dX2_init_17 rfl ?_
  refine V.aload_n dX2_init_20 rfl 0 rfl ?_
  refine V.bipush (v := (6 : Int32)) dX2_init_21 (by decide) ?_
  refine V.newa (atype := .int) (ty := .int) (N' := 6) (6, .inl (fun _ => 0)) 1 ka_1 rfl rfl (fun _ => rfl) (by decide) (by decide) (by decide) (by decide) (by decide) dX2_init_23 (fun q2 => ?_)
  show V l D cy MX2_init 2 10 1454 _ _ _ 25 [(0, .ref tA)] [.ref q2, .ref tA] [(tA, .inr (2, [.ref q0, .ref q1, .null, .null, .null, .int 0, .int 0, .int 0, .int 0, .int 0, .int 0, .null, .null])), (q0, .inl (cy 2, 6, .inr (.inl (fun _ => 0)))), (q1, .inl (cy 1, 6, .inl (fun _ => 0))), (q2, .inl (cy 1, 6, .inl (fun _ => 0)))] 3 18
  refine V.putF (ws' := [(tA, .inr (2, [.ref q0, .ref q1, .ref q2, .null, .null, .int 0, .int 0, .int 0, .int 0, .int 0, .int 0, .null, .null])), (q0, .inl (cy 2, 6, .inr (.inl (fun _ => 0)))), (q1, .inl (cy 1, 6, .inl (fun _ => 0))), (q2, .inl (cy 1, 6, .inl (fun _ => 0)))]) kfX2 tyX2 tyX2_ok nmX2 0 rfl rfl 2 (by decide) klX2_19 rfl rfl rfl (tyX2_ok 2 (by decide)) rfl rfl (Nat.le_of_ble_eq_true rfl) dX2_init_25 rfl ?_
  refine V.aload_n dX2_init_28 rfl 0 rfl ?_
  refine V.bipush (v := (6 : Int32)) dX2_init_29 (by decide) ?_
  refine V.newa (atype := .int) (ty := .int) (N' := 6) (6, .inl (fun _ => 0)) 1 ka_1 rfl rfl (fun _ => rfl) (by decide) (by decide) (by decide) (by decide) (by decide) dX2_init_31 (fun q3 => ?_)
  show V l D cy MX2_init 2 10 1454 _ _ _ 33 [(0, .ref tA)] [.ref q3, .ref tA] [(tA, .inr (2, [.ref q0, .ref q1, .ref q2, .null, .null, .int 0, .int 0, .int 0, .int 0, .int 0, .int 0, .null, .null])), (q0, .inl (cy 2, 6, .inr (.inl (fun _ => 0)))), (q1, .inl (cy 1, 6, .inl (fun _ => 0))), (q2, .inl (cy 1, 6, .inl (fun _ => 0))), (q3, .inl (cy 1, 6, .inl (fun _ => 0)))] 4 24
  refine V.putF (ws' := [(tA, .inr (2, [.ref q0, .ref q1, .ref q2, .ref q3, .null, .int 0, .int 0, .int 0, .int 0, .int 0, .int 0, .null, .null])), (q0, .inl (cy 2, 6, .inr (.inl (fun _ => 0)))), (q1, .inl (cy 1, 6, .inl (fun _ => 0))), (q2, .inl (cy 1, 6, .inl (fun _ => 0))), (q3, .inl (cy 1, 6, .inl (fun _ => 0)))]) kfX2 tyX2 tyX2_ok nmX2 0 rfl rfl 3 (by decide) klX2_22 rfl rfl rfl (tyX2_ok 3 (by decide)) rfl rfl (Nat.le_of_ble_eq_true rfl) dX2_init_33 rfl ?_
  refine V.aload_n dX2_init_36 rfl 0 rfl ?_
  refine V.bipush (v := (6 : Int32)) dX2_init_37 (by decide) ?_
  refine V.newa (atype := .int) (ty := .int) (N' := 6) (6, .inl (fun _ => 0)) 1 ka_1 rfl rfl (fun _ => rfl) (by decide) (by decide) (by decide) (by decide) (by decide) dX2_init_39 (fun q4 => ?_)
  show V l D cy MX2_init 2 10 1454 _ _ _ 41 [(0, .ref tA)] [.ref q4, .ref tA] [(tA, .inr (2, [.ref q0, .ref q1, .ref q2, .ref q3, .null, .int 0, .int 0, .int 0, .int 0, .int 0, .int 0, .null, .null])), (q0, .inl (cy 2, 6, .inr (.inl (fun _ => 0)))), (q1, .inl (cy 1, 6, .inl (fun _ => 0))), (q2, .inl (cy 1, 6, .inl (fun _ => 0))), (q3, .inl (cy 1, 6, .inl (fun _ => 0))), (q4, .inl (cy 1, 6, .inl (fun _ => 0)))] 5 30
  refine V.putF (ws' := [(tA, .inr (2, [.ref q0, .ref q1, .ref q2, .ref q3, .ref q4, .int 0, .int 0, .int 0, .int 0, .int 0, .int 0, .null, .null])), (q0, .inl (cy 2, 6, .inr (.inl (fun _ => 0)))), (q1, .inl (cy 1, 6, .inl (fun _ => 0))), (q2, .inl (cy 1, 6, .inl (fun _ => 0))), (q3, .inl (cy 1, 6, .inl (fun _ => 0))), (q4, .inl (cy 1, 6, .inl (fun _ => 0)))]) kfX2 tyX2 tyX2_ok nmX2 0 rfl rfl 4 (by decide) klX2_25 rfl rfl rfl (tyX2_ok 4 (by decide)) rfl rfl (Nat.le_of_ble_eq_true rfl) dX2_init_41 rfl ?_
  refine V.aload_n dX2_init_44 rfl 0 rfl ?_
  refine V.new kfX1 tyX1 tyX1_ok klX2_28 knX1 kiX1 (ci := 1) rfl [.null, .int 0, .null, .int 0, .int 0, .int 0, .int 0, .null] (by decide) (by decide) (by decide) dX2_init_45 (fun q5 => ?_)
  show V l D cy MX2_init 2 10 1454 _ _ _ 48 [(0, .ref tA)] [.ref q5, .ref tA] [(tA, .inr (2, [.ref q0, .ref q1, .ref q2, .ref q3, .ref q4, .int 0, .int 0, .int 0, .int 0, .int 0, .int 0, .null, .null])), (q0, .inl (cy 2, 6, .inr (.inl (fun _ => 0)))), (q1, .inl (cy 1, 6, .inl (fun _ => 0))), (q2, .inl (cy 1, 6, .inl (fun _ => 0))), (q3, .inl (cy 1, 6, .inl (fun _ => 0))), (q4, .inl (cy 1, 6, .inl (fun _ => 0))), (q5, .inr (1, [.null, .int 0, .null, .int 0, .int 0, .int 0, .int 0, .null]))] 6 38
  refine V.dup dX2_init_48 rfl ?_
  refine V.callI (As := []) (rest := [.ref q5, .ref tA]) (wc := [(q5, .inr (1, [.null, .int 0, .null, .int 0, .int 0, .int 0, .int 0, .null]))]) (wr := [(tA, .inr (2, [.ref q0, .ref q1, .ref q2, .ref q3, .ref q4, .int 0, .int 0, .int 0, .int 0, .int 0, .int 0, .null, .null])), (q0, .inl (cy 2, 6, .inr (.inl (fun _ => 0)))), (q1, .inl (cy 1, 6, .inl (fun _ => 0))), (q2, .inl (cy 1, 6, .inl (fun _ => 0))), (q3, .inl (cy 1, 6, .inl (fun _ => 0))), (q4, .inl (cy 1, 6, .inl (fun _ => 0)))]) (CX1_init q5) kvX1_init klX2_30 [6] [0, 1, 2, 3, 4, 5] rfl rfl (by decide) (by decide) (by decide) rfl dX2_init_49 ⟨by decide, by decide, by decide, by decide⟩ (Nat.le_of_ble_eq_true rfl) (fun r w1 hq => ?_)
  obtain ⟨ad6, rfl, rfl⟩ := hq
  show V l D cy MX2_init 2 10 1454 _ _ _ 52 [(0, .ref tA)] [.ref q5, .ref tA] [(tA, .inr (2, [.ref q0, .ref q1, .ref q2, .ref q3, .ref q4, .int 0, .int 0, .int 0, .int 0, .int 0, .int 0, .null, .null])), (q0, .inl (cy 2, 6, .inr (.inl (fun _ => 0)))), (q1, .inl (cy 1, 6, .inl (fun _ => 0))), (q2, .inl (cy 1, 6, .inl (fun _ => 0))), (q3, .inl (cy 1, 6, .inl (fun _ => 0))), (q4, .inl (cy 1, 6, .inl (fun _ => 0))), (q5, .inr (1, [.ref (ad6 0), .int 0, .ref (ad6 1), .int 0, .int 0, .int 0, .int 0, .ref (ad6 2)])), (ad6 0, .inl (cy 1, 1000, .inl (fun _ => 0))), (ad6 1, .inl (cy 1, 64, .inl (fun _ => 0))), (ad6 2, .inl (cy 1, 64, .inl (fun _ => 0)))] 9 1166
  refine V.putF (ws' := [(tA, .inr (2, [.ref q0, .ref q1, .ref q2, .ref q3, .ref q4, .int 0, .int 0, .int 0, .int 0, .int 0, .int 0, .ref q5, .null])), (q0, .inl (cy 2, 6, .inr (.inl (fun _ => 0)))), (q1, .inl (cy 1, 6, .inl (fun _ => 0))), (q2, .inl (cy 1, 6, .inl (fun _ => 0))), (q3, .inl (cy 1, 6, .inl (fun _ => 0))), (q4, .inl (cy 1, 6, .inl (fun _ => 0))), (q5, .inr (1, [.ref (ad6 0), .int 0, .ref (ad6 1), .int 0, .int 0, .int 0, .int 0, .ref (ad6 2)])), (ad6 0, .inl (cy 1, 1000, .inl (fun _ => 0))), (ad6 1, .inl (cy 1, 64, .inl (fun _ => 0))), (ad6 2, .inl (cy 1, 64, .inl (fun _ => 0)))]) kfX2 tyX2 tyX2_ok nmX2 0 rfl rfl 11 (by decide) klX2_31 rfl rfl rfl (tyX2_ok 11 (by decide)) rfl rfl (Nat.le_of_ble_eq_true rfl) dX2_init_52 rfl ?_
  refine V.aload_n dX2_init_55 rfl 0 rfl ?_
  refine V.sipush (v := (288 : Int32)) dX2_init_56 (by decide) ?_
  refine V.newa (atype := .int) (ty := .int) (N' := 288) (288, .inl (fun _ => 0)) 1 ka_1 rfl rfl (fun _ => rfl) (by decide) (by decide) (by decide) (by decide) (by decide) dX2_init_59 (fun q7 => ?_)
  show V l D cy MX2_init 2 10 1454 _ _ _ 61 [(0, .ref tA)] [.ref q7, .ref tA] [(tA, .inr (2, [.ref q0, .ref q1, .ref q2, .ref q3, .ref q4, .int 0, .int 0, .int 0, .int 0, .int 0, .int 0, .ref q5, .null])), (q0, .inl (cy 2, 6, .inr (.inl (fun _ => 0)))), (q1, .inl (cy 1, 6, .inl (fun _ => 0))), (q2, .inl (cy 1, 6, .inl (fun _ => 0))), (q3, .inl (cy 1, 6, .inl (fun _ => 0))), (q4, .inl (cy 1, 6, .inl (fun _ => 0))), (q5, .inr (1, [.ref (ad6 0), .int 0, .ref (ad6 1), .int 0, .int 0, .int 0, .int 0, .ref (ad6 2)])), (ad6 0, .inl (cy 1, 1000, .inl (fun _ => 0))), (ad6 1, .inl (cy 1, 64, .inl (fun _ => 0))), (ad6 2, .inl (cy 1, 64, .inl (fun _ => 0))), (q7, .inl (cy 1, 288, .inl (fun _ => 0)))] 10 1454
  refine V.putF (ws' := [(tA, .inr (2, [.ref q0, .ref q1, .ref q2, .ref q3, .ref q4, .int 0, .int 0, .int 0, .int 0, .int 0, .int 0, .ref q5, .ref q7])), (q0, .inl (cy 2, 6, .inr (.inl (fun _ => 0)))), (q1, .inl (cy 1, 6, .inl (fun _ => 0))), (q2, .inl (cy 1, 6, .inl (fun _ => 0))), (q3, .inl (cy 1, 6, .inl (fun _ => 0))), (q4, .inl (cy 1, 6, .inl (fun _ => 0))), (q5, .inr (1, [.ref (ad6 0), .int 0, .ref (ad6 1), .int 0, .int 0, .int 0, .int 0, .ref (ad6 2)])), (ad6 0, .inl (cy 1, 1000, .inl (fun _ => 0))), (ad6 1, .inl (cy 1, 64, .inl (fun _ => 0))), (ad6 2, .inl (cy 1, 64, .inl (fun _ => 0))), (q7, .inl (cy 1, 288, .inl (fun _ => 0)))]) kfX2 tyX2 tyX2_ok nmX2 0 rfl rfl 12 (by decide) klX2_35 rfl rfl rfl (tyX2_ok 12 (by decide)) rfl rfl (Nat.le_of_ble_eq_true rfl) dX2_init_61 rfl ?_
  refine V.aload_n dX2_init_64 rfl 0 rfl ?_
  refine V.callV (As := []) (rest := []) (wc := [(tA, .inr (2, [.ref q0, .ref q1, .ref q2, .ref q3, .ref q4, .int 0, .int 0, .int 0, .int 0, .int 0, .int 0, .ref q5, .ref q7])), (q2, .inl (cy 1, 6, .inl (fun _ => 0))), (q3, .inl (cy 1, 6, .inl (fun _ => 0))), (q5, .inr (1, [.ref (ad6 0), .int 0, .ref (ad6 1), .int 0, .int 0, .int 0, .int 0, .ref (ad6 2)]))]) (wr := [(q0, .inl (cy 2, 6, .inr (.inl (fun _ => 0)))), (q1, .inl (cy 1, 6, .inl (fun _ => 0))), (q4, .inl (cy 1, 6, .inl (fun _ => 0))), (ad6 0, .inl (cy 1, 1000, .inl (fun _ => 0))), (ad6 1, .inl (cy 1, 64, .inl (fun _ => 0))), (ad6 2, .inl (cy 1, 64, .inl (fun _ => 0))), (q7, .inl (cy 1, 288, .inl (fun _ => 0)))]) (q0 := 0) (CX2_clear 100 tA (.ref q0) (.ref q1) (.ref q4) 0 0 0 0 0 0 (.ref q7) q2 6 (fun _ => 0) q3 6 (fun _ => 0) q5 (.ref (ad6 0)) 0 (.ref (ad6 1)) 0 0 0 0 (.ref (ad6 2)) (0, 0, 24, 200, 0, 0, (fun _ => 0), (fun _ => 0), 0, 0, 0, 0, 1) (vNetClear )) kvX2_clear klX2_38 [0, 3, 4, 6] [1, 2, 5, 7, 8, 9, 10] rfl rfl (by decide) (by decide) (by decide) rfl rfl rfl rfl dX2_init_65 ⟨by decide, by decide, by decide, by decide⟩ (Nat.le_of_ble_eq_true rfl) (fun r w1 hq => ?_)
  obtain ⟨rfl, rfl⟩ := hq
  show V l D cy MX2_init 2 10 1454 _ _ _ 68 [(0, .ref tA)] [] [(q0, .inl (cy 2, 6, .inr (.inl (fun _ => 0)))), (q1, .inl (cy 1, 6, .inl (fun _ => 0))), (q4, .inl (cy 1, 6, .inl (fun _ => 0))), (ad6 0, .inl (cy 1, 1000, .inl (fun _ => 0))), (ad6 1, .inl (cy 1, 64, .inl (fun _ => 0))), (ad6 2, .inl (cy 1, 64, .inl (fun _ => 0))), (q7, .inl (cy 1, 288, .inl (fun _ => 0))), (tA, .inr (2, [.ref q0, .ref q1, .ref q2, .ref q3, .ref q4, .int 0, .int 0, .int 24, .int 200, .int 0, .int 0, .ref q5, .ref q7])), (q2, .inl (cy 1, 6, .inl (fun _ => 0))), (q3, .inl (cy 1, 6, .inl (fun _ => 0))), (q5, .inr (1, [.ref (ad6 0), .int 0, .ref (ad6 1), .int 0, .int 0, .int 0, .int 1, .ref (ad6 2)]))] 10 1454
  exact V.vret rfl dX2_init_68 (by decide) (by decide) ⟨fun k => ([q0, q1, q4, ad6 0, ad6 1, ad6 2, q7, q2, q3, q5] : List Nat).getD k 0, rfl, rfl⟩
