theorem dJ9_floorMod_7cf53_0 : decode cJ9_floorMod_7cf53 0 = .ok (.iload_n 0, 1) := by decide +kernel
theorem dJ9_floorMod_7cf53_1 : decode cJ9_floorMod_7cf53 1 = .ok (.iload_n 1, 1) := by decide +kernel
theorem dJ9_floorMod_7cf53_2 : decode cJ9_floorMod_7cf53 2 = .ok (.irem, 1) := by decide +kernel
theorem dJ9_floorMod_7cf53_3 : decode cJ9_floorMod_7cf53 3 = .ok (.istore_n 2, 1) := by decide +kernel
theorem dJ9_floorMod_7cf53_4 : decode cJ9_floorMod_7cf53 4 = .ok (.iload_n 0, 1) := by decide +kernel
theorem dJ9_floorMod_7cf53_5 : decode cJ9_floorMod_7cf53 5 = .ok (.iload_n 1, 1) := by decide +kernel
theorem dJ9_floorMod_7cf53_6 : decode cJ9_floorMod_7cf53 6 = .ok (.ixor, 1) := by decide +kernel
theorem dJ9_floorMod_7cf53_7 : decode cJ9_floorMod_7cf53 7 = .ok (.ifCond .ge 11, 3) := by decide +kernel
theorem dJ9_floorMod_7cf53_10 : decode cJ9_floorMod_7cf53 10 = .ok (.iload_n 2, 1) := by decide +kernel
theorem dJ9_floorMod_7cf53_11 : decode cJ9_floorMod_7cf53 11 = .ok (.ifCond .eq 7, 3) := by decide +kernel
theorem dJ9_floorMod_7cf53_14 : decode cJ9_floorMod_7cf53 14 = .ok (.iload_n 2, 1) := by decide +kernel
theorem dJ9_floorMod_7cf53_15 : decode cJ9_floorMod_7cf53 15 = .ok (.iload_n 1, 1) := by decide +kernel
theorem dJ9_floorMod_7cf53_16 : decode cJ9_floorMod_7cf53 16 = .ok (.iadd, 1) := by decide +kernel
theorem dJ9_floorMod_7cf53_17 : decode cJ9_floorMod_7cf53 17 = .ok (.ireturn, 1) := by decide +kernel
theorem dJ9_floorMod_7cf53_18 : decode cJ9_floorMod_7cf53 18 = .ok (.iload_n 2, 1) := by decide +kernel
theorem dJ9_floorMod_7cf53_19 : decode cJ9_floorMod_7cf53 19 = .ok (.ireturn, 1) := by decide +kernel
def wJ9_floorMod_7cf53 (cy : Nat → ClassId)  : va_W :=
  []
noncomputable def bJ9_floorMod_7cf53_L18 (F : Nat)   (x2 : Int32) : Option (Int32) :=
  some x2
theorem vJ9_floorMod_7cf53_L18 {l : Launch} {D : va_G} {cy : Nat → ClassId} {av : List Value} {ws0 : va_W} {Q : Option Value → va_W → Prop} (F : Nat)   (x2 : Int32) (R : Int32) (h : bJ9_floorMod_7cf53_L18 F  x2 = some R) (hQ : Q (some (.int R)) (wJ9_floorMod_7cf53 cy )) : V l D cy MJ9_floorMod_7cf53 0 0 0 av ws0 Q 18 [(2, .int x2)] [] (wJ9_floorMod_7cf53 cy ) 0 0 := by
  unfold bJ9_floorMod_7cf53_L18 at h
  refine V.iload_n dJ9_floorMod_7cf53_18 rfl 0 rfl ?_
  have e9 := Option.some.inj h; subst e9
  exact V.iret (ty := .int) rfl rfl dJ9_floorMod_7cf53_19 (Nat.le_refl _) (Nat.le_refl _) hQ
noncomputable def fJ9_floorMod_7cf53 (F : Nat) (a0 : Int32) (a1 : Int32) : Option (Int32) :=
  if a1 = 0 then none else (if 0 ≤ (a0 ^^^ a1) then (bJ9_floorMod_7cf53_L18 F (a0 - a0 / a1 * a1)) else (if (a0 - a0 / a1 * a1) = 0 then (bJ9_floorMod_7cf53_L18 F (a0 - a0 / a1 * a1)) else (some ((a0 - a0 / a1 * a1) + a1))))
theorem CJ9_floorMod_7cf53 {l : Launch} {D : va_G} {cy : Nat → ClassId} (F : Nat) (a0 : Int32) (a1 : Int32) (R : Int32) (h : fJ9_floorMod_7cf53 F a0 a1 = some R) : vMet l D cy MJ9_floorMod_7cf53 0 0 0 [.int a0, .int a1] (wJ9_floorMod_7cf53 cy ) (fun (r : Option Value) (w : va_W) => r = (some (.int R)) ∧ w = (wJ9_floorMod_7cf53 cy )) := by
  refine vMet.start (by decide +kernel) (Nat.le_of_ble_eq_true rfl) ?_
  generalize hQe : (fun (r : Option Value) (w : va_W) => r = (some (.int R)) ∧ w = (wJ9_floorMod_7cf53 cy )) = Q
  have hQ : Q (some (.int R)) (wJ9_floorMod_7cf53 cy ) := by rw [← hQe]; exact ⟨rfl, rfl⟩
  show V l D cy MJ9_floorMod_7cf53 0 0 0 _ _ Q 0 [(0, .int a0), (1, .int a1)] [] _ 0 0
  show V l D cy MJ9_floorMod_7cf53 0 0 0 [.int a0, .int a1] _ Q 0 [(0, .int a0), (1, .int a1)] [] (wJ9_floorMod_7cf53 cy ) 0 0
  unfold fJ9_floorMod_7cf53 at h
  refine V.iload_n dJ9_floorMod_7cf53_0 rfl 0 rfl ?_
  refine V.iload_n dJ9_floorMod_7cf53_1 rfl 1 rfl ?_
  by_cases hz2 : a1 = 0
  · exact vNone ((if_pos hz2).symm.trans h)
  replace h := (if_neg hz2).symm.trans h
  refine V.irem dJ9_floorMod_7cf53_2 hz2 ?_
  refine V.istore_n (lv' := [(2, .int (a0 - a0 / a1 * a1)), (0, .int a0), (1, .int a1)]) dJ9_floorMod_7cf53_3 rfl (by decide) rfl ?_
  refine V.iload_n dJ9_floorMod_7cf53_4 rfl 1 rfl ?_
  refine V.iload_n dJ9_floorMod_7cf53_5 rfl 2 rfl ?_
  refine V.ixor dJ9_floorMod_7cf53_6 ?_
  refine V.if_ge (tgt := 18) dJ9_floorMod_7cf53_7 (by decide) (fun hc7 => ?_) (fun hc7 => ?_)
  · replace h := (if_pos hc7).symm.trans h
    refine V.lvs [0] rfl ?_
    exact vJ9_floorMod_7cf53_L18 _   _ R h hQ
  · replace h := (if_neg hc7).symm.trans h
    refine V.iload_n dJ9_floorMod_7cf53_10 rfl 0 rfl ?_
    refine V.if_eq (tgt := 18) dJ9_floorMod_7cf53_11 (by decide) (fun hc11 => ?_) (fun hc11 => ?_)
    · replace h := (if_pos hc11).symm.trans h
      refine V.lvs [0] rfl ?_
      exact vJ9_floorMod_7cf53_L18 _   _ R h hQ
    · replace h := (if_neg hc11).symm.trans h
      refine V.iload_n dJ9_floorMod_7cf53_14 rfl 0 rfl ?_
      refine V.iload_n dJ9_floorMod_7cf53_15 rfl 2 rfl ?_
      refine V.iadd dJ9_floorMod_7cf53_16 ?_
      have e9 := Option.some.inj h; subst e9
      exact V.iret (ty := .int) rfl rfl dJ9_floorMod_7cf53_17 (Nat.le_refl _) (Nat.le_refl _) hQ
theorem dJ9_max_f86c9_0 : decode cJ9_max_f86c9 0 = .ok (.lload_n 0, 1) := by decide +kernel
theorem dJ9_max_f86c9_1 : decode cJ9_max_f86c9 1 = .ok (.lload_n 2, 1) := by decide +kernel
theorem dJ9_max_f86c9_2 : decode cJ9_max_f86c9 2 = .ok (.lcmp, 1) := by decide +kernel
theorem dJ9_max_f86c9_3 : decode cJ9_max_f86c9 3 = .ok (.ifCond .lt 7, 3) := by decide +kernel
theorem dJ9_max_f86c9_6 : decode cJ9_max_f86c9 6 = .ok (.lload_n 0, 1) := by decide +kernel
theorem dJ9_max_f86c9_7 : decode cJ9_max_f86c9 7 = .ok (.goto 4, 3) := by decide +kernel
theorem dJ9_max_f86c9_10 : decode cJ9_max_f86c9 10 = .ok (.lload_n 2, 1) := by decide +kernel
theorem dJ9_max_f86c9_11 : decode cJ9_max_f86c9 11 = .ok (.lreturn, 1) := by decide +kernel
def wJ9_max_f86c9 (cy : Nat → ClassId)  : va_W :=
  []
noncomputable def bJ9_max_f86c9_L11 (F : Nat)   (s0 : Int64) : Option (Int64) :=
  some s0
theorem vJ9_max_f86c9_L11 {l : Launch} {D : va_G} {cy : Nat → ClassId} {av : List Value} {ws0 : va_W} {Q : Option Value → va_W → Prop} (F : Nat)   (s0 : Int64) (R : Int64) (h : bJ9_max_f86c9_L11 F  s0 = some R) (hQ : Q (some (.long R)) (wJ9_max_f86c9 cy )) : V l D cy MJ9_max_f86c9 0 0 0 av ws0 Q 11 [] [.long s0] (wJ9_max_f86c9 cy ) 0 0 := by
  unfold bJ9_max_f86c9_L11 at h
  have e9 := Option.some.inj h; subst e9
  exact V.lret rfl dJ9_max_f86c9_11 (Nat.le_refl _) (Nat.le_refl _) hQ
noncomputable def fJ9_max_f86c9 (F : Nat) (a0 : Int64) (a1 : Int64) : Option (Int64) :=
  if (lg_cmp a0 a1) < 0 then (bJ9_max_f86c9_L11 F a1) else (bJ9_max_f86c9_L11 F a0)
theorem CJ9_max_f86c9 {l : Launch} {D : va_G} {cy : Nat → ClassId} (F : Nat) (a0 : Int64) (a1 : Int64) (R : Int64) (h : fJ9_max_f86c9 F a0 a1 = some R) : vMet l D cy MJ9_max_f86c9 0 0 0 [.long a0, .long a1] (wJ9_max_f86c9 cy ) (fun (r : Option Value) (w : va_W) => r = (some (.long R)) ∧ w = (wJ9_max_f86c9 cy )) := by
  refine vMet.start (by decide +kernel) (Nat.le_of_ble_eq_true rfl) ?_
  generalize hQe : (fun (r : Option Value) (w : va_W) => r = (some (.long R)) ∧ w = (wJ9_max_f86c9 cy )) = Q
  have hQ : Q (some (.long R)) (wJ9_max_f86c9 cy ) := by rw [← hQe]; exact ⟨rfl, rfl⟩
  show V l D cy MJ9_max_f86c9 0 0 0 _ _ Q 0 [(0, .long a0), (2, .long a1)] [] _ 0 0
  show V l D cy MJ9_max_f86c9 0 0 0 [.long a0, .long a1] _ Q 0 [(0, .long a0), (2, .long a1)] [] (wJ9_max_f86c9 cy ) 0 0
  unfold fJ9_max_f86c9 at h
  refine V.lload_n dJ9_max_f86c9_0 rfl 0 rfl ?_
  refine V.lload_n dJ9_max_f86c9_1 rfl 1 rfl ?_
  refine V.lcmp dJ9_max_f86c9_2 ?_
  refine V.if_lt (tgt := 10) dJ9_max_f86c9_3 (by decide) (fun hc3 => ?_) (fun hc3 => ?_)
  · replace h := (if_pos hc3).symm.trans h
    refine V.lload_n dJ9_max_f86c9_10 rfl 1 rfl ?_
    refine V.lvs [] rfl ?_
    exact vJ9_max_f86c9_L11 _   _ R h hQ
  · replace h := (if_neg hc3).symm.trans h
    refine V.lload_n dJ9_max_f86c9_6 rfl 0 rfl ?_
    refine V.goto (tgt := 11) dJ9_max_f86c9_7 (by decide) ?_
    refine V.lvs [] rfl ?_
    exact vJ9_max_f86c9_L11 _   _ R h hQ
theorem dJ6_bitCount_0f7a4_0 : decode cJ6_bitCount_0f7a4 0 = .ok (.iload_n 0, 1) := by decide +kernel
theorem dJ6_bitCount_0f7a4_1 : decode cJ6_bitCount_0f7a4 1 = .ok (.iload_n 0, 1) := by decide +kernel
theorem dJ6_bitCount_0f7a4_2 : decode cJ6_bitCount_0f7a4 2 = .ok (.iconst 1, 1) := by decide +kernel
theorem dJ6_bitCount_0f7a4_3 : decode cJ6_bitCount_0f7a4 3 = .ok (.iushr, 1) := by decide +kernel
theorem dJ6_bitCount_0f7a4_4 : decode cJ6_bitCount_0f7a4 4 = .ok (.ldc_w 265, 3) := by decide +kernel
theorem dJ6_bitCount_0f7a4_7 : decode cJ6_bitCount_0f7a4 7 = .ok (.iand, 1) := by decide +kernel
theorem dJ6_bitCount_0f7a4_8 : decode cJ6_bitCount_0f7a4 8 = .ok (.isub, 1) := by decide +kernel
theorem dJ6_bitCount_0f7a4_9 : decode cJ6_bitCount_0f7a4 9 = .ok (.istore_n 0, 1) := by decide +kernel
theorem dJ6_bitCount_0f7a4_10 : decode cJ6_bitCount_0f7a4 10 = .ok (.iload_n 0, 1) := by decide +kernel
theorem dJ6_bitCount_0f7a4_11 : decode cJ6_bitCount_0f7a4 11 = .ok (.ldc_w 266, 3) := by decide +kernel
theorem dJ6_bitCount_0f7a4_14 : decode cJ6_bitCount_0f7a4 14 = .ok (.iand, 1) := by decide +kernel
theorem dJ6_bitCount_0f7a4_15 : decode cJ6_bitCount_0f7a4 15 = .ok (.iload_n 0, 1) := by decide +kernel
theorem dJ6_bitCount_0f7a4_16 : decode cJ6_bitCount_0f7a4 16 = .ok (.iconst 2, 1) := by decide +kernel
theorem dJ6_bitCount_0f7a4_17 : decode cJ6_bitCount_0f7a4 17 = .ok (.iushr, 1) := by decide +kernel
theorem dJ6_bitCount_0f7a4_18 : decode cJ6_bitCount_0f7a4 18 = .ok (.ldc_w 266, 3) := by decide +kernel
theorem dJ6_bitCount_0f7a4_21 : decode cJ6_bitCount_0f7a4 21 = .ok (.iand, 1) := by decide +kernel
theorem dJ6_bitCount_0f7a4_22 : decode cJ6_bitCount_0f7a4 22 = .ok (.iadd, 1) := by decide +kernel
theorem dJ6_bitCount_0f7a4_23 : decode cJ6_bitCount_0f7a4 23 = .ok (.istore_n 0, 1) := by decide +kernel
theorem dJ6_bitCount_0f7a4_24 : decode cJ6_bitCount_0f7a4 24 = .ok (.iload_n 0, 1) := by decide +kernel
theorem dJ6_bitCount_0f7a4_25 : decode cJ6_bitCount_0f7a4 25 = .ok (.iload_n 0, 1) := by decide +kernel
theorem dJ6_bitCount_0f7a4_26 : decode cJ6_bitCount_0f7a4 26 = .ok (.iconst 4, 1) := by decide +kernel
theorem dJ6_bitCount_0f7a4_27 : decode cJ6_bitCount_0f7a4 27 = .ok (.iushr, 1) := by decide +kernel
theorem dJ6_bitCount_0f7a4_28 : decode cJ6_bitCount_0f7a4 28 = .ok (.iadd, 1) := by decide +kernel
theorem dJ6_bitCount_0f7a4_29 : decode cJ6_bitCount_0f7a4 29 = .ok (.ldc_w 267, 3) := by decide +kernel
theorem dJ6_bitCount_0f7a4_32 : decode cJ6_bitCount_0f7a4 32 = .ok (.iand, 1) := by decide +kernel
theorem dJ6_bitCount_0f7a4_33 : decode cJ6_bitCount_0f7a4 33 = .ok (.istore_n 0, 1) := by decide +kernel
theorem dJ6_bitCount_0f7a4_34 : decode cJ6_bitCount_0f7a4 34 = .ok (.iload_n 0, 1) := by decide +kernel
theorem dJ6_bitCount_0f7a4_35 : decode cJ6_bitCount_0f7a4 35 = .ok (.iload_n 0, 1) := by decide +kernel
theorem dJ6_bitCount_0f7a4_36 : decode cJ6_bitCount_0f7a4 36 = .ok (.bipush 8, 2) := by decide +kernel
theorem dJ6_bitCount_0f7a4_38 : decode cJ6_bitCount_0f7a4 38 = .ok (.iushr, 1) := by decide +kernel
theorem dJ6_bitCount_0f7a4_39 : decode cJ6_bitCount_0f7a4 39 = .ok (.iadd, 1) := by decide +kernel
theorem dJ6_bitCount_0f7a4_40 : decode cJ6_bitCount_0f7a4 40 = .ok (.istore_n 0, 1) := by decide +kernel
theorem dJ6_bitCount_0f7a4_41 : decode cJ6_bitCount_0f7a4 41 = .ok (.iload_n 0, 1) := by decide +kernel
theorem dJ6_bitCount_0f7a4_42 : decode cJ6_bitCount_0f7a4 42 = .ok (.iload_n 0, 1) := by decide +kernel
theorem dJ6_bitCount_0f7a4_43 : decode cJ6_bitCount_0f7a4 43 = .ok (.bipush 16, 2) := by decide +kernel
theorem dJ6_bitCount_0f7a4_45 : decode cJ6_bitCount_0f7a4 45 = .ok (.iushr, 1) := by decide +kernel
theorem dJ6_bitCount_0f7a4_46 : decode cJ6_bitCount_0f7a4 46 = .ok (.iadd, 1) := by decide +kernel
theorem dJ6_bitCount_0f7a4_47 : decode cJ6_bitCount_0f7a4 47 = .ok (.istore_n 0, 1) := by decide +kernel
theorem dJ6_bitCount_0f7a4_48 : decode cJ6_bitCount_0f7a4 48 = .ok (.iload_n 0, 1) := by decide +kernel
theorem dJ6_bitCount_0f7a4_49 : decode cJ6_bitCount_0f7a4 49 = .ok (.bipush 63, 2) := by decide +kernel
theorem dJ6_bitCount_0f7a4_51 : decode cJ6_bitCount_0f7a4 51 = .ok (.iand, 1) := by decide +kernel
theorem dJ6_bitCount_0f7a4_52 : decode cJ6_bitCount_0f7a4 52 = .ok (.ireturn, 1) := by decide +kernel
def wJ6_bitCount_0f7a4 (cy : Nat → ClassId)  : va_W :=
  []
noncomputable def fJ6_bitCount_0f7a4 (F : Nat) (a0 : Int32) : Option (Int32) :=
  some ((((((((a0 - (((a0.toUInt32 >>> ((1 : Int32).toUInt32 &&& Int32.toUInt32 31)).toInt32) &&& (1431655765 : Int32))) &&& (858993459 : Int32)) + ((((a0 - (((a0.toUInt32 >>> ((1 : Int32).toUInt32 &&& Int32.toUInt32 31)).toInt32) &&& (1431655765 : Int32))).toUInt32 >>> ((2 : Int32).toUInt32 &&& Int32.toUInt32 31)).toInt32) &&& (858993459 : Int32))) + (((((a0 - (((a0.toUInt32 >>> ((1 : Int32).toUInt32 &&& Int32.toUInt32 31)).toInt32) &&& (1431655765 : Int32))) &&& (858993459 : Int32)) + ((((a0 - (((a0.toUInt32 >>> ((1 : Int32).toUInt32 &&& Int32.toUInt32 31)).toInt32) &&& (1431655765 : Int32))).toUInt32 >>> ((2 : Int32).toUInt32 &&& Int32.toUInt32 31)).toInt32) &&& (858993459 : Int32))).toUInt32 >>> ((4 : Int32).toUInt32 &&& Int32.toUInt32 31)).toInt32)) &&& (252645135 : Int32)) + (((((((a0 - (((a0.toUInt32 >>> ((1 : Int32).toUInt32 &&& Int32.toUInt32 31)).toInt32) &&& (1431655765 : Int32))) &&& (858993459 : Int32)) + ((((a0 - (((a0.toUInt32 >>> ((1 : Int32).toUInt32 &&& Int32.toUInt32 31)).toInt32) &&& (1431655765 : Int32))).toUInt32 >>> ((2 : Int32).toUInt32 &&& Int32.toUInt32 31)).toInt32) &&& (858993459 : Int32))) + (((((a0 - (((a0.toUInt32 >>> ((1 : Int32).toUInt32 &&& Int32.toUInt32 31)).toInt32) &&& (1431655765 : Int32))) &&& (858993459 : Int32)) + ((((a0 - (((a0.toUInt32 >>> ((1 : Int32).toUInt32 &&& Int32.toUInt32 31)).toInt32) &&& (1431655765 : Int32))).toUInt32 >>> ((2 : Int32).toUInt32 &&& Int32.toUInt32 31)).toInt32) &&& (858993459 : Int32))).toUInt32 >>> ((4 : Int32).toUInt32 &&& Int32.toUInt32 31)).toInt32)) &&& (252645135 : Int32)).toUInt32 >>> ((8 : Int32).toUInt32 &&& Int32.toUInt32 31)).toInt32)) + ((((((((a0 - (((a0.toUInt32 >>> ((1 : Int32).toUInt32 &&& Int32.toUInt32 31)).toInt32) &&& (1431655765 : Int32))) &&& (858993459 : Int32)) + ((((a0 - (((a0.toUInt32 >>> ((1 : Int32).toUInt32 &&& Int32.toUInt32 31)).toInt32) &&& (1431655765 : Int32))).toUInt32 >>> ((2 : Int32).toUInt32 &&& Int32.toUInt32 31)).toInt32) &&& (858993459 : Int32))) + (((((a0 - (((a0.toUInt32 >>> ((1 : Int32).toUInt32 &&& Int32.toUInt32 31)).toInt32) &&& (1431655765 : Int32))) &&& (858993459 : Int32)) + ((((a0 - (((a0.toUInt32 >>> ((1 : Int32).toUInt32 &&& Int32.toUInt32 31)).toInt32) &&& (1431655765 : Int32))).toUInt32 >>> ((2 : Int32).toUInt32 &&& Int32.toUInt32 31)).toInt32) &&& (858993459 : Int32))).toUInt32 >>> ((4 : Int32).toUInt32 &&& Int32.toUInt32 31)).toInt32)) &&& (252645135 : Int32)) + (((((((a0 - (((a0.toUInt32 >>> ((1 : Int32).toUInt32 &&& Int32.toUInt32 31)).toInt32) &&& (1431655765 : Int32))) &&& (858993459 : Int32)) + ((((a0 - (((a0.toUInt32 >>> ((1 : Int32).toUInt32 &&& Int32.toUInt32 31)).toInt32) &&& (1431655765 : Int32))).toUInt32 >>> ((2 : Int32).toUInt32 &&& Int32.toUInt32 31)).toInt32) &&& (858993459 : Int32))) + (((((a0 - (((a0.toUInt32 >>> ((1 : Int32).toUInt32 &&& Int32.toUInt32 31)).toInt32) &&& (1431655765 : Int32))) &&& (858993459 : Int32)) + ((((a0 - (((a0.toUInt32 >>> ((1 : Int32).toUInt32 &&& Int32.toUInt32 31)).toInt32) &&& (1431655765 : Int32))).toUInt32 >>> ((2 : Int32).toUInt32 &&& Int32.toUInt32 31)).toInt32) &&& (858993459 : Int32))).toUInt32 >>> ((4 : Int32).toUInt32 &&& Int32.toUInt32 31)).toInt32)) &&& (252645135 : Int32)).toUInt32 >>> ((8 : Int32).toUInt32 &&& Int32.toUInt32 31)).toInt32)).toUInt32 >>> ((16 : Int32).toUInt32 &&& Int32.toUInt32 31)).toInt32)) &&& (63 : Int32))
theorem CJ6_bitCount_0f7a4 {l : Launch} {D : va_G} {cy : Nat → ClassId} (F : Nat) (a0 : Int32) (R : Int32) (h : fJ6_bitCount_0f7a4 F a0 = some R) : vMet l D cy MJ6_bitCount_0f7a4 0 0 0 [.int a0] (wJ6_bitCount_0f7a4 cy ) (fun (r : Option Value) (w : va_W) => r = (some (.int R)) ∧ w = (wJ6_bitCount_0f7a4 cy )) := by
  refine vMet.start (by decide +kernel) (Nat.le_of_ble_eq_true rfl) ?_
  generalize hQe : (fun (r : Option Value) (w : va_W) => r = (some (.int R)) ∧ w = (wJ6_bitCount_0f7a4 cy )) = Q
  have hQ : Q (some (.int R)) (wJ6_bitCount_0f7a4 cy ) := by rw [← hQe]; exact ⟨rfl, rfl⟩
  show V l D cy MJ6_bitCount_0f7a4 0 0 0 _ _ Q 0 [(0, .int a0)] [] _ 0 0
  show V l D cy MJ6_bitCount_0f7a4 0 0 0 [.int a0] _ Q 0 [(0, .int a0)] [] (wJ6_bitCount_0f7a4 cy ) 0 0
  unfold fJ6_bitCount_0f7a4 at h
  refine V.iload_n dJ6_bitCount_0f7a4_0 rfl 0 rfl ?_
  refine V.iload_n dJ6_bitCount_0f7a4_1 rfl 0 rfl ?_
  refine V.iconst (v := (1 : Int32)) dJ6_bitCount_0f7a4_2 (by decide) ?_
  refine V.iushr dJ6_bitCount_0f7a4_3 ?_
  refine V.ldcw (v := (1431655765 : Int32)) klJ6_265 dJ6_bitCount_0f7a4_4 ?_
  refine V.iand dJ6_bitCount_0f7a4_7 ?_
  refine V.isub dJ6_bitCount_0f7a4_8 ?_
  refine V.istore_n (lv' := [(0, .int (a0 - (((a0.toUInt32 >>> ((1 : Int32).toUInt32 &&& Int32.toUInt32 31)).toInt32) &&& (1431655765 : Int32))))]) dJ6_bitCount_0f7a4_9 rfl (by decide) rfl ?_
  refine V.iload_n dJ6_bitCount_0f7a4_10 rfl 0 rfl ?_
  refine V.ldcw (v := (858993459 : Int32)) klJ6_266 dJ6_bitCount_0f7a4_11 ?_
  refine V.iand dJ6_bitCount_0f7a4_14 ?_
  refine V.iload_n dJ6_bitCount_0f7a4_15 rfl 0 rfl ?_
  refine V.iconst (v := (2 : Int32)) dJ6_bitCount_0f7a4_16 (by decide) ?_
  refine V.iushr dJ6_bitCount_0f7a4_17 ?_
  refine V.ldcw (v := (858993459 : Int32)) klJ6_266 dJ6_bitCount_0f7a4_18 ?_
  refine V.iand dJ6_bitCount_0f7a4_21 ?_
  refine V.iadd dJ6_bitCount_0f7a4_22 ?_
  refine V.istore_n (lv' := [(0, .int (((a0 - (((a0.toUInt32 >>> ((1 : Int32).toUInt32 &&& Int32.toUInt32 31)).toInt32) &&& (1431655765 : Int32))) &&& (858993459 : Int32)) + ((((a0 - (((a0.toUInt32 >>> ((1 : Int32).toUInt32 &&& Int32.toUInt32 31)).toInt32) &&& (1431655765 : Int32))).toUInt32 >>> ((2 : Int32).toUInt32 &&& Int32.toUInt32 31)).toInt32) &&& (858993459 : Int32))))]) dJ6_bitCount_0f7a4_23 rfl (by decide) rfl ?_
  refine V.iload_n dJ6_bitCount_0f7a4_24 rfl 0 rfl ?_
  refine V.iload_n dJ6_bitCount_0f7a4_25 rfl 0 rfl ?_
  refine V.iconst (v := (4 : Int32)) dJ6_bitCount_0f7a4_26 (by decide) ?_
  refine V.iushr dJ6_bitCount_0f7a4_27 ?_
  refine V.iadd dJ6_bitCount_0f7a4_28 ?_
  refine V.ldcw (v := (252645135 : Int32)) klJ6_267 dJ6_bitCount_0f7a4_29 ?_
  refine V.iand dJ6_bitCount_0f7a4_32 ?_
  refine V.istore_n (lv' := [(0, .int (((((a0 - (((a0.toUInt32 >>> ((1 : Int32).toUInt32 &&& Int32.toUInt32 31)).toInt32) &&& (1431655765 : Int32))) &&& (858993459 : Int32)) + ((((a0 - (((a0.toUInt32 >>> ((1 : Int32).toUInt32 &&& Int32.toUInt32 31)).toInt32) &&& (1431655765 : Int32))).toUInt32 >>> ((2 : Int32).toUInt32 &&& Int32.toUInt32 31)).toInt32) &&& (858993459 : Int32))) + (((((a0 - (((a0.toUInt32 >>> ((1 : Int32).toUInt32 &&& Int32.toUInt32 31)).toInt32) &&& (1431655765 : Int32))) &&& (858993459 : Int32)) + ((((a0 - (((a0.toUInt32 >>> ((1 : Int32).toUInt32 &&& Int32.toUInt32 31)).toInt32) &&& (1431655765 : Int32))).toUInt32 >>> ((2 : Int32).toUInt32 &&& Int32.toUInt32 31)).toInt32) &&& (858993459 : Int32))).toUInt32 >>> ((4 : Int32).toUInt32 &&& Int32.toUInt32 31)).toInt32)) &&& (252645135 : Int32)))]) dJ6_bitCount_0f7a4_33 rfl (by decide) rfl ?_
  refine V.iload_n dJ6_bitCount_0f7a4_34 rfl 0 rfl ?_
  refine V.iload_n dJ6_bitCount_0f7a4_35 rfl 0 rfl ?_
  refine V.bipush (v := (8 : Int32)) dJ6_bitCount_0f7a4_36 (by decide) ?_
  refine V.iushr dJ6_bitCount_0f7a4_38 ?_
  refine V.iadd dJ6_bitCount_0f7a4_39 ?_
  refine V.istore_n (lv' := [(0, .int ((((((a0 - (((a0.toUInt32 >>> ((1 : Int32).toUInt32 &&& Int32.toUInt32 31)).toInt32) &&& (1431655765 : Int32))) &&& (858993459 : Int32)) + ((((a0 - (((a0.toUInt32 >>> ((1 : Int32).toUInt32 &&& Int32.toUInt32 31)).toInt32) &&& (1431655765 : Int32))).toUInt32 >>> ((2 : Int32).toUInt32 &&& Int32.toUInt32 31)).toInt32) &&& (858993459 : Int32))) + (((((a0 - (((a0.toUInt32 >>> ((1 : Int32).toUInt32 &&& Int32.toUInt32 31)).toInt32) &&& (1431655765 : Int32))) &&& (858993459 : Int32)) + ((((a0 - (((a0.toUInt32 >>> ((1 : Int32).toUInt32 &&& Int32.toUInt32 31)).toInt32) &&& (1431655765 : Int32))).toUInt32 >>> ((2 : Int32).toUInt32 &&& Int32.toUInt32 31)).toInt32) &&& (858993459 : Int32))).toUInt32 >>> ((4 : Int32).toUInt32 &&& Int32.toUInt32 31)).toInt32)) &&& (252645135 : Int32)) + (((((((a0 - (((a0.toUInt32 >>> ((1 : Int32).toUInt32 &&& Int32.toUInt32 31)).toInt32) &&& (1431655765 : Int32))) &&& (858993459 : Int32)) + ((((a0 - (((a0.toUInt32 >>> ((1 : Int32).toUInt32 &&& Int32.toUInt32 31)).toInt32) &&& (1431655765 : Int32))).toUInt32 >>> ((2 : Int32).toUInt32 &&& Int32.toUInt32 31)).toInt32) &&& (858993459 : Int32))) + (((((a0 - (((a0.toUInt32 >>> ((1 : Int32).toUInt32 &&& Int32.toUInt32 31)).toInt32) &&& (1431655765 : Int32))) &&& (858993459 : Int32)) + ((((a0 - (((a0.toUInt32 >>> ((1 : Int32).toUInt32 &&& Int32.toUInt32 31)).toInt32) &&& (1431655765 : Int32))).toUInt32 >>> ((2 : Int32).toUInt32 &&& Int32.toUInt32 31)).toInt32) &&& (858993459 : Int32))).toUInt32 >>> ((4 : Int32).toUInt32 &&& Int32.toUInt32 31)).toInt32)) &&& (252645135 : Int32)).toUInt32 >>> ((8 : Int32).toUInt32 &&& Int32.toUInt32 31)).toInt32)))]) dJ6_bitCount_0f7a4_40 rfl (by decide) rfl ?_
  refine V.iload_n dJ6_bitCount_0f7a4_41 rfl 0 rfl ?_
  refine V.iload_n dJ6_bitCount_0f7a4_42 rfl 0 rfl ?_
  refine V.bipush (v := (16 : Int32)) dJ6_bitCount_0f7a4_43 (by decide) ?_
  refine V.iushr dJ6_bitCount_0f7a4_45 ?_
  refine V.iadd dJ6_bitCount_0f7a4_46 ?_
  refine V.istore_n (lv' := [(0, .int (((((((a0 - (((a0.toUInt32 >>> ((1 : Int32).toUInt32 &&& Int32.toUInt32 31)).toInt32) &&& (1431655765 : Int32))) &&& (858993459 : Int32)) + ((((a0 - (((a0.toUInt32 >>> ((1 : Int32).toUInt32 &&& Int32.toUInt32 31)).toInt32) &&& (1431655765 : Int32))).toUInt32 >>> ((2 : Int32).toUInt32 &&& Int32.toUInt32 31)).toInt32) &&& (858993459 : Int32))) + (((((a0 - (((a0.toUInt32 >>> ((1 : Int32).toUInt32 &&& Int32.toUInt32 31)).toInt32) &&& (1431655765 : Int32))) &&& (858993459 : Int32)) + ((((a0 - (((a0.toUInt32 >>> ((1 : Int32).toUInt32 &&& Int32.toUInt32 31)).toInt32) &&& (1431655765 : Int32))).toUInt32 >>> ((2 : Int32).toUInt32 &&& Int32.toUInt32 31)).toInt32) &&& (858993459 : Int32))).toUInt32 >>> ((4 : Int32).toUInt32 &&& Int32.toUInt32 31)).toInt32)) &&& (252645135 : Int32)) + (((((((a0 - (((a0.toUInt32 >>> ((1 : Int32).toUInt32 &&& Int32.toUInt32 31)).toInt32) &&& (1431655765 : Int32))) &&& (858993459 : Int32)) + ((((a0 - (((a0.toUInt32 >>> ((1 : Int32).toUInt32 &&& Int32.toUInt32 31)).toInt32) &&& (1431655765 : Int32))).toUInt32 >>> ((2 : Int32).toUInt32 &&& Int32.toUInt32 31)).toInt32) &&& (858993459 : Int32))) + (((((a0 - (((a0.toUInt32 >>> ((1 : Int32).toUInt32 &&& Int32.toUInt32 31)).toInt32) &&& (1431655765 : Int32))) &&& (858993459 : Int32)) + ((((a0 - (((a0.toUInt32 >>> ((1 : Int32).toUInt32 &&& Int32.toUInt32 31)).toInt32) &&& (1431655765 : Int32))).toUInt32 >>> ((2 : Int32).toUInt32 &&& Int32.toUInt32 31)).toInt32) &&& (858993459 : Int32))).toUInt32 >>> ((4 : Int32).toUInt32 &&& Int32.toUInt32 31)).toInt32)) &&& (252645135 : Int32)).toUInt32 >>> ((8 : Int32).toUInt32 &&& Int32.toUInt32 31)).toInt32)) + ((((((((a0 - (((a0.toUInt32 >>> ((1 : Int32).toUInt32 &&& Int32.toUInt32 31)).toInt32) &&& (1431655765 : Int32))) &&& (858993459 : Int32)) + ((((a0 - (((a0.toUInt32 >>> ((1 : Int32).toUInt32 &&& Int32.toUInt32 31)).toInt32) &&& (1431655765 : Int32))).toUInt32 >>> ((2 : Int32).toUInt32 &&& Int32.toUInt32 31)).toInt32) &&& (858993459 : Int32))) + (((((a0 - (((a0.toUInt32 >>> ((1 : Int32).toUInt32 &&& Int32.toUInt32 31)).toInt32) &&& (1431655765 : Int32))) &&& (858993459 : Int32)) + ((((a0 - (((a0.toUInt32 >>> ((1 : Int32).toUInt32 &&& Int32.toUInt32 31)).toInt32) &&& (1431655765 : Int32))).toUInt32 >>> ((2 : Int32).toUInt32 &&& Int32.toUInt32 31)).toInt32) &&& (858993459 : Int32))).toUInt32 >>> ((4 : Int32).toUInt32 &&& Int32.toUInt32 31)).toInt32)) &&& (252645135 : Int32)) + (((((((a0 - (((a0.toUInt32 >>> ((1 : Int32).toUInt32 &&& Int32.toUInt32 31)).toInt32) &&& (1431655765 : Int32))) &&& (858993459 : Int32)) + ((((a0 - (((a0.toUInt32 >>> ((1 : Int32).toUInt32 &&& Int32.toUInt32 31)).toInt32) &&& (1431655765 : Int32))).toUInt32 >>> ((2 : Int32).toUInt32 &&& Int32.toUInt32 31)).toInt32) &&& (858993459 : Int32))) + (((((a0 - (((a0.toUInt32 >>> ((1 : Int32).toUInt32 &&& Int32.toUInt32 31)).toInt32) &&& (1431655765 : Int32))) &&& (858993459 : Int32)) + ((((a0 - (((a0.toUInt32 >>> ((1 : Int32).toUInt32 &&& Int32.toUInt32 31)).toInt32) &&& (1431655765 : Int32))).toUInt32 >>> ((2 : Int32).toUInt32 &&& Int32.toUInt32 31)).toInt32) &&& (858993459 : Int32))).toUInt32 >>> ((4 : Int32).toUInt32 &&& Int32.toUInt32 31)).toInt32)) &&& (252645135 : Int32)).toUInt32 >>> ((8 : Int32).toUInt32 &&& Int32.toUInt32 31)).toInt32)).toUInt32 >>> ((16 : Int32).toUInt32 &&& Int32.toUInt32 31)).toInt32)))]) dJ6_bitCount_0f7a4_47 rfl (by decide) rfl ?_
  refine V.iload_n dJ6_bitCount_0f7a4_48 rfl 0 rfl ?_
  refine V.bipush (v := (63 : Int32)) dJ6_bitCount_0f7a4_49 (by decide) ?_
  refine V.iand dJ6_bitCount_0f7a4_51 ?_
  have e9 := Option.some.inj h; subst e9
  exact V.iret (ty := .int) rfl rfl dJ6_bitCount_0f7a4_52 (Nat.le_refl _) (Nat.le_refl _) hQ
theorem dJ7_fill_d0a16_0 : decode cJ7_fill_d0a16 0 = .ok (.iconst 0, 1) := by decide +kernel
theorem dJ7_fill_d0a16_1 : decode cJ7_fill_d0a16 1 = .ok (.istore_n 3, 1) := by decide +kernel
theorem dJ7_fill_d0a16_2 : decode cJ7_fill_d0a16 2 = .ok (.aload_n 0, 1) := by decide +kernel
theorem dJ7_fill_d0a16_3 : decode cJ7_fill_d0a16 3 = .ok (.arraylength, 1) := by decide +kernel
theorem dJ7_fill_d0a16_4 : decode cJ7_fill_d0a16 4 = .ok (.istore 4, 2) := by decide +kernel
theorem dJ7_fill_d0a16_6 : decode cJ7_fill_d0a16 6 = .ok (.iload_n 3, 1) := by decide +kernel
theorem dJ7_fill_d0a16_7 : decode cJ7_fill_d0a16 7 = .ok (.iload 4, 2) := by decide +kernel
theorem dJ7_fill_d0a16_9 : decode cJ7_fill_d0a16 9 = .ok (.if_icmp .ge 13, 3) := by decide +kernel
theorem dJ7_fill_d0a16_12 : decode cJ7_fill_d0a16 12 = .ok (.aload_n 0, 1) := by decide +kernel
theorem dJ7_fill_d0a16_13 : decode cJ7_fill_d0a16 13 = .ok (.iload_n 3, 1) := by decide +kernel
theorem dJ7_fill_d0a16_14 : decode cJ7_fill_d0a16 14 = .ok (.lload_n 1, 1) := by decide +kernel
theorem dJ7_fill_d0a16_15 : decode cJ7_fill_d0a16 15 = .ok (.lastore, 1) := by decide +kernel
theorem dJ7_fill_d0a16_16 : decode cJ7_fill_d0a16 16 = .ok (.iinc 3 1, 3) := by decide +kernel
theorem dJ7_fill_d0a16_19 : decode cJ7_fill_d0a16 19 = .ok (.goto (-13), 3) := by decide +kernel
theorem dJ7_fill_d0a16_22 : decode cJ7_fill_d0a16 22 = .ok (.return_, 1) := by decide +kernel
def wJ7_fill_d0a16 (cy : Nat → ClassId) (p0A : Nat) (p0N : Nat) (p0 : Nat → Int64) : va_W :=
  [(p0A, .inl (cy 2, p0N, .inr (.inl p0)))]
noncomputable def bJ7_fill_d0a16_L6 (F : Nat) (p0N : Nat) (k6 : Int64 → Int32 → Int32 → (Nat → Int64) → Option ((Nat → Int64))) (x1 : Int64) (x3 : Int32) (x4 : Int32) (p0 : Nat → Int64) : Option ((Nat → Int64)) :=
  if x4 ≤ x3 then (some p0) else (if x3 < 0 ∨ p0N ≤ x3.toNatClampNeg then none else (k6 x1 (x3 + (1 : Int32)) x4 (vp_updL p0 x3.toNatClampNeg x1)))
theorem vbJ7_fill_d0a16_L6 {l : Launch} {D : va_G} {cy : Nat → ClassId} {av : List Value} {ws0 : va_W} {Q : Option Value → va_W → Prop} (F : Nat) (p0A : Nat) (p0N : Nat) (k6 : Int64 → Int32 → Int32 → (Nat → Int64) → Option ((Nat → Int64))) (hk6 : ∀ (x1 : Int64) (x3 : Int32) (x4 : Int32) (p0 : Nat → Int64) (R : (Nat → Int64)), k6 x1 x3 x4 p0 = some R → Q none (wJ7_fill_d0a16 cy p0A p0N R) → V l D cy MJ7_fill_d0a16 0 0 0 av ws0 Q 6 [(0, .ref p0A), (1, .long x1), (3, .int x3), (4, .int x4)] [] (wJ7_fill_d0a16 cy p0A p0N p0) 0 0) (x1 : Int64) (x3 : Int32) (x4 : Int32) (p0 : Nat → Int64) (R : (Nat → Int64)) (h : bJ7_fill_d0a16_L6 F p0N k6 x1 x3 x4 p0 = some R) (hQ : Q none (wJ7_fill_d0a16 cy p0A p0N R)) : V l D cy MJ7_fill_d0a16 0 0 0 av ws0 Q 6 [(0, .ref p0A), (1, .long x1), (3, .int x3), (4, .int x4)] [] (wJ7_fill_d0a16 cy p0A p0N p0) 0 0 := by
  unfold bJ7_fill_d0a16_L6 at h
  refine V.iload_n dJ7_fill_d0a16_6 rfl 2 rfl ?_
  refine V.iload dJ7_fill_d0a16_7 3 rfl ?_
  refine V.icmp_ge (tgt := 22) dJ7_fill_d0a16_9 (by decide) (fun hc9 => ?_) (fun hc9 => ?_)
  · replace h := (if_pos hc9).symm.trans h
    have e9 := Option.some.inj h; subst e9
    exact V.vret rfl dJ7_fill_d0a16_22 (Nat.le_refl _) (Nat.le_refl _) hQ
  · replace h := (if_neg hc9).symm.trans h
    refine V.aload_n dJ7_fill_d0a16_12 rfl 0 rfl ?_
    refine V.iload_n dJ7_fill_d0a16_13 rfl 2 rfl ?_
    refine V.lload_n dJ7_fill_d0a16_14 rfl 1 rfl ?_
    by_cases hb15 : x3 < 0 ∨ p0N ≤ x3.toNatClampNeg
    · exact vNone ((if_pos hb15).symm.trans h)
    replace h := (if_neg hb15).symm.trans h
    refine V.last (ws' := (wJ7_fill_d0a16 cy p0A p0N (vp_updL p0 x3.toNatClampNeg x1))) dJ7_fill_d0a16_15 0 rfl hb15 rfl ?_
    refine V.iinc (v := x3 + (1 : Int32)) (lv' := [(3, .int (x3 + (1 : Int32))), (0, .ref p0A), (1, .long x1), (4, .int x4)]) dJ7_fill_d0a16_16 2 rfl rfl (by decide) rfl ?_
    refine V.goto (tgt := 6) dJ7_fill_d0a16_19 (by decide) ?_
    refine V.lvs [1, 2, 0, 3] rfl ?_
    exact hk6 _ _ _ _ R h hQ
noncomputable def fJ7_fill_d0a16_L6 (F : Nat) (p0N : Nat)  : Nat → Int64 → Int32 → Int32 → (Nat → Int64) → Option ((Nat → Int64))
  | 0 => fun _ _ _ _ => none
  | n + 1 => bJ7_fill_d0a16_L6 F p0N (fJ7_fill_d0a16_L6 F p0N  n)
theorem vJ7_fill_d0a16_L6 {l : Launch} {D : va_G} {cy : Nat → ClassId} {av : List Value} {ws0 : va_W} {Q : Option Value → va_W → Prop} (F : Nat) (p0A : Nat) (p0N : Nat)  : ∀ (n : Nat) (x1 : Int64) (x3 : Int32) (x4 : Int32) (p0 : Nat → Int64) (R : (Nat → Int64)), fJ7_fill_d0a16_L6 F p0N  n x1 x3 x4 p0 = some R → Q none (wJ7_fill_d0a16 cy p0A p0N R) → V l D cy MJ7_fill_d0a16 0 0 0 av ws0 Q 6 [(0, .ref p0A), (1, .long x1), (3, .int x3), (4, .int x4)] [] (wJ7_fill_d0a16 cy p0A p0N p0) 0 0 := by
  intro n
  induction n with
  | zero => intro x1 x3 x4 p0 R h; exact vNone h
  | succ n ih => intro x1 x3 x4 p0 R h hQ; exact vbJ7_fill_d0a16_L6 F p0A p0N _ ih x1 x3 x4 p0 R h hQ
noncomputable def fJ7_fill_d0a16 (F : Nat) (p0N : Nat) (a1 : Int64) (p0 : Nat → Int64) : Option ((Nat → Int64)) :=
  fJ7_fill_d0a16_L6 F p0N F a1 (0 : Int32) (Int32.ofNat p0N) p0
theorem CJ7_fill_d0a16 {l : Launch} {D : va_G} {cy : Nat → ClassId} (F : Nat) (p0A : Nat) (p0N : Nat) (p0 : Nat → Int64) (a1 : Int64) (R : (Nat → Int64)) (h : fJ7_fill_d0a16 F p0N a1 p0 = some R) : vMet l D cy MJ7_fill_d0a16 0 0 0 [.ref p0A, .long a1] (wJ7_fill_d0a16 cy p0A p0N p0) (fun (r : Option Value) (w : va_W) => r = none ∧ w = (wJ7_fill_d0a16 cy p0A p0N R)) := by
  refine vMet.start (by decide +kernel) (Nat.le_of_ble_eq_true rfl) ?_
  generalize hQe : (fun (r : Option Value) (w : va_W) => r = none ∧ w = (wJ7_fill_d0a16 cy p0A p0N R)) = Q
  have hQ : Q none (wJ7_fill_d0a16 cy p0A p0N R) := by rw [← hQe]; exact ⟨rfl, rfl⟩
  show V l D cy MJ7_fill_d0a16 0 0 0 _ _ Q 0 [(0, .ref p0A), (1, .long a1)] [] _ 0 0
  show V l D cy MJ7_fill_d0a16 0 0 0 [.ref p0A, .long a1] _ Q 0 [(0, .ref p0A), (1, .long a1)] [] (wJ7_fill_d0a16 cy p0A p0N p0) 0 0
  unfold fJ7_fill_d0a16 at h
  refine V.iconst (v := (0 : Int32)) dJ7_fill_d0a16_0 (by decide) ?_
  refine V.istore_n (lv' := [(3, .int (0 : Int32)), (0, .ref p0A), (1, .long a1)]) dJ7_fill_d0a16_1 rfl (by decide) rfl ?_
  refine V.aload_n dJ7_fill_d0a16_2 rfl 1 rfl ?_
  refine V.alen (v := Int32.ofNat p0N) (t0 := 2) dJ7_fill_d0a16_3 0 rfl rfl rfl ?_
  refine V.istore (lv' := [(4, .int (Int32.ofNat p0N)), (3, .int (0 : Int32)), (0, .ref p0A), (1, .long a1)]) dJ7_fill_d0a16_4 (by decide) rfl ?_
  refine V.lvs [2, 3, 1, 0] rfl ?_
  exact vJ7_fill_d0a16_L6 _ _ _  _ _ _ _ _ R h hQ
theorem dJ7_fill_53178_0 : decode cJ7_fill_53178 0 = .ok (.iconst 0, 1) := by decide +kernel
theorem dJ7_fill_53178_1 : decode cJ7_fill_53178 1 = .ok (.istore_n 2, 1) := by decide +kernel
theorem dJ7_fill_53178_2 : decode cJ7_fill_53178 2 = .ok (.aload_n 0, 1) := by decide +kernel
theorem dJ7_fill_53178_3 : decode cJ7_fill_53178 3 = .ok (.arraylength, 1) := by decide +kernel
theorem dJ7_fill_53178_4 : decode cJ7_fill_53178 4 = .ok (.istore_n 3, 1) := by decide +kernel
theorem dJ7_fill_53178_5 : decode cJ7_fill_53178 5 = .ok (.iload_n 2, 1) := by decide +kernel
theorem dJ7_fill_53178_6 : decode cJ7_fill_53178 6 = .ok (.iload_n 3, 1) := by decide +kernel
theorem dJ7_fill_53178_7 : decode cJ7_fill_53178 7 = .ok (.if_icmp .ge 13, 3) := by decide +kernel
theorem dJ7_fill_53178_10 : decode cJ7_fill_53178 10 = .ok (.aload_n 0, 1) := by decide +kernel
theorem dJ7_fill_53178_11 : decode cJ7_fill_53178 11 = .ok (.iload_n 2, 1) := by decide +kernel
theorem dJ7_fill_53178_12 : decode cJ7_fill_53178 12 = .ok (.iload_n 1, 1) := by decide +kernel
theorem dJ7_fill_53178_13 : decode cJ7_fill_53178 13 = .ok (.iastore, 1) := by decide +kernel
theorem dJ7_fill_53178_14 : decode cJ7_fill_53178 14 = .ok (.iinc 2 1, 3) := by decide +kernel
theorem dJ7_fill_53178_17 : decode cJ7_fill_53178 17 = .ok (.goto (-12), 3) := by decide +kernel
theorem dJ7_fill_53178_20 : decode cJ7_fill_53178 20 = .ok (.return_, 1) := by decide +kernel
def wJ7_fill_53178 (cy : Nat → ClassId) (p0A : Nat) (p0N : Nat) (p0 : Nat → Int32) : va_W :=
  [(p0A, .inl (cy 1, p0N, .inl p0))]
noncomputable def bJ7_fill_53178_L5 (F : Nat) (p0N : Nat) (k5 : Int32 → Int32 → Int32 → (Nat → Int32) → Option ((Nat → Int32))) (x1 : Int32) (x2 : Int32) (x3 : Int32) (p0 : Nat → Int32) : Option ((Nat → Int32)) :=
  if x3 ≤ x2 then (some p0) else (if x2 < 0 ∨ p0N ≤ x2.toNatClampNeg then none else (k5 x1 (x2 + (1 : Int32)) x3 (upd p0 x2.toNatClampNeg x1)))
theorem vbJ7_fill_53178_L5 {l : Launch} {D : va_G} {cy : Nat → ClassId} {av : List Value} {ws0 : va_W} {Q : Option Value → va_W → Prop} (F : Nat) (p0A : Nat) (p0N : Nat) (k5 : Int32 → Int32 → Int32 → (Nat → Int32) → Option ((Nat → Int32))) (hk5 : ∀ (x1 : Int32) (x2 : Int32) (x3 : Int32) (p0 : Nat → Int32) (R : (Nat → Int32)), k5 x1 x2 x3 p0 = some R → Q none (wJ7_fill_53178 cy p0A p0N R) → V l D cy MJ7_fill_53178 0 0 0 av ws0 Q 5 [(0, .ref p0A), (1, .int x1), (2, .int x2), (3, .int x3)] [] (wJ7_fill_53178 cy p0A p0N p0) 0 0) (x1 : Int32) (x2 : Int32) (x3 : Int32) (p0 : Nat → Int32) (R : (Nat → Int32)) (h : bJ7_fill_53178_L5 F p0N k5 x1 x2 x3 p0 = some R) (hQ : Q none (wJ7_fill_53178 cy p0A p0N R)) : V l D cy MJ7_fill_53178 0 0 0 av ws0 Q 5 [(0, .ref p0A), (1, .int x1), (2, .int x2), (3, .int x3)] [] (wJ7_fill_53178 cy p0A p0N p0) 0 0 := by
  unfold bJ7_fill_53178_L5 at h
  refine V.iload_n dJ7_fill_53178_5 rfl 2 rfl ?_
  refine V.iload_n dJ7_fill_53178_6 rfl 3 rfl ?_
  refine V.icmp_ge (tgt := 20) dJ7_fill_53178_7 (by decide) (fun hc7 => ?_) (fun hc7 => ?_)
  · replace h := (if_pos hc7).symm.trans h
    have e9 := Option.some.inj h; subst e9
    exact V.vret rfl dJ7_fill_53178_20 (Nat.le_refl _) (Nat.le_refl _) hQ
  · replace h := (if_neg hc7).symm.trans h
    refine V.aload_n dJ7_fill_53178_10 rfl 0 rfl ?_
    refine V.iload_n dJ7_fill_53178_11 rfl 2 rfl ?_
    refine V.iload_n dJ7_fill_53178_12 rfl 1 rfl ?_
    by_cases hb13 : x2 < 0 ∨ p0N ≤ x2.toNatClampNeg
    · exact vNone ((if_pos hb13).symm.trans h)
    replace h := (if_neg hb13).symm.trans h
    refine V.iast (ws' := (wJ7_fill_53178 cy p0A p0N (upd p0 x2.toNatClampNeg x1))) dJ7_fill_53178_13 0 rfl hb13 rfl ?_
    refine V.iinc (v := x2 + (1 : Int32)) (lv' := [(2, .int (x2 + (1 : Int32))), (0, .ref p0A), (1, .int x1), (3, .int x3)]) dJ7_fill_53178_14 2 rfl rfl (by decide) rfl ?_
    refine V.goto (tgt := 5) dJ7_fill_53178_17 (by decide) ?_
    refine V.lvs [1, 2, 0, 3] rfl ?_
    exact hk5 _ _ _ _ R h hQ
noncomputable def fJ7_fill_53178_L5 (F : Nat) (p0N : Nat)  : Nat → Int32 → Int32 → Int32 → (Nat → Int32) → Option ((Nat → Int32))
  | 0 => fun _ _ _ _ => none
  | n + 1 => bJ7_fill_53178_L5 F p0N (fJ7_fill_53178_L5 F p0N  n)
theorem vJ7_fill_53178_L5 {l : Launch} {D : va_G} {cy : Nat → ClassId} {av : List Value} {ws0 : va_W} {Q : Option Value → va_W → Prop} (F : Nat) (p0A : Nat) (p0N : Nat)  : ∀ (n : Nat) (x1 : Int32) (x2 : Int32) (x3 : Int32) (p0 : Nat → Int32) (R : (Nat → Int32)), fJ7_fill_53178_L5 F p0N  n x1 x2 x3 p0 = some R → Q none (wJ7_fill_53178 cy p0A p0N R) → V l D cy MJ7_fill_53178 0 0 0 av ws0 Q 5 [(0, .ref p0A), (1, .int x1), (2, .int x2), (3, .int x3)] [] (wJ7_fill_53178 cy p0A p0N p0) 0 0 := by
  intro n
  induction n with
  | zero => intro x1 x2 x3 p0 R h; exact vNone h
  | succ n ih => intro x1 x2 x3 p0 R h hQ; exact vbJ7_fill_53178_L5 F p0A p0N _ ih x1 x2 x3 p0 R h hQ
noncomputable def fJ7_fill_53178 (F : Nat) (p0N : Nat) (a1 : Int32) (p0 : Nat → Int32) : Option ((Nat → Int32)) :=
  fJ7_fill_53178_L5 F p0N F a1 (0 : Int32) (Int32.ofNat p0N) p0
theorem CJ7_fill_53178 {l : Launch} {D : va_G} {cy : Nat → ClassId} (F : Nat) (p0A : Nat) (p0N : Nat) (p0 : Nat → Int32) (a1 : Int32) (R : (Nat → Int32)) (h : fJ7_fill_53178 F p0N a1 p0 = some R) : vMet l D cy MJ7_fill_53178 0 0 0 [.ref p0A, .int a1] (wJ7_fill_53178 cy p0A p0N p0) (fun (r : Option Value) (w : va_W) => r = none ∧ w = (wJ7_fill_53178 cy p0A p0N R)) := by
  refine vMet.start (by decide +kernel) (Nat.le_of_ble_eq_true rfl) ?_
  generalize hQe : (fun (r : Option Value) (w : va_W) => r = none ∧ w = (wJ7_fill_53178 cy p0A p0N R)) = Q
  have hQ : Q none (wJ7_fill_53178 cy p0A p0N R) := by rw [← hQe]; exact ⟨rfl, rfl⟩
  show V l D cy MJ7_fill_53178 0 0 0 _ _ Q 0 [(0, .ref p0A), (1, .int a1)] [] _ 0 0
  show V l D cy MJ7_fill_53178 0 0 0 [.ref p0A, .int a1] _ Q 0 [(0, .ref p0A), (1, .int a1)] [] (wJ7_fill_53178 cy p0A p0N p0) 0 0
  unfold fJ7_fill_53178 at h
  refine V.iconst (v := (0 : Int32)) dJ7_fill_53178_0 (by decide) ?_
  refine V.istore_n (lv' := [(2, .int (0 : Int32)), (0, .ref p0A), (1, .int a1)]) dJ7_fill_53178_1 rfl (by decide) rfl ?_
  refine V.aload_n dJ7_fill_53178_2 rfl 1 rfl ?_
  refine V.alen (v := Int32.ofNat p0N) (t0 := 1) dJ7_fill_53178_3 0 rfl rfl rfl ?_
  refine V.istore_n (lv' := [(3, .int (Int32.ofNat p0N)), (2, .int (0 : Int32)), (0, .ref p0A), (1, .int a1)]) dJ7_fill_53178_4 rfl (by decide) rfl ?_
  refine V.lvs [2, 3, 1, 0] rfl ?_
  exact vJ7_fill_53178_L5 _ _ _  _ _ _ _ _ R h hQ
