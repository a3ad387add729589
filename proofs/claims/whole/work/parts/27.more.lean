theorem dJ3_checkIndex_8e157_0 : decode cJ3_checkIndex_8e157 0 = .ok (.iload_n 0, 1) := by decide +kernel
theorem dJ3_checkIndex_8e157_1 : decode cJ3_checkIndex_8e157 1 = .ok (.ifCond .lt 8, 3) := by decide +kernel
theorem dJ3_checkIndex_8e157_4 : decode cJ3_checkIndex_8e157 4 = .ok (.iload_n 0, 1) := by decide +kernel
theorem dJ3_checkIndex_8e157_5 : decode cJ3_checkIndex_8e157 5 = .ok (.iload_n 1, 1) := by decide +kernel
theorem dJ3_checkIndex_8e157_6 : decode cJ3_checkIndex_8e157 6 = .ok (.if_icmp .lt 10, 3) := by decide +kernel
theorem dJ3_checkIndex_8e157_9 : decode cJ3_checkIndex_8e157 9 = .ok (.aload_n 2, 1) := by decide +kernel
theorem dJ3_checkIndex_8e157_10 : decode cJ3_checkIndex_8e157 10 = .ok (.iload_n 0, 1) := by decide +kernel
theorem dJ3_checkIndex_8e157_11 : decode cJ3_checkIndex_8e157 11 = .ok (.iload_n 1, 1) := by decide +kernel
theorem dJ3_checkIndex_8e157_12 : decode cJ3_checkIndex_8e157 12 = .ok (.invokestatic 95, 3) := by decide +kernel
theorem dJ3_checkIndex_8e157_15 : decode cJ3_checkIndex_8e157 15 = .ok (.athrow, 1) := by decide +kernel
theorem dJ3_checkIndex_8e157_16 : decode cJ3_checkIndex_8e157 16 = .ok (.iload_n 0, 1) := by decide +kernel
theorem dJ3_checkIndex_8e157_17 : decode cJ3_checkIndex_8e157 17 = .ok (.ireturn, 1) := by decide +kernel
def wJ3_checkIndex_8e157_zV (cy : Nat → ClassId)  : va_W :=
  []
noncomputable def bJ3_checkIndex_8e157_zV_L9 (F : Nat)    : Option (Int32) :=
  none
theorem vJ3_checkIndex_8e157_zV_L9 {l : Launch} {D : va_G} {cy : Nat → ClassId} {av : List Value} {ws0 : va_W} {Q : Option Value → va_W → Prop} (F : Nat)    (R : Int32) (h : bJ3_checkIndex_8e157_zV_L9 F   = some R) (hQ : Q (some (.int R)) (wJ3_checkIndex_8e157_zV cy )) : V l D cy MJ3_checkIndex_8e157 0 0 0 av ws0 Q 9 [] [] (wJ3_checkIndex_8e157_zV cy ) 0 0 := by
  unfold bJ3_checkIndex_8e157_zV_L9 at h
  exact vNone h
noncomputable def fJ3_checkIndex_8e157_zV (F : Nat) (a0 : Int32) (a1 : Int32) : Option (Int32) :=
  if a0 < 0 then (bJ3_checkIndex_8e157_zV_L9 F) else (if a0 < a1 then (some a0) else (bJ3_checkIndex_8e157_zV_L9 F))
theorem CJ3_checkIndex_8e157_zV {l : Launch} {D : va_G} {cy : Nat → ClassId} (F : Nat) (a0 : Int32) (a1 : Int32) (a2V : Value) (ha2V : a2V.category = 1) (R : Int32) (h : fJ3_checkIndex_8e157_zV F a0 a1 = some R) : vMet l D cy MJ3_checkIndex_8e157 0 0 0 [.int a0, .int a1, a2V] (wJ3_checkIndex_8e157_zV cy ) (fun (r : Option Value) (w : va_W) => r = (some (.int R)) ∧ w = (wJ3_checkIndex_8e157_zV cy )) := by
  refine vMet.start (by decide +kernel) (by cases a2V <;> first | exact Nat.le_of_ble_eq_true rfl | (simp [Value.category] at ha2V)) ?_
  generalize hQe : (fun (r : Option Value) (w : va_W) => r = (some (.int R)) ∧ w = (wJ3_checkIndex_8e157_zV cy )) = Q
  have hQ : Q (some (.int R)) (wJ3_checkIndex_8e157_zV cy ) := by rw [← hQe]; exact ⟨rfl, rfl⟩
  show V l D cy MJ3_checkIndex_8e157 0 0 0 _ _ Q 0 [(0, .int a0), (1, .int a1), (2, a2V)] [] _ 0 0
  show V l D cy MJ3_checkIndex_8e157 0 0 0 [.int a0, .int a1, a2V] _ Q 0 [(0, .int a0), (1, .int a1), (2, a2V)] [] (wJ3_checkIndex_8e157_zV cy ) 0 0
  unfold fJ3_checkIndex_8e157_zV at h
  refine V.iload_n dJ3_checkIndex_8e157_0 rfl 0 rfl ?_
  refine V.if_lt (tgt := 9) dJ3_checkIndex_8e157_1 (by decide) (fun hc1 => ?_) (fun hc1 => ?_)
  · replace h := (if_pos hc1).symm.trans h
    refine V.lvs [] rfl ?_
    exact vJ3_checkIndex_8e157_zV_L9 _    R h hQ
  · replace h := (if_neg hc1).symm.trans h
    refine V.iload_n dJ3_checkIndex_8e157_4 rfl 0 rfl ?_
    refine V.iload_n dJ3_checkIndex_8e157_5 rfl 1 rfl ?_
    refine V.icmp_lt (tgt := 16) dJ3_checkIndex_8e157_6 (by decide) (fun hc6 => ?_) (fun hc6 => ?_)
    · replace h := (if_pos hc6).symm.trans h
      refine V.iload_n dJ3_checkIndex_8e157_16 rfl 0 rfl ?_
      have e9 := Option.some.inj h; subst e9
      exact V.iret (ty := .int) rfl rfl dJ3_checkIndex_8e157_17 (Nat.le_refl _) (Nat.le_refl _) hQ
    · replace h := (if_neg hc6).symm.trans h
      refine V.lvs [] rfl ?_
      exact vJ3_checkIndex_8e157_zV_L9 _    R h hQ
theorem dJ0_checkIndex_df160_0 : decode cJ0_checkIndex_df160 0 = .ok (.iload_n 0, 1) := by decide +kernel
theorem dJ0_checkIndex_df160_1 : decode cJ0_checkIndex_df160 1 = .ok (.iload_n 1, 1) := by decide +kernel
theorem dJ0_checkIndex_df160_2 : decode cJ0_checkIndex_df160 2 = .ok (.getstatic 1053, 3) := by decide +kernel
theorem dJ0_checkIndex_df160_5 : decode cJ0_checkIndex_df160 5 = .ok (.invokestatic 1059, 3) := by decide +kernel
theorem dJ0_checkIndex_df160_8 : decode cJ0_checkIndex_df160 8 = .ok (.pop, 1) := by decide +kernel
theorem dJ0_checkIndex_df160_9 : decode cJ0_checkIndex_df160 9 = .ok (.return_, 1) := by decide +kernel
def wJ0_checkIndex_df160 (cy : Nat → ClassId)  : va_W :=
  []
noncomputable def fJ0_checkIndex_df160 (F : Nat) (a0 : Int32) (a1 : Int32) : Option (Unit) :=
  (fJ3_checkIndex_8e157_zV F a0 a1).bind fun R5 => (some ())
theorem CJ0_checkIndex_df160 {l : Launch} {D : va_G} {cy : Nat → ClassId} (F : Nat) (a0 : Int32) (a1 : Int32) (R : Unit) (h : fJ0_checkIndex_df160 F a0 a1 = some R) : vMet l D cy MJ0_checkIndex_df160 1 0 0 [.int a0, .int a1] (wJ0_checkIndex_df160 cy ) (fun (r : Option Value) (w : va_W) => r = none ∧ w = (wJ0_checkIndex_df160 cy )) := by
  refine vMet.start (by decide +kernel) (Nat.le_of_ble_eq_true rfl) ?_
  generalize hQe : (fun (r : Option Value) (w : va_W) => r = none ∧ w = (wJ0_checkIndex_df160 cy )) = Q
  have hQ : Q none (wJ0_checkIndex_df160 cy ) := by rw [← hQe]; exact ⟨rfl, rfl⟩
  show V l D cy MJ0_checkIndex_df160 1 0 0 _ _ Q 0 [(0, .int a0), (1, .int a1)] [] _ 0 0
  show V l D cy MJ0_checkIndex_df160 1 0 0 [.int a0, .int a1] _ Q 0 [(0, .int a0), (1, .int a1)] [] (wJ0_checkIndex_df160 cy ) 0 0
  unfold fJ0_checkIndex_df160 at h
  refine V.iload_n dJ0_checkIndex_df160_0 rfl 0 rfl ?_
  refine V.iload_n dJ0_checkIndex_df160_1 rfl 1 rfl ?_
  refine V.zfmt klJ0_1053 dJ0_checkIndex_df160_2 (fun fv2 hfv2 => ?_)
  obtain ⟨R5, hg5, h⟩ := Option.bind_eq_some_iff.mp h
  refine V.callS (As := [.int a0, .int a1, fv2]) (rest := []) (wc := (wJ3_checkIndex_8e157_zV cy )) (wr := []) (CJ3_checkIndex_8e157_zV F a0 a1 fv2 hfv2 R5 hg5) kvJ3_checkIndex_8e157 klJ0_1059 [] [] rfl rfl (by decide) (by decide) (by decide) rfl dJ0_checkIndex_df160_5 ⟨by decide, by decide, by decide, by decide⟩ (Nat.le_of_ble_eq_true rfl) (fun r w1 hq => ?_)
  obtain ⟨rfl, rfl⟩ := hq
  refine V.cells (ws' := (wJ0_checkIndex_df160 cy )) [] (by decide) rfl ?_
  show V l D cy MJ0_checkIndex_df160 1 0 0 _ _ _ 8 [(0, .int a0), (1, .int a1)] [.int R5] (wJ0_checkIndex_df160 cy ) 0 0
  refine V.pop dJ0_checkIndex_df160_8 rfl ?_
  have e9 := Option.some.inj h; subst e9
  exact V.vret rfl dJ0_checkIndex_df160_9 (Nat.le_refl _) (Nat.le_refl _) hQ
theorem dJ1_canEncode_9a6ad_0 : decode cJ1_canEncode_9a6ad 0 = .ok (.iload_n 0, 1) := by decide +kernel
theorem dJ1_canEncode_9a6ad_1 : decode cJ1_canEncode_9a6ad 1 = .ok (.ifCond .lt 14, 3) := by decide +kernel
theorem dJ1_canEncode_9a6ad_4 : decode cJ1_canEncode_9a6ad 4 = .ok (.iload_n 0, 1) := by decide +kernel
theorem dJ1_canEncode_9a6ad_5 : decode cJ1_canEncode_9a6ad 5 = .ok (.sipush 255, 3) := by decide +kernel
theorem dJ1_canEncode_9a6ad_8 : decode cJ1_canEncode_9a6ad 8 = .ok (.if_icmp .gt 7, 3) := by decide +kernel
theorem dJ1_canEncode_9a6ad_11 : decode cJ1_canEncode_9a6ad 11 = .ok (.iconst 1, 1) := by decide +kernel
theorem dJ1_canEncode_9a6ad_12 : decode cJ1_canEncode_9a6ad 12 = .ok (.goto 4, 3) := by decide +kernel
theorem dJ1_canEncode_9a6ad_15 : decode cJ1_canEncode_9a6ad 15 = .ok (.iconst 0, 1) := by decide +kernel
theorem dJ1_canEncode_9a6ad_16 : decode cJ1_canEncode_9a6ad 16 = .ok (.ireturn, 1) := by decide +kernel
def wJ1_canEncode_9a6ad (cy : Nat → ClassId)  : va_W :=
  []
noncomputable def bJ1_canEncode_9a6ad_L16 (F : Nat)   (s0 : Int32) : Option (Int32) :=
  if s0 = 0 ∨ s0 = 1 then some s0 else none
theorem vJ1_canEncode_9a6ad_L16 {l : Launch} {D : va_G} {cy : Nat → ClassId} {av : List Value} {ws0 : va_W} {Q : Option Value → va_W → Prop} (F : Nat)   (s0 : Int32) (R : Int32) (h : bJ1_canEncode_9a6ad_L16 F  s0 = some R) (hQ : Q (some (.int R)) (wJ1_canEncode_9a6ad cy )) : V l D cy MJ1_canEncode_9a6ad 0 0 0 av ws0 Q 16 [] [.int s0] (wJ1_canEncode_9a6ad cy ) 0 0 := by
  unfold bJ1_canEncode_9a6ad_L16 at h
  by_cases hz16 : s0 = 0 ∨ s0 = 1
  case neg => exact vNone ((if_neg hz16).symm.trans h)
  replace h := (if_pos hz16).symm.trans h
  have e9 := Option.some.inj h; subst e9
  exact V.iret (ty := .boolean) rfl (vBool hz16).1 dJ1_canEncode_9a6ad_16 (Nat.le_refl _) (Nat.le_refl _) hQ
noncomputable def bJ1_canEncode_9a6ad_L15 (F : Nat)    : Option (Int32) :=
  bJ1_canEncode_9a6ad_L16 F (0 : Int32)
theorem vJ1_canEncode_9a6ad_L15 {l : Launch} {D : va_G} {cy : Nat → ClassId} {av : List Value} {ws0 : va_W} {Q : Option Value → va_W → Prop} (F : Nat)    (R : Int32) (h : bJ1_canEncode_9a6ad_L15 F   = some R) (hQ : Q (some (.int R)) (wJ1_canEncode_9a6ad cy )) : V l D cy MJ1_canEncode_9a6ad 0 0 0 av ws0 Q 15 [] [] (wJ1_canEncode_9a6ad cy ) 0 0 := by
  unfold bJ1_canEncode_9a6ad_L15 at h
  refine V.iconst (v := (0 : Int32)) dJ1_canEncode_9a6ad_15 (by decide) ?_
  exact vJ1_canEncode_9a6ad_L16 _   _ R h hQ
noncomputable def fJ1_canEncode_9a6ad (F : Nat) (a0 : Int32) : Option (Int32) :=
  if a0 < 0 then (bJ1_canEncode_9a6ad_L15 F) else (if (255 : Int32) < a0 then (bJ1_canEncode_9a6ad_L15 F) else (bJ1_canEncode_9a6ad_L16 F (1 : Int32)))
theorem CJ1_canEncode_9a6ad {l : Launch} {D : va_G} {cy : Nat → ClassId} (F : Nat) (a0 : Int32) (R : Int32) (h : fJ1_canEncode_9a6ad F a0 = some R) : vMet l D cy MJ1_canEncode_9a6ad 0 0 0 [.int a0] (wJ1_canEncode_9a6ad cy ) (fun (r : Option Value) (w : va_W) => r = (some (.int R)) ∧ w = (wJ1_canEncode_9a6ad cy )) := by
  refine vMet.start (by decide +kernel) (Nat.le_of_ble_eq_true rfl) ?_
  generalize hQe : (fun (r : Option Value) (w : va_W) => r = (some (.int R)) ∧ w = (wJ1_canEncode_9a6ad cy )) = Q
  have hQ : Q (some (.int R)) (wJ1_canEncode_9a6ad cy ) := by rw [← hQe]; exact ⟨rfl, rfl⟩
  show V l D cy MJ1_canEncode_9a6ad 0 0 0 _ _ Q 0 [(0, .int a0)] [] _ 0 0
  show V l D cy MJ1_canEncode_9a6ad 0 0 0 [.int a0] _ Q 0 [(0, .int a0)] [] (wJ1_canEncode_9a6ad cy ) 0 0
  unfold fJ1_canEncode_9a6ad at h
  refine V.iload_n dJ1_canEncode_9a6ad_0 rfl 0 rfl ?_
  refine V.if_lt (tgt := 15) dJ1_canEncode_9a6ad_1 (by decide) (fun hc1 => ?_) (fun hc1 => ?_)
  · replace h := (if_pos hc1).symm.trans h
    refine V.lvs [] rfl ?_
    exact vJ1_canEncode_9a6ad_L15 _    R h hQ
  · replace h := (if_neg hc1).symm.trans h
    refine V.iload_n dJ1_canEncode_9a6ad_4 rfl 0 rfl ?_
    refine V.sipush (v := (255 : Int32)) dJ1_canEncode_9a6ad_5 (by decide) ?_
    refine V.icmp_gt (tgt := 15) dJ1_canEncode_9a6ad_8 (by decide) (fun hc8 => ?_) (fun hc8 => ?_)
    · replace h := (if_pos hc8).symm.trans h
      refine V.lvs [] rfl ?_
      exact vJ1_canEncode_9a6ad_L15 _    R h hQ
    · replace h := (if_neg hc8).symm.trans h
      refine V.iconst (v := (1 : Int32)) dJ1_canEncode_9a6ad_11 (by decide) ?_
      refine V.goto (tgt := 16) dJ1_canEncode_9a6ad_12 (by decide) ?_
      refine V.lvs [] rfl ?_
      exact vJ1_canEncode_9a6ad_L16 _   _ R h hQ
theorem dX2_readFolk_0 : decode cX2_readFolk 0 = .ok (.aload_n 0, 1) := by decide +kernel
theorem dX2_readFolk_1 : decode cX2_readFolk 1 = .ok (.getfield 47, 3) := by decide +kernel
theorem dX2_readFolk_4 : decode cX2_readFolk 4 = .ok (.bipush 6, 2) := by decide +kernel
theorem dX2_readFolk_6 : decode cX2_readFolk 6 = .ok (.if_icmp .lt 9, 3) := by decide +kernel
theorem dX2_readFolk_9 : decode cX2_readFolk 9 = .ok (.aload_n 1, 1) := by decide +kernel
theorem dX2_readFolk_10 : decode cX2_readFolk 10 = .ok (.iconst 5, 1) := by decide +kernel
theorem dX2_readFolk_11 : decode cX2_readFolk 11 = .ok (.invokevirtual 144, 3) := by decide +kernel
theorem dX2_readFolk_14 : decode cX2_readFolk 14 = .ok (.ireturn, 1) := by decide +kernel
theorem dX2_readFolk_15 : decode cX2_readFolk 15 = .ok (.aload_n 1, 1) := by decide +kernel
theorem dX2_readFolk_16 : decode cX2_readFolk 16 = .ok (.invokevirtual 147, 3) := by decide +kernel
theorem dX2_readFolk_19 : decode cX2_readFolk 19 = .ok (.aload_n 1, 1) := by decide +kernel
theorem dX2_readFolk_20 : decode cX2_readFolk 20 = .ok (.invokevirtual 150, 3) := by decide +kernel
theorem dX2_readFolk_23 : decode cX2_readFolk 23 = .ok (.ifCond .ne 9, 3) := by decide +kernel
theorem dX2_readFolk_26 : decode cX2_readFolk 26 = .ok (.aload_n 1, 1) := by decide +kernel
theorem dX2_readFolk_27 : decode cX2_readFolk 27 = .ok (.iconst 1, 1) := by decide +kernel
theorem dX2_readFolk_28 : decode cX2_readFolk 28 = .ok (.invokevirtual 144, 3) := by decide +kernel
theorem dX2_readFolk_31 : decode cX2_readFolk 31 = .ok (.ireturn, 1) := by decide +kernel
theorem dX2_readFolk_32 : decode cX2_readFolk 32 = .ok (.aload_n 0, 1) := by decide +kernel
theorem dX2_readFolk_33 : decode cX2_readFolk 33 = .ok (.aload_n 1, 1) := by decide +kernel
theorem dX2_readFolk_34 : decode cX2_readFolk 34 = .ok (.invokevirtual 153, 3) := by decide +kernel
theorem dX2_readFolk_37 : decode cX2_readFolk 37 = .ok (.invokevirtual 157, 3) := by decide +kernel
theorem dX2_readFolk_40 : decode cX2_readFolk 40 = .ok (.iconst (-1), 1) := by decide +kernel
theorem dX2_readFolk_41 : decode cX2_readFolk 41 = .ok (.if_icmp .eq 9, 3) := by decide +kernel
theorem dX2_readFolk_44 : decode cX2_readFolk 44 = .ok (.aload_n 1, 1) := by decide +kernel
theorem dX2_readFolk_45 : decode cX2_readFolk 45 = .ok (.iconst 3, 1) := by decide +kernel
theorem dX2_readFolk_46 : decode cX2_readFolk 46 = .ok (.invokevirtual 144, 3) := by decide +kernel
theorem dX2_readFolk_49 : decode cX2_readFolk 49 = .ok (.ireturn, 1) := by decide +kernel
theorem dX2_readFolk_50 : decode cX2_readFolk 50 = .ok (.aload_n 0, 1) := by decide +kernel
theorem dX2_readFolk_51 : decode cX2_readFolk 51 = .ok (.getfield 9, 3) := by decide +kernel
theorem dX2_readFolk_54 : decode cX2_readFolk 54 = .ok (.aload_n 0, 1) := by decide +kernel
theorem dX2_readFolk_55 : decode cX2_readFolk 55 = .ok (.getfield 47, 3) := by decide +kernel
theorem dX2_readFolk_58 : decode cX2_readFolk 58 = .ok (.aload_n 1, 1) := by decide +kernel
theorem dX2_readFolk_59 : decode cX2_readFolk 59 = .ok (.invokevirtual 153, 3) := by decide +kernel
theorem dX2_readFolk_62 : decode cX2_readFolk 62 = .ok (.lastore, 1) := by decide +kernel
theorem dX2_readFolk_63 : decode cX2_readFolk 63 = .ok (.aload_n 1, 1) := by decide +kernel
theorem dX2_readFolk_64 : decode cX2_readFolk 64 = .ok (.invokevirtual 147, 3) := by decide +kernel
theorem dX2_readFolk_67 : decode cX2_readFolk 67 = .ok (.aload_n 1, 1) := by decide +kernel
theorem dX2_readFolk_68 : decode cX2_readFolk 68 = .ok (.invokevirtual 118, 3) := by decide +kernel
theorem dX2_readFolk_71 : decode cX2_readFolk 71 = .ok (.bipush 9, 2) := by decide +kernel
theorem dX2_readFolk_73 : decode cX2_readFolk 73 = .ok (.isub, 1) := by decide +kernel
theorem dX2_readFolk_74 : decode cX2_readFolk 74 = .ok (.istore_n 2, 1) := by decide +kernel
theorem dX2_readFolk_75 : decode cX2_readFolk 75 = .ok (.iload_n 2, 1) := by decide +kernel
theorem dX2_readFolk_76 : decode cX2_readFolk 76 = .ok (.ifCond .lt 11, 3) := by decide +kernel
theorem dX2_readFolk_79 : decode cX2_readFolk 79 = .ok (.iload_n 2, 1) := by decide +kernel
theorem dX2_readFolk_80 : decode cX2_readFolk 80 = .ok (.getstatic 161, 3) := by decide +kernel
theorem dX2_readFolk_83 : decode cX2_readFolk 83 = .ok (.arraylength, 1) := by decide +kernel
theorem dX2_readFolk_84 : decode cX2_readFolk 84 = .ok (.if_icmp .lt 9, 3) := by decide +kernel
theorem dX2_readFolk_87 : decode cX2_readFolk 87 = .ok (.aload_n 1, 1) := by decide +kernel
theorem dX2_readFolk_88 : decode cX2_readFolk 88 = .ok (.iconst 1, 1) := by decide +kernel
theorem dX2_readFolk_89 : decode cX2_readFolk 89 = .ok (.invokevirtual 144, 3) := by decide +kernel
theorem dX2_readFolk_92 : decode cX2_readFolk 92 = .ok (.ireturn, 1) := by decide +kernel
theorem dX2_readFolk_93 : decode cX2_readFolk 93 = .ok (.aload_n 0, 1) := by decide +kernel
theorem dX2_readFolk_94 : decode cX2_readFolk 94 = .ok (.getfield 15, 3) := by decide +kernel
theorem dX2_readFolk_97 : decode cX2_readFolk 97 = .ok (.aload_n 0, 1) := by decide +kernel
theorem dX2_readFolk_98 : decode cX2_readFolk 98 = .ok (.getfield 47, 3) := by decide +kernel
theorem dX2_readFolk_101 : decode cX2_readFolk 101 = .ok (.iload_n 2, 1) := by decide +kernel
theorem dX2_readFolk_102 : decode cX2_readFolk 102 = .ok (.iastore, 1) := by decide +kernel
theorem dX2_readFolk_103 : decode cX2_readFolk 103 = .ok (.aload_n 0, 1) := by decide +kernel
theorem dX2_readFolk_104 : decode cX2_readFolk 104 = .ok (.getfield 25, 3) := by decide +kernel
theorem dX2_readFolk_107 : decode cX2_readFolk 107 = .ok (.aload_n 0, 1) := by decide +kernel
theorem dX2_readFolk_108 : decode cX2_readFolk 108 = .ok (.getfield 47, 3) := by decide +kernel
theorem dX2_readFolk_111 : decode cX2_readFolk 111 = .ok (.getstatic 161, 3) := by decide +kernel
theorem dX2_readFolk_114 : decode cX2_readFolk 114 = .ok (.iload_n 2, 1) := by decide +kernel
theorem dX2_readFolk_115 : decode cX2_readFolk 115 = .ok (.iaload, 1) := by decide +kernel
theorem dX2_readFolk_116 : decode cX2_readFolk 116 = .ok (.iastore, 1) := by decide +kernel
theorem dX2_readFolk_117 : decode cX2_readFolk 117 = .ok (.aload_n 0, 1) := by decide +kernel
theorem dX2_readFolk_118 : decode cX2_readFolk 118 = .ok (.getfield 22, 3) := by decide +kernel
theorem dX2_readFolk_121 : decode cX2_readFolk 121 = .ok (.aload_n 0, 1) := by decide +kernel
theorem dX2_readFolk_122 : decode cX2_readFolk 122 = .ok (.getfield 47, 3) := by decide +kernel
theorem dX2_readFolk_125 : decode cX2_readFolk 125 = .ok (.iconst 1, 1) := by decide +kernel
theorem dX2_readFolk_126 : decode cX2_readFolk 126 = .ok (.aload_n 0, 1) := by decide +kernel
theorem dX2_readFolk_127 : decode cX2_readFolk 127 = .ok (.getfield 47, 3) := by decide +kernel
theorem dX2_readFolk_130 : decode cX2_readFolk 130 = .ok (.ishl, 1) := by decide +kernel
theorem dX2_readFolk_131 : decode cX2_readFolk 131 = .ok (.iastore, 1) := by decide +kernel
theorem dX2_readFolk_132 : decode cX2_readFolk 132 = .ok (.aload_n 0, 1) := by decide +kernel
theorem dX2_readFolk_133 : decode cX2_readFolk 133 = .ok (.dup, 1) := by decide +kernel
theorem dX2_readFolk_134 : decode cX2_readFolk 134 = .ok (.getfield 47, 3) := by decide +kernel
theorem dX2_readFolk_137 : decode cX2_readFolk 137 = .ok (.iconst 1, 1) := by decide +kernel
theorem dX2_readFolk_138 : decode cX2_readFolk 138 = .ok (.iadd, 1) := by decide +kernel
theorem dX2_readFolk_139 : decode cX2_readFolk 139 = .ok (.putfield 47, 3) := by decide +kernel
theorem dX2_readFolk_142 : decode cX2_readFolk 142 = .ok (.aload_n 1, 1) := by decide +kernel
theorem dX2_readFolk_143 : decode cX2_readFolk 143 = .ok (.invokevirtual 147, 3) := by decide +kernel
theorem dX2_readFolk_146 : decode cX2_readFolk 146 = .ok (.aload_n 1, 1) := by decide +kernel
theorem dX2_readFolk_147 : decode cX2_readFolk 147 = .ok (.bipush 59, 2) := by decide +kernel
theorem dX2_readFolk_149 : decode cX2_readFolk 149 = .ok (.invokevirtual 164, 3) := by decide +kernel
theorem dX2_readFolk_152 : decode cX2_readFolk 152 = .ok (.ireturn, 1) := by decide +kernel
def wX2_readFolk (cy : Nat → ClassId) (tA : Nat) (t_kinV : Value) (t_folks : Int32) (t_pairs : Int32) (t_line : Int32) (t_rope : Int32) (t_lineTold : Int32) (t_ropeTold : Int32) (t_lawV : Value) (t_takenV : Value) (t_namesA : Nat) (t_namesN : Nat) (t_names : Nat → Int64) (t_kindsA : Nat) (t_kindsN : Nat) (t_kinds : Nat → Int32) (t_stopsA : Nat) (t_stopsN : Nat) (t_stops : Nat → Int32) (t_roundsA : Nat) (t_roundsN : Nat) (t_rounds : Nat → Int32) (p1A : Nat) (p1_signsV : Value) (p1_size : Int32) (p1_count : Int32) (p1_here : Int32) (p1_fault : Int32) (p1_tokensA : Nat) (p1_tokensN : Nat) (p1_tokens : Nat → Int32) (p1_startsA : Nat) (p1_startsN : Nat) (p1_starts : Nat → Int32) (p1_valuesA : Nat) (p1_valuesN : Nat) (p1_values : Nat → Int64) : va_W :=
  [(tA, .inr (2, [.ref t_namesA, .ref t_kindsA, t_kinV, .ref t_stopsA, .ref t_roundsA, .int t_folks, .int t_pairs, .int t_line, .int t_rope, .int t_lineTold, .int t_ropeTold, t_lawV, t_takenV])), (t_namesA, .inl (cy 2, t_namesN, .inr (.inl t_names))), (t_kindsA, .inl (cy 1, t_kindsN, .inl t_kinds)), (t_stopsA, .inl (cy 1, t_stopsN, .inl t_stops)), (t_roundsA, .inl (cy 1, t_roundsN, .inl t_rounds)), (p1A, .inr (9, [p1_signsV, .int p1_size, .ref p1_tokensA, .ref p1_startsA, .ref p1_valuesA, .int p1_count, .int p1_here, .int p1_fault])), (p1_tokensA, .inl (cy 1, p1_tokensN, .inl p1_tokens)), (p1_startsA, .inl (cy 1, p1_startsN, .inl p1_starts)), (p1_valuesA, .inl (cy 2, p1_valuesN, .inr (.inl p1_values)))]
noncomputable def bX2_readFolk_L87 (F : Nat) (t_namesN : Nat) (t_kindsN : Nat) (t_stopsN : Nat) (t_roundsN : Nat) (p1_size : Int32) (p1_count : Int32) (p1_tokensN : Nat) (p1_tokens : Nat → Int32) (p1_startsN : Nat) (p1_starts : Nat → Int32) (p1_valuesN : Nat) (p1_values : Nat → Int64)  (t_folks : Int32) (t_names : Nat → Int64) (t_kinds : Nat → Int32) (t_stops : Nat → Int32) (t_rounds : Nat → Int32) (p1_here : Int32) (p1_fault : Int32) : Option (Int32 × (Int32) × (Nat → Int64) × (Nat → Int32) × (Nat → Int32) × (Nat → Int32) × (Int32) × (Int32)) :=
  (fX9_wrong F p1_size p1_count p1_here p1_startsN p1_starts (1 : Int32) p1_fault).bind fun R89 => (if R89.1 = 0 ∨ R89.1 = 1 then some (R89.1, t_folks, t_names, t_kinds, t_stops, t_rounds, p1_here, R89.2) else none)
theorem vX2_readFolk_L87 {l : Launch} {D : va_G} {cy : Nat → ClassId} {av : List Value} {ws0 : va_W} {Q : Option Value → va_W → Prop} (F : Nat) (tA : Nat) (t_kinV : Value) (t_pairs : Int32) (t_line : Int32) (t_rope : Int32) (t_lineTold : Int32) (t_ropeTold : Int32) (t_lawV : Value) (t_takenV : Value) (t_namesA : Nat) (t_namesN : Nat) (t_kindsA : Nat) (t_kindsN : Nat) (t_stopsA : Nat) (t_stopsN : Nat) (t_roundsA : Nat) (t_roundsN : Nat) (p1A : Nat) (p1_signsV : Value) (p1_size : Int32) (p1_count : Int32) (p1_tokensA : Nat) (p1_tokensN : Nat) (p1_tokens : Nat → Int32) (p1_startsA : Nat) (p1_startsN : Nat) (p1_starts : Nat → Int32) (p1_valuesA : Nat) (p1_valuesN : Nat) (p1_values : Nat → Int64)  (t_folks : Int32) (t_names : Nat → Int64) (t_kinds : Nat → Int32) (t_stops : Nat → Int32) (t_rounds : Nat → Int32) (p1_here : Int32) (p1_fault : Int32) (R : Int32 × (Int32) × (Nat → Int64) × (Nat → Int32) × (Nat → Int32) × (Nat → Int32) × (Int32) × (Int32)) (h : bX2_readFolk_L87 F t_namesN t_kindsN t_stopsN t_roundsN p1_size p1_count p1_tokensN p1_tokens p1_startsN p1_starts p1_valuesN p1_values  t_folks t_names t_kinds t_stops t_rounds p1_here p1_fault = some R) (hQ : Q (some (.int R.1)) (wX2_readFolk cy tA t_kinV R.2.1 t_pairs t_line t_rope t_lineTold t_ropeTold t_lawV t_takenV t_namesA t_namesN R.2.2.1 t_kindsA t_kindsN R.2.2.2.1 t_stopsA t_stopsN R.2.2.2.2.1 t_roundsA t_roundsN R.2.2.2.2.2.1 p1A p1_signsV p1_size p1_count R.2.2.2.2.2.2.1 R.2.2.2.2.2.2.2 p1_tokensA p1_tokensN p1_tokens p1_startsA p1_startsN p1_starts p1_valuesA p1_valuesN p1_values)) : V l D cy MX2_readFolk 2 0 0 av ws0 Q 87 [(1, .ref p1A)] [] (wX2_readFolk cy tA t_kinV t_folks t_pairs t_line t_rope t_lineTold t_ropeTold t_lawV t_takenV t_namesA t_namesN t_names t_kindsA t_kindsN t_kinds t_stopsA t_stopsN t_stops t_roundsA t_roundsN t_rounds p1A p1_signsV p1_size p1_count p1_here p1_fault p1_tokensA p1_tokensN p1_tokens p1_startsA p1_startsN p1_starts p1_valuesA p1_valuesN p1_values) 0 0 := by
  unfold bX2_readFolk_L87 at h
  refine V.aload_n dX2_readFolk_87 rfl 0 rfl ?_
  refine V.iconst (v := (1 : Int32)) dX2_readFolk_88 (by decide) ?_
  obtain ⟨R89, hg89, h⟩ := Option.bind_eq_some_iff.mp h
  refine V.callV (As := [.int (1 : Int32)]) (rest := []) (wc := (wX9_wrong cy p1A p1_signsV p1_size (.ref p1_tokensA) (.ref p1_valuesA) p1_count p1_here p1_fault p1_startsA p1_startsN p1_starts)) (wr := [(tA, .inr (2, [.ref t_namesA, .ref t_kindsA, t_kinV, .ref t_stopsA, .ref t_roundsA, .int t_folks, .int t_pairs, .int t_line, .int t_rope, .int t_lineTold, .int t_ropeTold, t_lawV, t_takenV])), (t_namesA, .inl (cy 2, t_namesN, .inr (.inl t_names))), (t_kindsA, .inl (cy 1, t_kindsN, .inl t_kinds)), (t_stopsA, .inl (cy 1, t_stopsN, .inl t_stops)), (t_roundsA, .inl (cy 1, t_roundsN, .inl t_rounds)), (p1_tokensA, .inl (cy 1, p1_tokensN, .inl p1_tokens)), (p1_valuesA, .inl (cy 2, p1_valuesN, .inr (.inl p1_values)))]) (q0 := 5) (CX9_wrong F p1A p1_signsV p1_size (.ref p1_tokensA) (.ref p1_valuesA) p1_count p1_here p1_fault p1_startsA p1_startsN p1_starts (1 : Int32) R89 hg89) kvX9_wrong klX2_144 [5, 7] [0, 1, 2, 3, 4, 6, 8] rfl rfl (by decide) (by decide) (by decide) rfl rfl rfl rfl dX2_readFolk_89 ⟨by decide, by decide, by decide, by decide⟩ (Nat.le_of_ble_eq_true rfl) (fun r w1 hq => ?_)
  obtain ⟨rfl, rfl⟩ := hq
  refine V.cells (ws' := (wX2_readFolk cy tA t_kinV t_folks t_pairs t_line t_rope t_lineTold t_ropeTold t_lawV t_takenV t_namesA t_namesN t_names t_kindsA t_kindsN t_kinds t_stopsA t_stopsN t_stops t_roundsA t_roundsN t_rounds p1A p1_signsV p1_size p1_count p1_here R89.2 p1_tokensA p1_tokensN p1_tokens p1_startsA p1_startsN p1_starts p1_valuesA p1_valuesN p1_values)) [0, 1, 2, 3, 4, 7, 5, 8, 6] (by decide) rfl ?_
  show V l D cy MX2_readFolk 2 0 0 _ _ _ 92 [(1, .ref p1A)] [.int R89.1] (wX2_readFolk cy tA t_kinV t_folks t_pairs t_line t_rope t_lineTold t_ropeTold t_lawV t_takenV t_namesA t_namesN t_names t_kindsA t_kindsN t_kinds t_stopsA t_stopsN t_stops t_roundsA t_roundsN t_rounds p1A p1_signsV p1_size p1_count p1_here R89.2 p1_tokensA p1_tokensN p1_tokens p1_startsA p1_startsN p1_starts p1_valuesA p1_valuesN p1_values) 0 0
  by_cases hz92 : R89.1 = 0 ∨ R89.1 = 1
  case neg => exact vNone ((if_neg hz92).symm.trans h)
  replace h := (if_pos hz92).symm.trans h
  have e9 := Option.some.inj h; subst e9
  exact V.iret (ty := .boolean) rfl (vBool hz92).1 dX2_readFolk_92 (Nat.le_refl _) (Nat.le_refl _) hQ
noncomputable def fX2_readFolk (F : Nat) (t_namesN : Nat) (t_kindsN : Nat) (t_stopsN : Nat) (t_roundsN : Nat) (p1_size : Int32) (p1_count : Int32) (p1_tokensN : Nat) (p1_tokens : Nat → Int32) (p1_startsN : Nat) (p1_starts : Nat → Int32) (p1_valuesN : Nat) (p1_values : Nat → Int64) (t_folks : Int32) (t_names : Nat → Int64) (t_kinds : Nat → Int32) (t_stops : Nat → Int32) (t_rounds : Nat → Int32) (p1_here : Int32) (p1_fault : Int32) : Option (Int32 × (Int32) × (Nat → Int64) × (Nat → Int32) × (Nat → Int32) × (Nat → Int32) × (Int32) × (Int32)) :=
  if t_folks < (6 : Int32) then ((fX9_step F p1_count p1_here).bind fun R16 => ((fX9_isName F p1_count R16 p1_tokensN p1_tokens).bind fun R20 => (if R20 = 0 then ((fX9_wrong F p1_size p1_count R16 p1_startsN p1_starts (1 : Int32) p1_fault).bind fun R28 => (if R28.1 = 0 ∨ R28.1 = 1 then some (R28.1, t_folks, t_names, t_kinds, t_stops, t_rounds, R16, R28.2) else none)) else ((fX9_name F p1_count R16 p1_valuesN p1_values).bind fun R34 => ((fX2_folkNamed F t_folks t_namesN t_names R34).bind fun R37 => (if R37 = (-1 : Int32) then ((fX9_name F p1_count R16 p1_valuesN p1_values).bind fun R59 => (if t_folks < 0 ∨ t_namesN ≤ t_folks.toNatClampNeg then none else ((fX9_step F p1_count R16).bind fun R64 => ((fX9_token F p1_count R64 p1_tokensN p1_tokens).bind fun R68 => (if (R68 - (9 : Int32)) < 0 then (bX2_readFolk_L87 F t_namesN t_kindsN t_stopsN t_roundsN p1_size p1_count p1_tokensN p1_tokens p1_startsN p1_starts p1_valuesN p1_values t_folks (vp_updL t_names t_folks.toNatClampNeg R59) t_kinds t_stops t_rounds R64 p1_fault) else (if (R68 - (9 : Int32)) < (4 : Int32) then (if t_folks < 0 ∨ t_kindsN ≤ t_folks.toNatClampNeg then none else (if (R68 - (9 : Int32)) < 0 ∨ 4 ≤ (R68 - (9 : Int32)).toNatClampNeg then none else (if t_folks < 0 ∨ t_roundsN ≤ t_folks.toNatClampNeg then none else (if t_folks < 0 ∨ t_stopsN ≤ t_folks.toNatClampNeg then none else ((fX9_step F p1_count R64).bind fun R143 => ((fX9_expect F p1_size p1_count p1_tokensN p1_tokens p1_startsN p1_starts (59 : Int32) R143 p1_fault).bind fun R149 => (if R149.1 = 0 ∨ R149.1 = 1 then some (R149.1, t_folks + (1 : Int32), vp_updL t_names t_folks.toNatClampNeg R59, upd t_kinds t_folks.toNatClampNeg (R68 - (9 : Int32)), upd t_stops t_folks.toNatClampNeg ((1 : Int32) <<< (t_folks &&& 31)), upd t_rounds t_folks.toNatClampNeg (vRnd (R68 - (9 : Int32)).toNatClampNeg), R149.2.1, R149.2.2) else none))))))) else (bX2_readFolk_L87 F t_namesN t_kindsN t_stopsN t_roundsN p1_size p1_count p1_tokensN p1_tokens p1_startsN p1_starts p1_valuesN p1_values t_folks (vp_updL t_names t_folks.toNatClampNeg R59) t_kinds t_stops t_rounds R64 p1_fault))))))) else ((fX9_wrong F p1_size p1_count R16 p1_startsN p1_starts (3 : Int32) p1_fault).bind fun R46 => (if R46.1 = 0 ∨ R46.1 = 1 then some (R46.1, t_folks, t_names, t_kinds, t_stops, t_rounds, R16, R46.2) else none)))))))) else ((fX9_wrong F p1_size p1_count p1_here p1_startsN p1_starts (5 : Int32) p1_fault).bind fun R11 => (if R11.1 = 0 ∨ R11.1 = 1 then some (R11.1, t_folks, t_names, t_kinds, t_stops, t_rounds, p1_here, R11.2) else none))
theorem CX2_readFolk {l : Launch} {D : va_G} {cy : Nat → ClassId} (F : Nat) (tA : Nat) (t_kinV : Value) (t_folks : Int32) (t_pairs : Int32) (t_line : Int32) (t_rope : Int32) (t_lineTold : Int32) (t_ropeTold : Int32) (t_lawV : Value) (t_takenV : Value) (t_namesA : Nat) (t_namesN : Nat) (t_names : Nat → Int64) (t_kindsA : Nat) (t_kindsN : Nat) (t_kinds : Nat → Int32) (t_stopsA : Nat) (t_stopsN : Nat) (t_stops : Nat → Int32) (t_roundsA : Nat) (t_roundsN : Nat) (t_rounds : Nat → Int32) (p1A : Nat) (p1_signsV : Value) (p1_size : Int32) (p1_count : Int32) (p1_here : Int32) (p1_fault : Int32) (p1_tokensA : Nat) (p1_tokensN : Nat) (p1_tokens : Nat → Int32) (p1_startsA : Nat) (p1_startsN : Nat) (p1_starts : Nat → Int32) (p1_valuesA : Nat) (p1_valuesN : Nat) (p1_values : Nat → Int64) (R : Int32 × (Int32) × (Nat → Int64) × (Nat → Int32) × (Nat → Int32) × (Nat → Int32) × (Int32) × (Int32)) (h : fX2_readFolk F t_namesN t_kindsN t_stopsN t_roundsN p1_size p1_count p1_tokensN p1_tokens p1_startsN p1_starts p1_valuesN p1_values t_folks t_names t_kinds t_stops t_rounds p1_here p1_fault = some R) : vMet l D cy MX2_readFolk 2 0 0 [.ref tA, .ref p1A] (wX2_readFolk cy tA t_kinV t_folks t_pairs t_line t_rope t_lineTold t_ropeTold t_lawV t_takenV t_namesA t_namesN t_names t_kindsA t_kindsN t_kinds t_stopsA t_stopsN t_stops t_roundsA t_roundsN t_rounds p1A p1_signsV p1_size p1_count p1_here p1_fault p1_tokensA p1_tokensN p1_tokens p1_startsA p1_startsN p1_starts p1_valuesA p1_valuesN p1_values) (fun (r : Option Value) (w : va_W) => r = (some (.int R.1)) ∧ w = (wX2_readFolk cy tA t_kinV R.2.1 t_pairs t_line t_rope t_lineTold t_ropeTold t_lawV t_takenV t_namesA t_namesN R.2.2.1 t_kindsA t_kindsN R.2.2.2.1 t_stopsA t_stopsN R.2.2.2.2.1 t_roundsA t_roundsN R.2.2.2.2.2.1 p1A p1_signsV p1_size p1_count R.2.2.2.2.2.2.1 R.2.2.2.2.2.2.2 p1_tokensA p1_tokensN p1_tokens p1_startsA p1_startsN p1_starts p1_valuesA p1_valuesN p1_values)) := by
  refine vMet.start (by decide +kernel) (Nat.le_of_ble_eq_true rfl) ?_
  generalize hQe : (fun (r : Option Value) (w : va_W) => r = (some (.int R.1)) ∧ w = (wX2_readFolk cy tA t_kinV R.2.1 t_pairs t_line t_rope t_lineTold t_ropeTold t_lawV t_takenV t_namesA t_namesN R.2.2.1 t_kindsA t_kindsN R.2.2.2.1 t_stopsA t_stopsN R.2.2.2.2.1 t_roundsA t_roundsN R.2.2.2.2.2.1 p1A p1_signsV p1_size p1_count R.2.2.2.2.2.2.1 R.2.2.2.2.2.2.2 p1_tokensA p1_tokensN p1_tokens p1_startsA p1_startsN p1_starts p1_valuesA p1_valuesN p1_values)) = Q
  have hQ : Q (some (.int R.1)) (wX2_readFolk cy tA t_kinV R.2.1 t_pairs t_line t_rope t_lineTold t_ropeTold t_lawV t_takenV t_namesA t_namesN R.2.2.1 t_kindsA t_kindsN R.2.2.2.1 t_stopsA t_stopsN R.2.2.2.2.1 t_roundsA t_roundsN R.2.2.2.2.2.1 p1A p1_signsV p1_size p1_count R.2.2.2.2.2.2.1 R.2.2.2.2.2.2.2 p1_tokensA p1_tokensN p1_tokens p1_startsA p1_startsN p1_starts p1_valuesA p1_valuesN p1_values) := by rw [← hQe]; exact ⟨rfl, rfl⟩
  show V l D cy MX2_readFolk 2 0 0 _ _ Q 0 [(0, .ref tA), (1, .ref p1A)] [] _ 0 0
  show V l D cy MX2_readFolk 2 0 0 [.ref tA, .ref p1A] _ Q 0 [(0, .ref tA), (1, .ref p1A)] [] (wX2_readFolk cy tA t_kinV t_folks t_pairs t_line t_rope t_lineTold t_ropeTold t_lawV t_takenV t_namesA t_namesN t_names t_kindsA t_kindsN t_kinds t_stopsA t_stopsN t_stops t_roundsA t_roundsN t_rounds p1A p1_signsV p1_size p1_count p1_here p1_fault p1_tokensA p1_tokensN p1_tokens p1_startsA p1_startsN p1_starts p1_valuesA p1_valuesN p1_values) 0 0
  unfold fX2_readFolk at h
  refine V.aload_n dX2_readFolk_0 rfl 0 rfl ?_
  refine V.get kfX2 0 rfl rfl 5 (by decide) klX2_47 rfl dX2_readFolk_1 ?_
  refine V.bipush (v := (6 : Int32)) dX2_readFolk_4 (by decide) ?_
  refine V.icmp_lt (tgt := 15) dX2_readFolk_6 (by decide) (fun hc6 => ?_) (fun hc6 => ?_)
  · replace h := (if_pos hc6).symm.trans h
    refine V.aload_n dX2_readFolk_15 rfl 1 rfl ?_
    obtain ⟨R16, hg16, h⟩ := Option.bind_eq_some_iff.mp h
    refine V.callV (As := []) (rest := []) (wc := (wX9_step cy p1A p1_signsV p1_size (.ref p1_tokensA) (.ref p1_startsA) (.ref p1_valuesA) p1_count p1_here p1_fault)) (wr := [(tA, .inr (2, [.ref t_namesA, .ref t_kindsA, t_kinV, .ref t_stopsA, .ref t_roundsA, .int t_folks, .int t_pairs, .int t_line, .int t_rope, .int t_lineTold, .int t_ropeTold, t_lawV, t_takenV])), (t_namesA, .inl (cy 2, t_namesN, .inr (.inl t_names))), (t_kindsA, .inl (cy 1, t_kindsN, .inl t_kinds)), (t_stopsA, .inl (cy 1, t_stopsN, .inl t_stops)), (t_roundsA, .inl (cy 1, t_roundsN, .inl t_rounds)), (p1_tokensA, .inl (cy 1, p1_tokensN, .inl p1_tokens)), (p1_startsA, .inl (cy 1, p1_startsN, .inl p1_starts)), (p1_valuesA, .inl (cy 2, p1_valuesN, .inr (.inl p1_values)))]) (q0 := 5) (CX9_step F p1A p1_signsV p1_size (.ref p1_tokensA) (.ref p1_startsA) (.ref p1_valuesA) p1_count p1_here p1_fault R16 hg16) kvX9_step klX2_147 [5] [0, 1, 2, 3, 4, 6, 7, 8] rfl rfl (by decide) (by decide) (by decide) rfl rfl rfl rfl dX2_readFolk_16 ⟨by decide, by decide, by decide, by decide⟩ (Nat.le_of_ble_eq_true rfl) (fun r w1 hq => ?_)
    obtain ⟨rfl, rfl⟩ := hq
    refine V.cells (ws' := (wX2_readFolk cy tA t_kinV t_folks t_pairs t_line t_rope t_lineTold t_ropeTold t_lawV t_takenV t_namesA t_namesN t_names t_kindsA t_kindsN t_kinds t_stopsA t_stopsN t_stops t_roundsA t_roundsN t_rounds p1A p1_signsV p1_size p1_count R16 p1_fault p1_tokensA p1_tokensN p1_tokens p1_startsA p1_startsN p1_starts p1_valuesA p1_valuesN p1_values)) [0, 1, 2, 3, 4, 8, 5, 6, 7] (by decide) rfl ?_
    show V l D cy MX2_readFolk 2 0 0 _ _ _ 19 [(0, .ref tA), (1, .ref p1A)] [] (wX2_readFolk cy tA t_kinV t_folks t_pairs t_line t_rope t_lineTold t_ropeTold t_lawV t_takenV t_namesA t_namesN t_names t_kindsA t_kindsN t_kinds t_stopsA t_stopsN t_stops t_roundsA t_roundsN t_rounds p1A p1_signsV p1_size p1_count R16 p1_fault p1_tokensA p1_tokensN p1_tokens p1_startsA p1_startsN p1_starts p1_valuesA p1_valuesN p1_values) 0 0
    refine V.aload_n dX2_readFolk_19 rfl 1 rfl ?_
    obtain ⟨R20, hg20, h⟩ := Option.bind_eq_some_iff.mp h
    refine V.callV (As := []) (rest := []) (wc := (wX9_isName cy p1A p1_signsV p1_size (.ref p1_startsA) (.ref p1_valuesA) p1_count R16 p1_fault p1_tokensA p1_tokensN p1_tokens)) (wr := [(tA, .inr (2, [.ref t_namesA, .ref t_kindsA, t_kinV, .ref t_stopsA, .ref t_roundsA, .int t_folks, .int t_pairs, .int t_line, .int t_rope, .int t_lineTold, .int t_ropeTold, t_lawV, t_takenV])), (t_namesA, .inl (cy 2, t_namesN, .inr (.inl t_names))), (t_kindsA, .inl (cy 1, t_kindsN, .inl t_kinds)), (t_stopsA, .inl (cy 1, t_stopsN, .inl t_stops)), (t_roundsA, .inl (cy 1, t_roundsN, .inl t_rounds)), (p1_startsA, .inl (cy 1, p1_startsN, .inl p1_starts)), (p1_valuesA, .inl (cy 2, p1_valuesN, .inr (.inl p1_values)))]) (q0 := 5) (CX9_isName F p1A p1_signsV p1_size (.ref p1_startsA) (.ref p1_valuesA) p1_count R16 p1_fault p1_tokensA p1_tokensN p1_tokens R20 hg20) kvX9_isName klX2_150 [5, 6] [0, 1, 2, 3, 4, 7, 8] rfl rfl (by decide) (by decide) (by decide) rfl rfl rfl rfl dX2_readFolk_20 ⟨by decide, by decide, by decide, by decide⟩ (Nat.le_of_ble_eq_true rfl) (fun r w1 hq => ?_)
    obtain ⟨rfl, rfl⟩ := hq
    refine V.cells (ws' := (wX2_readFolk cy tA t_kinV t_folks t_pairs t_line t_rope t_lineTold t_ropeTold t_lawV t_takenV t_namesA t_namesN t_names t_kindsA t_kindsN t_kinds t_stopsA t_stopsN t_stops t_roundsA t_roundsN t_rounds p1A p1_signsV p1_size p1_count R16 p1_fault p1_tokensA p1_tokensN p1_tokens p1_startsA p1_startsN p1_starts p1_valuesA p1_valuesN p1_values)) [0, 1, 2, 3, 4, 7, 8, 5, 6] (by decide) rfl ?_
    show V l D cy MX2_readFolk 2 0 0 _ _ _ 23 [(0, .ref tA), (1, .ref p1A)] [.int R20] (wX2_readFolk cy tA t_kinV t_folks t_pairs t_line t_rope t_lineTold t_ropeTold t_lawV t_takenV t_namesA t_namesN t_names t_kindsA t_kindsN t_kinds t_stopsA t_stopsN t_stops t_roundsA t_roundsN t_rounds p1A p1_signsV p1_size p1_count R16 p1_fault p1_tokensA p1_tokensN p1_tokens p1_startsA p1_startsN p1_starts p1_valuesA p1_valuesN p1_values) 0 0
    refine V.if_ne (tgt := 32) dX2_readFolk_23 (by decide) (fun hc23 => ?_) (fun hc23 => ?_)
    · replace h := (if_neg hc23).symm.trans h
      refine V.aload_n dX2_readFolk_32 rfl 0 rfl ?_
      refine V.aload_n dX2_readFolk_33 rfl 1 rfl ?_
      obtain ⟨R34, hg34, h⟩ := Option.bind_eq_some_iff.mp h
      refine V.callV (As := []) (rest := [.ref tA]) (wc := (wX9_name cy p1A p1_signsV p1_size (.ref p1_tokensA) (.ref p1_startsA) p1_count R16 p1_fault p1_valuesA p1_valuesN p1_values)) (wr := [(tA, .inr (2, [.ref t_namesA, .ref t_kindsA, t_kinV, .ref t_stopsA, .ref t_roundsA, .int t_folks, .int t_pairs, .int t_line, .int t_rope, .int t_lineTold, .int t_ropeTold, t_lawV, t_takenV])), (t_namesA, .inl (cy 2, t_namesN, .inr (.inl t_names))), (t_kindsA, .inl (cy 1, t_kindsN, .inl t_kinds)), (t_stopsA, .inl (cy 1, t_stopsN, .inl t_stops)), (t_roundsA, .inl (cy 1, t_roundsN, .inl t_rounds)), (p1_tokensA, .inl (cy 1, p1_tokensN, .inl p1_tokens)), (p1_startsA, .inl (cy 1, p1_startsN, .inl p1_starts))]) (q0 := 5) (CX9_name F p1A p1_signsV p1_size (.ref p1_tokensA) (.ref p1_startsA) p1_count R16 p1_fault p1_valuesA p1_valuesN p1_values R34 hg34) kvX9_name klX2_153 [5, 8] [0, 1, 2, 3, 4, 6, 7] rfl rfl (by decide) (by decide) (by decide) rfl rfl rfl rfl dX2_readFolk_34 ⟨by decide, by decide, by decide, by decide⟩ (Nat.le_of_ble_eq_true rfl) (fun r w1 hq => ?_)
      obtain ⟨rfl, rfl⟩ := hq
      refine V.cells (ws' := (wX2_readFolk cy tA t_kinV t_folks t_pairs t_line t_rope t_lineTold t_ropeTold t_lawV t_takenV t_namesA t_namesN t_names t_kindsA t_kindsN t_kinds t_stopsA t_stopsN t_stops t_roundsA t_roundsN t_rounds p1A p1_signsV p1_size p1_count R16 p1_fault p1_tokensA p1_tokensN p1_tokens p1_startsA p1_startsN p1_starts p1_valuesA p1_valuesN p1_values)) [0, 1, 2, 3, 4, 7, 5, 6, 8] (by decide) rfl ?_
      show V l D cy MX2_readFolk 2 0 0 _ _ _ 37 [(0, .ref tA), (1, .ref p1A)] [.long R34, .ref tA] (wX2_readFolk cy tA t_kinV t_folks t_pairs t_line t_rope t_lineTold t_ropeTold t_lawV t_takenV t_namesA t_namesN t_names t_kindsA t_kindsN t_kinds t_stopsA t_stopsN t_stops t_roundsA t_roundsN t_rounds p1A p1_signsV p1_size p1_count R16 p1_fault p1_tokensA p1_tokensN p1_tokens p1_startsA p1_startsN p1_starts p1_valuesA p1_valuesN p1_values) 0 0
      obtain ⟨R37, hg37, h⟩ := Option.bind_eq_some_iff.mp h
      refine V.callV (As := [.long R34]) (rest := []) (wc := (wX2_folkNamed cy tA (.ref t_kindsA) t_kinV (.ref t_stopsA) (.ref t_roundsA) t_folks t_pairs t_line t_rope t_lineTold t_ropeTold t_lawV t_takenV t_namesA t_namesN t_names)) (wr := [(t_kindsA, .inl (cy 1, t_kindsN, .inl t_kinds)), (t_stopsA, .inl (cy 1, t_stopsN, .inl t_stops)), (t_roundsA, .inl (cy 1, t_roundsN, .inl t_rounds)), (p1A, .inr (9, [p1_signsV, .int p1_size, .ref p1_tokensA, .ref p1_startsA, .ref p1_valuesA, .int p1_count, .int R16, .int p1_fault])), (p1_tokensA, .inl (cy 1, p1_tokensN, .inl p1_tokens)), (p1_startsA, .inl (cy 1, p1_startsN, .inl p1_starts)), (p1_valuesA, .inl (cy 2, p1_valuesN, .inr (.inl p1_values)))]) (q0 := 0) (CX2_folkNamed F tA (.ref t_kindsA) t_kinV (.ref t_stopsA) (.ref t_roundsA) t_folks t_pairs t_line t_rope t_lineTold t_ropeTold t_lawV t_takenV t_namesA t_namesN t_names R34 R37 hg37) kvX2_folkNamed klX2_157 [0, 1] [2, 3, 4, 5, 6, 7, 8] rfl rfl (by decide) (by decide) (by decide) rfl rfl rfl rfl dX2_readFolk_37 ⟨by decide, by decide, by decide, by decide⟩ (Nat.le_of_ble_eq_true rfl) (fun r w1 hq => ?_)
      obtain ⟨rfl, rfl⟩ := hq
      refine V.cells (ws' := (wX2_readFolk cy tA t_kinV t_folks t_pairs t_line t_rope t_lineTold t_ropeTold t_lawV t_takenV t_namesA t_namesN t_names t_kindsA t_kindsN t_kinds t_stopsA t_stopsN t_stops t_roundsA t_roundsN t_rounds p1A p1_signsV p1_size p1_count R16 p1_fault p1_tokensA p1_tokensN p1_tokens p1_startsA p1_startsN p1_starts p1_valuesA p1_valuesN p1_values)) [7, 8, 0, 1, 2, 3, 4, 5, 6] (by decide) rfl ?_
      show V l D cy MX2_readFolk 2 0 0 _ _ _ 40 [(0, .ref tA), (1, .ref p1A)] [.int R37] (wX2_readFolk cy tA t_kinV t_folks t_pairs t_line t_rope t_lineTold t_ropeTold t_lawV t_takenV t_namesA t_namesN t_names t_kindsA t_kindsN t_kinds t_stopsA t_stopsN t_stops t_roundsA t_roundsN t_rounds p1A p1_signsV p1_size p1_count R16 p1_fault p1_tokensA p1_tokensN p1_tokens p1_startsA p1_startsN p1_starts p1_valuesA p1_valuesN p1_values) 0 0
      refine V.iconst (v := (-1 : Int32)) dX2_readFolk_40 (by decide) ?_
      refine V.icmp_eq (tgt := 50) dX2_readFolk_41 (by decide) (fun hc41 => ?_) (fun hc41 => ?_)
      · replace h := (if_pos hc41).symm.trans h
        refine V.aload_n dX2_readFolk_50 rfl 0 rfl ?_
        refine V.get kfX2 0 rfl rfl 0 (by decide) klX2_9 rfl dX2_readFolk_51 ?_
        refine V.aload_n dX2_readFolk_54 rfl 0 rfl ?_
        refine V.get kfX2 0 rfl rfl 5 (by decide) klX2_47 rfl dX2_readFolk_55 ?_
        refine V.aload_n dX2_readFolk_58 rfl 1 rfl ?_
        obtain ⟨R59, hg59, h⟩ := Option.bind_eq_some_iff.mp h
        refine V.callV (As := []) (rest := [.int t_folks, .ref t_namesA]) (wc := (wX9_name cy p1A p1_signsV p1_size (.ref p1_tokensA) (.ref p1_startsA) p1_count R16 p1_fault p1_valuesA p1_valuesN p1_values)) (wr := [(tA, .inr (2, [.ref t_namesA, .ref t_kindsA, t_kinV, .ref t_stopsA, .ref t_roundsA, .int t_folks, .int t_pairs, .int t_line, .int t_rope, .int t_lineTold, .int t_ropeTold, t_lawV, t_takenV])), (t_namesA, .inl (cy 2, t_namesN, .inr (.inl t_names))), (t_kindsA, .inl (cy 1, t_kindsN, .inl t_kinds)), (t_stopsA, .inl (cy 1, t_stopsN, .inl t_stops)), (t_roundsA, .inl (cy 1, t_roundsN, .inl t_rounds)), (p1_tokensA, .inl (cy 1, p1_tokensN, .inl p1_tokens)), (p1_startsA, .inl (cy 1, p1_startsN, .inl p1_starts))]) (q0 := 5) (CX9_name F p1A p1_signsV p1_size (.ref p1_tokensA) (.ref p1_startsA) p1_count R16 p1_fault p1_valuesA p1_valuesN p1_values R59 hg59) kvX9_name klX2_153 [5, 8] [0, 1, 2, 3, 4, 6, 7] rfl rfl (by decide) (by decide) (by decide) rfl rfl rfl rfl dX2_readFolk_59 ⟨by decide, by decide, by decide, by decide⟩ (Nat.le_of_ble_eq_true rfl) (fun r w1 hq => ?_)
        obtain ⟨rfl, rfl⟩ := hq
        refine V.cells (ws' := (wX2_readFolk cy tA t_kinV t_folks t_pairs t_line t_rope t_lineTold t_ropeTold t_lawV t_takenV t_namesA t_namesN t_names t_kindsA t_kindsN t_kinds t_stopsA t_stopsN t_stops t_roundsA t_roundsN t_rounds p1A p1_signsV p1_size p1_count R16 p1_fault p1_tokensA p1_tokensN p1_tokens p1_startsA p1_startsN p1_starts p1_valuesA p1_valuesN p1_values)) [0, 1, 2, 3, 4, 7, 5, 6, 8] (by decide) rfl ?_
        show V l D cy MX2_readFolk 2 0 0 _ _ _ 62 [(0, .ref tA), (1, .ref p1A)] [.long R59, .int t_folks, .ref t_namesA] (wX2_readFolk cy tA t_kinV t_folks t_pairs t_line t_rope t_lineTold t_ropeTold t_lawV t_takenV t_namesA t_namesN t_names t_kindsA t_kindsN t_kinds t_stopsA t_stopsN t_stops t_roundsA t_roundsN t_rounds p1A p1_signsV p1_size p1_count R16 p1_fault p1_tokensA p1_tokensN p1_tokens p1_startsA p1_startsN p1_starts p1_valuesA p1_valuesN p1_values) 0 0
        by_cases hb62 : t_folks < 0 ∨ t_namesN ≤ t_folks.toNatClampNeg
        · exact vNone ((if_pos hb62).symm.trans h)
        replace h := (if_neg hb62).symm.trans h
        refine V.last (ws' := (wX2_readFolk cy tA t_kinV t_folks t_pairs t_line t_rope t_lineTold t_ropeTold t_lawV t_takenV t_namesA t_namesN (vp_updL t_names t_folks.toNatClampNeg R59) t_kindsA t_kindsN t_kinds t_stopsA t_stopsN t_stops t_roundsA t_roundsN t_rounds p1A p1_signsV p1_size p1_count R16 p1_fault p1_tokensA p1_tokensN p1_tokens p1_startsA p1_startsN p1_starts p1_valuesA p1_valuesN p1_values)) dX2_readFolk_62 1 rfl hb62 rfl ?_
        refine V.aload_n dX2_readFolk_63 rfl 1 rfl ?_
        obtain ⟨R64, hg64, h⟩ := Option.bind_eq_some_iff.mp h
        refine V.callV (As := []) (rest := []) (wc := (wX9_step cy p1A p1_signsV p1_size (.ref p1_tokensA) (.ref p1_startsA) (.ref p1_valuesA) p1_count R16 p1_fault)) (wr := [(tA, .inr (2, [.ref t_namesA, .ref t_kindsA, t_kinV, .ref t_stopsA, .ref t_roundsA, .int t_folks, .int t_pairs, .int t_line, .int t_rope, .int t_lineTold, .int t_ropeTold, t_lawV, t_takenV])), (t_namesA, .inl (cy 2, t_namesN, .inr (.inl (vp_updL t_names t_folks.toNatClampNeg R59)))), (t_kindsA, .inl (cy 1, t_kindsN, .inl t_kinds)), (t_stopsA, .inl (cy 1, t_stopsN, .inl t_stops)), (t_roundsA, .inl (cy 1, t_roundsN, .inl t_rounds)), (p1_tokensA, .inl (cy 1, p1_tokensN, .inl p1_tokens)), (p1_startsA, .inl (cy 1, p1_startsN, .inl p1_starts)), (p1_valuesA, .inl (cy 2, p1_valuesN, .inr (.inl p1_values)))]) (q0 := 5) (CX9_step F p1A p1_signsV p1_size (.ref p1_tokensA) (.ref p1_startsA) (.ref p1_valuesA) p1_count R16 p1_fault R64 hg64) kvX9_step klX2_147 [5] [0, 1, 2, 3, 4, 6, 7, 8] rfl rfl (by decide) (by decide) (by decide) rfl rfl rfl rfl dX2_readFolk_64 ⟨by decide, by decide, by decide, by decide⟩ (Nat.le_of_ble_eq_true rfl) (fun r w1 hq => ?_)
        obtain ⟨rfl, rfl⟩ := hq
        refine V.cells (ws' := (wX2_readFolk cy tA t_kinV t_folks t_pairs t_line t_rope t_lineTold t_ropeTold t_lawV t_takenV t_namesA t_namesN (vp_updL t_names t_folks.toNatClampNeg R59) t_kindsA t_kindsN t_kinds t_stopsA t_stopsN t_stops t_roundsA t_roundsN t_rounds p1A p1_signsV p1_size p1_count R64 p1_fault p1_tokensA p1_tokensN p1_tokens p1_startsA p1_startsN p1_starts p1_valuesA p1_valuesN p1_values)) [0, 1, 2, 3, 4, 8, 5, 6, 7] (by decide) rfl ?_
        show V l D cy MX2_readFolk 2 0 0 _ _ _ 67 [(0, .ref tA), (1, .ref p1A)] [] (wX2_readFolk cy tA t_kinV t_folks t_pairs t_line t_rope t_lineTold t_ropeTold t_lawV t_takenV t_namesA t_namesN (vp_updL t_names t_folks.toNatClampNeg R59) t_kindsA t_kindsN t_kinds t_stopsA t_stopsN t_stops t_roundsA t_roundsN t_rounds p1A p1_signsV p1_size p1_count R64 p1_fault p1_tokensA p1_tokensN p1_tokens p1_startsA p1_startsN p1_starts p1_valuesA p1_valuesN p1_values) 0 0
        refine V.aload_n dX2_readFolk_67 rfl 1 rfl ?_
        obtain ⟨R68, hg68, h⟩ := Option.bind_eq_some_iff.mp h
        refine V.callV (As := []) (rest := []) (wc := (wX9_token cy p1A p1_signsV p1_size (.ref p1_startsA) (.ref p1_valuesA) p1_count R64 p1_fault p1_tokensA p1_tokensN p1_tokens)) (wr := [(tA, .inr (2, [.ref t_namesA, .ref t_kindsA, t_kinV, .ref t_stopsA, .ref t_roundsA, .int t_folks, .int t_pairs, .int t_line, .int t_rope, .int t_lineTold, .int t_ropeTold, t_lawV, t_takenV])), (t_namesA, .inl (cy 2, t_namesN, .inr (.inl (vp_updL t_names t_folks.toNatClampNeg R59)))), (t_kindsA, .inl (cy 1, t_kindsN, .inl t_kinds)), (t_stopsA, .inl (cy 1, t_stopsN, .inl t_stops)), (t_roundsA, .inl (cy 1, t_roundsN, .inl t_rounds)), (p1_startsA, .inl (cy 1, p1_startsN, .inl p1_starts)), (p1_valuesA, .inl (cy 2, p1_valuesN, .inr (.inl p1_values)))]) (q0 := 5) (CX9_token F p1A p1_signsV p1_size (.ref p1_startsA) (.ref p1_valuesA) p1_count R64 p1_fault p1_tokensA p1_tokensN p1_tokens R68 hg68) kvX9_token klX2_118 [5, 6] [0, 1, 2, 3, 4, 7, 8] rfl rfl (by decide) (by decide) (by decide) rfl rfl rfl rfl dX2_readFolk_68 ⟨by decide, by decide, by decide, by decide⟩ (Nat.le_of_ble_eq_true rfl) (fun r w1 hq => ?_)
        obtain ⟨rfl, rfl⟩ := hq
        refine V.cells (ws' := (wX2_readFolk cy tA t_kinV t_folks t_pairs t_line t_rope t_lineTold t_ropeTold t_lawV t_takenV t_namesA t_namesN (vp_updL t_names t_folks.toNatClampNeg R59) t_kindsA t_kindsN t_kinds t_stopsA t_stopsN t_stops t_roundsA t_roundsN t_rounds p1A p1_signsV p1_size p1_count R64 p1_fault p1_tokensA p1_tokensN p1_tokens p1_startsA p1_startsN p1_starts p1_valuesA p1_valuesN p1_values)) [0, 1, 2, 3, 4, 7, 8, 5, 6] (by decide) rfl ?_
        show V l D cy MX2_readFolk 2 0 0 _ _ _ 71 [(0, .ref tA), (1, .ref p1A)] [.int R68] (wX2_readFolk cy tA t_kinV t_folks t_pairs t_line t_rope t_lineTold t_ropeTold t_lawV t_takenV t_namesA t_namesN (vp_updL t_names t_folks.toNatClampNeg R59) t_kindsA t_kindsN t_kinds t_stopsA t_stopsN t_stops t_roundsA t_roundsN t_rounds p1A p1_signsV p1_size p1_count R64 p1_fault p1_tokensA p1_tokensN p1_tokens p1_startsA p1_startsN p1_starts p1_valuesA p1_valuesN p1_values) 0 0
        refine V.bipush (v := (9 : Int32)) dX2_readFolk_71 (by decide) ?_
        refine V.isub dX2_readFolk_73 ?_
        refine V.istore_n (lv' := [(2, .int (R68 - (9 : Int32))), (0, .ref tA), (1, .ref p1A)]) dX2_readFolk_74 rfl (by decide) rfl ?_
        refine V.iload_n dX2_readFolk_75 rfl 0 rfl ?_
        refine V.if_lt (tgt := 87) dX2_readFolk_76 (by decide) (fun hc76 => ?_) (fun hc76 => ?_)
        · replace h := (if_pos hc76).symm.trans h
          refine V.lvs [2] rfl ?_
          exact vX2_readFolk_L87 _ _ _ _ _ _ _ _ _ _ _ _ _ _ _ _ _ _ _ _ _ _ _ _ _ _ _ _ _ _ _   _ _ _ _ _ _ _ R h hQ
        · replace h := (if_neg hc76).symm.trans h
          refine V.iload_n dX2_readFolk_79 rfl 0 rfl ?_
          refine V.gets klX2_161 dX2_readFolk_80 ?_
          refine V.zlen dX2_readFolk_83 ?_
          refine V.icmp_lt (tgt := 93) dX2_readFolk_84 (by decide) (fun hc84 => ?_) (fun hc84 => ?_)
          · replace h := (if_pos hc84).symm.trans h
            refine V.aload_n dX2_readFolk_93 rfl 1 rfl ?_
            refine V.get kfX2 0 rfl rfl 1 (by decide) klX2_15 rfl dX2_readFolk_94 ?_
            refine V.aload_n dX2_readFolk_97 rfl 1 rfl ?_
            refine V.get kfX2 0 rfl rfl 5 (by decide) klX2_47 rfl dX2_readFolk_98 ?_
            refine V.iload_n dX2_readFolk_101 rfl 0 rfl ?_
            by_cases hb102 : t_folks < 0 ∨ t_kindsN ≤ t_folks.toNatClampNeg
            · exact vNone ((if_pos hb102).symm.trans h)
            replace h := (if_neg hb102).symm.trans h
            refine V.iast (ws' := (wX2_readFolk cy tA t_kinV t_folks t_pairs t_line t_rope t_lineTold t_ropeTold t_lawV t_takenV t_namesA t_namesN (vp_updL t_names t_folks.toNatClampNeg R59) t_kindsA t_kindsN (upd t_kinds t_folks.toNatClampNeg (R68 - (9 : Int32))) t_stopsA t_stopsN t_stops t_roundsA t_roundsN t_rounds p1A p1_signsV p1_size p1_count R64 p1_fault p1_tokensA p1_tokensN p1_tokens p1_startsA p1_startsN p1_starts p1_valuesA p1_valuesN p1_values)) dX2_readFolk_102 2 rfl hb102 rfl ?_
            refine V.aload_n dX2_readFolk_103 rfl 1 rfl ?_
            refine V.get kfX2 0 rfl rfl 4 (by decide) klX2_25 rfl dX2_readFolk_104 ?_
            refine V.aload_n dX2_readFolk_107 rfl 1 rfl ?_
            refine V.get kfX2 0 rfl rfl 5 (by decide) klX2_47 rfl dX2_readFolk_108 ?_
            refine V.gets klX2_161 dX2_readFolk_111 ?_
            refine V.iload_n dX2_readFolk_114 rfl 0 rfl ?_
            by_cases hb115 : (R68 - (9 : Int32)) < 0 ∨ 4 ≤ (R68 - (9 : Int32)).toNatClampNeg
            · exact vNone ((if_pos hb115).symm.trans h)
            replace h := (if_neg hb115).symm.trans h
            refine V.rald dX2_readFolk_115 hb115 ?_
            by_cases hb116 : t_folks < 0 ∨ t_roundsN ≤ t_folks.toNatClampNeg
            · exact vNone ((if_pos hb116).symm.trans h)
            replace h := (if_neg hb116).symm.trans h
            refine V.iast (ws' := (wX2_readFolk cy tA t_kinV t_folks t_pairs t_line t_rope t_lineTold t_ropeTold t_lawV t_takenV t_namesA t_namesN (vp_updL t_names t_folks.toNatClampNeg R59) t_kindsA t_kindsN (upd t_kinds t_folks.toNatClampNeg (R68 - (9 : Int32))) t_stopsA t_stopsN t_stops t_roundsA t_roundsN (upd t_rounds t_folks.toNatClampNeg (vRnd (R68 - (9 : Int32)).toNatClampNeg)) p1A p1_signsV p1_size p1_count R64 p1_fault p1_tokensA p1_tokensN p1_tokens p1_startsA p1_startsN p1_starts p1_valuesA p1_valuesN p1_values)) dX2_readFolk_116 4 rfl hb116 rfl ?_
            refine V.aload_n dX2_readFolk_117 rfl 1 rfl ?_
            refine V.get kfX2 0 rfl rfl 3 (by decide) klX2_22 rfl dX2_readFolk_118 ?_
            refine V.aload_n dX2_readFolk_121 rfl 1 rfl ?_
            refine V.get kfX2 0 rfl rfl 5 (by decide) klX2_47 rfl dX2_readFolk_122 ?_
            refine V.iconst (v := (1 : Int32)) dX2_readFolk_125 (by decide) ?_
            refine V.aload_n dX2_readFolk_126 rfl 1 rfl ?_
            refine V.get kfX2 0 rfl rfl 5 (by decide) klX2_47 rfl dX2_readFolk_127 ?_
            refine V.ishl dX2_readFolk_130 ?_
            by_cases hb131 : t_folks < 0 ∨ t_stopsN ≤ t_folks.toNatClampNeg
            · exact vNone ((if_pos hb131).symm.trans h)
            replace h := (if_neg hb131).symm.trans h
            refine V.iast (ws' := (wX2_readFolk cy tA t_kinV t_folks t_pairs t_line t_rope t_lineTold t_ropeTold t_lawV t_takenV t_namesA t_namesN (vp_updL t_names t_folks.toNatClampNeg R59) t_kindsA t_kindsN (upd t_kinds t_folks.toNatClampNeg (R68 - (9 : Int32))) t_stopsA t_stopsN (upd t_stops t_folks.toNatClampNeg ((1 : Int32) <<< (t_folks &&& 31))) t_roundsA t_roundsN (upd t_rounds t_folks.toNatClampNeg (vRnd (R68 - (9 : Int32)).toNatClampNeg)) p1A p1_signsV p1_size p1_count R64 p1_fault p1_tokensA p1_tokensN p1_tokens p1_startsA p1_startsN p1_starts p1_valuesA p1_valuesN p1_values)) dX2_readFolk_131 3 rfl hb131 rfl ?_
            refine V.aload_n dX2_readFolk_132 rfl 1 rfl ?_
            refine V.dup dX2_readFolk_133 rfl ?_
            refine V.get kfX2 0 rfl rfl 5 (by decide) klX2_47 rfl dX2_readFolk_134 ?_
            refine V.iconst (v := (1 : Int32)) dX2_readFolk_137 (by decide) ?_
            refine V.iadd dX2_readFolk_138 ?_
            refine V.put (ws' := (wX2_readFolk cy tA t_kinV (t_folks + (1 : Int32)) t_pairs t_line t_rope t_lineTold t_ropeTold t_lawV t_takenV t_namesA t_namesN (vp_updL t_names t_folks.toNatClampNeg R59) t_kindsA t_kindsN (upd t_kinds t_folks.toNatClampNeg (R68 - (9 : Int32))) t_stopsA t_stopsN (upd t_stops t_folks.toNatClampNeg ((1 : Int32) <<< (t_folks &&& 31))) t_roundsA t_roundsN (upd t_rounds t_folks.toNatClampNeg (vRnd (R68 - (9 : Int32)).toNatClampNeg)) p1A p1_signsV p1_size p1_count R64 p1_fault p1_tokensA p1_tokensN p1_tokens p1_startsA p1_startsN p1_starts p1_valuesA p1_valuesN p1_values)) kfX2 tyX2 tyX2_ok nmX2 0 rfl rfl 5 (by decide) klX2_47 rfl (tyX2_ok 5 (by decide)) rfl rfl (Nat.le_of_ble_eq_true rfl) dX2_readFolk_139 rfl ?_
            refine V.aload_n dX2_readFolk_142 rfl 2 rfl ?_
            obtain ⟨R143, hg143, h⟩ := Option.bind_eq_some_iff.mp h
            refine V.callV (As := []) (rest := []) (wc := (wX9_step cy p1A p1_signsV p1_size (.ref p1_tokensA) (.ref p1_startsA) (.ref p1_valuesA) p1_count R64 p1_fault)) (wr := [(tA, .inr (2, [.ref t_namesA, .ref t_kindsA, t_kinV, .ref t_stopsA, .ref t_roundsA, .int (t_folks + (1 : Int32)), .int t_pairs, .int t_line, .int t_rope, .int t_lineTold, .int t_ropeTold, t_lawV, t_takenV])), (t_namesA, .inl (cy 2, t_namesN, .inr (.inl (vp_updL t_names t_folks.toNatClampNeg R59)))), (t_kindsA, .inl (cy 1, t_kindsN, .inl (upd t_kinds t_folks.toNatClampNeg (R68 - (9 : Int32))))), (t_stopsA, .inl (cy 1, t_stopsN, .inl (upd t_stops t_folks.toNatClampNeg ((1 : Int32) <<< (t_folks &&& 31))))), (t_roundsA, .inl (cy 1, t_roundsN, .inl (upd t_rounds t_folks.toNatClampNeg (vRnd (R68 - (9 : Int32)).toNatClampNeg)))), (p1_tokensA, .inl (cy 1, p1_tokensN, .inl p1_tokens)), (p1_startsA, .inl (cy 1, p1_startsN, .inl p1_starts)), (p1_valuesA, .inl (cy 2, p1_valuesN, .inr (.inl p1_values)))]) (q0 := 5) (CX9_step F p1A p1_signsV p1_size (.ref p1_tokensA) (.ref p1_startsA) (.ref p1_valuesA) p1_count R64 p1_fault R143 hg143) kvX9_step klX2_147 [5] [0, 1, 2, 3, 4, 6, 7, 8] rfl rfl (by decide) (by decide) (by decide) rfl rfl rfl rfl dX2_readFolk_143 ⟨by decide, by decide, by decide, by decide⟩ (Nat.le_of_ble_eq_true rfl) (fun r w1 hq => ?_)
            obtain ⟨rfl, rfl⟩ := hq
            refine V.cells (ws' := (wX2_readFolk cy tA t_kinV (t_folks + (1 : Int32)) t_pairs t_line t_rope t_lineTold t_ropeTold t_lawV t_takenV t_namesA t_namesN (vp_updL t_names t_folks.toNatClampNeg R59) t_kindsA t_kindsN (upd t_kinds t_folks.toNatClampNeg (R68 - (9 : Int32))) t_stopsA t_stopsN (upd t_stops t_folks.toNatClampNeg ((1 : Int32) <<< (t_folks &&& 31))) t_roundsA t_roundsN (upd t_rounds t_folks.toNatClampNeg (vRnd (R68 - (9 : Int32)).toNatClampNeg)) p1A p1_signsV p1_size p1_count R143 p1_fault p1_tokensA p1_tokensN p1_tokens p1_startsA p1_startsN p1_starts p1_valuesA p1_valuesN p1_values)) [0, 1, 2, 3, 4, 8, 5, 6, 7] (by decide) rfl ?_
            show V l D cy MX2_readFolk 2 0 0 _ _ _ 146 [(2, .int (R68 - (9 : Int32))), (0, .ref tA), (1, .ref p1A)] [] (wX2_readFolk cy tA t_kinV (t_folks + (1 : Int32)) t_pairs t_line t_rope t_lineTold t_ropeTold t_lawV t_takenV t_namesA t_namesN (vp_updL t_names t_folks.toNatClampNeg R59) t_kindsA t_kindsN (upd t_kinds t_folks.toNatClampNeg (R68 - (9 : Int32))) t_stopsA t_stopsN (upd t_stops t_folks.toNatClampNeg ((1 : Int32) <<< (t_folks &&& 31))) t_roundsA t_roundsN (upd t_rounds t_folks.toNatClampNeg (vRnd (R68 - (9 : Int32)).toNatClampNeg)) p1A p1_signsV p1_size p1_count R143 p1_fault p1_tokensA p1_tokensN p1_tokens p1_startsA p1_startsN p1_starts p1_valuesA p1_valuesN p1_values) 0 0
            refine V.aload_n dX2_readFolk_146 rfl 2 rfl ?_
            refine V.bipush (v := (59 : Int32)) dX2_readFolk_147 (by decide) ?_
            obtain ⟨R149, hg149, h⟩ := Option.bind_eq_some_iff.mp h
            refine V.callV (As := [.int (59 : Int32)]) (rest := []) (wc := (wX9_expect cy p1A p1_signsV p1_size (.ref p1_valuesA) p1_count R143 p1_fault p1_tokensA p1_tokensN p1_tokens p1_startsA p1_startsN p1_starts)) (wr := [(tA, .inr (2, [.ref t_namesA, .ref t_kindsA, t_kinV, .ref t_stopsA, .ref t_roundsA, .int (t_folks + (1 : Int32)), .int t_pairs, .int t_line, .int t_rope, .int t_lineTold, .int t_ropeTold, t_lawV, t_takenV])), (t_namesA, .inl (cy 2, t_namesN, .inr (.inl (vp_updL t_names t_folks.toNatClampNeg R59)))), (t_kindsA, .inl (cy 1, t_kindsN, .inl (upd t_kinds t_folks.toNatClampNeg (R68 - (9 : Int32))))), (t_stopsA, .inl (cy 1, t_stopsN, .inl (upd t_stops t_folks.toNatClampNeg ((1 : Int32) <<< (t_folks &&& 31))))), (t_roundsA, .inl (cy 1, t_roundsN, .inl (upd t_rounds t_folks.toNatClampNeg (vRnd (R68 - (9 : Int32)).toNatClampNeg)))), (p1_valuesA, .inl (cy 2, p1_valuesN, .inr (.inl p1_values)))]) (q0 := 5) (CX9_expect F p1A p1_signsV p1_size (.ref p1_valuesA) p1_count R143 p1_fault p1_tokensA p1_tokensN p1_tokens p1_startsA p1_startsN p1_starts (59 : Int32) R149 hg149) kvX9_expect klX2_164 [5, 6, 7] [0, 1, 2, 3, 4, 8] rfl rfl (by decide) (by decide) (by decide) rfl rfl rfl rfl dX2_readFolk_149 ⟨by decide, by decide, by decide, by decide⟩ (Nat.le_of_ble_eq_true rfl) (fun r w1 hq => ?_)
            obtain ⟨rfl, rfl⟩ := hq
            refine V.cells (ws' := (wX2_readFolk cy tA t_kinV (t_folks + (1 : Int32)) t_pairs t_line t_rope t_lineTold t_ropeTold t_lawV t_takenV t_namesA t_namesN (vp_updL t_names t_folks.toNatClampNeg R59) t_kindsA t_kindsN (upd t_kinds t_folks.toNatClampNeg (R68 - (9 : Int32))) t_stopsA t_stopsN (upd t_stops t_folks.toNatClampNeg ((1 : Int32) <<< (t_folks &&& 31))) t_roundsA t_roundsN (upd t_rounds t_folks.toNatClampNeg (vRnd (R68 - (9 : Int32)).toNatClampNeg)) p1A p1_signsV p1_size p1_count R149.2.1 R149.2.2 p1_tokensA p1_tokensN p1_tokens p1_startsA p1_startsN p1_starts p1_valuesA p1_valuesN p1_values)) [0, 1, 2, 3, 4, 6, 7, 8, 5] (by decide) rfl ?_
            show V l D cy MX2_readFolk 2 0 0 _ _ _ 152 [(2, .int (R68 - (9 : Int32))), (0, .ref tA), (1, .ref p1A)] [.int R149.1] (wX2_readFolk cy tA t_kinV (t_folks + (1 : Int32)) t_pairs t_line t_rope t_lineTold t_ropeTold t_lawV t_takenV t_namesA t_namesN (vp_updL t_names t_folks.toNatClampNeg R59) t_kindsA t_kindsN (upd t_kinds t_folks.toNatClampNeg (R68 - (9 : Int32))) t_stopsA t_stopsN (upd t_stops t_folks.toNatClampNeg ((1 : Int32) <<< (t_folks &&& 31))) t_roundsA t_roundsN (upd t_rounds t_folks.toNatClampNeg (vRnd (R68 - (9 : Int32)).toNatClampNeg)) p1A p1_signsV p1_size p1_count R149.2.1 R149.2.2 p1_tokensA p1_tokensN p1_tokens p1_startsA p1_startsN p1_starts p1_valuesA p1_valuesN p1_values) 0 0
            by_cases hz152 : R149.1 = 0 ∨ R149.1 = 1
            case neg => exact vNone ((if_neg hz152).symm.trans h)
            replace h := (if_pos hz152).symm.trans h
            have e9 := Option.some.inj h; subst e9
            exact V.iret (ty := .boolean) rfl (vBool hz152).1 dX2_readFolk_152 (Nat.le_refl _) (Nat.le_refl _) hQ
          · replace h := (if_neg hc84).symm.trans h
            refine V.lvs [2] rfl ?_
            exact vX2_readFolk_L87 _ _ _ _ _ _ _ _ _ _ _ _ _ _ _ _ _ _ _ _ _ _ _ _ _ _ _ _ _ _ _   _ _ _ _ _ _ _ R h hQ
      · replace h := (if_neg hc41).symm.trans h
        refine V.aload_n dX2_readFolk_44 rfl 1 rfl ?_
        refine V.iconst (v := (3 : Int32)) dX2_readFolk_45 (by decide) ?_
        obtain ⟨R46, hg46, h⟩ := Option.bind_eq_some_iff.mp h
        refine V.callV (As := [.int (3 : Int32)]) (rest := []) (wc := (wX9_wrong cy p1A p1_signsV p1_size (.ref p1_tokensA) (.ref p1_valuesA) p1_count R16 p1_fault p1_startsA p1_startsN p1_starts)) (wr := [(tA, .inr (2, [.ref t_namesA, .ref t_kindsA, t_kinV, .ref t_stopsA, .ref t_roundsA, .int t_folks, .int t_pairs, .int t_line, .int t_rope, .int t_lineTold, .int t_ropeTold, t_lawV, t_takenV])), (t_namesA, .inl (cy 2, t_namesN, .inr (.inl t_names))), (t_kindsA, .inl (cy 1, t_kindsN, .inl t_kinds)), (t_stopsA, .inl (cy 1, t_stopsN, .inl t_stops)), (t_roundsA, .inl (cy 1, t_roundsN, .inl t_rounds)), (p1_tokensA, .inl (cy 1, p1_tokensN, .inl p1_tokens)), (p1_valuesA, .inl (cy 2, p1_valuesN, .inr (.inl p1_values)))]) (q0 := 5) (CX9_wrong F p1A p1_signsV p1_size (.ref p1_tokensA) (.ref p1_valuesA) p1_count R16 p1_fault p1_startsA p1_startsN p1_starts (3 : Int32) R46 hg46) kvX9_wrong klX2_144 [5, 7] [0, 1, 2, 3, 4, 6, 8] rfl rfl (by decide) (by decide) (by decide) rfl rfl rfl rfl dX2_readFolk_46 ⟨by decide, by decide, by decide, by decide⟩ (Nat.le_of_ble_eq_true rfl) (fun r w1 hq => ?_)
        obtain ⟨rfl, rfl⟩ := hq
        refine V.cells (ws' := (wX2_readFolk cy tA t_kinV t_folks t_pairs t_line t_rope t_lineTold t_ropeTold t_lawV t_takenV t_namesA t_namesN t_names t_kindsA t_kindsN t_kinds t_stopsA t_stopsN t_stops t_roundsA t_roundsN t_rounds p1A p1_signsV p1_size p1_count R16 R46.2 p1_tokensA p1_tokensN p1_tokens p1_startsA p1_startsN p1_starts p1_valuesA p1_valuesN p1_values)) [0, 1, 2, 3, 4, 7, 5, 8, 6] (by decide) rfl ?_
        show V l D cy MX2_readFolk 2 0 0 _ _ _ 49 [(0, .ref tA), (1, .ref p1A)] [.int R46.1] (wX2_readFolk cy tA t_kinV t_folks t_pairs t_line t_rope t_lineTold t_ropeTold t_lawV t_takenV t_namesA t_namesN t_names t_kindsA t_kindsN t_kinds t_stopsA t_stopsN t_stops t_roundsA t_roundsN t_rounds p1A p1_signsV p1_size p1_count R16 R46.2 p1_tokensA p1_tokensN p1_tokens p1_startsA p1_startsN p1_starts p1_valuesA p1_valuesN p1_values) 0 0
        by_cases hz49 : R46.1 = 0 ∨ R46.1 = 1
        case neg => exact vNone ((if_neg hz49).symm.trans h)
        replace h := (if_pos hz49).symm.trans h
        have e9 := Option.some.inj h; subst e9
        exact V.iret (ty := .boolean) rfl (vBool hz49).1 dX2_readFolk_49 (Nat.le_refl _) (Nat.le_refl _) hQ
    · replace h := (if_pos hc23).symm.trans h
      refine V.aload_n dX2_readFolk_26 rfl 1 rfl ?_
      refine V.iconst (v := (1 : Int32)) dX2_readFolk_27 (by decide) ?_
      obtain ⟨R28, hg28, h⟩ := Option.bind_eq_some_iff.mp h
      refine V.callV (As := [.int (1 : Int32)]) (rest := []) (wc := (wX9_wrong cy p1A p1_signsV p1_size (.ref p1_tokensA) (.ref p1_valuesA) p1_count R16 p1_fault p1_startsA p1_startsN p1_starts)) (wr := [(tA, .inr (2, [.ref t_namesA, .ref t_kindsA, t_kinV, .ref t_stopsA, .ref t_roundsA, .int t_folks, .int t_pairs, .int t_line, .int t_rope, .int t_lineTold, .int t_ropeTold, t_lawV, t_takenV])), (t_namesA, .inl (cy 2, t_namesN, .inr (.inl t_names))), (t_kindsA, .inl (cy 1, t_kindsN, .inl t_kinds)), (t_stopsA, .inl (cy 1, t_stopsN, .inl t_stops)), (t_roundsA, .inl (cy 1, t_roundsN, .inl t_rounds)), (p1_tokensA, .inl (cy 1, p1_tokensN, .inl p1_tokens)), (p1_valuesA, .inl (cy 2, p1_valuesN, .inr (.inl p1_values)))]) (q0 := 5) (CX9_wrong F p1A p1_signsV p1_size (.ref p1_tokensA) (.ref p1_valuesA) p1_count R16 p1_fault p1_startsA p1_startsN p1_starts (1 : Int32) R28 hg28) kvX9_wrong klX2_144 [5, 7] [0, 1, 2, 3, 4, 6, 8] rfl rfl (by decide) (by decide) (by decide) rfl rfl rfl rfl dX2_readFolk_28 ⟨by decide, by decide, by decide, by decide⟩ (Nat.le_of_ble_eq_true rfl) (fun r w1 hq => ?_)
      obtain ⟨rfl, rfl⟩ := hq
      refine V.cells (ws' := (wX2_readFolk cy tA t_kinV t_folks t_pairs t_line t_rope t_lineTold t_ropeTold t_lawV t_takenV t_namesA t_namesN t_names t_kindsA t_kindsN t_kinds t_stopsA t_stopsN t_stops t_roundsA t_roundsN t_rounds p1A p1_signsV p1_size p1_count R16 R28.2 p1_tokensA p1_tokensN p1_tokens p1_startsA p1_startsN p1_starts p1_valuesA p1_valuesN p1_values)) [0, 1, 2, 3, 4, 7, 5, 8, 6] (by decide) rfl ?_
      show V l D cy MX2_readFolk 2 0 0 _ _ _ 31 [(0, .ref tA), (1, .ref p1A)] [.int R28.1] (wX2_readFolk cy tA t_kinV t_folks t_pairs t_line t_rope t_lineTold t_ropeTold t_lawV t_takenV t_namesA t_namesN t_names t_kindsA t_kindsN t_kinds t_stopsA t_stopsN t_stops t_roundsA t_roundsN t_rounds p1A p1_signsV p1_size p1_count R16 R28.2 p1_tokensA p1_tokensN p1_tokens p1_startsA p1_startsN p1_starts p1_valuesA p1_valuesN p1_values) 0 0
      by_cases hz31 : R28.1 = 0 ∨ R28.1 = 1
      case neg => exact vNone ((if_neg hz31).symm.trans h)
      replace h := (if_pos hz31).symm.trans h
      have e9 := Option.some.inj h; subst e9
      exact V.iret (ty := .boolean) rfl (vBool hz31).1 dX2_readFolk_31 (Nat.le_refl _) (Nat.le_refl _) hQ
  · replace h := (if_neg hc6).symm.trans h
    refine V.aload_n dX2_readFolk_9 rfl 1 rfl ?_
    refine V.iconst (v := (5 : Int32)) dX2_readFolk_10 (by decide) ?_
    obtain ⟨R11, hg11, h⟩ := Option.bind_eq_some_iff.mp h
    refine V.callV (As := [.int (5 : Int32)]) (rest := []) (wc := (wX9_wrong cy p1A p1_signsV p1_size (.ref p1_tokensA) (.ref p1_valuesA) p1_count p1_here p1_fault p1_startsA p1_startsN p1_starts)) (wr := [(tA, .inr (2, [.ref t_namesA, .ref t_kindsA, t_kinV, .ref t_stopsA, .ref t_roundsA, .int t_folks, .int t_pairs, .int t_line, .int t_rope, .int t_lineTold, .int t_ropeTold, t_lawV, t_takenV])), (t_namesA, .inl (cy 2, t_namesN, .inr (.inl t_names))), (t_kindsA, .inl (cy 1, t_kindsN, .inl t_kinds)), (t_stopsA, .inl (cy 1, t_stopsN, .inl t_stops)), (t_roundsA, .inl (cy 1, t_roundsN, .inl t_rounds)), (p1_tokensA, .inl (cy 1, p1_tokensN, .inl p1_tokens)), (p1_valuesA, .inl (cy 2, p1_valuesN, .inr (.inl p1_values)))]) (q0 := 5) (CX9_wrong F p1A p1_signsV p1_size (.ref p1_tokensA) (.ref p1_valuesA) p1_count p1_here p1_fault p1_startsA p1_startsN p1_starts (5 : Int32) R11 hg11) kvX9_wrong klX2_144 [5, 7] [0, 1, 2, 3, 4, 6, 8] rfl rfl (by decide) (by decide) (by decide) rfl rfl rfl rfl dX2_readFolk_11 ⟨by decide, by decide, by decide, by decide⟩ (Nat.le_of_ble_eq_true rfl) (fun r w1 hq => ?_)
    obtain ⟨rfl, rfl⟩ := hq
    refine V.cells (ws' := (wX2_readFolk cy tA t_kinV t_folks t_pairs t_line t_rope t_lineTold t_ropeTold t_lawV t_takenV t_namesA t_namesN t_names t_kindsA t_kindsN t_kinds t_stopsA t_stopsN t_stops t_roundsA t_roundsN t_rounds p1A p1_signsV p1_size p1_count p1_here R11.2 p1_tokensA p1_tokensN p1_tokens p1_startsA p1_startsN p1_starts p1_valuesA p1_valuesN p1_values)) [0, 1, 2, 3, 4, 7, 5, 8, 6] (by decide) rfl ?_
    show V l D cy MX2_readFolk 2 0 0 _ _ _ 14 [(0, .ref tA), (1, .ref p1A)] [.int R11.1] (wX2_readFolk cy tA t_kinV t_folks t_pairs t_line t_rope t_lineTold t_ropeTold t_lawV t_takenV t_namesA t_namesN t_names t_kindsA t_kindsN t_kinds t_stopsA t_stopsN t_stops t_roundsA t_roundsN t_rounds p1A p1_signsV p1_size p1_count p1_here R11.2 p1_tokensA p1_tokensN p1_tokens p1_startsA p1_startsN p1_starts p1_valuesA p1_valuesN p1_values) 0 0
    by_cases hz14 : R11.1 = 0 ∨ R11.1 = 1
    case neg => exact vNone ((if_neg hz14).symm.trans h)
    replace h := (if_pos hz14).symm.trans h
    have e9 := Option.some.inj h; subst e9
    exact V.iret (ty := .boolean) rfl (vBool hz14).1 dX2_readFolk_14 (Nat.le_refl _) (Nat.le_refl _) hQ
theorem dJ0_isLatin1_aae02_0 : decode cJ0_isLatin1_aae02 0 = .ok (.getstatic 38, 3) := by decide +kernel
theorem dJ0_isLatin1_aae02_3 : decode cJ0_isLatin1_aae02 3 = .ok (.ifCond .eq 14, 3) := by decide +kernel
theorem dJ0_isLatin1_aae02_6 : decode cJ0_isLatin1_aae02 6 = .ok (.aload_n 0, 1) := by decide +kernel
theorem dJ0_isLatin1_aae02_7 : decode cJ0_isLatin1_aae02 7 = .ok (.getfield 15, 3) := by decide +kernel
theorem dJ0_isLatin1_aae02_10 : decode cJ0_isLatin1_aae02 10 = .ok (.ifCond .ne 7, 3) := by decide +kernel
theorem dJ0_isLatin1_aae02_13 : decode cJ0_isLatin1_aae02 13 = .ok (.iconst 1, 1) := by decide +kernel
theorem dJ0_isLatin1_aae02_14 : decode cJ0_isLatin1_aae02 14 = .ok (.goto 4, 3) := by decide +kernel
theorem dJ0_isLatin1_aae02_17 : decode cJ0_isLatin1_aae02 17 = .ok (.iconst 0, 1) := by decide +kernel
theorem dJ0_isLatin1_aae02_18 : decode cJ0_isLatin1_aae02 18 = .ok (.ireturn, 1) := by decide +kernel
def wJ0_isLatin1_aae02_zS0 (cy : Nat → ClassId)  : va_W :=
  []
noncomputable def bJ0_isLatin1_aae02_zS0_L18 (F : Nat)   (s0 : Int32) : Option (Int32) :=
  if s0 = 0 ∨ s0 = 1 then some s0 else none
theorem vJ0_isLatin1_aae02_zS0_L18 {l : Launch} {D : va_G} {cy : Nat → ClassId} {av : List Value} {ws0 : va_W} {Q : Option Value → va_W → Prop} (F : Nat)   (s0 : Int32) (R : Int32) (h : bJ0_isLatin1_aae02_zS0_L18 F  s0 = some R) (hQ : Q (some (.int R)) (wJ0_isLatin1_aae02_zS0 cy )) : V l D cy MJ0_isLatin1_aae02 0 0 0 av ws0 Q 18 [] [.int s0] (wJ0_isLatin1_aae02_zS0 cy ) 0 0 := by
  unfold bJ0_isLatin1_aae02_zS0_L18 at h
  by_cases hz18 : s0 = 0 ∨ s0 = 1
  case neg => exact vNone ((if_neg hz18).symm.trans h)
  replace h := (if_pos hz18).symm.trans h
  have e9 := Option.some.inj h; subst e9
  exact V.iret (ty := .boolean) rfl (vBool hz18).1 dJ0_isLatin1_aae02_18 (Nat.le_refl _) (Nat.le_refl _) hQ
noncomputable def bJ0_isLatin1_aae02_zS0_L17 (F : Nat)    : Option (Int32) :=
  bJ0_isLatin1_aae02_zS0_L18 F (0 : Int32)
theorem vJ0_isLatin1_aae02_zS0_L17 {l : Launch} {D : va_G} {cy : Nat → ClassId} {av : List Value} {ws0 : va_W} {Q : Option Value → va_W → Prop} (F : Nat)    (R : Int32) (h : bJ0_isLatin1_aae02_zS0_L17 F   = some R) (hQ : Q (some (.int R)) (wJ0_isLatin1_aae02_zS0 cy )) : V l D cy MJ0_isLatin1_aae02 0 0 0 av ws0 Q 17 [] [] (wJ0_isLatin1_aae02_zS0 cy ) 0 0 := by
  unfold bJ0_isLatin1_aae02_zS0_L17 at h
  refine V.iconst (v := (0 : Int32)) dJ0_isLatin1_aae02_17 (by decide) ?_
  exact vJ0_isLatin1_aae02_zS0_L18 _   _ R h hQ
noncomputable def fJ0_isLatin1_aae02_zS0 (F : Nat)  : Option (Int32) :=
  if (1 : Int32) = 0 then (bJ0_isLatin1_aae02_zS0_L17 F) else (if (0 : Int32) = 0 then (bJ0_isLatin1_aae02_zS0_L18 F (1 : Int32)) else (bJ0_isLatin1_aae02_zS0_L17 F))
theorem CJ0_isLatin1_aae02_zS0 {l : Launch} {D : va_G} {cy : Nat → ClassId} (F : Nat)  (R : Int32) (h : fJ0_isLatin1_aae02_zS0 F  = some R) : vMet l D cy MJ0_isLatin1_aae02 0 0 0 [.ref (vAdK cy 0)] (wJ0_isLatin1_aae02_zS0 cy ) (fun (r : Option Value) (w : va_W) => r = (some (.int R)) ∧ w = (wJ0_isLatin1_aae02_zS0 cy )) := by
  refine vMet.start (by decide +kernel) (Nat.le_of_ble_eq_true rfl) ?_
  generalize hQe : (fun (r : Option Value) (w : va_W) => r = (some (.int R)) ∧ w = (wJ0_isLatin1_aae02_zS0 cy )) = Q
  have hQ : Q (some (.int R)) (wJ0_isLatin1_aae02_zS0 cy ) := by rw [← hQe]; exact ⟨rfl, rfl⟩
  show V l D cy MJ0_isLatin1_aae02 0 0 0 _ _ Q 0 [(0, .ref (vAdK cy 0))] [] _ 0 0
  show V l D cy MJ0_isLatin1_aae02 0 0 0 [.ref (vAdK cy 0)] _ Q 0 [(0, .ref (vAdK cy 0))] [] (wJ0_isLatin1_aae02_zS0 cy ) 0 0
  unfold fJ0_isLatin1_aae02_zS0 at h
  refine V.zcompact klJ0_38 dJ0_isLatin1_aae02_0 ?_
  refine V.if_eq (tgt := 17) dJ0_isLatin1_aae02_3 (by decide) (fun hc3 => ?_) (fun hc3 => ?_)
  · replace h := (if_pos hc3).symm.trans h
    refine V.lvs [] rfl ?_
    exact vJ0_isLatin1_aae02_zS0_L17 _    R h hQ
  · replace h := (if_neg hc3).symm.trans h
    refine V.aload_n dJ0_isLatin1_aae02_6 rfl 0 rfl ?_
    refine V.zcod 0 (by decide) klJ0_15 dJ0_isLatin1_aae02_7 ?_
    refine V.if_ne (tgt := 17) dJ0_isLatin1_aae02_10 (by decide) (fun hc10 => ?_) (fun hc10 => ?_)
    · replace h := (if_neg hc10).symm.trans h
      refine V.lvs [] rfl ?_
      exact vJ0_isLatin1_aae02_zS0_L17 _    R h hQ
    · replace h := (if_pos hc10).symm.trans h
      refine V.iconst (v := (1 : Int32)) dJ0_isLatin1_aae02_13 (by decide) ?_
      refine V.goto (tgt := 18) dJ0_isLatin1_aae02_14 (by decide) ?_
      refine V.lvs [] rfl ?_
      exact vJ0_isLatin1_aae02_zS0_L18 _   _ R h hQ
theorem dJ1_charAt_3b067_0 : decode cJ1_charAt_3b067 0 = .ok (.iload_n 1, 1) := by decide +kernel
theorem dJ1_charAt_3b067_1 : decode cJ1_charAt_3b067 1 = .ok (.aload_n 0, 1) := by decide +kernel
theorem dJ1_charAt_3b067_2 : decode cJ1_charAt_3b067 2 = .ok (.arraylength, 1) := by decide +kernel
theorem dJ1_charAt_3b067_3 : decode cJ1_charAt_3b067 3 = .ok (.invokestatic 9, 3) := by decide +kernel
theorem dJ1_charAt_3b067_6 : decode cJ1_charAt_3b067 6 = .ok (.aload_n 0, 1) := by decide +kernel
theorem dJ1_charAt_3b067_7 : decode cJ1_charAt_3b067 7 = .ok (.iload_n 1, 1) := by decide +kernel
theorem dJ1_charAt_3b067_8 : decode cJ1_charAt_3b067 8 = .ok (.baload, 1) := by decide +kernel
theorem dJ1_charAt_3b067_9 : decode cJ1_charAt_3b067 9 = .ok (.sipush 255, 3) := by decide +kernel
theorem dJ1_charAt_3b067_12 : decode cJ1_charAt_3b067 12 = .ok (.iand, 1) := by decide +kernel
theorem dJ1_charAt_3b067_13 : decode cJ1_charAt_3b067 13 = .ok (.i2c, 1) := by decide +kernel
theorem dJ1_charAt_3b067_14 : decode cJ1_charAt_3b067 14 = .ok (.ireturn, 1) := by decide +kernel
def wJ1_charAt_3b067_zB0 (cy : Nat → ClassId)  : va_W :=
  []
noncomputable def fJ1_charAt_3b067_zB0 (F : Nat) (a1 : Int32) : Option (Int32) :=
  (fJ0_checkIndex_df160 F a1 (Int32.ofNat (vLen 0))).bind fun R3 => (if a1 < 0 ∨ vLen 0 ≤ a1.toNatClampNeg then none else (if (((((vTx 0).getD a1.toNatClampNeg 0) &&& (255 : Int32)).toUInt32 % 65536).toInt32).toUInt32.toUInt16.toUInt32.toInt32 = (((((vTx 0).getD a1.toNatClampNeg 0) &&& (255 : Int32)).toUInt32 % 65536).toInt32) then some (((((vTx 0).getD a1.toNatClampNeg 0) &&& (255 : Int32)).toUInt32 % 65536).toInt32) else none))
theorem CJ1_charAt_3b067_zB0 {l : Launch} {D : va_G} {cy : Nat → ClassId} (F : Nat) (a1 : Int32) (R : Int32) (h : fJ1_charAt_3b067_zB0 F a1 = some R) : vMet l D cy MJ1_charAt_3b067 2 0 0 [.ref (vAdV cy 0), .int a1] (wJ1_charAt_3b067_zB0 cy ) (fun (r : Option Value) (w : va_W) => r = (some (.int R)) ∧ w = (wJ1_charAt_3b067_zB0 cy )) := by
  refine vMet.start (by decide +kernel) (Nat.le_of_ble_eq_true rfl) ?_
  generalize hQe : (fun (r : Option Value) (w : va_W) => r = (some (.int R)) ∧ w = (wJ1_charAt_3b067_zB0 cy )) = Q
  have hQ : Q (some (.int R)) (wJ1_charAt_3b067_zB0 cy ) := by rw [← hQe]; exact ⟨rfl, rfl⟩
  show V l D cy MJ1_charAt_3b067 2 0 0 _ _ Q 0 [(0, .ref (vAdV cy 0)), (1, .int a1)] [] _ 0 0
  show V l D cy MJ1_charAt_3b067 2 0 0 [.ref (vAdV cy 0), .int a1] _ Q 0 [(0, .ref (vAdV cy 0)), (1, .int a1)] [] (wJ1_charAt_3b067_zB0 cy ) 0 0
  unfold fJ1_charAt_3b067_zB0 at h
  refine V.iload_n dJ1_charAt_3b067_0 rfl 1 rfl ?_
  refine V.aload_n dJ1_charAt_3b067_1 rfl 0 rfl ?_
  refine V.zblen 0 (by decide) dJ1_charAt_3b067_2 ?_
  obtain ⟨R3, hg3, h⟩ := Option.bind_eq_some_iff.mp h
  refine V.callS (As := [.int a1, .int (Int32.ofNat (vLen 0))]) (rest := []) (wc := (wJ0_checkIndex_df160 cy )) (wr := []) (CJ0_checkIndex_df160 F a1 (Int32.ofNat (vLen 0)) R3 hg3) kvJ0_checkIndex_df160 klJ1_9 [] [] rfl rfl (by decide) (by decide) (by decide) rfl dJ1_charAt_3b067_3 ⟨by decide, by decide, by decide, by decide⟩ (Nat.le_of_ble_eq_true rfl) (fun r w1 hq => ?_)
  obtain ⟨rfl, rfl⟩ := hq
  refine V.cells (ws' := (wJ1_charAt_3b067_zB0 cy )) [] (by decide) rfl ?_
  show V l D cy MJ1_charAt_3b067 2 0 0 _ _ _ 6 [(0, .ref (vAdV cy 0)), (1, .int a1)] [] (wJ1_charAt_3b067_zB0 cy ) 0 0
  refine V.aload_n dJ1_charAt_3b067_6 rfl 0 rfl ?_
  refine V.iload_n dJ1_charAt_3b067_7 rfl 1 rfl ?_
  by_cases hb8 : a1 < 0 ∨ vLen 0 ≤ a1.toNatClampNeg
  · exact vNone ((if_pos hb8).symm.trans h)
  replace h := (if_neg hb8).symm.trans h
  refine V.zbald 0 (by decide) dJ1_charAt_3b067_8 hb8 ?_
  refine V.sipush (v := (255 : Int32)) dJ1_charAt_3b067_9 (by decide) ?_
  refine V.iand dJ1_charAt_3b067_12 ?_
  refine V.i2c dJ1_charAt_3b067_13 ?_
  by_cases hz14 : (((((vTx 0).getD a1.toNatClampNeg 0) &&& (255 : Int32)).toUInt32 % 65536).toInt32).toUInt32.toUInt16.toUInt32.toInt32 = (((((vTx 0).getD a1.toNatClampNeg 0) &&& (255 : Int32)).toUInt32 % 65536).toInt32)
  case neg => exact vNone ((if_neg hz14).symm.trans h)
  replace h := (if_pos hz14).symm.trans h
  have e9 := Option.some.inj h; subst e9
  exact V.iret (ty := .char) rfl (congrArg Value.int hz14) dJ1_charAt_3b067_14 (Nat.le_refl _) (Nat.le_refl _) hQ
theorem dJ0_charAt_5068e_0 : decode cJ0_charAt_5068e 0 = .ok (.aload_n 0, 1) := by decide +kernel
theorem dJ0_charAt_5068e_1 : decode cJ0_charAt_5068e 1 = .ok (.invokevirtual 492, 3) := by decide +kernel
theorem dJ0_charAt_5068e_4 : decode cJ0_charAt_5068e 4 = .ok (.ifCond .eq 12, 3) := by decide +kernel
theorem dJ0_charAt_5068e_7 : decode cJ0_charAt_5068e 7 = .ok (.aload_n 0, 1) := by decide +kernel
theorem dJ0_charAt_5068e_8 : decode cJ0_charAt_5068e 8 = .ok (.getfield 9, 3) := by decide +kernel
theorem dJ0_charAt_5068e_11 : decode cJ0_charAt_5068e 11 = .ok (.iload_n 1, 1) := by decide +kernel
theorem dJ0_charAt_5068e_12 : decode cJ0_charAt_5068e 12 = .ok (.invokestatic 495, 3) := by decide +kernel
theorem dJ0_charAt_5068e_15 : decode cJ0_charAt_5068e 15 = .ok (.ireturn, 1) := by decide +kernel
theorem dJ0_charAt_5068e_16 : decode cJ0_charAt_5068e 16 = .ok (.aload_n 0, 1) := by decide +kernel
theorem dJ0_charAt_5068e_17 : decode cJ0_charAt_5068e 17 = .ok (.getfield 9, 3) := by decide +kernel
theorem dJ0_charAt_5068e_20 : decode cJ0_charAt_5068e 20 = .ok (.iload_n 1, 1) := by decide +kernel
theorem dJ0_charAt_5068e_21 : decode cJ0_charAt_5068e 21 = .ok (.invokestatic 498, 3) := by decide +kernel
theorem dJ0_charAt_5068e_24 : decode cJ0_charAt_5068e 24 = .ok (.ireturn, 1) := by decide +kernel
def wJ0_charAt_5068e_zS0 (cy : Nat → ClassId)  : va_W :=
  []
noncomputable def fJ0_charAt_5068e_zS0 (F : Nat) (a1 : Int32) : Option (Int32) :=
  (fJ0_isLatin1_aae02_zS0 F).bind fun R1 => (if R1 = 0 then (none) else ((fJ1_charAt_3b067_zB0 F a1).bind fun R12 => (if R12.toUInt32.toUInt16.toUInt32.toInt32 = R12 then some R12 else none)))
theorem CJ0_charAt_5068e_zS0 {l : Launch} {D : va_G} {cy : Nat → ClassId} (F : Nat) (a1 : Int32) (R : Int32) (h : fJ0_charAt_5068e_zS0 F a1 = some R) : vMet l D cy MJ0_charAt_5068e 3 0 0 [.ref (vAdK cy 0), .int a1] (wJ0_charAt_5068e_zS0 cy ) (fun (r : Option Value) (w : va_W) => r = (some (.int R)) ∧ w = (wJ0_charAt_5068e_zS0 cy )) := by
  refine vMet.start (by decide +kernel) (Nat.le_of_ble_eq_true rfl) ?_
  generalize hQe : (fun (r : Option Value) (w : va_W) => r = (some (.int R)) ∧ w = (wJ0_charAt_5068e_zS0 cy )) = Q
  have hQ : Q (some (.int R)) (wJ0_charAt_5068e_zS0 cy ) := by rw [← hQe]; exact ⟨rfl, rfl⟩
  show V l D cy MJ0_charAt_5068e 3 0 0 _ _ Q 0 [(0, .ref (vAdK cy 0)), (1, .int a1)] [] _ 0 0
  show V l D cy MJ0_charAt_5068e 3 0 0 [.ref (vAdK cy 0), .int a1] _ Q 0 [(0, .ref (vAdK cy 0)), (1, .int a1)] [] (wJ0_charAt_5068e_zS0 cy ) 0 0
  unfold fJ0_charAt_5068e_zS0 at h
  refine V.aload_n dJ0_charAt_5068e_0 rfl 0 rfl ?_
  obtain ⟨R1, hg1, h⟩ := Option.bind_eq_some_iff.mp h
  refine V.callVz (As := []) (rest := []) 0 (by decide) (CJ0_isLatin1_aae02_zS0 F  R1 hg1) kvJ0_isLatin1_aae02 klJ0_492 rfl rfl dJ0_charAt_5068e_1 ⟨by decide, by decide, by decide, by decide⟩ (Nat.le_of_ble_eq_true rfl) (fun r w1 hq => ?_)
  obtain ⟨rfl, rfl⟩ := hq
  refine V.cells (ws' := (wJ0_charAt_5068e_zS0 cy )) [] (by decide) rfl ?_
  show V l D cy MJ0_charAt_5068e 3 0 0 _ _ _ 4 [(0, .ref (vAdK cy 0)), (1, .int a1)] [.int R1] (wJ0_charAt_5068e_zS0 cy ) 0 0
  refine V.if_eq (tgt := 16) dJ0_charAt_5068e_4 (by decide) (fun hc4 => ?_) (fun hc4 => ?_)
  · replace h := (if_pos hc4).symm.trans h
    refine V.aload_n dJ0_charAt_5068e_16 rfl 0 rfl ?_
    refine V.zval 0 (by decide) klJ0_9 dJ0_charAt_5068e_17 ?_
    refine V.iload_n dJ0_charAt_5068e_20 rfl 1 rfl ?_
    exact vNone h
  · replace h := (if_neg hc4).symm.trans h
    refine V.aload_n dJ0_charAt_5068e_7 rfl 0 rfl ?_
    refine V.zval 0 (by decide) klJ0_9 dJ0_charAt_5068e_8 ?_
    refine V.iload_n dJ0_charAt_5068e_11 rfl 1 rfl ?_
    obtain ⟨R12, hg12, h⟩ := Option.bind_eq_some_iff.mp h
    refine V.callS (As := [.ref (vAdV cy 0), .int a1]) (rest := []) (wc := (wJ1_charAt_3b067_zB0 cy )) (wr := []) (CJ1_charAt_3b067_zB0 F a1 R12 hg12) kvJ1_charAt_3b067 klJ0_495 [] [] rfl rfl (by decide) (by decide) (by decide) rfl dJ0_charAt_5068e_12 ⟨by decide, by decide, by decide, by decide⟩ (Nat.le_of_ble_eq_true rfl) (fun r w1 hq => ?_)
    obtain ⟨rfl, rfl⟩ := hq
    refine V.cells (ws' := (wJ0_charAt_5068e_zS0 cy )) [] (by decide) rfl ?_
    show V l D cy MJ0_charAt_5068e 3 0 0 _ _ _ 15 [(0, .ref (vAdK cy 0)), (1, .int a1)] [.int R12] (wJ0_charAt_5068e_zS0 cy ) 0 0
    by_cases hz15 : R12.toUInt32.toUInt16.toUInt32.toInt32 = R12
    case neg => exact vNone ((if_neg hz15).symm.trans h)
    replace h := (if_pos hz15).symm.trans h
    have e9 := Option.some.inj h; subst e9
    exact V.iret (ty := .char) rfl (congrArg Value.int hz15) dJ0_charAt_5068e_15 (Nat.le_refl _) (Nat.le_refl _) hQ
theorem dX9_isWord_0 : decode cX9_isWord 0 = .ok (.iconst 0, 1) := by decide +kernel
theorem dX9_isWord_1 : decode cX9_isWord 1 = .ok (.istore 4, 2) := by decide +kernel
theorem dX9_isWord_3 : decode cX9_isWord 3 = .ok (.iload 4, 2) := by decide +kernel
theorem dX9_isWord_5 : decode cX9_isWord 5 = .ok (.iconst 5, 1) := by decide +kernel
theorem dX9_isWord_6 : decode cX9_isWord 6 = .ok (.if_icmp .ge 60, 3) := by decide +kernel
theorem dX9_isWord_9 : decode cX9_isWord 9 = .ok (.iload 4, 2) := by decide +kernel
theorem dX9_isWord_11 : decode cX9_isWord 11 = .ok (.iload_n 3, 1) := by decide +kernel
theorem dX9_isWord_12 : decode cX9_isWord 12 = .ok (.if_icmp .ge 26, 3) := by decide +kernel
theorem dX9_isWord_15 : decode cX9_isWord 15 = .ok (.iload_n 2, 1) := by decide +kernel
theorem dX9_isWord_16 : decode cX9_isWord 16 = .ok (.iload 4, 2) := by decide +kernel
theorem dX9_isWord_18 : decode cX9_isWord 18 = .ok (.iadd, 1) := by decide +kernel
theorem dX9_isWord_19 : decode cX9_isWord 19 = .ok (.aload_n 0, 1) := by decide +kernel
theorem dX9_isWord_20 : decode cX9_isWord 20 = .ok (.getfield 26, 3) := by decide +kernel
theorem dX9_isWord_23 : decode cX9_isWord 23 = .ok (.if_icmp .ge 15, 3) := by decide +kernel
theorem dX9_isWord_26 : decode cX9_isWord 26 = .ok (.aload_n 0, 1) := by decide +kernel
theorem dX9_isWord_27 : decode cX9_isWord 27 = .ok (.getfield 9, 3) := by decide +kernel
theorem dX9_isWord_30 : decode cX9_isWord 30 = .ok (.iload_n 2, 1) := by decide +kernel
theorem dX9_isWord_31 : decode cX9_isWord 31 = .ok (.iload 4, 2) := by decide +kernel
theorem dX9_isWord_33 : decode cX9_isWord 33 = .ok (.iadd, 1) := by decide +kernel
theorem dX9_isWord_34 : decode cX9_isWord 34 = .ok (.baload, 1) := by decide +kernel
theorem dX9_isWord_35 : decode cX9_isWord 35 = .ok (.goto 5, 3) := by decide +kernel
theorem dX9_isWord_38 : decode cX9_isWord 38 = .ok (.bipush 32, 2) := by decide +kernel
theorem dX9_isWord_40 : decode cX9_isWord 40 = .ok (.istore 5, 2) := by decide +kernel
theorem dX9_isWord_42 : decode cX9_isWord 42 = .ok (.ldc 90, 2) := by decide +kernel
theorem dX9_isWord_44 : decode cX9_isWord 44 = .ok (.iload_n 1, 1) := by decide +kernel
theorem dX9_isWord_45 : decode cX9_isWord 45 = .ok (.iconst 5, 1) := by decide +kernel
theorem dX9_isWord_46 : decode cX9_isWord 46 = .ok (.imul, 1) := by decide +kernel
theorem dX9_isWord_47 : decode cX9_isWord 47 = .ok (.iload 4, 2) := by decide +kernel
theorem dX9_isWord_49 : decode cX9_isWord 49 = .ok (.iadd, 1) := by decide +kernel
theorem dX9_isWord_50 : decode cX9_isWord 50 = .ok (.invokevirtual 92, 3) := by decide +kernel
theorem dX9_isWord_53 : decode cX9_isWord 53 = .ok (.iload 5, 2) := by decide +kernel
theorem dX9_isWord_55 : decode cX9_isWord 55 = .ok (.if_icmp .eq 5, 3) := by decide +kernel
theorem dX9_isWord_58 : decode cX9_isWord 58 = .ok (.iconst 0, 1) := by decide +kernel
theorem dX9_isWord_59 : decode cX9_isWord 59 = .ok (.ireturn, 1) := by decide +kernel
theorem dX9_isWord_60 : decode cX9_isWord 60 = .ok (.iinc 4 1, 3) := by decide +kernel
theorem dX9_isWord_63 : decode cX9_isWord 63 = .ok (.goto (-60), 3) := by decide +kernel
theorem dX9_isWord_66 : decode cX9_isWord 66 = .ok (.iconst 1, 1) := by decide +kernel
theorem dX9_isWord_67 : decode cX9_isWord 67 = .ok (.ireturn, 1) := by decide +kernel
def wX9_isWord (cy : Nat → ClassId) (tA : Nat) (t_size : Int32) (t_tokensV : Value) (t_startsV : Value) (t_valuesV : Value) (t_count : Int32) (t_here : Int32) (t_fault : Int32) (t_signsA : Nat) (t_signsN : Nat) (t_signs : Nat → Int32) : va_W :=
  [(tA, .inr (9, [.ref t_signsA, .int t_size, t_tokensV, t_startsV, t_valuesV, .int t_count, .int t_here, .int t_fault])), (t_signsA, .inl (cy 0, t_signsN, .inl t_signs))]
noncomputable def bX9_isWord_L40 (F : Nat) (t_size : Int32) (t_signsN : Nat) (t_signs : Nat → Int32) (k3 : Int32 → Int32 → Int32 → Int32 → Option (Int32)) (x1 : Int32) (x2 : Int32) (x3 : Int32) (x4 : Int32) (s0 : Int32) : Option (Int32) :=
  (fJ0_charAt_5068e_zS0 F ((x1 * (5 : Int32)) + x4)).bind fun R50 => (if R50 = s0 then (k3 x1 x2 x3 (x4 + (1 : Int32))) else (some (0 : Int32)))
theorem vX9_isWord_L40 {l : Launch} {D : va_G} {cy : Nat → ClassId} {av : List Value} {ws0 : va_W} {Q : Option Value → va_W → Prop} (F : Nat) (tA : Nat) (t_size : Int32) (t_tokensV : Value) (t_startsV : Value) (t_valuesV : Value) (t_count : Int32) (t_here : Int32) (t_fault : Int32) (t_signsA : Nat) (t_signsN : Nat) (t_signs : Nat → Int32) (k3 : Int32 → Int32 → Int32 → Int32 → Option (Int32)) (hk3 : ∀ (x1 : Int32) (x2 : Int32) (x3 : Int32) (x4 : Int32) (R : Int32), k3 x1 x2 x3 x4 = some R → Q (some (.int R)) (wX9_isWord cy tA t_size t_tokensV t_startsV t_valuesV t_count t_here t_fault t_signsA t_signsN t_signs) → V l D cy MX9_isWord 4 0 0 av ws0 Q 3 [(0, .ref tA), (1, .int x1), (2, .int x2), (3, .int x3), (4, .int x4)] [] (wX9_isWord cy tA t_size t_tokensV t_startsV t_valuesV t_count t_here t_fault t_signsA t_signsN t_signs) 0 0) (x1 : Int32) (x2 : Int32) (x3 : Int32) (x4 : Int32) (s0 : Int32) (R : Int32) (h : bX9_isWord_L40 F t_size t_signsN t_signs k3 x1 x2 x3 x4 s0 = some R) (hQ : Q (some (.int R)) (wX9_isWord cy tA t_size t_tokensV t_startsV t_valuesV t_count t_here t_fault t_signsA t_signsN t_signs)) : V l D cy MX9_isWord 4 0 0 av ws0 Q 40 [(0, .ref tA), (1, .int x1), (2, .int x2), (3, .int x3), (4, .int x4)] [.int s0] (wX9_isWord cy tA t_size t_tokensV t_startsV t_valuesV t_count t_here t_fault t_signsA t_signsN t_signs) 0 0 := by
  unfold bX9_isWord_L40 at h
  refine V.istore (lv' := [(5, .int s0), (0, .ref tA), (1, .int x1), (2, .int x2), (3, .int x3), (4, .int x4)]) dX9_isWord_40 (by decide) rfl ?_
  refine V.ldcS 0 (by decide) rfl dX9_isWord_42 ?_
  refine V.iload_n dX9_isWord_44 rfl 2 rfl ?_
  refine V.iconst (v := (5 : Int32)) dX9_isWord_45 (by decide) ?_
  refine V.imul dX9_isWord_46 ?_
  refine V.iload dX9_isWord_47 5 rfl ?_
  refine V.iadd dX9_isWord_49 ?_
  obtain ⟨R50, hg50, h⟩ := Option.bind_eq_some_iff.mp h
  refine V.callVz (As := [.int ((x1 * (5 : Int32)) + x4)]) (rest := []) 0 (by decide) (CJ0_charAt_5068e_zS0 F ((x1 * (5 : Int32)) + x4) R50 hg50) kvJ0_charAt_5068e klX9_92 rfl rfl dX9_isWord_50 ⟨by decide, by decide, by decide, by decide⟩ (Nat.le_of_ble_eq_true rfl) (fun r w1 hq => ?_)
  obtain ⟨rfl, rfl⟩ := hq
  refine V.cells (ws' := (wX9_isWord cy tA t_size t_tokensV t_startsV t_valuesV t_count t_here t_fault t_signsA t_signsN t_signs)) [0, 1] (by decide) rfl ?_
  show V l D cy MX9_isWord 4 0 0 _ _ _ 53 [(5, .int s0), (0, .ref tA), (1, .int x1), (2, .int x2), (3, .int x3), (4, .int x4)] [.int R50] (wX9_isWord cy tA t_size t_tokensV t_startsV t_valuesV t_count t_here t_fault t_signsA t_signsN t_signs) 0 0
  refine V.iload dX9_isWord_53 0 rfl ?_
  refine V.icmp_eq (tgt := 60) dX9_isWord_55 (by decide) (fun hc55 => ?_) (fun hc55 => ?_)
  · replace h := (if_pos hc55).symm.trans h
    refine V.iinc (v := x4 + (1 : Int32)) (lv' := [(4, .int (x4 + (1 : Int32))), (5, .int s0), (0, .ref tA), (1, .int x1), (2, .int x2), (3, .int x3)]) dX9_isWord_60 5 rfl rfl (by decide) rfl ?_
    refine V.goto (tgt := 3) dX9_isWord_63 (by decide) ?_
    refine V.lvs [2, 3, 4, 5, 0] rfl ?_
    exact hk3 _ _ _ _ R h hQ
  · replace h := (if_neg hc55).symm.trans h
    refine V.iconst (v := (0 : Int32)) dX9_isWord_58 (by decide) ?_
    have e9 := Option.some.inj h; subst e9
    exact V.iret (ty := .boolean) rfl rfl dX9_isWord_59 (Nat.le_refl _) (Nat.le_refl _) hQ
noncomputable def bX9_isWord_L38 (F : Nat) (t_size : Int32) (t_signsN : Nat) (t_signs : Nat → Int32) (k3 : Int32 → Int32 → Int32 → Int32 → Option (Int32)) (x1 : Int32) (x2 : Int32) (x3 : Int32) (x4 : Int32) : Option (Int32) :=
  bX9_isWord_L40 F t_size t_signsN t_signs k3 x1 x2 x3 x4 (32 : Int32)
theorem vX9_isWord_L38 {l : Launch} {D : va_G} {cy : Nat → ClassId} {av : List Value} {ws0 : va_W} {Q : Option Value → va_W → Prop} (F : Nat) (tA : Nat) (t_size : Int32) (t_tokensV : Value) (t_startsV : Value) (t_valuesV : Value) (t_count : Int32) (t_here : Int32) (t_fault : Int32) (t_signsA : Nat) (t_signsN : Nat) (t_signs : Nat → Int32) (k3 : Int32 → Int32 → Int32 → Int32 → Option (Int32)) (hk3 : ∀ (x1 : Int32) (x2 : Int32) (x3 : Int32) (x4 : Int32) (R : Int32), k3 x1 x2 x3 x4 = some R → Q (some (.int R)) (wX9_isWord cy tA t_size t_tokensV t_startsV t_valuesV t_count t_here t_fault t_signsA t_signsN t_signs) → V l D cy MX9_isWord 4 0 0 av ws0 Q 3 [(0, .ref tA), (1, .int x1), (2, .int x2), (3, .int x3), (4, .int x4)] [] (wX9_isWord cy tA t_size t_tokensV t_startsV t_valuesV t_count t_here t_fault t_signsA t_signsN t_signs) 0 0) (x1 : Int32) (x2 : Int32) (x3 : Int32) (x4 : Int32) (R : Int32) (h : bX9_isWord_L38 F t_size t_signsN t_signs k3 x1 x2 x3 x4 = some R) (hQ : Q (some (.int R)) (wX9_isWord cy tA t_size t_tokensV t_startsV t_valuesV t_count t_here t_fault t_signsA t_signsN t_signs)) : V l D cy MX9_isWord 4 0 0 av ws0 Q 38 [(0, .ref tA), (1, .int x1), (2, .int x2), (3, .int x3), (4, .int x4)] [] (wX9_isWord cy tA t_size t_tokensV t_startsV t_valuesV t_count t_here t_fault t_signsA t_signsN t_signs) 0 0 := by
  unfold bX9_isWord_L38 at h
  refine V.bipush (v := (32 : Int32)) dX9_isWord_38 (by decide) ?_
  exact vX9_isWord_L40 _ _ _ _ _ _ _ _ _ _ _ _ _ hk3  _ _ _ _ _ R h hQ
noncomputable def bX9_isWord_L3 (F : Nat) (t_size : Int32) (t_signsN : Nat) (t_signs : Nat → Int32) (k3 : Int32 → Int32 → Int32 → Int32 → Option (Int32)) (x1 : Int32) (x2 : Int32) (x3 : Int32) (x4 : Int32) : Option (Int32) :=
  if (5 : Int32) ≤ x4 then (some (1 : Int32)) else (if x3 ≤ x4 then (bX9_isWord_L38 F t_size t_signsN t_signs k3 x1 x2 x3 x4) else (if t_size ≤ (x2 + x4) then (bX9_isWord_L38 F t_size t_signsN t_signs k3 x1 x2 x3 x4) else (if (x2 + x4) < 0 ∨ t_signsN ≤ (x2 + x4).toNatClampNeg then none else (bX9_isWord_L40 F t_size t_signsN t_signs k3 x1 x2 x3 x4 (t_signs (x2 + x4).toNatClampNeg)))))
theorem vbX9_isWord_L3 {l : Launch} {D : va_G} {cy : Nat → ClassId} {av : List Value} {ws0 : va_W} {Q : Option Value → va_W → Prop} (F : Nat) (tA : Nat) (t_size : Int32) (t_tokensV : Value) (t_startsV : Value) (t_valuesV : Value) (t_count : Int32) (t_here : Int32) (t_fault : Int32) (t_signsA : Nat) (t_signsN : Nat) (t_signs : Nat → Int32) (k3 : Int32 → Int32 → Int32 → Int32 → Option (Int32)) (hk3 : ∀ (x1 : Int32) (x2 : Int32) (x3 : Int32) (x4 : Int32) (R : Int32), k3 x1 x2 x3 x4 = some R → Q (some (.int R)) (wX9_isWord cy tA t_size t_tokensV t_startsV t_valuesV t_count t_here t_fault t_signsA t_signsN t_signs) → V l D cy MX9_isWord 4 0 0 av ws0 Q 3 [(0, .ref tA), (1, .int x1), (2, .int x2), (3, .int x3), (4, .int x4)] [] (wX9_isWord cy tA t_size t_tokensV t_startsV t_valuesV t_count t_here t_fault t_signsA t_signsN t_signs) 0 0) (x1 : Int32) (x2 : Int32) (x3 : Int32) (x4 : Int32) (R : Int32) (h : bX9_isWord_L3 F t_size t_signsN t_signs k3 x1 x2 x3 x4 = some R) (hQ : Q (some (.int R)) (wX9_isWord cy tA t_size t_tokensV t_startsV t_valuesV t_count t_here t_fault t_signsA t_signsN t_signs)) : V l D cy MX9_isWord 4 0 0 av ws0 Q 3 [(0, .ref tA), (1, .int x1), (2, .int x2), (3, .int x3), (4, .int x4)] [] (wX9_isWord cy tA t_size t_tokensV t_startsV t_valuesV t_count t_here t_fault t_signsA t_signsN t_signs) 0 0 := by
  unfold bX9_isWord_L3 at h
  refine V.iload dX9_isWord_3 4 rfl ?_
  refine V.iconst (v := (5 : Int32)) dX9_isWord_5 (by decide) ?_
  refine V.icmp_ge (tgt := 66) dX9_isWord_6 (by decide) (fun hc6 => ?_) (fun hc6 => ?_)
  · replace h := (if_pos hc6).symm.trans h
    refine V.iconst (v := (1 : Int32)) dX9_isWord_66 (by decide) ?_
    have e9 := Option.some.inj h; subst e9
    exact V.iret (ty := .boolean) rfl rfl dX9_isWord_67 (Nat.le_refl _) (Nat.le_refl _) hQ
  · replace h := (if_neg hc6).symm.trans h
    refine V.iload dX9_isWord_9 4 rfl ?_
    refine V.iload_n dX9_isWord_11 rfl 3 rfl ?_
    refine V.icmp_ge (tgt := 38) dX9_isWord_12 (by decide) (fun hc12 => ?_) (fun hc12 => ?_)
    · replace h := (if_pos hc12).symm.trans h
      exact vX9_isWord_L38 _ _ _ _ _ _ _ _ _ _ _ _ _ hk3  _ _ _ _ R h hQ
    · replace h := (if_neg hc12).symm.trans h
      refine V.iload_n dX9_isWord_15 rfl 2 rfl ?_
      refine V.iload dX9_isWord_16 4 rfl ?_
      refine V.iadd dX9_isWord_18 ?_
      refine V.aload_n dX9_isWord_19 rfl 0 rfl ?_
      refine V.get kfX9 0 rfl rfl 1 (by decide) klX9_26 rfl dX9_isWord_20 ?_
      refine V.icmp_ge (tgt := 38) dX9_isWord_23 (by decide) (fun hc23 => ?_) (fun hc23 => ?_)
      · replace h := (if_pos hc23).symm.trans h
        exact vX9_isWord_L38 _ _ _ _ _ _ _ _ _ _ _ _ _ hk3  _ _ _ _ R h hQ
      · replace h := (if_neg hc23).symm.trans h
        refine V.aload_n dX9_isWord_26 rfl 0 rfl ?_
        refine V.get kfX9 0 rfl rfl 0 (by decide) klX9_9 rfl dX9_isWord_27 ?_
        refine V.iload_n dX9_isWord_30 rfl 2 rfl ?_
        refine V.iload dX9_isWord_31 4 rfl ?_
        refine V.iadd dX9_isWord_33 ?_
        by_cases hb34 : (x2 + x4) < 0 ∨ t_signsN ≤ (x2 + x4).toNatClampNeg
        · exact vNone ((if_pos hb34).symm.trans h)
        replace h := (if_neg hb34).symm.trans h
        refine V.bald dX9_isWord_34 1 rfl hb34 ?_
        refine V.goto (tgt := 40) dX9_isWord_35 (by decide) ?_
        exact vX9_isWord_L40 _ _ _ _ _ _ _ _ _ _ _ _ _ hk3  _ _ _ _ _ R h hQ
noncomputable def fX9_isWord_L3 (F : Nat) (t_size : Int32) (t_signsN : Nat) (t_signs : Nat → Int32)  : Nat → Int32 → Int32 → Int32 → Int32 → Option (Int32)
  | 0 => fun _ _ _ _ => none
  | n + 1 => bX9_isWord_L3 F t_size t_signsN t_signs (fX9_isWord_L3 F t_size t_signsN t_signs  n)
theorem vX9_isWord_L3 {l : Launch} {D : va_G} {cy : Nat → ClassId} {av : List Value} {ws0 : va_W} {Q : Option Value → va_W → Prop} (F : Nat) (tA : Nat) (t_size : Int32) (t_tokensV : Value) (t_startsV : Value) (t_valuesV : Value) (t_count : Int32) (t_here : Int32) (t_fault : Int32) (t_signsA : Nat) (t_signsN : Nat) (t_signs : Nat → Int32)  : ∀ (n : Nat) (x1 : Int32) (x2 : Int32) (x3 : Int32) (x4 : Int32) (R : Int32), fX9_isWord_L3 F t_size t_signsN t_signs  n x1 x2 x3 x4 = some R → Q (some (.int R)) (wX9_isWord cy tA t_size t_tokensV t_startsV t_valuesV t_count t_here t_fault t_signsA t_signsN t_signs) → V l D cy MX9_isWord 4 0 0 av ws0 Q 3 [(0, .ref tA), (1, .int x1), (2, .int x2), (3, .int x3), (4, .int x4)] [] (wX9_isWord cy tA t_size t_tokensV t_startsV t_valuesV t_count t_here t_fault t_signsA t_signsN t_signs) 0 0 := by
  intro n
  induction n with
  | zero => intro x1 x2 x3 x4 R h; exact vNone h
  | succ n ih => intro x1 x2 x3 x4 R h hQ; exact vbX9_isWord_L3 F tA t_size t_tokensV t_startsV t_valuesV t_count t_here t_fault t_signsA t_signsN t_signs _ ih x1 x2 x3 x4 R h hQ
noncomputable def fX9_isWord (F : Nat) (t_size : Int32) (t_signsN : Nat) (t_signs : Nat → Int32) (a1 : Int32) (a2 : Int32) (a3 : Int32) : Option (Int32) :=
  fX9_isWord_L3 F t_size t_signsN t_signs F a1 a2 a3 (0 : Int32)
theorem CX9_isWord {l : Launch} {D : va_G} {cy : Nat → ClassId} (F : Nat) (tA : Nat) (t_size : Int32) (t_tokensV : Value) (t_startsV : Value) (t_valuesV : Value) (t_count : Int32) (t_here : Int32) (t_fault : Int32) (t_signsA : Nat) (t_signsN : Nat) (t_signs : Nat → Int32) (a1 : Int32) (a2 : Int32) (a3 : Int32) (R : Int32) (h : fX9_isWord F t_size t_signsN t_signs a1 a2 a3 = some R) : vMet l D cy MX9_isWord 4 0 0 [.ref tA, .int a1, .int a2, .int a3] (wX9_isWord cy tA t_size t_tokensV t_startsV t_valuesV t_count t_here t_fault t_signsA t_signsN t_signs) (fun (r : Option Value) (w : va_W) => r = (some (.int R)) ∧ w = (wX9_isWord cy tA t_size t_tokensV t_startsV t_valuesV t_count t_here t_fault t_signsA t_signsN t_signs)) := by
  refine vMet.start (by decide +kernel) (Nat.le_of_ble_eq_true rfl) ?_
  generalize hQe : (fun (r : Option Value) (w : va_W) => r = (some (.int R)) ∧ w = (wX9_isWord cy tA t_size t_tokensV t_startsV t_valuesV t_count t_here t_fault t_signsA t_signsN t_signs)) = Q
  have hQ : Q (some (.int R)) (wX9_isWord cy tA t_size t_tokensV t_startsV t_valuesV t_count t_here t_fault t_signsA t_signsN t_signs) := by rw [← hQe]; exact ⟨rfl, rfl⟩
  show V l D cy MX9_isWord 4 0 0 _ _ Q 0 [(0, .ref tA), (1, .int a1), (2, .int a2), (3, .int a3)] [] _ 0 0
  show V l D cy MX9_isWord 4 0 0 [.ref tA, .int a1, .int a2, .int a3] _ Q 0 [(0, .ref tA), (1, .int a1), (2, .int a2), (3, .int a3)] [] (wX9_isWord cy tA t_size t_tokensV t_startsV t_valuesV t_count t_here t_fault t_signsA t_signsN t_signs) 0 0
  unfold fX9_isWord at h
  refine V.iconst (v := (0 : Int32)) dX9_isWord_0 (by decide) ?_
  refine V.istore (lv' := [(4, .int (0 : Int32)), (0, .ref tA), (1, .int a1), (2, .int a2), (3, .int a3)]) dX9_isWord_1 (by decide) rfl ?_
  refine V.lvs [1, 2, 3, 4, 0] rfl ?_
  exact vX9_isWord_L3 _ _ _ _ _ _ _ _ _ _ _ _  _ _ _ _ _ R h hQ
theorem dX11_sum_0 : decode cX11_sum 0 = .ok (.aload_n 0, 1) := by decide +kernel
theorem dX11_sum_1 : decode cX11_sum 1 = .ok (.getfield 19, 3) := by decide +kernel
theorem dX11_sum_4 : decode cX11_sum 4 = .ok (.iload_n 1, 1) := by decide +kernel
theorem dX11_sum_5 : decode cX11_sum 5 = .ok (.invokevirtual 135, 3) := by decide +kernel
theorem dX11_sum_8 : decode cX11_sum 8 = .ok (.ifCond .ne 11, 3) := by decide +kernel
theorem dX11_sum_11 : decode cX11_sum 11 = .ok (.new 204, 3) := by decide +kernel
theorem dX11_sum_14 : decode cX11_sum 14 = .ok (.dup, 1) := by decide +kernel
theorem dX11_sum_15 : decode cX11_sum 15 = .ok (.invokespecial 206, 3) := by decide +kernel
theorem dX11_sum_18 : decode cX11_sum 18 = .ok (.athrow, 1) := by decide +kernel
theorem dX11_sum_19 : decode cX11_sum 19 = .ok (.iconst 0, 1) := by decide +kernel
theorem dX11_sum_20 : decode cX11_sum 20 = .ok (.istore_n 2, 1) := by decide +kernel
theorem dX11_sum_21 : decode cX11_sum 21 = .ok (.iconst 0, 1) := by decide +kernel
theorem dX11_sum_22 : decode cX11_sum 22 = .ok (.istore_n 3, 1) := by decide +kernel
theorem dX11_sum_23 : decode cX11_sum 23 = .ok (.iload_n 3, 1) := by decide +kernel
theorem dX11_sum_24 : decode cX11_sum 24 = .ok (.aload_n 0, 1) := by decide +kernel
theorem dX11_sum_25 : decode cX11_sum 25 = .ok (.getfield 38, 3) := by decide +kernel
theorem dX11_sum_28 : decode cX11_sum 28 = .ok (.getfield 146, 3) := by decide +kernel
theorem dX11_sum_31 : decode cX11_sum 31 = .ok (.getfield 159, 3) := by decide +kernel
theorem dX11_sum_34 : decode cX11_sum 34 = .ok (.if_icmp .ge 40, 3) := by decide +kernel
theorem dX11_sum_37 : decode cX11_sum 37 = .ok (.aload_n 0, 1) := by decide +kernel
theorem dX11_sum_38 : decode cX11_sum 38 = .ok (.getfield 38, 3) := by decide +kernel
theorem dX11_sum_41 : decode cX11_sum 41 = .ok (.getfield 146, 3) := by decide +kernel
theorem dX11_sum_44 : decode cX11_sum 44 = .ok (.getfield 207, 3) := by decide +kernel
theorem dX11_sum_47 : decode cX11_sum 47 = .ok (.iload_n 3, 1) := by decide +kernel
theorem dX11_sum_48 : decode cX11_sum 48 = .ok (.iaload, 1) := by decide +kernel
theorem dX11_sum_49 : decode cX11_sum 49 = .ok (.istore 4, 2) := by decide +kernel
theorem dX11_sum_51 : decode cX11_sum 51 = .ok (.iload 4, 2) := by decide +kernel
theorem dX11_sum_53 : decode cX11_sum 53 = .ok (.invokestatic 210, 3) := by decide +kernel
theorem dX11_sum_56 : decode cX11_sum 56 = .ok (.iload_n 1, 1) := by decide +kernel
theorem dX11_sum_57 : decode cX11_sum 57 = .ok (.if_icmp .ne 11, 3) := by decide +kernel
theorem dX11_sum_60 : decode cX11_sum 60 = .ok (.iload_n 2, 1) := by decide +kernel
theorem dX11_sum_61 : decode cX11_sum 61 = .ok (.iload 4, 2) := by decide +kernel
theorem dX11_sum_63 : decode cX11_sum 63 = .ok (.invokestatic 213, 3) := by decide +kernel
theorem dX11_sum_66 : decode cX11_sum 66 = .ok (.iadd, 1) := by decide +kernel
theorem dX11_sum_67 : decode cX11_sum 67 = .ok (.istore_n 2, 1) := by decide +kernel
theorem dX11_sum_68 : decode cX11_sum 68 = .ok (.iinc 3 1, 3) := by decide +kernel
theorem dX11_sum_71 : decode cX11_sum 71 = .ok (.goto (-48), 3) := by decide +kernel
theorem dX11_sum_74 : decode cX11_sum 74 = .ok (.aload_n 0, 1) := by decide +kernel
theorem dX11_sum_75 : decode cX11_sum 75 = .ok (.getfield 19, 3) := by decide +kernel
theorem dX11_sum_78 : decode cX11_sum 78 = .ok (.iload_n 1, 1) := by decide +kernel
theorem dX11_sum_79 : decode cX11_sum 79 = .ok (.iload_n 2, 1) := by decide +kernel
theorem dX11_sum_80 : decode cX11_sum 80 = .ok (.invokevirtual 216, 3) := by decide +kernel
theorem dX11_sum_83 : decode cX11_sum 83 = .ok (.ireturn, 1) := by decide +kernel
def wX11_sum (cy : Nat → ClassId) (tA : Nat) (t_tapeV : Value) (t_spareNetV : Value) (t_heardV : Value) (t_marksV : Value) (t_pastV : Value) (t_pileV : Value) (t_knotV : Value) (t_secondV : Value) (t_trialsV : Value) (t_cutterV : Value) (t_placingsV : Value) (t_ringsV : Value) (t_netA : Nat) (t_net_namesV : Value) (t_net_kindsV : Value) (t_net_kinV : Value) (t_net_stopsV : Value) (t_net_folks : Int32) (t_net_pairs : Int32) (t_net_line : Int32) (t_net_rope : Int32) (t_net_lineTold : Int32) (t_net_ropeTold : Int32) (t_net_lawV : Value) (t_net_takenV : Value) (t_net_roundsA : Nat) (t_net_roundsN : Nat) (t_net_rounds : Nat → Int32) (t_nowA : Nat) (t_now_yearV : Value) (t_now_otherV : Value) (t_now_earlierV : Value) (t_now_laterV : Value) (t_now_aheads : Int32) (t_now_laid : Int32) (t_now_lineA : Nat) (t_now_line_size : Int32) (t_now_line_tiesA : Nat) (t_now_line_tiesN : Nat) (t_now_line_ties : Nat → Int32) : va_W :=
  [(tA, .inr (11, [t_tapeV, .ref t_netA, t_spareNetV, t_heardV, .ref t_nowA, t_marksV, t_pastV, t_pileV, t_knotV, t_secondV, t_trialsV, t_cutterV, t_placingsV, t_ringsV])), (t_netA, .inr (2, [t_net_namesV, t_net_kindsV, t_net_kinV, t_net_stopsV, .ref t_net_roundsA, .int t_net_folks, .int t_net_pairs, .int t_net_line, .int t_net_rope, .int t_net_lineTold, .int t_net_ropeTold, t_net_lawV, t_net_takenV])), (t_net_roundsA, .inl (cy 1, t_net_roundsN, .inl t_net_rounds)), (t_nowA, .inr (8, [.ref t_now_lineA, t_now_yearV, t_now_otherV, t_now_earlierV, t_now_laterV, .int t_now_aheads, .int t_now_laid])), (t_now_lineA, .inr (7, [.ref t_now_line_tiesA, .int t_now_line_size])), (t_now_line_tiesA, .inl (cy 1, t_now_line_tiesN, .inl t_now_line_ties))]
noncomputable def bX11_sum_L68 (F : Nat) (t_net_folks : Int32) (t_net_roundsN : Nat) (t_net_rounds : Nat → Int32) (t_now_line_size : Int32) (t_now_line_tiesN : Nat) (t_now_line_ties : Nat → Int32) (k23 : Int32 → Int32 → Int32 → Option (Int32)) (x1 : Int32) (x2 : Int32) (x3 : Int32) : Option (Int32) :=
  k23 x1 x2 (x3 + (1 : Int32))
theorem vX11_sum_L68 {l : Launch} {D : va_G} {cy : Nat → ClassId} {av : List Value} {ws0 : va_W} {Q : Option Value → va_W → Prop} (F : Nat) (tA : Nat) (t_tapeV : Value) (t_spareNetV : Value) (t_heardV : Value) (t_marksV : Value) (t_pastV : Value) (t_pileV : Value) (t_knotV : Value) (t_secondV : Value) (t_trialsV : Value) (t_cutterV : Value) (t_placingsV : Value) (t_ringsV : Value) (t_netA : Nat) (t_net_namesV : Value) (t_net_kindsV : Value) (t_net_kinV : Value) (t_net_stopsV : Value) (t_net_folks : Int32) (t_net_pairs : Int32) (t_net_line : Int32) (t_net_rope : Int32) (t_net_lineTold : Int32) (t_net_ropeTold : Int32) (t_net_lawV : Value) (t_net_takenV : Value) (t_net_roundsA : Nat) (t_net_roundsN : Nat) (t_net_rounds : Nat → Int32) (t_nowA : Nat) (t_now_yearV : Value) (t_now_otherV : Value) (t_now_earlierV : Value) (t_now_laterV : Value) (t_now_aheads : Int32) (t_now_laid : Int32) (t_now_lineA : Nat) (t_now_line_size : Int32) (t_now_line_tiesA : Nat) (t_now_line_tiesN : Nat) (t_now_line_ties : Nat → Int32) (k23 : Int32 → Int32 → Int32 → Option (Int32)) (hk23 : ∀ (x1 : Int32) (x2 : Int32) (x3 : Int32) (R : Int32), k23 x1 x2 x3 = some R → Q (some (.int R)) (wX11_sum cy tA t_tapeV t_spareNetV t_heardV t_marksV t_pastV t_pileV t_knotV t_secondV t_trialsV t_cutterV t_placingsV t_ringsV t_netA t_net_namesV t_net_kindsV t_net_kinV t_net_stopsV t_net_folks t_net_pairs t_net_line t_net_rope t_net_lineTold t_net_ropeTold t_net_lawV t_net_takenV t_net_roundsA t_net_roundsN t_net_rounds t_nowA t_now_yearV t_now_otherV t_now_earlierV t_now_laterV t_now_aheads t_now_laid t_now_lineA t_now_line_size t_now_line_tiesA t_now_line_tiesN t_now_line_ties) → V l D cy MX11_sum 2 0 0 av ws0 Q 23 [(0, .ref tA), (1, .int x1), (2, .int x2), (3, .int x3)] [] (wX11_sum cy tA t_tapeV t_spareNetV t_heardV t_marksV t_pastV t_pileV t_knotV t_secondV t_trialsV t_cutterV t_placingsV t_ringsV t_netA t_net_namesV t_net_kindsV t_net_kinV t_net_stopsV t_net_folks t_net_pairs t_net_line t_net_rope t_net_lineTold t_net_ropeTold t_net_lawV t_net_takenV t_net_roundsA t_net_roundsN t_net_rounds t_nowA t_now_yearV t_now_otherV t_now_earlierV t_now_laterV t_now_aheads t_now_laid t_now_lineA t_now_line_size t_now_line_tiesA t_now_line_tiesN t_now_line_ties) 0 0) (x1 : Int32) (x2 : Int32) (x3 : Int32) (R : Int32) (h : bX11_sum_L68 F t_net_folks t_net_roundsN t_net_rounds t_now_line_size t_now_line_tiesN t_now_line_ties k23 x1 x2 x3 = some R) (hQ : Q (some (.int R)) (wX11_sum cy tA t_tapeV t_spareNetV t_heardV t_marksV t_pastV t_pileV t_knotV t_secondV t_trialsV t_cutterV t_placingsV t_ringsV t_netA t_net_namesV t_net_kindsV t_net_kinV t_net_stopsV t_net_folks t_net_pairs t_net_line t_net_rope t_net_lineTold t_net_ropeTold t_net_lawV t_net_takenV t_net_roundsA t_net_roundsN t_net_rounds t_nowA t_now_yearV t_now_otherV t_now_earlierV t_now_laterV t_now_aheads t_now_laid t_now_lineA t_now_line_size t_now_line_tiesA t_now_line_tiesN t_now_line_ties)) : V l D cy MX11_sum 2 0 0 av ws0 Q 68 [(0, .ref tA), (1, .int x1), (2, .int x2), (3, .int x3)] [] (wX11_sum cy tA t_tapeV t_spareNetV t_heardV t_marksV t_pastV t_pileV t_knotV t_secondV t_trialsV t_cutterV t_placingsV t_ringsV t_netA t_net_namesV t_net_kindsV t_net_kinV t_net_stopsV t_net_folks t_net_pairs t_net_line t_net_rope t_net_lineTold t_net_ropeTold t_net_lawV t_net_takenV t_net_roundsA t_net_roundsN t_net_rounds t_nowA t_now_yearV t_now_otherV t_now_earlierV t_now_laterV t_now_aheads t_now_laid t_now_lineA t_now_line_size t_now_line_tiesA t_now_line_tiesN t_now_line_ties) 0 0 := by
  unfold bX11_sum_L68 at h
  refine V.iinc (v := x3 + (1 : Int32)) (lv' := [(3, .int (x3 + (1 : Int32))), (0, .ref tA), (1, .int x1), (2, .int x2)]) dX11_sum_68 3 rfl rfl (by decide) rfl ?_
  refine V.goto (tgt := 23) dX11_sum_71 (by decide) ?_
  refine V.lvs [1, 2, 3, 0] rfl ?_
  exact hk23 _ _ _ R h hQ
noncomputable def bX11_sum_L23 (F : Nat) (t_net_folks : Int32) (t_net_roundsN : Nat) (t_net_rounds : Nat → Int32) (t_now_line_size : Int32) (t_now_line_tiesN : Nat) (t_now_line_ties : Nat → Int32) (k23 : Int32 → Int32 → Int32 → Option (Int32)) (x1 : Int32) (x2 : Int32) (x3 : Int32) : Option (Int32) :=
  if t_now_line_size ≤ x3 then ((fX2_rounded F t_net_folks t_net_roundsN t_net_rounds x1 x2).bind fun R80 => (some R80)) else (if x3 < 0 ∨ t_now_line_tiesN ≤ x3.toNatClampNeg then none else ((fX7_folkOf F (t_now_line_ties (x3).toNatClampNeg)).bind fun R53 => (if R53 = x1 then ((fX7_countOf F (t_now_line_ties (x3).toNatClampNeg)).bind fun R63 => (bX11_sum_L68 F t_net_folks t_net_roundsN t_net_rounds t_now_line_size t_now_line_tiesN t_now_line_ties k23 x1 (x2 + R63) x3)) else (bX11_sum_L68 F t_net_folks t_net_roundsN t_net_rounds t_now_line_size t_now_line_tiesN t_now_line_ties k23 x1 x2 x3))))
theorem vbX11_sum_L23 {l : Launch} {D : va_G} {cy : Nat → ClassId} {av : List Value} {ws0 : va_W} {Q : Option Value → va_W → Prop} (F : Nat) (tA : Nat) (t_tapeV : Value) (t_spareNetV : Value) (t_heardV : Value) (t_marksV : Value) (t_pastV : Value) (t_pileV : Value) (t_knotV : Value) (t_secondV : Value) (t_trialsV : Value) (t_cutterV : Value) (t_placingsV : Value) (t_ringsV : Value) (t_netA : Nat) (t_net_namesV : Value) (t_net_kindsV : Value) (t_net_kinV : Value) (t_net_stopsV : Value) (t_net_folks : Int32) (t_net_pairs : Int32) (t_net_line : Int32) (t_net_rope : Int32) (t_net_lineTold : Int32) (t_net_ropeTold : Int32) (t_net_lawV : Value) (t_net_takenV : Value) (t_net_roundsA : Nat) (t_net_roundsN : Nat) (t_net_rounds : Nat → Int32) (t_nowA : Nat) (t_now_yearV : Value) (t_now_otherV : Value) (t_now_earlierV : Value) (t_now_laterV : Value) (t_now_aheads : Int32) (t_now_laid : Int32) (t_now_lineA : Nat) (t_now_line_size : Int32) (t_now_line_tiesA : Nat) (t_now_line_tiesN : Nat) (t_now_line_ties : Nat → Int32) (k23 : Int32 → Int32 → Int32 → Option (Int32)) (hk23 : ∀ (x1 : Int32) (x2 : Int32) (x3 : Int32) (R : Int32), k23 x1 x2 x3 = some R → Q (some (.int R)) (wX11_sum cy tA t_tapeV t_spareNetV t_heardV t_marksV t_pastV t_pileV t_knotV t_secondV t_trialsV t_cutterV t_placingsV t_ringsV t_netA t_net_namesV t_net_kindsV t_net_kinV t_net_stopsV t_net_folks t_net_pairs t_net_line t_net_rope t_net_lineTold t_net_ropeTold t_net_lawV t_net_takenV t_net_roundsA t_net_roundsN t_net_rounds t_nowA t_now_yearV t_now_otherV t_now_earlierV t_now_laterV t_now_aheads t_now_laid t_now_lineA t_now_line_size t_now_line_tiesA t_now_line_tiesN t_now_line_ties) → V l D cy MX11_sum 2 0 0 av ws0 Q 23 [(0, .ref tA), (1, .int x1), (2, .int x2), (3, .int x3)] [] (wX11_sum cy tA t_tapeV t_spareNetV t_heardV t_marksV t_pastV t_pileV t_knotV t_secondV t_trialsV t_cutterV t_placingsV t_ringsV t_netA t_net_namesV t_net_kindsV t_net_kinV t_net_stopsV t_net_folks t_net_pairs t_net_line t_net_rope t_net_lineTold t_net_ropeTold t_net_lawV t_net_takenV t_net_roundsA t_net_roundsN t_net_rounds t_nowA t_now_yearV t_now_otherV t_now_earlierV t_now_laterV t_now_aheads t_now_laid t_now_lineA t_now_line_size t_now_line_tiesA t_now_line_tiesN t_now_line_ties) 0 0) (x1 : Int32) (x2 : Int32) (x3 : Int32) (R : Int32) (h : bX11_sum_L23 F t_net_folks t_net_roundsN t_net_rounds t_now_line_size t_now_line_tiesN t_now_line_ties k23 x1 x2 x3 = some R) (hQ : Q (some (.int R)) (wX11_sum cy tA t_tapeV t_spareNetV t_heardV t_marksV t_pastV t_pileV t_knotV t_secondV t_trialsV t_cutterV t_placingsV t_ringsV t_netA t_net_namesV t_net_kindsV t_net_kinV t_net_stopsV t_net_folks t_net_pairs t_net_line t_net_rope t_net_lineTold t_net_ropeTold t_net_lawV t_net_takenV t_net_roundsA t_net_roundsN t_net_rounds t_nowA t_now_yearV t_now_otherV t_now_earlierV t_now_laterV t_now_aheads t_now_laid t_now_lineA t_now_line_size t_now_line_tiesA t_now_line_tiesN t_now_line_ties)) : V l D cy MX11_sum 2 0 0 av ws0 Q 23 [(0, .ref tA), (1, .int x1), (2, .int x2), (3, .int x3)] [] (wX11_sum cy tA t_tapeV t_spareNetV t_heardV t_marksV t_pastV t_pileV t_knotV t_secondV t_trialsV t_cutterV t_placingsV t_ringsV t_netA t_net_namesV t_net_kindsV t_net_kinV t_net_stopsV t_net_folks t_net_pairs t_net_line t_net_rope t_net_lineTold t_net_ropeTold t_net_lawV t_net_takenV t_net_roundsA t_net_roundsN t_net_rounds t_nowA t_now_yearV t_now_otherV t_now_earlierV t_now_laterV t_now_aheads t_now_laid t_now_lineA t_now_line_size t_now_line_tiesA t_now_line_tiesN t_now_line_ties) 0 0 := by
  unfold bX11_sum_L23 at h
  refine V.iload_n dX11_sum_23 rfl 3 rfl ?_
  refine V.aload_n dX11_sum_24 rfl 0 rfl ?_
  refine V.get kfX11 0 rfl rfl 4 (by decide) klX11_38 rfl dX11_sum_25 ?_
  refine V.get kfX8 3 rfl rfl 0 (by decide) klX11_146 rfl dX11_sum_28 ?_
  refine V.get kfX7 4 rfl rfl 1 (by decide) klX11_159 rfl dX11_sum_31 ?_
  refine V.icmp_ge (tgt := 74) dX11_sum_34 (by decide) (fun hc34 => ?_) (fun hc34 => ?_)
  · replace h := (if_pos hc34).symm.trans h
    refine V.aload_n dX11_sum_74 rfl 0 rfl ?_
    refine V.get kfX11 0 rfl rfl 1 (by decide) klX11_19 rfl dX11_sum_75 ?_
    refine V.iload_n dX11_sum_78 rfl 1 rfl ?_
    refine V.iload_n dX11_sum_79 rfl 2 rfl ?_
    obtain ⟨R80, hg80, h⟩ := Option.bind_eq_some_iff.mp h
    refine V.callV (As := [.int x1, .int x2]) (rest := []) (wc := (wX2_rounded cy t_netA t_net_namesV t_net_kindsV t_net_kinV t_net_stopsV t_net_folks t_net_pairs t_net_line t_net_rope t_net_lineTold t_net_ropeTold t_net_lawV t_net_takenV t_net_roundsA t_net_roundsN t_net_rounds)) (wr := [(tA, .inr (11, [t_tapeV, .ref t_netA, t_spareNetV, t_heardV, .ref t_nowA, t_marksV, t_pastV, t_pileV, t_knotV, t_secondV, t_trialsV, t_cutterV, t_placingsV, t_ringsV])), (t_nowA, .inr (8, [.ref t_now_lineA, t_now_yearV, t_now_otherV, t_now_earlierV, t_now_laterV, .int t_now_aheads, .int t_now_laid])), (t_now_lineA, .inr (7, [.ref t_now_line_tiesA, .int t_now_line_size])), (t_now_line_tiesA, .inl (cy 1, t_now_line_tiesN, .inl t_now_line_ties))]) (q0 := 1) (CX2_rounded F t_netA t_net_namesV t_net_kindsV t_net_kinV t_net_stopsV t_net_folks t_net_pairs t_net_line t_net_rope t_net_lineTold t_net_ropeTold t_net_lawV t_net_takenV t_net_roundsA t_net_roundsN t_net_rounds x1 x2 R80 hg80) kvX2_rounded klX11_216 [1, 2] [0, 3, 4, 5] rfl rfl (by decide) (by decide) (by decide) rfl rfl rfl rfl dX11_sum_80 ⟨by decide, by decide, by decide, by decide⟩ (Nat.le_of_ble_eq_true rfl) (fun r w1 hq => ?_)
    obtain ⟨rfl, rfl⟩ := hq
    refine V.cells (ws' := (wX11_sum cy tA t_tapeV t_spareNetV t_heardV t_marksV t_pastV t_pileV t_knotV t_secondV t_trialsV t_cutterV t_placingsV t_ringsV t_netA t_net_namesV t_net_kindsV t_net_kinV t_net_stopsV t_net_folks t_net_pairs t_net_line t_net_rope t_net_lineTold t_net_ropeTold t_net_lawV t_net_takenV t_net_roundsA t_net_roundsN t_net_rounds t_nowA t_now_yearV t_now_otherV t_now_earlierV t_now_laterV t_now_aheads t_now_laid t_now_lineA t_now_line_size t_now_line_tiesA t_now_line_tiesN t_now_line_ties)) [0, 4, 5, 1, 2, 3] (by decide) rfl ?_
    show V l D cy MX11_sum 2 0 0 _ _ _ 83 [(0, .ref tA), (1, .int x1), (2, .int x2), (3, .int x3)] [.int R80] (wX11_sum cy tA t_tapeV t_spareNetV t_heardV t_marksV t_pastV t_pileV t_knotV t_secondV t_trialsV t_cutterV t_placingsV t_ringsV t_netA t_net_namesV t_net_kindsV t_net_kinV t_net_stopsV t_net_folks t_net_pairs t_net_line t_net_rope t_net_lineTold t_net_ropeTold t_net_lawV t_net_takenV t_net_roundsA t_net_roundsN t_net_rounds t_nowA t_now_yearV t_now_otherV t_now_earlierV t_now_laterV t_now_aheads t_now_laid t_now_lineA t_now_line_size t_now_line_tiesA t_now_line_tiesN t_now_line_ties) 0 0
    have e9 := Option.some.inj h; subst e9
    exact V.iret (ty := .int) rfl rfl dX11_sum_83 (Nat.le_refl _) (Nat.le_refl _) hQ
  · replace h := (if_neg hc34).symm.trans h
    refine V.aload_n dX11_sum_37 rfl 0 rfl ?_
    refine V.get kfX11 0 rfl rfl 4 (by decide) klX11_38 rfl dX11_sum_38 ?_
    refine V.get kfX8 3 rfl rfl 0 (by decide) klX11_146 rfl dX11_sum_41 ?_
    refine V.get kfX7 4 rfl rfl 0 (by decide) klX11_207 rfl dX11_sum_44 ?_
    refine V.iload_n dX11_sum_47 rfl 3 rfl ?_
    by_cases hb48 : x3 < 0 ∨ t_now_line_tiesN ≤ x3.toNatClampNeg
    · exact vNone ((if_pos hb48).symm.trans h)
    replace h := (if_neg hb48).symm.trans h
    refine V.iald dX11_sum_48 5 rfl hb48 ?_
    refine V.istore (lv' := [(4, .int (t_now_line_ties (x3).toNatClampNeg)), (0, .ref tA), (1, .int x1), (2, .int x2), (3, .int x3)]) dX11_sum_49 (by decide) rfl ?_
    refine V.iload dX11_sum_51 0 rfl ?_
    obtain ⟨R53, hg53, h⟩ := Option.bind_eq_some_iff.mp h
    refine V.callS (As := [.int (t_now_line_ties (x3).toNatClampNeg)]) (rest := []) (wc := (wX7_folkOf cy )) (wr := [(tA, .inr (11, [t_tapeV, .ref t_netA, t_spareNetV, t_heardV, .ref t_nowA, t_marksV, t_pastV, t_pileV, t_knotV, t_secondV, t_trialsV, t_cutterV, t_placingsV, t_ringsV])), (t_netA, .inr (2, [t_net_namesV, t_net_kindsV, t_net_kinV, t_net_stopsV, .ref t_net_roundsA, .int t_net_folks, .int t_net_pairs, .int t_net_line, .int t_net_rope, .int t_net_lineTold, .int t_net_ropeTold, t_net_lawV, t_net_takenV])), (t_net_roundsA, .inl (cy 1, t_net_roundsN, .inl t_net_rounds)), (t_nowA, .inr (8, [.ref t_now_lineA, t_now_yearV, t_now_otherV, t_now_earlierV, t_now_laterV, .int t_now_aheads, .int t_now_laid])), (t_now_lineA, .inr (7, [.ref t_now_line_tiesA, .int t_now_line_size])), (t_now_line_tiesA, .inl (cy 1, t_now_line_tiesN, .inl t_now_line_ties))]) (CX7_folkOf F (t_now_line_ties (x3).toNatClampNeg) R53 hg53) kvX7_folkOf klX11_210 [] [0, 1, 2, 3, 4, 5] rfl rfl (by decide) (by decide) (by decide) rfl dX11_sum_53 ⟨by decide, by decide, by decide, by decide⟩ (Nat.le_of_ble_eq_true rfl) (fun r w1 hq => ?_)
    obtain ⟨rfl, rfl⟩ := hq
    refine V.cells (ws' := (wX11_sum cy tA t_tapeV t_spareNetV t_heardV t_marksV t_pastV t_pileV t_knotV t_secondV t_trialsV t_cutterV t_placingsV t_ringsV t_netA t_net_namesV t_net_kindsV t_net_kinV t_net_stopsV t_net_folks t_net_pairs t_net_line t_net_rope t_net_lineTold t_net_ropeTold t_net_lawV t_net_takenV t_net_roundsA t_net_roundsN t_net_rounds t_nowA t_now_yearV t_now_otherV t_now_earlierV t_now_laterV t_now_aheads t_now_laid t_now_lineA t_now_line_size t_now_line_tiesA t_now_line_tiesN t_now_line_ties)) [0, 1, 2, 3, 4, 5] (by decide) rfl ?_
    show V l D cy MX11_sum 2 0 0 _ _ _ 56 [(4, .int (t_now_line_ties (x3).toNatClampNeg)), (0, .ref tA), (1, .int x1), (2, .int x2), (3, .int x3)] [.int R53] (wX11_sum cy tA t_tapeV t_spareNetV t_heardV t_marksV t_pastV t_pileV t_knotV t_secondV t_trialsV t_cutterV t_placingsV t_ringsV t_netA t_net_namesV t_net_kindsV t_net_kinV t_net_stopsV t_net_folks t_net_pairs t_net_line t_net_rope t_net_lineTold t_net_ropeTold t_net_lawV t_net_takenV t_net_roundsA t_net_roundsN t_net_rounds t_nowA t_now_yearV t_now_otherV t_now_earlierV t_now_laterV t_now_aheads t_now_laid t_now_lineA t_now_line_size t_now_line_tiesA t_now_line_tiesN t_now_line_ties) 0 0
    refine V.iload_n dX11_sum_56 rfl 2 rfl ?_
    refine V.icmp_ne (tgt := 68) dX11_sum_57 (by decide) (fun hc57 => ?_) (fun hc57 => ?_)
    · replace h := (if_neg hc57).symm.trans h
      refine V.lvs [1, 2, 3, 4] rfl ?_
      exact vX11_sum_L68 _ _ _ _ _ _ _ _ _ _ _ _ _ _ _ _ _ _ _ _ _ _ _ _ _ _ _ _ _ _ _ _ _ _ _ _ _ _ _ _ _ _ _ hk23  _ _ _ R h hQ
    · replace h := (if_pos hc57).symm.trans h
      refine V.iload_n dX11_sum_60 rfl 3 rfl ?_
      refine V.iload dX11_sum_61 0 rfl ?_
      obtain ⟨R63, hg63, h⟩ := Option.bind_eq_some_iff.mp h
      refine V.callS (As := [.int (t_now_line_ties (x3).toNatClampNeg)]) (rest := [.int x2]) (wc := (wX7_countOf cy )) (wr := [(tA, .inr (11, [t_tapeV, .ref t_netA, t_spareNetV, t_heardV, .ref t_nowA, t_marksV, t_pastV, t_pileV, t_knotV, t_secondV, t_trialsV, t_cutterV, t_placingsV, t_ringsV])), (t_netA, .inr (2, [t_net_namesV, t_net_kindsV, t_net_kinV, t_net_stopsV, .ref t_net_roundsA, .int t_net_folks, .int t_net_pairs, .int t_net_line, .int t_net_rope, .int t_net_lineTold, .int t_net_ropeTold, t_net_lawV, t_net_takenV])), (t_net_roundsA, .inl (cy 1, t_net_roundsN, .inl t_net_rounds)), (t_nowA, .inr (8, [.ref t_now_lineA, t_now_yearV, t_now_otherV, t_now_earlierV, t_now_laterV, .int t_now_aheads, .int t_now_laid])), (t_now_lineA, .inr (7, [.ref t_now_line_tiesA, .int t_now_line_size])), (t_now_line_tiesA, .inl (cy 1, t_now_line_tiesN, .inl t_now_line_ties))]) (CX7_countOf F (t_now_line_ties (x3).toNatClampNeg) R63 hg63) kvX7_countOf klX11_213 [] [0, 1, 2, 3, 4, 5] rfl rfl (by decide) (by decide) (by decide) rfl dX11_sum_63 ⟨by decide, by decide, by decide, by decide⟩ (Nat.le_of_ble_eq_true rfl) (fun r w1 hq => ?_)
      obtain ⟨rfl, rfl⟩ := hq
      refine V.cells (ws' := (wX11_sum cy tA t_tapeV t_spareNetV t_heardV t_marksV t_pastV t_pileV t_knotV t_secondV t_trialsV t_cutterV t_placingsV t_ringsV t_netA t_net_namesV t_net_kindsV t_net_kinV t_net_stopsV t_net_folks t_net_pairs t_net_line t_net_rope t_net_lineTold t_net_ropeTold t_net_lawV t_net_takenV t_net_roundsA t_net_roundsN t_net_rounds t_nowA t_now_yearV t_now_otherV t_now_earlierV t_now_laterV t_now_aheads t_now_laid t_now_lineA t_now_line_size t_now_line_tiesA t_now_line_tiesN t_now_line_ties)) [0, 1, 2, 3, 4, 5] (by decide) rfl ?_
      show V l D cy MX11_sum 2 0 0 _ _ _ 66 [(4, .int (t_now_line_ties (x3).toNatClampNeg)), (0, .ref tA), (1, .int x1), (2, .int x2), (3, .int x3)] [.int R63, .int x2] (wX11_sum cy tA t_tapeV t_spareNetV t_heardV t_marksV t_pastV t_pileV t_knotV t_secondV t_trialsV t_cutterV t_placingsV t_ringsV t_netA t_net_namesV t_net_kindsV t_net_kinV t_net_stopsV t_net_folks t_net_pairs t_net_line t_net_rope t_net_lineTold t_net_ropeTold t_net_lawV t_net_takenV t_net_roundsA t_net_roundsN t_net_rounds t_nowA t_now_yearV t_now_otherV t_now_earlierV t_now_laterV t_now_aheads t_now_laid t_now_lineA t_now_line_size t_now_line_tiesA t_now_line_tiesN t_now_line_ties) 0 0
      refine V.iadd dX11_sum_66 ?_
      refine V.istore_n (lv' := [(2, .int (x2 + R63)), (4, .int (t_now_line_ties (x3).toNatClampNeg)), (0, .ref tA), (1, .int x1), (3, .int x3)]) dX11_sum_67 rfl (by decide) rfl ?_
      refine V.lvs [2, 3, 0, 4] rfl ?_
      exact vX11_sum_L68 _ _ _ _ _ _ _ _ _ _ _ _ _ _ _ _ _ _ _ _ _ _ _ _ _ _ _ _ _ _ _ _ _ _ _ _ _ _ _ _ _ _ _ hk23  _ _ _ R h hQ
noncomputable def fX11_sum_L23 (F : Nat) (t_net_folks : Int32) (t_net_roundsN : Nat) (t_net_rounds : Nat → Int32) (t_now_line_size : Int32) (t_now_line_tiesN : Nat) (t_now_line_ties : Nat → Int32)  : Nat → Int32 → Int32 → Int32 → Option (Int32)
  | 0 => fun _ _ _ => none
  | n + 1 => bX11_sum_L23 F t_net_folks t_net_roundsN t_net_rounds t_now_line_size t_now_line_tiesN t_now_line_ties (fX11_sum_L23 F t_net_folks t_net_roundsN t_net_rounds t_now_line_size t_now_line_tiesN t_now_line_ties  n)
theorem vX11_sum_L23 {l : Launch} {D : va_G} {cy : Nat → ClassId} {av : List Value} {ws0 : va_W} {Q : Option Value → va_W → Prop} (F : Nat) (tA : Nat) (t_tapeV : Value) (t_spareNetV : Value) (t_heardV : Value) (t_marksV : Value) (t_pastV : Value) (t_pileV : Value) (t_knotV : Value) (t_secondV : Value) (t_trialsV : Value) (t_cutterV : Value) (t_placingsV : Value) (t_ringsV : Value) (t_netA : Nat) (t_net_namesV : Value) (t_net_kindsV : Value) (t_net_kinV : Value) (t_net_stopsV : Value) (t_net_folks : Int32) (t_net_pairs : Int32) (t_net_line : Int32) (t_net_rope : Int32) (t_net_lineTold : Int32) (t_net_ropeTold : Int32) (t_net_lawV : Value) (t_net_takenV : Value) (t_net_roundsA : Nat) (t_net_roundsN : Nat) (t_net_rounds : Nat → Int32) (t_nowA : Nat) (t_now_yearV : Value) (t_now_otherV : Value) (t_now_earlierV : Value) (t_now_laterV : Value) (t_now_aheads : Int32) (t_now_laid : Int32) (t_now_lineA : Nat) (t_now_line_size : Int32) (t_now_line_tiesA : Nat) (t_now_line_tiesN : Nat) (t_now_line_ties : Nat → Int32)  : ∀ (n : Nat) (x1 : Int32) (x2 : Int32) (x3 : Int32) (R : Int32), fX11_sum_L23 F t_net_folks t_net_roundsN t_net_rounds t_now_line_size t_now_line_tiesN t_now_line_ties  n x1 x2 x3 = some R → Q (some (.int R)) (wX11_sum cy tA t_tapeV t_spareNetV t_heardV t_marksV t_pastV t_pileV t_knotV t_secondV t_trialsV t_cutterV t_placingsV t_ringsV t_netA t_net_namesV t_net_kindsV t_net_kinV t_net_stopsV t_net_folks t_net_pairs t_net_line t_net_rope t_net_lineTold t_net_ropeTold t_net_lawV t_net_takenV t_net_roundsA t_net_roundsN t_net_rounds t_nowA t_now_yearV t_now_otherV t_now_earlierV t_now_laterV t_now_aheads t_now_laid t_now_lineA t_now_line_size t_now_line_tiesA t_now_line_tiesN t_now_line_ties) → V l D cy MX11_sum 2 0 0 av ws0 Q 23 [(0, .ref tA), (1, .int x1), (2, .int x2), (3, .int x3)] [] (wX11_sum cy tA t_tapeV t_spareNetV t_heardV t_marksV t_pastV t_pileV t_knotV t_secondV t_trialsV t_cutterV t_placingsV t_ringsV t_netA t_net_namesV t_net_kindsV t_net_kinV t_net_stopsV t_net_folks t_net_pairs t_net_line t_net_rope t_net_lineTold t_net_ropeTold t_net_lawV t_net_takenV t_net_roundsA t_net_roundsN t_net_rounds t_nowA t_now_yearV t_now_otherV t_now_earlierV t_now_laterV t_now_aheads t_now_laid t_now_lineA t_now_line_size t_now_line_tiesA t_now_line_tiesN t_now_line_ties) 0 0 := by
  intro n
  induction n with
  | zero => intro x1 x2 x3 R h; exact vNone h
  | succ n ih => intro x1 x2 x3 R h hQ; exact vbX11_sum_L23 F tA t_tapeV t_spareNetV t_heardV t_marksV t_pastV t_pileV t_knotV t_secondV t_trialsV t_cutterV t_placingsV t_ringsV t_netA t_net_namesV t_net_kindsV t_net_kinV t_net_stopsV t_net_folks t_net_pairs t_net_line t_net_rope t_net_lineTold t_net_ropeTold t_net_lawV t_net_takenV t_net_roundsA t_net_roundsN t_net_rounds t_nowA t_now_yearV t_now_otherV t_now_earlierV t_now_laterV t_now_aheads t_now_laid t_now_lineA t_now_line_size t_now_line_tiesA t_now_line_tiesN t_now_line_ties _ ih x1 x2 x3 R h hQ
noncomputable def fX11_sum (F : Nat) (t_net_folks : Int32) (t_net_roundsN : Nat) (t_net_rounds : Nat → Int32) (t_now_line_size : Int32) (t_now_line_tiesN : Nat) (t_now_line_ties : Nat → Int32) (a1 : Int32) : Option (Int32) :=
  (fX2_hasFolk F t_net_folks a1).bind fun R5 => (if R5 = 0 then (none) else (fX11_sum_L23 F t_net_folks t_net_roundsN t_net_rounds t_now_line_size t_now_line_tiesN t_now_line_ties F a1 (0 : Int32) (0 : Int32)))
theorem CX11_sum {l : Launch} {D : va_G} {cy : Nat → ClassId} (F : Nat) (tA : Nat) (t_tapeV : Value) (t_spareNetV : Value) (t_heardV : Value) (t_marksV : Value) (t_pastV : Value) (t_pileV : Value) (t_knotV : Value) (t_secondV : Value) (t_trialsV : Value) (t_cutterV : Value) (t_placingsV : Value) (t_ringsV : Value) (t_netA : Nat) (t_net_namesV : Value) (t_net_kindsV : Value) (t_net_kinV : Value) (t_net_stopsV : Value) (t_net_folks : Int32) (t_net_pairs : Int32) (t_net_line : Int32) (t_net_rope : Int32) (t_net_lineTold : Int32) (t_net_ropeTold : Int32) (t_net_lawV : Value) (t_net_takenV : Value) (t_net_roundsA : Nat) (t_net_roundsN : Nat) (t_net_rounds : Nat → Int32) (t_nowA : Nat) (t_now_yearV : Value) (t_now_otherV : Value) (t_now_earlierV : Value) (t_now_laterV : Value) (t_now_aheads : Int32) (t_now_laid : Int32) (t_now_lineA : Nat) (t_now_line_size : Int32) (t_now_line_tiesA : Nat) (t_now_line_tiesN : Nat) (t_now_line_ties : Nat → Int32) (a1 : Int32) (R : Int32) (h : fX11_sum F t_net_folks t_net_roundsN t_net_rounds t_now_line_size t_now_line_tiesN t_now_line_ties a1 = some R) : vMet l D cy MX11_sum 2 0 0 [.ref tA, .int a1] (wX11_sum cy tA t_tapeV t_spareNetV t_heardV t_marksV t_pastV t_pileV t_knotV t_secondV t_trialsV t_cutterV t_placingsV t_ringsV t_netA t_net_namesV t_net_kindsV t_net_kinV t_net_stopsV t_net_folks t_net_pairs t_net_line t_net_rope t_net_lineTold t_net_ropeTold t_net_lawV t_net_takenV t_net_roundsA t_net_roundsN t_net_rounds t_nowA t_now_yearV t_now_otherV t_now_earlierV t_now_laterV t_now_aheads t_now_laid t_now_lineA t_now_line_size t_now_line_tiesA t_now_line_tiesN t_now_line_ties) (fun (r : Option Value) (w : va_W) => r = (some (.int R)) ∧ w = (wX11_sum cy tA t_tapeV t_spareNetV t_heardV t_marksV t_pastV t_pileV t_knotV t_secondV t_trialsV t_cutterV t_placingsV t_ringsV t_netA t_net_namesV t_net_kindsV t_net_kinV t_net_stopsV t_net_folks t_net_pairs t_net_line t_net_rope t_net_lineTold t_net_ropeTold t_net_lawV t_net_takenV t_net_roundsA t_net_roundsN t_net_rounds t_nowA t_now_yearV t_now_otherV t_now_earlierV t_now_laterV t_now_aheads t_now_laid t_now_lineA t_now_line_size t_now_line_tiesA t_now_line_tiesN t_now_line_ties)) := by
  refine vMet.start (by decide +kernel) (Nat.le_of_ble_eq_true rfl) ?_
  generalize hQe : (fun (r : Option Value) (w : va_W) => r = (some (.int R)) ∧ w = (wX11_sum cy tA t_tapeV t_spareNetV t_heardV t_marksV t_pastV t_pileV t_knotV t_secondV t_trialsV t_cutterV t_placingsV t_ringsV t_netA t_net_namesV t_net_kindsV t_net_kinV t_net_stopsV t_net_folks t_net_pairs t_net_line t_net_rope t_net_lineTold t_net_ropeTold t_net_lawV t_net_takenV t_net_roundsA t_net_roundsN t_net_rounds t_nowA t_now_yearV t_now_otherV t_now_earlierV t_now_laterV t_now_aheads t_now_laid t_now_lineA t_now_line_size t_now_line_tiesA t_now_line_tiesN t_now_line_ties)) = Q
  have hQ : Q (some (.int R)) (wX11_sum cy tA t_tapeV t_spareNetV t_heardV t_marksV t_pastV t_pileV t_knotV t_secondV t_trialsV t_cutterV t_placingsV t_ringsV t_netA t_net_namesV t_net_kindsV t_net_kinV t_net_stopsV t_net_folks t_net_pairs t_net_line t_net_rope t_net_lineTold t_net_ropeTold t_net_lawV t_net_takenV t_net_roundsA t_net_roundsN t_net_rounds t_nowA t_now_yearV t_now_otherV t_now_earlierV t_now_laterV t_now_aheads t_now_laid t_now_lineA t_now_line_size t_now_line_tiesA t_now_line_tiesN t_now_line_ties) := by rw [← hQe]; exact ⟨rfl, rfl⟩
  show V l D cy MX11_sum 2 0 0 _ _ Q 0 [(0, .ref tA), (1, .int a1)] [] _ 0 0
  show V l D cy MX11_sum 2 0 0 [.ref tA, .int a1] _ Q 0 [(0, .ref tA), (1, .int a1)] [] (wX11_sum cy tA t_tapeV t_spareNetV t_heardV t_marksV t_pastV t_pileV t_knotV t_secondV t_trialsV t_cutterV t_placingsV t_ringsV t_netA t_net_namesV t_net_kindsV t_net_kinV t_net_stopsV t_net_folks t_net_pairs t_net_line t_net_rope t_net_lineTold t_net_ropeTold t_net_lawV t_net_takenV t_net_roundsA t_net_roundsN t_net_rounds t_nowA t_now_yearV t_now_otherV t_now_earlierV t_now_laterV t_now_aheads t_now_laid t_now_lineA t_now_line_size t_now_line_tiesA t_now_line_tiesN t_now_line_ties) 0 0
  unfold fX11_sum at h
  refine V.aload_n dX11_sum_0 rfl 0 rfl ?_
  refine V.get kfX11 0 rfl rfl 1 (by decide) klX11_19 rfl dX11_sum_1 ?_
  refine V.iload_n dX11_sum_4 rfl 1 rfl ?_
  obtain ⟨R5, hg5, h⟩ := Option.bind_eq_some_iff.mp h
  refine V.callV (As := [.int a1]) (rest := []) (wc := (wX2_hasFolk cy t_netA t_net_namesV t_net_kindsV t_net_kinV t_net_stopsV (.ref t_net_roundsA) t_net_folks t_net_pairs t_net_line t_net_rope t_net_lineTold t_net_ropeTold t_net_lawV t_net_takenV)) (wr := [(tA, .inr (11, [t_tapeV, .ref t_netA, t_spareNetV, t_heardV, .ref t_nowA, t_marksV, t_pastV, t_pileV, t_knotV, t_secondV, t_trialsV, t_cutterV, t_placingsV, t_ringsV])), (t_net_roundsA, .inl (cy 1, t_net_roundsN, .inl t_net_rounds)), (t_nowA, .inr (8, [.ref t_now_lineA, t_now_yearV, t_now_otherV, t_now_earlierV, t_now_laterV, .int t_now_aheads, .int t_now_laid])), (t_now_lineA, .inr (7, [.ref t_now_line_tiesA, .int t_now_line_size])), (t_now_line_tiesA, .inl (cy 1, t_now_line_tiesN, .inl t_now_line_ties))]) (q0 := 1) (CX2_hasFolk F t_netA t_net_namesV t_net_kindsV t_net_kinV t_net_stopsV (.ref t_net_roundsA) t_net_folks t_net_pairs t_net_line t_net_rope t_net_lineTold t_net_ropeTold t_net_lawV t_net_takenV a1 R5 hg5) kvX2_hasFolk klX11_135 [1] [0, 2, 3, 4, 5] rfl rfl (by decide) (by decide) (by decide) rfl rfl rfl rfl dX11_sum_5 ⟨by decide, by decide, by decide, by decide⟩ (Nat.le_of_ble_eq_true rfl) (fun r w1 hq => ?_)
  obtain ⟨rfl, rfl⟩ := hq
  refine V.cells (ws' := (wX11_sum cy tA t_tapeV t_spareNetV t_heardV t_marksV t_pastV t_pileV t_knotV t_secondV t_trialsV t_cutterV t_placingsV t_ringsV t_netA t_net_namesV t_net_kindsV t_net_kinV t_net_stopsV t_net_folks t_net_pairs t_net_line t_net_rope t_net_lineTold t_net_ropeTold t_net_lawV t_net_takenV t_net_roundsA t_net_roundsN t_net_rounds t_nowA t_now_yearV t_now_otherV t_now_earlierV t_now_laterV t_now_aheads t_now_laid t_now_lineA t_now_line_size t_now_line_tiesA t_now_line_tiesN t_now_line_ties)) [0, 5, 1, 2, 3, 4] (by decide) rfl ?_
  show V l D cy MX11_sum 2 0 0 _ _ _ 8 [(0, .ref tA), (1, .int a1)] [.int R5] (wX11_sum cy tA t_tapeV t_spareNetV t_heardV t_marksV t_pastV t_pileV t_knotV t_secondV t_trialsV t_cutterV t_placingsV t_ringsV t_netA t_net_namesV t_net_kindsV t_net_kinV t_net_stopsV t_net_folks t_net_pairs t_net_line t_net_rope t_net_lineTold t_net_ropeTold t_net_lawV t_net_takenV t_net_roundsA t_net_roundsN t_net_rounds t_nowA t_now_yearV t_now_otherV t_now_earlierV t_now_laterV t_now_aheads t_now_laid t_now_lineA t_now_line_size t_now_line_tiesA t_now_line_tiesN t_now_line_ties) 0 0
  refine V.if_ne (tgt := 19) dX11_sum_8 (by decide) (fun hc8 => ?_) (fun hc8 => ?_)
  · replace h := (if_neg hc8).symm.trans h
    refine V.iconst (v := (0 : Int32)) dX11_sum_19 (by decide) ?_
    refine V.istore_n (lv' := [(2, .int (0 : Int32)), (0, .ref tA), (1, .int a1)]) dX11_sum_20 rfl (by decide) rfl ?_
    refine V.iconst (v := (0 : Int32)) dX11_sum_21 (by decide) ?_
    refine V.istore_n (lv' := [(3, .int (0 : Int32)), (2, .int (0 : Int32)), (0, .ref tA), (1, .int a1)]) dX11_sum_22 rfl (by decide) rfl ?_
    refine V.lvs [2, 3, 1, 0] rfl ?_
    exact vX11_sum_L23 _ _ _ _ _ _ _ _ _ _ _ _ _ _ _ _ _ _ _ _ _ _ _ _ _ _ _ _ _ _ _ _ _ _ _ _ _ _ _ _ _ _  _ _ _ _ R h hQ
  · replace h := (if_pos hc8).symm.trans h
    exact vNone h
theorem dX9_wordAt_0 : decode cX9_wordAt 0 = .ok (.iconst 0, 1) := by decide +kernel
theorem dX9_wordAt_1 : decode cX9_wordAt 1 = .ok (.istore_n 3, 1) := by decide +kernel
theorem dX9_wordAt_2 : decode cX9_wordAt 2 = .ok (.iload_n 3, 1) := by decide +kernel
theorem dX9_wordAt_3 : decode cX9_wordAt 3 = .ok (.bipush 19, 2) := by decide +kernel
theorem dX9_wordAt_5 : decode cX9_wordAt 5 = .ok (.if_icmp .gt 26, 3) := by decide +kernel
theorem dX9_wordAt_8 : decode cX9_wordAt 8 = .ok (.iload_n 2, 1) := by decide +kernel
theorem dX9_wordAt_9 : decode cX9_wordAt 9 = .ok (.iconst 5, 1) := by decide +kernel
theorem dX9_wordAt_10 : decode cX9_wordAt 10 = .ok (.if_icmp .gt 21, 3) := by decide +kernel
theorem dX9_wordAt_13 : decode cX9_wordAt 13 = .ok (.aload_n 0, 1) := by decide +kernel
theorem dX9_wordAt_14 : decode cX9_wordAt 14 = .ok (.iload_n 3, 1) := by decide +kernel
theorem dX9_wordAt_15 : decode cX9_wordAt 15 = .ok (.iload_n 1, 1) := by decide +kernel
theorem dX9_wordAt_16 : decode cX9_wordAt 16 = .ok (.iload_n 2, 1) := by decide +kernel
theorem dX9_wordAt_17 : decode cX9_wordAt 17 = .ok (.invokevirtual 86, 3) := by decide +kernel
theorem dX9_wordAt_20 : decode cX9_wordAt 20 = .ok (.ifCond .eq 5, 3) := by decide +kernel
theorem dX9_wordAt_23 : decode cX9_wordAt 23 = .ok (.iload_n 3, 1) := by decide +kernel
theorem dX9_wordAt_24 : decode cX9_wordAt 24 = .ok (.ireturn, 1) := by decide +kernel
theorem dX9_wordAt_25 : decode cX9_wordAt 25 = .ok (.iinc 3 1, 3) := by decide +kernel
theorem dX9_wordAt_28 : decode cX9_wordAt 28 = .ok (.goto (-26), 3) := by decide +kernel
theorem dX9_wordAt_31 : decode cX9_wordAt 31 = .ok (.bipush 20, 2) := by decide +kernel
theorem dX9_wordAt_33 : decode cX9_wordAt 33 = .ok (.ireturn, 1) := by decide +kernel
def wX9_wordAt (cy : Nat → ClassId) (tA : Nat) (t_size : Int32) (t_tokensV : Value) (t_startsV : Value) (t_valuesV : Value) (t_count : Int32) (t_here : Int32) (t_fault : Int32) (t_signsA : Nat) (t_signsN : Nat) (t_signs : Nat → Int32) : va_W :=
  [(tA, .inr (9, [.ref t_signsA, .int t_size, t_tokensV, t_startsV, t_valuesV, .int t_count, .int t_here, .int t_fault])), (t_signsA, .inl (cy 0, t_signsN, .inl t_signs))]
noncomputable def bX9_wordAt_L31 (F : Nat) (t_size : Int32) (t_signsN : Nat) (t_signs : Nat → Int32)   : Option (Int32) :=
  some (20 : Int32)
theorem vX9_wordAt_L31 {l : Launch} {D : va_G} {cy : Nat → ClassId} {av : List Value} {ws0 : va_W} {Q : Option Value → va_W → Prop} (F : Nat) (tA : Nat) (t_size : Int32) (t_tokensV : Value) (t_startsV : Value) (t_valuesV : Value) (t_count : Int32) (t_here : Int32) (t_fault : Int32) (t_signsA : Nat) (t_signsN : Nat) (t_signs : Nat → Int32)   (R : Int32) (h : bX9_wordAt_L31 F t_size t_signsN t_signs   = some R) (hQ : Q (some (.int R)) (wX9_wordAt cy tA t_size t_tokensV t_startsV t_valuesV t_count t_here t_fault t_signsA t_signsN t_signs)) : V l D cy MX9_wordAt 5 0 0 av ws0 Q 31 [] [] (wX9_wordAt cy tA t_size t_tokensV t_startsV t_valuesV t_count t_here t_fault t_signsA t_signsN t_signs) 0 0 := by
  unfold bX9_wordAt_L31 at h
  refine V.bipush (v := (20 : Int32)) dX9_wordAt_31 (by decide) ?_
  have e9 := Option.some.inj h; subst e9
  exact V.iret (ty := .int) rfl rfl dX9_wordAt_33 (Nat.le_refl _) (Nat.le_refl _) hQ
noncomputable def bX9_wordAt_L2 (F : Nat) (t_size : Int32) (t_signsN : Nat) (t_signs : Nat → Int32) (k2 : Int32 → Int32 → Int32 → Option (Int32)) (x1 : Int32) (x2 : Int32) (x3 : Int32) : Option (Int32) :=
  if (19 : Int32) < x3 then (bX9_wordAt_L31 F t_size t_signsN t_signs) else (if (5 : Int32) < x2 then (bX9_wordAt_L31 F t_size t_signsN t_signs) else ((fX9_isWord F t_size t_signsN t_signs x3 x1 x2).bind fun R17 => (if R17 = 0 then (k2 x1 x2 (x3 + (1 : Int32))) else (some x3))))
theorem vbX9_wordAt_L2 {l : Launch} {D : va_G} {cy : Nat → ClassId} {av : List Value} {ws0 : va_W} {Q : Option Value → va_W → Prop} (F : Nat) (tA : Nat) (t_size : Int32) (t_tokensV : Value) (t_startsV : Value) (t_valuesV : Value) (t_count : Int32) (t_here : Int32) (t_fault : Int32) (t_signsA : Nat) (t_signsN : Nat) (t_signs : Nat → Int32) (k2 : Int32 → Int32 → Int32 → Option (Int32)) (hk2 : ∀ (x1 : Int32) (x2 : Int32) (x3 : Int32) (R : Int32), k2 x1 x2 x3 = some R → Q (some (.int R)) (wX9_wordAt cy tA t_size t_tokensV t_startsV t_valuesV t_count t_here t_fault t_signsA t_signsN t_signs) → V l D cy MX9_wordAt 5 0 0 av ws0 Q 2 [(0, .ref tA), (1, .int x1), (2, .int x2), (3, .int x3)] [] (wX9_wordAt cy tA t_size t_tokensV t_startsV t_valuesV t_count t_here t_fault t_signsA t_signsN t_signs) 0 0) (x1 : Int32) (x2 : Int32) (x3 : Int32) (R : Int32) (h : bX9_wordAt_L2 F t_size t_signsN t_signs k2 x1 x2 x3 = some R) (hQ : Q (some (.int R)) (wX9_wordAt cy tA t_size t_tokensV t_startsV t_valuesV t_count t_here t_fault t_signsA t_signsN t_signs)) : V l D cy MX9_wordAt 5 0 0 av ws0 Q 2 [(0, .ref tA), (1, .int x1), (2, .int x2), (3, .int x3)] [] (wX9_wordAt cy tA t_size t_tokensV t_startsV t_valuesV t_count t_here t_fault t_signsA t_signsN t_signs) 0 0 := by
  unfold bX9_wordAt_L2 at h
  refine V.iload_n dX9_wordAt_2 rfl 3 rfl ?_
  refine V.bipush (v := (19 : Int32)) dX9_wordAt_3 (by decide) ?_
  refine V.icmp_gt (tgt := 31) dX9_wordAt_5 (by decide) (fun hc5 => ?_) (fun hc5 => ?_)
  · replace h := (if_pos hc5).symm.trans h
    refine V.lvs [] rfl ?_
    exact vX9_wordAt_L31 _ _ _ _ _ _ _ _ _ _ _ _    R h hQ
  · replace h := (if_neg hc5).symm.trans h
    refine V.iload_n dX9_wordAt_8 rfl 2 rfl ?_
    refine V.iconst (v := (5 : Int32)) dX9_wordAt_9 (by decide) ?_
    refine V.icmp_gt (tgt := 31) dX9_wordAt_10 (by decide) (fun hc10 => ?_) (fun hc10 => ?_)
    · replace h := (if_pos hc10).symm.trans h
      refine V.lvs [] rfl ?_
      exact vX9_wordAt_L31 _ _ _ _ _ _ _ _ _ _ _ _    R h hQ
    · replace h := (if_neg hc10).symm.trans h
      refine V.aload_n dX9_wordAt_13 rfl 0 rfl ?_
      refine V.iload_n dX9_wordAt_14 rfl 3 rfl ?_
      refine V.iload_n dX9_wordAt_15 rfl 1 rfl ?_
      refine V.iload_n dX9_wordAt_16 rfl 2 rfl ?_
      obtain ⟨R17, hg17, h⟩ := Option.bind_eq_some_iff.mp h
      refine V.callV (As := [.int x3, .int x1, .int x2]) (rest := []) (wc := (wX9_isWord cy tA t_size t_tokensV t_startsV t_valuesV t_count t_here t_fault t_signsA t_signsN t_signs)) (wr := []) (q0 := 0) (CX9_isWord F tA t_size t_tokensV t_startsV t_valuesV t_count t_here t_fault t_signsA t_signsN t_signs x3 x1 x2 R17 hg17) kvX9_isWord klX9_86 [0, 1] [] rfl rfl (by decide) (by decide) (by decide) rfl rfl rfl rfl dX9_wordAt_17 ⟨by decide, by decide, by decide, by decide⟩ (Nat.le_of_ble_eq_true rfl) (fun r w1 hq => ?_)
      obtain ⟨rfl, rfl⟩ := hq
      refine V.cells (ws' := (wX9_wordAt cy tA t_size t_tokensV t_startsV t_valuesV t_count t_here t_fault t_signsA t_signsN t_signs)) [0, 1] (by decide) rfl ?_
      show V l D cy MX9_wordAt 5 0 0 _ _ _ 20 [(0, .ref tA), (1, .int x1), (2, .int x2), (3, .int x3)] [.int R17] (wX9_wordAt cy tA t_size t_tokensV t_startsV t_valuesV t_count t_here t_fault t_signsA t_signsN t_signs) 0 0
      refine V.if_eq (tgt := 25) dX9_wordAt_20 (by decide) (fun hc20 => ?_) (fun hc20 => ?_)
      · replace h := (if_pos hc20).symm.trans h
        refine V.iinc (v := x3 + (1 : Int32)) (lv' := [(3, .int (x3 + (1 : Int32))), (0, .ref tA), (1, .int x1), (2, .int x2)]) dX9_wordAt_25 3 rfl rfl (by decide) rfl ?_
        refine V.goto (tgt := 2) dX9_wordAt_28 (by decide) ?_
        refine V.lvs [1, 2, 3, 0] rfl ?_
        exact hk2 _ _ _ R h hQ
      · replace h := (if_neg hc20).symm.trans h
        refine V.iload_n dX9_wordAt_23 rfl 3 rfl ?_
        have e9 := Option.some.inj h; subst e9
        exact V.iret (ty := .int) rfl rfl dX9_wordAt_24 (Nat.le_refl _) (Nat.le_refl _) hQ
noncomputable def fX9_wordAt_L2 (F : Nat) (t_size : Int32) (t_signsN : Nat) (t_signs : Nat → Int32)  : Nat → Int32 → Int32 → Int32 → Option (Int32)
  | 0 => fun _ _ _ => none
  | n + 1 => bX9_wordAt_L2 F t_size t_signsN t_signs (fX9_wordAt_L2 F t_size t_signsN t_signs  n)
theorem vX9_wordAt_L2 {l : Launch} {D : va_G} {cy : Nat → ClassId} {av : List Value} {ws0 : va_W} {Q : Option Value → va_W → Prop} (F : Nat) (tA : Nat) (t_size : Int32) (t_tokensV : Value) (t_startsV : Value) (t_valuesV : Value) (t_count : Int32) (t_here : Int32) (t_fault : Int32) (t_signsA : Nat) (t_signsN : Nat) (t_signs : Nat → Int32)  : ∀ (n : Nat) (x1 : Int32) (x2 : Int32) (x3 : Int32) (R : Int32), fX9_wordAt_L2 F t_size t_signsN t_signs  n x1 x2 x3 = some R → Q (some (.int R)) (wX9_wordAt cy tA t_size t_tokensV t_startsV t_valuesV t_count t_here t_fault t_signsA t_signsN t_signs) → V l D cy MX9_wordAt 5 0 0 av ws0 Q 2 [(0, .ref tA), (1, .int x1), (2, .int x2), (3, .int x3)] [] (wX9_wordAt cy tA t_size t_tokensV t_startsV t_valuesV t_count t_here t_fault t_signsA t_signsN t_signs) 0 0 := by
  intro n
  induction n with
  | zero => intro x1 x2 x3 R h; exact vNone h
  | succ n ih => intro x1 x2 x3 R h hQ; exact vbX9_wordAt_L2 F tA t_size t_tokensV t_startsV t_valuesV t_count t_here t_fault t_signsA t_signsN t_signs _ ih x1 x2 x3 R h hQ
noncomputable def fX9_wordAt (F : Nat) (t_size : Int32) (t_signsN : Nat) (t_signs : Nat → Int32) (a1 : Int32) (a2 : Int32) : Option (Int32) :=
  fX9_wordAt_L2 F t_size t_signsN t_signs F a1 a2 (0 : Int32)
theorem CX9_wordAt {l : Launch} {D : va_G} {cy : Nat → ClassId} (F : Nat) (tA : Nat) (t_size : Int32) (t_tokensV : Value) (t_startsV : Value) (t_valuesV : Value) (t_count : Int32) (t_here : Int32) (t_fault : Int32) (t_signsA : Nat) (t_signsN : Nat) (t_signs : Nat → Int32) (a1 : Int32) (a2 : Int32) (R : Int32) (h : fX9_wordAt F t_size t_signsN t_signs a1 a2 = some R) : vMet l D cy MX9_wordAt 5 0 0 [.ref tA, .int a1, .int a2] (wX9_wordAt cy tA t_size t_tokensV t_startsV t_valuesV t_count t_here t_fault t_signsA t_signsN t_signs) (fun (r : Option Value) (w : va_W) => r = (some (.int R)) ∧ w = (wX9_wordAt cy tA t_size t_tokensV t_startsV t_valuesV t_count t_here t_fault t_signsA t_signsN t_signs)) := by
  refine vMet.start (by decide +kernel) (Nat.le_of_ble_eq_true rfl) ?_
  generalize hQe : (fun (r : Option Value) (w : va_W) => r = (some (.int R)) ∧ w = (wX9_wordAt cy tA t_size t_tokensV t_startsV t_valuesV t_count t_here t_fault t_signsA t_signsN t_signs)) = Q
  have hQ : Q (some (.int R)) (wX9_wordAt cy tA t_size t_tokensV t_startsV t_valuesV t_count t_here t_fault t_signsA t_signsN t_signs) := by rw [← hQe]; exact ⟨rfl, rfl⟩
  show V l D cy MX9_wordAt 5 0 0 _ _ Q 0 [(0, .ref tA), (1, .int a1), (2, .int a2)] [] _ 0 0
  show V l D cy MX9_wordAt 5 0 0 [.ref tA, .int a1, .int a2] _ Q 0 [(0, .ref tA), (1, .int a1), (2, .int a2)] [] (wX9_wordAt cy tA t_size t_tokensV t_startsV t_valuesV t_count t_here t_fault t_signsA t_signsN t_signs) 0 0
  unfold fX9_wordAt at h
  refine V.iconst (v := (0 : Int32)) dX9_wordAt_0 (by decide) ?_
  refine V.istore_n (lv' := [(3, .int (0 : Int32)), (0, .ref tA), (1, .int a1), (2, .int a2)]) dX9_wordAt_1 rfl (by decide) rfl ?_
  refine V.lvs [1, 2, 3, 0] rfl ?_
  exact vX9_wordAt_L2 _ _ _ _ _ _ _ _ _ _ _ _  _ _ _ _ R h hQ
theorem dX11_rests_0 : decode cX11_rests 0 = .ok (.iload_n 1, 1) := by decide +kernel
theorem dX11_rests_1 : decode cX11_rests 1 = .ok (.ifCond .lt 33, 3) := by decide +kernel
theorem dX11_rests_4 : decode cX11_rests 4 = .ok (.iload_n 1, 1) := by decide +kernel
theorem dX11_rests_5 : decode cX11_rests 5 = .ok (.bipush 10, 2) := by decide +kernel
theorem dX11_rests_7 : decode cX11_rests 7 = .ok (.if_icmp .gt 27, 3) := by decide +kernel
theorem dX11_rests_10 : decode cX11_rests 10 = .ok (.iload_n 2, 1) := by decide +kernel
theorem dX11_rests_11 : decode cX11_rests 11 = .ok (.ifCond .lt 23, 3) := by decide +kernel
theorem dX11_rests_14 : decode cX11_rests 14 = .ok (.iload_n 2, 1) := by decide +kernel
theorem dX11_rests_15 : decode cX11_rests 15 = .ok (.bipush 9, 2) := by decide +kernel
theorem dX11_rests_17 : decode cX11_rests 17 = .ok (.if_icmp .gt 17, 3) := by decide +kernel
theorem dX11_rests_20 : decode cX11_rests 20 = .ok (.iload_n 3, 1) := by decide +kernel
theorem dX11_rests_21 : decode cX11_rests 21 = .ok (.ifCond .lt 13, 3) := by decide +kernel
theorem dX11_rests_24 : decode cX11_rests 24 = .ok (.iload_n 3, 1) := by decide +kernel
theorem dX11_rests_25 : decode cX11_rests 25 = .ok (.bipush 9, 2) := by decide +kernel
theorem dX11_rests_27 : decode cX11_rests 27 = .ok (.if_icmp .gt 7, 3) := by decide +kernel
theorem dX11_rests_30 : decode cX11_rests 30 = .ok (.iconst 1, 1) := by decide +kernel
theorem dX11_rests_31 : decode cX11_rests 31 = .ok (.goto 4, 3) := by decide +kernel
theorem dX11_rests_34 : decode cX11_rests 34 = .ok (.iconst 0, 1) := by decide +kernel
theorem dX11_rests_35 : decode cX11_rests 35 = .ok (.istore 5, 2) := by decide +kernel
theorem dX11_rests_37 : decode cX11_rests 37 = .ok (.iload 5, 2) := by decide +kernel
theorem dX11_rests_39 : decode cX11_rests 39 = .ok (.ifCond .eq 9, 3) := by decide +kernel
theorem dX11_rests_42 : decode cX11_rests 42 = .ok (.iload 4, 2) := by decide +kernel
theorem dX11_rests_44 : decode cX11_rests 44 = .ok (.iconst (-1), 1) := by decide +kernel
theorem dX11_rests_45 : decode cX11_rests 45 = .ok (.if_icmp .ge 11, 3) := by decide +kernel
theorem dX11_rests_48 : decode cX11_rests 48 = .ok (.new 204, 3) := by decide +kernel
theorem dX11_rests_51 : decode cX11_rests 51 = .ok (.dup, 1) := by decide +kernel
theorem dX11_rests_52 : decode cX11_rests 52 = .ok (.invokespecial 206, 3) := by decide +kernel
theorem dX11_rests_55 : decode cX11_rests 55 = .ok (.athrow, 1) := by decide +kernel
theorem dX11_rests_56 : decode cX11_rests 56 = .ok (.iconst 0, 1) := by decide +kernel
theorem dX11_rests_57 : decode cX11_rests 57 = .ok (.istore 6, 2) := by decide +kernel
theorem dX11_rests_59 : decode cX11_rests 59 = .ok (.iconst 0, 1) := by decide +kernel
theorem dX11_rests_60 : decode cX11_rests 60 = .ok (.istore 7, 2) := by decide +kernel
theorem dX11_rests_62 : decode cX11_rests 62 = .ok (.iload 7, 2) := by decide +kernel
theorem dX11_rests_64 : decode cX11_rests 64 = .ok (.iconst 5, 1) := by decide +kernel
theorem dX11_rests_65 : decode cX11_rests 65 = .ok (.if_icmp .gt 93, 3) := by decide +kernel
theorem dX11_rests_68 : decode cX11_rests 68 = .ok (.iconst 0, 1) := by decide +kernel
theorem dX11_rests_69 : decode cX11_rests 69 = .ok (.istore 8, 2) := by decide +kernel
theorem dX11_rests_71 : decode cX11_rests 71 = .ok (.iload 8, 2) := by decide +kernel
theorem dX11_rests_73 : decode cX11_rests 73 = .ok (.iconst 5, 1) := by decide +kernel
theorem dX11_rests_74 : decode cX11_rests 74 = .ok (.if_icmp .gt 78, 3) := by decide +kernel
theorem dX11_rests_77 : decode cX11_rests 77 = .ok (.iload 7, 2) := by decide +kernel
theorem dX11_rests_79 : decode cX11_rests 79 = .ok (.iload 8, 2) := by decide +kernel
theorem dX11_rests_81 : decode cX11_rests 81 = .ok (.iload_n 1, 1) := by decide +kernel
theorem dX11_rests_82 : decode cX11_rests 82 = .ok (.iload_n 2, 1) := by decide +kernel
theorem dX11_rests_83 : decode cX11_rests 83 = .ok (.iload_n 3, 1) := by decide +kernel
theorem dX11_rests_84 : decode cX11_rests 84 = .ok (.invokestatic 261, 3) := by decide +kernel
theorem dX11_rests_87 : decode cX11_rests 87 = .ok (.ifCond .eq 20, 3) := by decide +kernel
theorem dX11_rests_90 : decode cX11_rests 90 = .ok (.iload 8, 2) := by decide +kernel
theorem dX11_rests_92 : decode cX11_rests 92 = .ok (.iload 7, 2) := by decide +kernel
theorem dX11_rests_94 : decode cX11_rests 94 = .ok (.iload_n 1, 1) := by decide +kernel
theorem dX11_rests_95 : decode cX11_rests 95 = .ok (.iload_n 2, 1) := by decide +kernel
theorem dX11_rests_96 : decode cX11_rests 96 = .ok (.iload_n 3, 1) := by decide +kernel
theorem dX11_rests_97 : decode cX11_rests 97 = .ok (.invokestatic 261, 3) := by decide +kernel
theorem dX11_rests_100 : decode cX11_rests 100 = .ok (.ifCond .eq 7, 3) := by decide +kernel
theorem dX11_rests_103 : decode cX11_rests 103 = .ok (.iconst 1, 1) := by decide +kernel
theorem dX11_rests_104 : decode cX11_rests 104 = .ok (.goto 4, 3) := by decide +kernel
theorem dX11_rests_107 : decode cX11_rests 107 = .ok (.iconst 0, 1) := by decide +kernel
theorem dX11_rests_108 : decode cX11_rests 108 = .ok (.istore 9, 2) := by decide +kernel
theorem dX11_rests_110 : decode cX11_rests 110 = .ok (.iload 9, 2) := by decide +kernel
theorem dX11_rests_112 : decode cX11_rests 112 = .ok (.ifCond .eq 19, 3) := by decide +kernel
theorem dX11_rests_115 : decode cX11_rests 115 = .ok (.iload 6, 2) := by decide +kernel
theorem dX11_rests_117 : decode cX11_rests 117 = .ok (.iload 4, 2) := by decide +kernel
theorem dX11_rests_119 : decode cX11_rests 119 = .ok (.if_icmp .ne 12, 3) := by decide +kernel
theorem dX11_rests_122 : decode cX11_rests 122 = .ok (.bipush 10, 2) := by decide +kernel
theorem dX11_rests_124 : decode cX11_rests 124 = .ok (.iload 7, 2) := by decide +kernel
theorem dX11_rests_126 : decode cX11_rests 126 = .ok (.imul, 1) := by decide +kernel
theorem dX11_rests_127 : decode cX11_rests 127 = .ok (.iload 8, 2) := by decide +kernel
theorem dX11_rests_129 : decode cX11_rests 129 = .ok (.iadd, 1) := by decide +kernel
theorem dX11_rests_130 : decode cX11_rests 130 = .ok (.ireturn, 1) := by decide +kernel
theorem dX11_rests_131 : decode cX11_rests 131 = .ok (.iload 6, 2) := by decide +kernel
theorem dX11_rests_133 : decode cX11_rests 133 = .ok (.iload 9, 2) := by decide +kernel
theorem dX11_rests_135 : decode cX11_rests 135 = .ok (.ifCond .eq 7, 3) := by decide +kernel
theorem dX11_rests_138 : decode cX11_rests 138 = .ok (.iconst 1, 1) := by decide +kernel
theorem dX11_rests_139 : decode cX11_rests 139 = .ok (.goto 4, 3) := by decide +kernel
theorem dX11_rests_142 : decode cX11_rests 142 = .ok (.iconst 0, 1) := by decide +kernel
theorem dX11_rests_143 : decode cX11_rests 143 = .ok (.iadd, 1) := by decide +kernel
theorem dX11_rests_144 : decode cX11_rests 144 = .ok (.istore 6, 2) := by decide +kernel
theorem dX11_rests_146 : decode cX11_rests 146 = .ok (.iinc 8 1, 3) := by decide +kernel
theorem dX11_rests_149 : decode cX11_rests 149 = .ok (.goto (-78), 3) := by decide +kernel
theorem dX11_rests_152 : decode cX11_rests 152 = .ok (.iinc 7 1, 3) := by decide +kernel
theorem dX11_rests_155 : decode cX11_rests 155 = .ok (.goto (-93), 3) := by decide +kernel
theorem dX11_rests_158 : decode cX11_rests 158 = .ok (.iload 4, 2) := by decide +kernel
theorem dX11_rests_160 : decode cX11_rests 160 = .ok (.iconst (-1), 1) := by decide +kernel
theorem dX11_rests_161 : decode cX11_rests 161 = .ok (.if_icmp .eq 11, 3) := by decide +kernel
theorem dX11_rests_164 : decode cX11_rests 164 = .ok (.new 204, 3) := by decide +kernel
theorem dX11_rests_167 : decode cX11_rests 167 = .ok (.dup, 1) := by decide +kernel
theorem dX11_rests_168 : decode cX11_rests 168 = .ok (.invokespecial 206, 3) := by decide +kernel
theorem dX11_rests_171 : decode cX11_rests 171 = .ok (.athrow, 1) := by decide +kernel
theorem dX11_rests_172 : decode cX11_rests 172 = .ok (.iload 6, 2) := by decide +kernel
theorem dX11_rests_174 : decode cX11_rests 174 = .ok (.ireturn, 1) := by decide +kernel
def wX11_rests (cy : Nat → ClassId) (tA : Nat) (t_tapeV : Value) (t_netV : Value) (t_spareNetV : Value) (t_heardV : Value) (t_nowV : Value) (t_marksV : Value) (t_pastV : Value) (t_pileV : Value) (t_knotV : Value) (t_secondV : Value) (t_trialsV : Value) (t_cutterV : Value) (t_placingsV : Value) (t_ringsV : Value) : va_W :=
  [(tA, .inr (11, [t_tapeV, t_netV, t_spareNetV, t_heardV, t_nowV, t_marksV, t_pastV, t_pileV, t_knotV, t_secondV, t_trialsV, t_cutterV, t_placingsV, t_ringsV]))]
noncomputable def bX11_rests_L143 (F : Nat)  (k71 : Int32 → Int32 → Int32 → Int32 → Int32 → Int32 → Int32 → Option (Int32)) (x1 : Int32) (x2 : Int32) (x3 : Int32) (x4 : Int32) (x7 : Int32) (x8 : Int32) (s0 : Int32) (s1 : Int32) : Option (Int32) :=
  k71 x1 x2 x3 x4 (s0 + s1) x7 (x8 + (1 : Int32))
theorem vX11_rests_L143 {l : Launch} {D : va_G} {cy : Nat → ClassId} {av : List Value} {ws0 : va_W} {Q : Option Value → va_W → Prop} (F : Nat) (tA : Nat) (t_tapeV : Value) (t_netV : Value) (t_spareNetV : Value) (t_heardV : Value) (t_nowV : Value) (t_marksV : Value) (t_pastV : Value) (t_pileV : Value) (t_knotV : Value) (t_secondV : Value) (t_trialsV : Value) (t_cutterV : Value) (t_placingsV : Value) (t_ringsV : Value) (k71 : Int32 → Int32 → Int32 → Int32 → Int32 → Int32 → Int32 → Option (Int32)) (hk71 : ∀ (x1 : Int32) (x2 : Int32) (x3 : Int32) (x4 : Int32) (x6 : Int32) (x7 : Int32) (x8 : Int32) (R : Int32), k71 x1 x2 x3 x4 x6 x7 x8 = some R → Q (some (.int R)) (wX11_rests cy tA t_tapeV t_netV t_spareNetV t_heardV t_nowV t_marksV t_pastV t_pileV t_knotV t_secondV t_trialsV t_cutterV t_placingsV t_ringsV) → V l D cy MX11_rests 2 0 0 av ws0 Q 71 [(1, .int x1), (2, .int x2), (3, .int x3), (4, .int x4), (6, .int x6), (7, .int x7), (8, .int x8)] [] (wX11_rests cy tA t_tapeV t_netV t_spareNetV t_heardV t_nowV t_marksV t_pastV t_pileV t_knotV t_secondV t_trialsV t_cutterV t_placingsV t_ringsV) 0 0) (x1 : Int32) (x2 : Int32) (x3 : Int32) (x4 : Int32) (x7 : Int32) (x8 : Int32) (s0 : Int32) (s1 : Int32) (R : Int32) (h : bX11_rests_L143 F k71 x1 x2 x3 x4 x7 x8 s0 s1 = some R) (hQ : Q (some (.int R)) (wX11_rests cy tA t_tapeV t_netV t_spareNetV t_heardV t_nowV t_marksV t_pastV t_pileV t_knotV t_secondV t_trialsV t_cutterV t_placingsV t_ringsV)) : V l D cy MX11_rests 2 0 0 av ws0 Q 143 [(1, .int x1), (2, .int x2), (3, .int x3), (4, .int x4), (7, .int x7), (8, .int x8)] [.int s1, .int s0] (wX11_rests cy tA t_tapeV t_netV t_spareNetV t_heardV t_nowV t_marksV t_pastV t_pileV t_knotV t_secondV t_trialsV t_cutterV t_placingsV t_ringsV) 0 0 := by
  unfold bX11_rests_L143 at h
  refine V.iadd dX11_rests_143 ?_
  refine V.istore (lv' := [(6, .int (s0 + s1)), (1, .int x1), (2, .int x2), (3, .int x3), (4, .int x4), (7, .int x7), (8, .int x8)]) dX11_rests_144 (by decide) rfl ?_
  refine V.iinc (v := x8 + (1 : Int32)) (lv' := [(8, .int (x8 + (1 : Int32))), (6, .int (s0 + s1)), (1, .int x1), (2, .int x2), (3, .int x3), (4, .int x4), (7, .int x7)]) dX11_rests_146 6 rfl rfl (by decide) rfl ?_
  refine V.goto (tgt := 71) dX11_rests_149 (by decide) ?_
  refine V.lvs [2, 3, 4, 5, 1, 6, 0] rfl ?_
  exact hk71 _ _ _ _ _ _ _ R h hQ
noncomputable def bX11_rests_L131 (F : Nat)  (k71 : Int32 → Int32 → Int32 → Int32 → Int32 → Int32 → Int32 → Option (Int32)) (x1 : Int32) (x2 : Int32) (x3 : Int32) (x4 : Int32) (x6 : Int32) (x7 : Int32) (x8 : Int32) (x9 : Int32) : Option (Int32) :=
  if x9 = 0 then (bX11_rests_L143 F k71 x1 x2 x3 x4 x7 x8 x6 (0 : Int32)) else (bX11_rests_L143 F k71 x1 x2 x3 x4 x7 x8 x6 (1 : Int32))
theorem vX11_rests_L131 {l : Launch} {D : va_G} {cy : Nat → ClassId} {av : List Value} {ws0 : va_W} {Q : Option Value → va_W → Prop} (F : Nat) (tA : Nat) (t_tapeV : Value) (t_netV : Value) (t_spareNetV : Value) (t_heardV : Value) (t_nowV : Value) (t_marksV : Value) (t_pastV : Value) (t_pileV : Value) (t_knotV : Value) (t_secondV : Value) (t_trialsV : Value) (t_cutterV : Value) (t_placingsV : Value) (t_ringsV : Value) (k71 : Int32 → Int32 → Int32 → Int32 → Int32 → Int32 → Int32 → Option (Int32)) (hk71 : ∀ (x1 : Int32) (x2 : Int32) (x3 : Int32) (x4 : Int32) (x6 : Int32) (x7 : Int32) (x8 : Int32) (R : Int32), k71 x1 x2 x3 x4 x6 x7 x8 = some R → Q (some (.int R)) (wX11_rests cy tA t_tapeV t_netV t_spareNetV t_heardV t_nowV t_marksV t_pastV t_pileV t_knotV t_secondV t_trialsV t_cutterV t_placingsV t_ringsV) → V l D cy MX11_rests 2 0 0 av ws0 Q 71 [(1, .int x1), (2, .int x2), (3, .int x3), (4, .int x4), (6, .int x6), (7, .int x7), (8, .int x8)] [] (wX11_rests cy tA t_tapeV t_netV t_spareNetV t_heardV t_nowV t_marksV t_pastV t_pileV t_knotV t_secondV t_trialsV t_cutterV t_placingsV t_ringsV) 0 0) (x1 : Int32) (x2 : Int32) (x3 : Int32) (x4 : Int32) (x6 : Int32) (x7 : Int32) (x8 : Int32) (x9 : Int32) (R : Int32) (h : bX11_rests_L131 F k71 x1 x2 x3 x4 x6 x7 x8 x9 = some R) (hQ : Q (some (.int R)) (wX11_rests cy tA t_tapeV t_netV t_spareNetV t_heardV t_nowV t_marksV t_pastV t_pileV t_knotV t_secondV t_trialsV t_cutterV t_placingsV t_ringsV)) : V l D cy MX11_rests 2 0 0 av ws0 Q 131 [(1, .int x1), (2, .int x2), (3, .int x3), (4, .int x4), (6, .int x6), (7, .int x7), (8, .int x8), (9, .int x9)] [] (wX11_rests cy tA t_tapeV t_netV t_spareNetV t_heardV t_nowV t_marksV t_pastV t_pileV t_knotV t_secondV t_trialsV t_cutterV t_placingsV t_ringsV) 0 0 := by
  unfold bX11_rests_L131 at h
  refine V.iload dX11_rests_131 4 rfl ?_
  refine V.iload dX11_rests_133 7 rfl ?_
  refine V.if_eq (tgt := 142) dX11_rests_135 (by decide) (fun hc135 => ?_) (fun hc135 => ?_)
  · replace h := (if_pos hc135).symm.trans h
    refine V.iconst (v := (0 : Int32)) dX11_rests_142 (by decide) ?_
    refine V.lvs [0, 1, 2, 3, 5, 6] rfl ?_
    exact vX11_rests_L143 _ _ _ _ _ _ _ _ _ _ _ _ _ _ _ _ _ hk71  _ _ _ _ _ _ _ _ R h hQ
  · replace h := (if_neg hc135).symm.trans h
    refine V.iconst (v := (1 : Int32)) dX11_rests_138 (by decide) ?_
    refine V.goto (tgt := 143) dX11_rests_139 (by decide) ?_
    refine V.lvs [0, 1, 2, 3, 5, 6] rfl ?_
    exact vX11_rests_L143 _ _ _ _ _ _ _ _ _ _ _ _ _ _ _ _ _ hk71  _ _ _ _ _ _ _ _ R h hQ
noncomputable def bX11_rests_L108 (F : Nat)  (k71 : Int32 → Int32 → Int32 → Int32 → Int32 → Int32 → Int32 → Option (Int32)) (x1 : Int32) (x2 : Int32) (x3 : Int32) (x4 : Int32) (x6 : Int32) (x7 : Int32) (x8 : Int32) (s0 : Int32) : Option (Int32) :=
  if s0 = 0 then (bX11_rests_L131 F k71 x1 x2 x3 x4 x6 x7 x8 s0) else (if x6 = x4 then (some (((10 : Int32) * x7) + x8)) else (bX11_rests_L131 F k71 x1 x2 x3 x4 x6 x7 x8 s0))
theorem vX11_rests_L108 {l : Launch} {D : va_G} {cy : Nat → ClassId} {av : List Value} {ws0 : va_W} {Q : Option Value → va_W → Prop} (F : Nat) (tA : Nat) (t_tapeV : Value) (t_netV : Value) (t_spareNetV : Value) (t_heardV : Value) (t_nowV : Value) (t_marksV : Value) (t_pastV : Value) (t_pileV : Value) (t_knotV : Value) (t_secondV : Value) (t_trialsV : Value) (t_cutterV : Value) (t_placingsV : Value) (t_ringsV : Value) (k71 : Int32 → Int32 → Int32 → Int32 → Int32 → Int32 → Int32 → Option (Int32)) (hk71 : ∀ (x1 : Int32) (x2 : Int32) (x3 : Int32) (x4 : Int32) (x6 : Int32) (x7 : Int32) (x8 : Int32) (R : Int32), k71 x1 x2 x3 x4 x6 x7 x8 = some R → Q (some (.int R)) (wX11_rests cy tA t_tapeV t_netV t_spareNetV t_heardV t_nowV t_marksV t_pastV t_pileV t_knotV t_secondV t_trialsV t_cutterV t_placingsV t_ringsV) → V l D cy MX11_rests 2 0 0 av ws0 Q 71 [(1, .int x1), (2, .int x2), (3, .int x3), (4, .int x4), (6, .int x6), (7, .int x7), (8, .int x8)] [] (wX11_rests cy tA t_tapeV t_netV t_spareNetV t_heardV t_nowV t_marksV t_pastV t_pileV t_knotV t_secondV t_trialsV t_cutterV t_placingsV t_ringsV) 0 0) (x1 : Int32) (x2 : Int32) (x3 : Int32) (x4 : Int32) (x6 : Int32) (x7 : Int32) (x8 : Int32) (s0 : Int32) (R : Int32) (h : bX11_rests_L108 F k71 x1 x2 x3 x4 x6 x7 x8 s0 = some R) (hQ : Q (some (.int R)) (wX11_rests cy tA t_tapeV t_netV t_spareNetV t_heardV t_nowV t_marksV t_pastV t_pileV t_knotV t_secondV t_trialsV t_cutterV t_placingsV t_ringsV)) : V l D cy MX11_rests 2 0 0 av ws0 Q 108 [(1, .int x1), (2, .int x2), (3, .int x3), (4, .int x4), (6, .int x6), (7, .int x7), (8, .int x8)] [.int s0] (wX11_rests cy tA t_tapeV t_netV t_spareNetV t_heardV t_nowV t_marksV t_pastV t_pileV t_knotV t_secondV t_trialsV t_cutterV t_placingsV t_ringsV) 0 0 := by
  unfold bX11_rests_L108 at h
  refine V.istore (lv' := [(9, .int s0), (1, .int x1), (2, .int x2), (3, .int x3), (4, .int x4), (6, .int x6), (7, .int x7), (8, .int x8)]) dX11_rests_108 (by decide) rfl ?_
  refine V.iload dX11_rests_110 0 rfl ?_
  refine V.if_eq (tgt := 131) dX11_rests_112 (by decide) (fun hc112 => ?_) (fun hc112 => ?_)
  · replace h := (if_pos hc112).symm.trans h
    refine V.lvs [1, 2, 3, 4, 5, 6, 7, 0] rfl ?_
    exact vX11_rests_L131 _ _ _ _ _ _ _ _ _ _ _ _ _ _ _ _ _ hk71  _ _ _ _ _ _ _ _ R h hQ
  · replace h := (if_neg hc112).symm.trans h
    refine V.iload dX11_rests_115 5 rfl ?_
    refine V.iload dX11_rests_117 4 rfl ?_
    refine V.icmp_ne (tgt := 131) dX11_rests_119 (by decide) (fun hc119 => ?_) (fun hc119 => ?_)
    · replace h := (if_neg hc119).symm.trans h
      refine V.lvs [1, 2, 3, 4, 5, 6, 7, 0] rfl ?_
      exact vX11_rests_L131 _ _ _ _ _ _ _ _ _ _ _ _ _ _ _ _ _ hk71  _ _ _ _ _ _ _ _ R h hQ
    · replace h := (if_pos hc119).symm.trans h
      refine V.bipush (v := (10 : Int32)) dX11_rests_122 (by decide) ?_
      refine V.iload dX11_rests_124 6 rfl ?_
      refine V.imul dX11_rests_126 ?_
      refine V.iload dX11_rests_127 7 rfl ?_
      refine V.iadd dX11_rests_129 ?_
      have e9 := Option.some.inj h; subst e9
      exact V.iret (ty := .int) rfl rfl dX11_rests_130 (Nat.le_refl _) (Nat.le_refl _) hQ
noncomputable def bX11_rests_L107 (F : Nat)  (k71 : Int32 → Int32 → Int32 → Int32 → Int32 → Int32 → Int32 → Option (Int32)) (x1 : Int32) (x2 : Int32) (x3 : Int32) (x4 : Int32) (x6 : Int32) (x7 : Int32) (x8 : Int32) : Option (Int32) :=
  bX11_rests_L108 F k71 x1 x2 x3 x4 x6 x7 x8 (0 : Int32)
theorem vX11_rests_L107 {l : Launch} {D : va_G} {cy : Nat → ClassId} {av : List Value} {ws0 : va_W} {Q : Option Value → va_W → Prop} (F : Nat) (tA : Nat) (t_tapeV : Value) (t_netV : Value) (t_spareNetV : Value) (t_heardV : Value) (t_nowV : Value) (t_marksV : Value) (t_pastV : Value) (t_pileV : Value) (t_knotV : Value) (t_secondV : Value) (t_trialsV : Value) (t_cutterV : Value) (t_placingsV : Value) (t_ringsV : Value) (k71 : Int32 → Int32 → Int32 → Int32 → Int32 → Int32 → Int32 → Option (Int32)) (hk71 : ∀ (x1 : Int32) (x2 : Int32) (x3 : Int32) (x4 : Int32) (x6 : Int32) (x7 : Int32) (x8 : Int32) (R : Int32), k71 x1 x2 x3 x4 x6 x7 x8 = some R → Q (some (.int R)) (wX11_rests cy tA t_tapeV t_netV t_spareNetV t_heardV t_nowV t_marksV t_pastV t_pileV t_knotV t_secondV t_trialsV t_cutterV t_placingsV t_ringsV) → V l D cy MX11_rests 2 0 0 av ws0 Q 71 [(1, .int x1), (2, .int x2), (3, .int x3), (4, .int x4), (6, .int x6), (7, .int x7), (8, .int x8)] [] (wX11_rests cy tA t_tapeV t_netV t_spareNetV t_heardV t_nowV t_marksV t_pastV t_pileV t_knotV t_secondV t_trialsV t_cutterV t_placingsV t_ringsV) 0 0) (x1 : Int32) (x2 : Int32) (x3 : Int32) (x4 : Int32) (x6 : Int32) (x7 : Int32) (x8 : Int32) (R : Int32) (h : bX11_rests_L107 F k71 x1 x2 x3 x4 x6 x7 x8 = some R) (hQ : Q (some (.int R)) (wX11_rests cy tA t_tapeV t_netV t_spareNetV t_heardV t_nowV t_marksV t_pastV t_pileV t_knotV t_secondV t_trialsV t_cutterV t_placingsV t_ringsV)) : V l D cy MX11_rests 2 0 0 av ws0 Q 107 [(1, .int x1), (2, .int x2), (3, .int x3), (4, .int x4), (6, .int x6), (7, .int x7), (8, .int x8)] [] (wX11_rests cy tA t_tapeV t_netV t_spareNetV t_heardV t_nowV t_marksV t_pastV t_pileV t_knotV t_secondV t_trialsV t_cutterV t_placingsV t_ringsV) 0 0 := by
  unfold bX11_rests_L107 at h
  refine V.iconst (v := (0 : Int32)) dX11_rests_107 (by decide) ?_
  exact vX11_rests_L108 _ _ _ _ _ _ _ _ _ _ _ _ _ _ _ _ _ hk71  _ _ _ _ _ _ _ _ R h hQ
noncomputable def bX11_rests_L71 (F : Nat)  (k62 : Int32 → Int32 → Int32 → Int32 → Int32 → Int32 → Option (Int32)) (k71 : Int32 → Int32 → Int32 → Int32 → Int32 → Int32 → Int32 → Option (Int32)) (x1 : Int32) (x2 : Int32) (x3 : Int32) (x4 : Int32) (x6 : Int32) (x7 : Int32) (x8 : Int32) : Option (Int32) :=
  if (5 : Int32) < x8 then (k62 x1 x2 x3 x4 x6 (x7 + (1 : Int32))) else ((fX11_isBest F x7 x8 x1 x2 x3).bind fun R84 => (if R84 = 0 then (bX11_rests_L107 F k71 x1 x2 x3 x4 x6 x7 x8) else ((fX11_isBest F x8 x7 x1 x2 x3).bind fun R97 => (if R97 = 0 then (bX11_rests_L107 F k71 x1 x2 x3 x4 x6 x7 x8) else (bX11_rests_L108 F k71 x1 x2 x3 x4 x6 x7 x8 (1 : Int32))))))
theorem vbX11_rests_L71 {l : Launch} {D : va_G} {cy : Nat → ClassId} {av : List Value} {ws0 : va_W} {Q : Option Value → va_W → Prop} (F : Nat) (tA : Nat) (t_tapeV : Value) (t_netV : Value) (t_spareNetV : Value) (t_heardV : Value) (t_nowV : Value) (t_marksV : Value) (t_pastV : Value) (t_pileV : Value) (t_knotV : Value) (t_secondV : Value) (t_trialsV : Value) (t_cutterV : Value) (t_placingsV : Value) (t_ringsV : Value) (k62 : Int32 → Int32 → Int32 → Int32 → Int32 → Int32 → Option (Int32)) (hk62 : ∀ (x1 : Int32) (x2 : Int32) (x3 : Int32) (x4 : Int32) (x6 : Int32) (x7 : Int32) (R : Int32), k62 x1 x2 x3 x4 x6 x7 = some R → Q (some (.int R)) (wX11_rests cy tA t_tapeV t_netV t_spareNetV t_heardV t_nowV t_marksV t_pastV t_pileV t_knotV t_secondV t_trialsV t_cutterV t_placingsV t_ringsV) → V l D cy MX11_rests 2 0 0 av ws0 Q 62 [(1, .int x1), (2, .int x2), (3, .int x3), (4, .int x4), (6, .int x6), (7, .int x7)] [] (wX11_rests cy tA t_tapeV t_netV t_spareNetV t_heardV t_nowV t_marksV t_pastV t_pileV t_knotV t_secondV t_trialsV t_cutterV t_placingsV t_ringsV) 0 0) (k71 : Int32 → Int32 → Int32 → Int32 → Int32 → Int32 → Int32 → Option (Int32)) (hk71 : ∀ (x1 : Int32) (x2 : Int32) (x3 : Int32) (x4 : Int32) (x6 : Int32) (x7 : Int32) (x8 : Int32) (R : Int32), k71 x1 x2 x3 x4 x6 x7 x8 = some R → Q (some (.int R)) (wX11_rests cy tA t_tapeV t_netV t_spareNetV t_heardV t_nowV t_marksV t_pastV t_pileV t_knotV t_secondV t_trialsV t_cutterV t_placingsV t_ringsV) → V l D cy MX11_rests 2 0 0 av ws0 Q 71 [(1, .int x1), (2, .int x2), (3, .int x3), (4, .int x4), (6, .int x6), (7, .int x7), (8, .int x8)] [] (wX11_rests cy tA t_tapeV t_netV t_spareNetV t_heardV t_nowV t_marksV t_pastV t_pileV t_knotV t_secondV t_trialsV t_cutterV t_placingsV t_ringsV) 0 0) (x1 : Int32) (x2 : Int32) (x3 : Int32) (x4 : Int32) (x6 : Int32) (x7 : Int32) (x8 : Int32) (R : Int32) (h : bX11_rests_L71 F k62 k71 x1 x2 x3 x4 x6 x7 x8 = some R) (hQ : Q (some (.int R)) (wX11_rests cy tA t_tapeV t_netV t_spareNetV t_heardV t_nowV t_marksV t_pastV t_pileV t_knotV t_secondV t_trialsV t_cutterV t_placingsV t_ringsV)) : V l D cy MX11_rests 2 0 0 av ws0 Q 71 [(1, .int x1), (2, .int x2), (3, .int x3), (4, .int x4), (6, .int x6), (7, .int x7), (8, .int x8)] [] (wX11_rests cy tA t_tapeV t_netV t_spareNetV t_heardV t_nowV t_marksV t_pastV t_pileV t_knotV t_secondV t_trialsV t_cutterV t_placingsV t_ringsV) 0 0 := by
  unfold bX11_rests_L71 at h
  refine V.iload dX11_rests_71 6 rfl ?_
  refine V.iconst (v := (5 : Int32)) dX11_rests_73 (by decide) ?_
  refine V.icmp_gt (tgt := 152) dX11_rests_74 (by decide) (fun hc74 => ?_) (fun hc74 => ?_)
  · replace h := (if_pos hc74).symm.trans h
    refine V.iinc (v := x7 + (1 : Int32)) (lv' := [(7, .int (x7 + (1 : Int32))), (1, .int x1), (2, .int x2), (3, .int x3), (4, .int x4), (6, .int x6), (8, .int x8)]) dX11_rests_152 5 rfl rfl (by decide) rfl ?_
    refine V.goto (tgt := 62) dX11_rests_155 (by decide) ?_
    refine V.lvs [1, 2, 3, 4, 5, 0] rfl ?_
    exact hk62 _ _ _ _ _ _ R h hQ
  · replace h := (if_neg hc74).symm.trans h
    refine V.iload dX11_rests_77 5 rfl ?_
    refine V.iload dX11_rests_79 6 rfl ?_
    refine V.iload_n dX11_rests_81 rfl 0 rfl ?_
    refine V.iload_n dX11_rests_82 rfl 1 rfl ?_
    refine V.iload_n dX11_rests_83 rfl 2 rfl ?_
    obtain ⟨R84, hg84, h⟩ := Option.bind_eq_some_iff.mp h
    refine V.callS (As := [.int x7, .int x8, .int x1, .int x2, .int x3]) (rest := []) (wc := (wX11_isBest cy )) (wr := [(tA, .inr (11, [t_tapeV, t_netV, t_spareNetV, t_heardV, t_nowV, t_marksV, t_pastV, t_pileV, t_knotV, t_secondV, t_trialsV, t_cutterV, t_placingsV, t_ringsV]))]) (CX11_isBest F x7 x8 x1 x2 x3 R84 hg84) kvX11_isBest klX11_261 [] [0] rfl rfl (by decide) (by decide) (by decide) rfl dX11_rests_84 ⟨by decide, by decide, by decide, by decide⟩ (Nat.le_of_ble_eq_true rfl) (fun r w1 hq => ?_)
    obtain ⟨rfl, rfl⟩ := hq
    refine V.cells (ws' := (wX11_rests cy tA t_tapeV t_netV t_spareNetV t_heardV t_nowV t_marksV t_pastV t_pileV t_knotV t_secondV t_trialsV t_cutterV t_placingsV t_ringsV)) [0] (by decide) rfl ?_
    show V l D cy MX11_rests 2 0 0 _ _ _ 87 [(1, .int x1), (2, .int x2), (3, .int x3), (4, .int x4), (6, .int x6), (7, .int x7), (8, .int x8)] [.int R84] (wX11_rests cy tA t_tapeV t_netV t_spareNetV t_heardV t_nowV t_marksV t_pastV t_pileV t_knotV t_secondV t_trialsV t_cutterV t_placingsV t_ringsV) 0 0
    refine V.if_eq (tgt := 107) dX11_rests_87 (by decide) (fun hc87 => ?_) (fun hc87 => ?_)
    · replace h := (if_pos hc87).symm.trans h
      exact vX11_rests_L107 _ _ _ _ _ _ _ _ _ _ _ _ _ _ _ _ _ hk71  _ _ _ _ _ _ _ R h hQ
    · replace h := (if_neg hc87).symm.trans h
      refine V.iload dX11_rests_90 6 rfl ?_
      refine V.iload dX11_rests_92 5 rfl ?_
      refine V.iload_n dX11_rests_94 rfl 0 rfl ?_
      refine V.iload_n dX11_rests_95 rfl 1 rfl ?_
      refine V.iload_n dX11_rests_96 rfl 2 rfl ?_
      obtain ⟨R97, hg97, h⟩ := Option.bind_eq_some_iff.mp h
      refine V.callS (As := [.int x8, .int x7, .int x1, .int x2, .int x3]) (rest := []) (wc := (wX11_isBest cy )) (wr := [(tA, .inr (11, [t_tapeV, t_netV, t_spareNetV, t_heardV, t_nowV, t_marksV, t_pastV, t_pileV, t_knotV, t_secondV, t_trialsV, t_cutterV, t_placingsV, t_ringsV]))]) (CX11_isBest F x8 x7 x1 x2 x3 R97 hg97) kvX11_isBest klX11_261 [] [0] rfl rfl (by decide) (by decide) (by decide) rfl dX11_rests_97 ⟨by decide, by decide, by decide, by decide⟩ (Nat.le_of_ble_eq_true rfl) (fun r w1 hq => ?_)
      obtain ⟨rfl, rfl⟩ := hq
      refine V.cells (ws' := (wX11_rests cy tA t_tapeV t_netV t_spareNetV t_heardV t_nowV t_marksV t_pastV t_pileV t_knotV t_secondV t_trialsV t_cutterV t_placingsV t_ringsV)) [0] (by decide) rfl ?_
      show V l D cy MX11_rests 2 0 0 _ _ _ 100 [(1, .int x1), (2, .int x2), (3, .int x3), (4, .int x4), (6, .int x6), (7, .int x7), (8, .int x8)] [.int R97] (wX11_rests cy tA t_tapeV t_netV t_spareNetV t_heardV t_nowV t_marksV t_pastV t_pileV t_knotV t_secondV t_trialsV t_cutterV t_placingsV t_ringsV) 0 0
      refine V.if_eq (tgt := 107) dX11_rests_100 (by decide) (fun hc100 => ?_) (fun hc100 => ?_)
      · replace h := (if_pos hc100).symm.trans h
        exact vX11_rests_L107 _ _ _ _ _ _ _ _ _ _ _ _ _ _ _ _ _ hk71  _ _ _ _ _ _ _ R h hQ
      · replace h := (if_neg hc100).symm.trans h
        refine V.iconst (v := (1 : Int32)) dX11_rests_103 (by decide) ?_
        refine V.goto (tgt := 108) dX11_rests_104 (by decide) ?_
        exact vX11_rests_L108 _ _ _ _ _ _ _ _ _ _ _ _ _ _ _ _ _ hk71  _ _ _ _ _ _ _ _ R h hQ
noncomputable def fX11_rests_L71 (F : Nat)  (k62 : Int32 → Int32 → Int32 → Int32 → Int32 → Int32 → Option (Int32)) : Nat → Int32 → Int32 → Int32 → Int32 → Int32 → Int32 → Int32 → Option (Int32)
  | 0 => fun _ _ _ _ _ _ _ => none
  | n + 1 => bX11_rests_L71 F k62 (fX11_rests_L71 F k62 n)
theorem vX11_rests_L71 {l : Launch} {D : va_G} {cy : Nat → ClassId} {av : List Value} {ws0 : va_W} {Q : Option Value → va_W → Prop} (F : Nat) (tA : Nat) (t_tapeV : Value) (t_netV : Value) (t_spareNetV : Value) (t_heardV : Value) (t_nowV : Value) (t_marksV : Value) (t_pastV : Value) (t_pileV : Value) (t_knotV : Value) (t_secondV : Value) (t_trialsV : Value) (t_cutterV : Value) (t_placingsV : Value) (t_ringsV : Value) (k62 : Int32 → Int32 → Int32 → Int32 → Int32 → Int32 → Option (Int32)) (hk62 : ∀ (x1 : Int32) (x2 : Int32) (x3 : Int32) (x4 : Int32) (x6 : Int32) (x7 : Int32) (R : Int32), k62 x1 x2 x3 x4 x6 x7 = some R → Q (some (.int R)) (wX11_rests cy tA t_tapeV t_netV t_spareNetV t_heardV t_nowV t_marksV t_pastV t_pileV t_knotV t_secondV t_trialsV t_cutterV t_placingsV t_ringsV) → V l D cy MX11_rests 2 0 0 av ws0 Q 62 [(1, .int x1), (2, .int x2), (3, .int x3), (4, .int x4), (6, .int x6), (7, .int x7)] [] (wX11_rests cy tA t_tapeV t_netV t_spareNetV t_heardV t_nowV t_marksV t_pastV t_pileV t_knotV t_secondV t_trialsV t_cutterV t_placingsV t_ringsV) 0 0) : ∀ (n : Nat) (x1 : Int32) (x2 : Int32) (x3 : Int32) (x4 : Int32) (x6 : Int32) (x7 : Int32) (x8 : Int32) (R : Int32), fX11_rests_L71 F k62 n x1 x2 x3 x4 x6 x7 x8 = some R → Q (some (.int R)) (wX11_rests cy tA t_tapeV t_netV t_spareNetV t_heardV t_nowV t_marksV t_pastV t_pileV t_knotV t_secondV t_trialsV t_cutterV t_placingsV t_ringsV) → V l D cy MX11_rests 2 0 0 av ws0 Q 71 [(1, .int x1), (2, .int x2), (3, .int x3), (4, .int x4), (6, .int x6), (7, .int x7), (8, .int x8)] [] (wX11_rests cy tA t_tapeV t_netV t_spareNetV t_heardV t_nowV t_marksV t_pastV t_pileV t_knotV t_secondV t_trialsV t_cutterV t_placingsV t_ringsV) 0 0 := by
  intro n
  induction n with
  | zero => intro x1 x2 x3 x4 x6 x7 x8 R h; exact vNone h
  | succ n ih => intro x1 x2 x3 x4 x6 x7 x8 R h hQ; exact vbX11_rests_L71 F tA t_tapeV t_netV t_spareNetV t_heardV t_nowV t_marksV t_pastV t_pileV t_knotV t_secondV t_trialsV t_cutterV t_placingsV t_ringsV _ hk62 _ ih x1 x2 x3 x4 x6 x7 x8 R h hQ
noncomputable def bX11_rests_L62 (F : Nat)  (k62 : Int32 → Int32 → Int32 → Int32 → Int32 → Int32 → Option (Int32)) (x1 : Int32) (x2 : Int32) (x3 : Int32) (x4 : Int32) (x6 : Int32) (x7 : Int32) : Option (Int32) :=
  if (5 : Int32) < x7 then (if x4 = (-1 : Int32) then (some x6) else (none)) else (fX11_rests_L71 F k62 F x1 x2 x3 x4 x6 x7 (0 : Int32))
theorem vbX11_rests_L62 {l : Launch} {D : va_G} {cy : Nat → ClassId} {av : List Value} {ws0 : va_W} {Q : Option Value → va_W → Prop} (F : Nat) (tA : Nat) (t_tapeV : Value) (t_netV : Value) (t_spareNetV : Value) (t_heardV : Value) (t_nowV : Value) (t_marksV : Value) (t_pastV : Value) (t_pileV : Value) (t_knotV : Value) (t_secondV : Value) (t_trialsV : Value) (t_cutterV : Value) (t_placingsV : Value) (t_ringsV : Value) (k62 : Int32 → Int32 → Int32 → Int32 → Int32 → Int32 → Option (Int32)) (hk62 : ∀ (x1 : Int32) (x2 : Int32) (x3 : Int32) (x4 : Int32) (x6 : Int32) (x7 : Int32) (R : Int32), k62 x1 x2 x3 x4 x6 x7 = some R → Q (some (.int R)) (wX11_rests cy tA t_tapeV t_netV t_spareNetV t_heardV t_nowV t_marksV t_pastV t_pileV t_knotV t_secondV t_trialsV t_cutterV t_placingsV t_ringsV) → V l D cy MX11_rests 2 0 0 av ws0 Q 62 [(1, .int x1), (2, .int x2), (3, .int x3), (4, .int x4), (6, .int x6), (7, .int x7)] [] (wX11_rests cy tA t_tapeV t_netV t_spareNetV t_heardV t_nowV t_marksV t_pastV t_pileV t_knotV t_secondV t_trialsV t_cutterV t_placingsV t_ringsV) 0 0) (x1 : Int32) (x2 : Int32) (x3 : Int32) (x4 : Int32) (x6 : Int32) (x7 : Int32) (R : Int32) (h : bX11_rests_L62 F k62 x1 x2 x3 x4 x6 x7 = some R) (hQ : Q (some (.int R)) (wX11_rests cy tA t_tapeV t_netV t_spareNetV t_heardV t_nowV t_marksV t_pastV t_pileV t_knotV t_secondV t_trialsV t_cutterV t_placingsV t_ringsV)) : V l D cy MX11_rests 2 0 0 av ws0 Q 62 [(1, .int x1), (2, .int x2), (3, .int x3), (4, .int x4), (6, .int x6), (7, .int x7)] [] (wX11_rests cy tA t_tapeV t_netV t_spareNetV t_heardV t_nowV t_marksV t_pastV t_pileV t_knotV t_secondV t_trialsV t_cutterV t_placingsV t_ringsV) 0 0 := by
  unfold bX11_rests_L62 at h
  refine V.iload dX11_rests_62 5 rfl ?_
  refine V.iconst (v := (5 : Int32)) dX11_rests_64 (by decide) ?_
  refine V.icmp_gt (tgt := 158) dX11_rests_65 (by decide) (fun hc65 => ?_) (fun hc65 => ?_)
  · replace h := (if_pos hc65).symm.trans h
    refine V.iload dX11_rests_158 3 rfl ?_
    refine V.iconst (v := (-1 : Int32)) dX11_rests_160 (by decide) ?_
    refine V.icmp_eq (tgt := 172) dX11_rests_161 (by decide) (fun hc161 => ?_) (fun hc161 => ?_)
    · replace h := (if_pos hc161).symm.trans h
      refine V.iload dX11_rests_172 4 rfl ?_
      have e9 := Option.some.inj h; subst e9
      exact V.iret (ty := .int) rfl rfl dX11_rests_174 (Nat.le_refl _) (Nat.le_refl _) hQ
    · replace h := (if_neg hc161).symm.trans h
      exact vNone h
  · replace h := (if_neg hc65).symm.trans h
    refine V.iconst (v := (0 : Int32)) dX11_rests_68 (by decide) ?_
    refine V.istore (lv' := [(8, .int (0 : Int32)), (1, .int x1), (2, .int x2), (3, .int x3), (4, .int x4), (6, .int x6), (7, .int x7)]) dX11_rests_69 (by decide) rfl ?_
    refine V.lvs [1, 2, 3, 4, 5, 6, 0] rfl ?_
    exact vX11_rests_L71 _ _ _ _ _ _ _ _ _ _ _ _ _ _ _ _ _ hk62 _ _ _ _ _ _ _ _ R h hQ
noncomputable def fX11_rests_L62 (F : Nat)   : Nat → Int32 → Int32 → Int32 → Int32 → Int32 → Int32 → Option (Int32)
  | 0 => fun _ _ _ _ _ _ => none
  | n + 1 => bX11_rests_L62 F (fX11_rests_L62 F  n)
theorem vX11_rests_L62 {l : Launch} {D : va_G} {cy : Nat → ClassId} {av : List Value} {ws0 : va_W} {Q : Option Value → va_W → Prop} (F : Nat) (tA : Nat) (t_tapeV : Value) (t_netV : Value) (t_spareNetV : Value) (t_heardV : Value) (t_nowV : Value) (t_marksV : Value) (t_pastV : Value) (t_pileV : Value) (t_knotV : Value) (t_secondV : Value) (t_trialsV : Value) (t_cutterV : Value) (t_placingsV : Value) (t_ringsV : Value)  : ∀ (n : Nat) (x1 : Int32) (x2 : Int32) (x3 : Int32) (x4 : Int32) (x6 : Int32) (x7 : Int32) (R : Int32), fX11_rests_L62 F  n x1 x2 x3 x4 x6 x7 = some R → Q (some (.int R)) (wX11_rests cy tA t_tapeV t_netV t_spareNetV t_heardV t_nowV t_marksV t_pastV t_pileV t_knotV t_secondV t_trialsV t_cutterV t_placingsV t_ringsV) → V l D cy MX11_rests 2 0 0 av ws0 Q 62 [(1, .int x1), (2, .int x2), (3, .int x3), (4, .int x4), (6, .int x6), (7, .int x7)] [] (wX11_rests cy tA t_tapeV t_netV t_spareNetV t_heardV t_nowV t_marksV t_pastV t_pileV t_knotV t_secondV t_trialsV t_cutterV t_placingsV t_ringsV) 0 0 := by
  intro n
  induction n with
  | zero => intro x1 x2 x3 x4 x6 x7 R h; exact vNone h
  | succ n ih => intro x1 x2 x3 x4 x6 x7 R h hQ; exact vbX11_rests_L62 F tA t_tapeV t_netV t_spareNetV t_heardV t_nowV t_marksV t_pastV t_pileV t_knotV t_secondV t_trialsV t_cutterV t_placingsV t_ringsV _ ih x1 x2 x3 x4 x6 x7 R h hQ
noncomputable def bX11_rests_L48 (F : Nat)    : Option (Int32) :=
  none
theorem vX11_rests_L48 {l : Launch} {D : va_G} {cy : Nat → ClassId} {av : List Value} {ws0 : va_W} {Q : Option Value → va_W → Prop} (F : Nat) (tA : Nat) (t_tapeV : Value) (t_netV : Value) (t_spareNetV : Value) (t_heardV : Value) (t_nowV : Value) (t_marksV : Value) (t_pastV : Value) (t_pileV : Value) (t_knotV : Value) (t_secondV : Value) (t_trialsV : Value) (t_cutterV : Value) (t_placingsV : Value) (t_ringsV : Value)   (R : Int32) (h : bX11_rests_L48 F   = some R) (hQ : Q (some (.int R)) (wX11_rests cy tA t_tapeV t_netV t_spareNetV t_heardV t_nowV t_marksV t_pastV t_pileV t_knotV t_secondV t_trialsV t_cutterV t_placingsV t_ringsV)) : V l D cy MX11_rests 2 0 0 av ws0 Q 48 [] [] (wX11_rests cy tA t_tapeV t_netV t_spareNetV t_heardV t_nowV t_marksV t_pastV t_pileV t_knotV t_secondV t_trialsV t_cutterV t_placingsV t_ringsV) 0 0 := by
  unfold bX11_rests_L48 at h
  exact vNone h
noncomputable def bX11_rests_L35 (F : Nat)   (x1 : Int32) (x2 : Int32) (x3 : Int32) (x4 : Int32) (s0 : Int32) : Option (Int32) :=
  if s0 = 0 then (bX11_rests_L48 F) else (if (-1 : Int32) ≤ x4 then (fX11_rests_L62 F F x1 x2 x3 x4 (0 : Int32) (0 : Int32)) else (bX11_rests_L48 F))
theorem vX11_rests_L35 {l : Launch} {D : va_G} {cy : Nat → ClassId} {av : List Value} {ws0 : va_W} {Q : Option Value → va_W → Prop} (F : Nat) (tA : Nat) (t_tapeV : Value) (t_netV : Value) (t_spareNetV : Value) (t_heardV : Value) (t_nowV : Value) (t_marksV : Value) (t_pastV : Value) (t_pileV : Value) (t_knotV : Value) (t_secondV : Value) (t_trialsV : Value) (t_cutterV : Value) (t_placingsV : Value) (t_ringsV : Value)  (x1 : Int32) (x2 : Int32) (x3 : Int32) (x4 : Int32) (s0 : Int32) (R : Int32) (h : bX11_rests_L35 F  x1 x2 x3 x4 s0 = some R) (hQ : Q (some (.int R)) (wX11_rests cy tA t_tapeV t_netV t_spareNetV t_heardV t_nowV t_marksV t_pastV t_pileV t_knotV t_secondV t_trialsV t_cutterV t_placingsV t_ringsV)) : V l D cy MX11_rests 2 0 0 av ws0 Q 35 [(1, .int x1), (2, .int x2), (3, .int x3), (4, .int x4)] [.int s0] (wX11_rests cy tA t_tapeV t_netV t_spareNetV t_heardV t_nowV t_marksV t_pastV t_pileV t_knotV t_secondV t_trialsV t_cutterV t_placingsV t_ringsV) 0 0 := by
  unfold bX11_rests_L35 at h
  refine V.istore (lv' := [(5, .int s0), (1, .int x1), (2, .int x2), (3, .int x3), (4, .int x4)]) dX11_rests_35 (by decide) rfl ?_
  refine V.iload dX11_rests_37 0 rfl ?_
  refine V.if_eq (tgt := 48) dX11_rests_39 (by decide) (fun hc39 => ?_) (fun hc39 => ?_)
  · replace h := (if_pos hc39).symm.trans h
    refine V.lvs [] rfl ?_
    exact vX11_rests_L48 _ _ _ _ _ _ _ _ _ _ _ _ _ _ _ _    R h hQ
  · replace h := (if_neg hc39).symm.trans h
    refine V.iload dX11_rests_42 4 rfl ?_
    refine V.iconst (v := (-1 : Int32)) dX11_rests_44 (by decide) ?_
    refine V.icmp_ge (tgt := 56) dX11_rests_45 (by decide) (fun hc45 => ?_) (fun hc45 => ?_)
    · replace h := (if_pos hc45).symm.trans h
      refine V.iconst (v := (0 : Int32)) dX11_rests_56 (by decide) ?_
      refine V.istore (lv' := [(6, .int (0 : Int32)), (5, .int s0), (1, .int x1), (2, .int x2), (3, .int x3), (4, .int x4)]) dX11_rests_57 (by decide) rfl ?_
      refine V.iconst (v := (0 : Int32)) dX11_rests_59 (by decide) ?_
      refine V.istore (lv' := [(7, .int (0 : Int32)), (6, .int (0 : Int32)), (5, .int s0), (1, .int x1), (2, .int x2), (3, .int x3), (4, .int x4)]) dX11_rests_60 (by decide) rfl ?_
      refine V.lvs [3, 4, 5, 6, 1, 0] rfl ?_
      exact vX11_rests_L62 _ _ _ _ _ _ _ _ _ _ _ _ _ _ _ _  _ _ _ _ _ _ _ R h hQ
    · replace h := (if_neg hc45).symm.trans h
      refine V.lvs [] rfl ?_
      exact vX11_rests_L48 _ _ _ _ _ _ _ _ _ _ _ _ _ _ _ _    R h hQ
noncomputable def bX11_rests_L34 (F : Nat)   (x1 : Int32) (x2 : Int32) (x3 : Int32) (x4 : Int32) : Option (Int32) :=
  bX11_rests_L35 F x1 x2 x3 x4 (0 : Int32)
theorem vX11_rests_L34 {l : Launch} {D : va_G} {cy : Nat → ClassId} {av : List Value} {ws0 : va_W} {Q : Option Value → va_W → Prop} (F : Nat) (tA : Nat) (t_tapeV : Value) (t_netV : Value) (t_spareNetV : Value) (t_heardV : Value) (t_nowV : Value) (t_marksV : Value) (t_pastV : Value) (t_pileV : Value) (t_knotV : Value) (t_secondV : Value) (t_trialsV : Value) (t_cutterV : Value) (t_placingsV : Value) (t_ringsV : Value)  (x1 : Int32) (x2 : Int32) (x3 : Int32) (x4 : Int32) (R : Int32) (h : bX11_rests_L34 F  x1 x2 x3 x4 = some R) (hQ : Q (some (.int R)) (wX11_rests cy tA t_tapeV t_netV t_spareNetV t_heardV t_nowV t_marksV t_pastV t_pileV t_knotV t_secondV t_trialsV t_cutterV t_placingsV t_ringsV)) : V l D cy MX11_rests 2 0 0 av ws0 Q 34 [(1, .int x1), (2, .int x2), (3, .int x3), (4, .int x4)] [] (wX11_rests cy tA t_tapeV t_netV t_spareNetV t_heardV t_nowV t_marksV t_pastV t_pileV t_knotV t_secondV t_trialsV t_cutterV t_placingsV t_ringsV) 0 0 := by
  unfold bX11_rests_L34 at h
  refine V.iconst (v := (0 : Int32)) dX11_rests_34 (by decide) ?_
  exact vX11_rests_L35 _ _ _ _ _ _ _ _ _ _ _ _ _ _ _ _   _ _ _ _ _ R h hQ
noncomputable def fX11_rests (F : Nat) (a1 : Int32) (a2 : Int32) (a3 : Int32) (a4 : Int32) : Option (Int32) :=
  if a1 < 0 then (bX11_rests_L34 F a1 a2 a3 a4) else (if (10 : Int32) < a1 then (bX11_rests_L34 F a1 a2 a3 a4) else (if a2 < 0 then (bX11_rests_L34 F a1 a2 a3 a4) else (if (9 : Int32) < a2 then (bX11_rests_L34 F a1 a2 a3 a4) else (if a3 < 0 then (bX11_rests_L34 F a1 a2 a3 a4) else (if (9 : Int32) < a3 then (bX11_rests_L34 F a1 a2 a3 a4) else (bX11_rests_L35 F a1 a2 a3 a4 (1 : Int32)))))))
theorem CX11_rests {l : Launch} {D : va_G} {cy : Nat → ClassId} (F : Nat) (tA : Nat) (t_tapeV : Value) (t_netV : Value) (t_spareNetV : Value) (t_heardV : Value) (t_nowV : Value) (t_marksV : Value) (t_pastV : Value) (t_pileV : Value) (t_knotV : Value) (t_secondV : Value) (t_trialsV : Value) (t_cutterV : Value) (t_placingsV : Value) (t_ringsV : Value) (a1 : Int32) (a2 : Int32) (a3 : Int32) (a4 : Int32) (R : Int32) (h : fX11_rests F a1 a2 a3 a4 = some R) : vMet l D cy MX11_rests 2 0 0 [.ref tA, .int a1, .int a2, .int a3, .int a4] (wX11_rests cy tA t_tapeV t_netV t_spareNetV t_heardV t_nowV t_marksV t_pastV t_pileV t_knotV t_secondV t_trialsV t_cutterV t_placingsV t_ringsV) (fun (r : Option Value) (w : va_W) => r = (some (.int R)) ∧ w = (wX11_rests cy tA t_tapeV t_netV t_spareNetV t_heardV t_nowV t_marksV t_pastV t_pileV t_knotV t_secondV t_trialsV t_cutterV t_placingsV t_ringsV)) := by
  refine vMet.start (by decide +kernel) (Nat.le_of_ble_eq_true rfl) ?_
  generalize hQe : (fun (r : Option Value) (w : va_W) => r = (some (.int R)) ∧ w = (wX11_rests cy tA t_tapeV t_netV t_spareNetV t_heardV t_nowV t_marksV t_pastV t_pileV t_knotV t_secondV t_trialsV t_cutterV t_placingsV t_ringsV)) = Q
  have hQ : Q (some (.int R)) (wX11_rests cy tA t_tapeV t_netV t_spareNetV t_heardV t_nowV t_marksV t_pastV t_pileV t_knotV t_secondV t_trialsV t_cutterV t_placingsV t_ringsV) := by rw [← hQe]; exact ⟨rfl, rfl⟩
  show V l D cy MX11_rests 2 0 0 _ _ Q 0 [(0, .ref tA), (1, .int a1), (2, .int a2), (3, .int a3), (4, .int a4)] [] _ 0 0
  show V l D cy MX11_rests 2 0 0 [.ref tA, .int a1, .int a2, .int a3, .int a4] _ Q 0 [(0, .ref tA), (1, .int a1), (2, .int a2), (3, .int a3), (4, .int a4)] [] (wX11_rests cy tA t_tapeV t_netV t_spareNetV t_heardV t_nowV t_marksV t_pastV t_pileV t_knotV t_secondV t_trialsV t_cutterV t_placingsV t_ringsV) 0 0
  unfold fX11_rests at h
  refine V.iload_n dX11_rests_0 rfl 1 rfl ?_
  refine V.if_lt (tgt := 34) dX11_rests_1 (by decide) (fun hc1 => ?_) (fun hc1 => ?_)
  · replace h := (if_pos hc1).symm.trans h
    refine V.lvs [1, 2, 3, 4] rfl ?_
    exact vX11_rests_L34 _ _ _ _ _ _ _ _ _ _ _ _ _ _ _ _   _ _ _ _ R h hQ
  · replace h := (if_neg hc1).symm.trans h
    refine V.iload_n dX11_rests_4 rfl 1 rfl ?_
    refine V.bipush (v := (10 : Int32)) dX11_rests_5 (by decide) ?_
    refine V.icmp_gt (tgt := 34) dX11_rests_7 (by decide) (fun hc7 => ?_) (fun hc7 => ?_)
    · replace h := (if_pos hc7).symm.trans h
      refine V.lvs [1, 2, 3, 4] rfl ?_
      exact vX11_rests_L34 _ _ _ _ _ _ _ _ _ _ _ _ _ _ _ _   _ _ _ _ R h hQ
    · replace h := (if_neg hc7).symm.trans h
      refine V.iload_n dX11_rests_10 rfl 2 rfl ?_
      refine V.if_lt (tgt := 34) dX11_rests_11 (by decide) (fun hc11 => ?_) (fun hc11 => ?_)
      · replace h := (if_pos hc11).symm.trans h
        refine V.lvs [1, 2, 3, 4] rfl ?_
        exact vX11_rests_L34 _ _ _ _ _ _ _ _ _ _ _ _ _ _ _ _   _ _ _ _ R h hQ
      · replace h := (if_neg hc11).symm.trans h
        refine V.iload_n dX11_rests_14 rfl 2 rfl ?_
        refine V.bipush (v := (9 : Int32)) dX11_rests_15 (by decide) ?_
        refine V.icmp_gt (tgt := 34) dX11_rests_17 (by decide) (fun hc17 => ?_) (fun hc17 => ?_)
        · replace h := (if_pos hc17).symm.trans h
          refine V.lvs [1, 2, 3, 4] rfl ?_
          exact vX11_rests_L34 _ _ _ _ _ _ _ _ _ _ _ _ _ _ _ _   _ _ _ _ R h hQ
        · replace h := (if_neg hc17).symm.trans h
          refine V.iload_n dX11_rests_20 rfl 3 rfl ?_
          refine V.if_lt (tgt := 34) dX11_rests_21 (by decide) (fun hc21 => ?_) (fun hc21 => ?_)
          · replace h := (if_pos hc21).symm.trans h
            refine V.lvs [1, 2, 3, 4] rfl ?_
            exact vX11_rests_L34 _ _ _ _ _ _ _ _ _ _ _ _ _ _ _ _   _ _ _ _ R h hQ
          · replace h := (if_neg hc21).symm.trans h
            refine V.iload_n dX11_rests_24 rfl 3 rfl ?_
            refine V.bipush (v := (9 : Int32)) dX11_rests_25 (by decide) ?_
            refine V.icmp_gt (tgt := 34) dX11_rests_27 (by decide) (fun hc27 => ?_) (fun hc27 => ?_)
            · replace h := (if_pos hc27).symm.trans h
              refine V.lvs [1, 2, 3, 4] rfl ?_
              exact vX11_rests_L34 _ _ _ _ _ _ _ _ _ _ _ _ _ _ _ _   _ _ _ _ R h hQ
            · replace h := (if_neg hc27).symm.trans h
              refine V.iconst (v := (1 : Int32)) dX11_rests_30 (by decide) ?_
              refine V.goto (tgt := 35) dX11_rests_31 (by decide) ?_
              refine V.lvs [1, 2, 3, 4] rfl ?_
              exact vX11_rests_L35 _ _ _ _ _ _ _ _ _ _ _ _ _ _ _ _   _ _ _ _ _ R h hQ
theorem dX9_readWord_0 : decode cX9_readWord 0 = .ok (.iload_n 1, 1) := by decide +kernel
theorem dX9_readWord_1 : decode cX9_readWord 1 = .ok (.istore_n 2, 1) := by decide +kernel
theorem dX9_readWord_2 : decode cX9_readWord 2 = .ok (.lconst 0, 1) := by decide +kernel
theorem dX9_readWord_3 : decode cX9_readWord 3 = .ok (.lstore_n 3, 1) := by decide +kernel
theorem dX9_readWord_4 : decode cX9_readWord 4 = .ok (.iload_n 2, 1) := by decide +kernel
theorem dX9_readWord_5 : decode cX9_readWord 5 = .ok (.aload_n 0, 1) := by decide +kernel
theorem dX9_readWord_6 : decode cX9_readWord 6 = .ok (.getfield 26, 3) := by decide +kernel
theorem dX9_readWord_9 : decode cX9_readWord 9 = .ok (.if_icmp .ge 40, 3) := by decide +kernel
theorem dX9_readWord_12 : decode cX9_readWord 12 = .ok (.aload_n 0, 1) := by decide +kernel
theorem dX9_readWord_13 : decode cX9_readWord 13 = .ok (.getfield 9, 3) := by decide +kernel
theorem dX9_readWord_16 : decode cX9_readWord 16 = .ok (.iload_n 2, 1) := by decide +kernel
theorem dX9_readWord_17 : decode cX9_readWord 17 = .ok (.baload, 1) := by decide +kernel
theorem dX9_readWord_18 : decode cX9_readWord 18 = .ok (.invokestatic 39, 3) := by decide +kernel
theorem dX9_readWord_21 : decode cX9_readWord 21 = .ok (.ifCond .eq 28, 3) := by decide +kernel
theorem dX9_readWord_24 : decode cX9_readWord 24 = .ok (.lload_n 3, 1) := by decide +kernel
theorem dX9_readWord_25 : decode cX9_readWord 25 = .ok (.ldc2_w 78, 3) := by decide +kernel
theorem dX9_readWord_28 : decode cX9_readWord 28 = .ok (.lmul, 1) := by decide +kernel
theorem dX9_readWord_29 : decode cX9_readWord 29 = .ok (.aload_n 0, 1) := by decide +kernel
theorem dX9_readWord_30 : decode cX9_readWord 30 = .ok (.getfield 9, 3) := by decide +kernel
theorem dX9_readWord_33 : decode cX9_readWord 33 = .ok (.iload_n 2, 1) := by decide +kernel
theorem dX9_readWord_34 : decode cX9_readWord 34 = .ok (.baload, 1) := by decide +kernel
theorem dX9_readWord_35 : decode cX9_readWord 35 = .ok (.bipush 97, 2) := by decide +kernel
theorem dX9_readWord_37 : decode cX9_readWord 37 = .ok (.isub, 1) := by decide +kernel
theorem dX9_readWord_38 : decode cX9_readWord 38 = .ok (.iconst 1, 1) := by decide +kernel
theorem dX9_readWord_39 : decode cX9_readWord 39 = .ok (.iadd, 1) := by decide +kernel
theorem dX9_readWord_40 : decode cX9_readWord 40 = .ok (.i2l, 1) := by decide +kernel
theorem dX9_readWord_41 : decode cX9_readWord 41 = .ok (.ladd, 1) := by decide +kernel
theorem dX9_readWord_42 : decode cX9_readWord 42 = .ok (.lstore_n 3, 1) := by decide +kernel
theorem dX9_readWord_43 : decode cX9_readWord 43 = .ok (.iinc 2 1, 3) := by decide +kernel
theorem dX9_readWord_46 : decode cX9_readWord 46 = .ok (.goto (-42), 3) := by decide +kernel
theorem dX9_readWord_49 : decode cX9_readWord 49 = .ok (.aload_n 0, 1) := by decide +kernel
theorem dX9_readWord_50 : decode cX9_readWord 50 = .ok (.iload_n 2, 1) := by decide +kernel
theorem dX9_readWord_51 : decode cX9_readWord 51 = .ok (.iload_n 1, 1) := by decide +kernel
theorem dX9_readWord_52 : decode cX9_readWord 52 = .ok (.isub, 1) := by decide +kernel
theorem dX9_readWord_53 : decode cX9_readWord 53 = .ok (.bipush 8, 2) := by decide +kernel
theorem dX9_readWord_55 : decode cX9_readWord 55 = .ok (.if_icmp .le 8, 3) := by decide +kernel
theorem dX9_readWord_58 : decode cX9_readWord 58 = .ok (.bipush 23, 2) := by decide +kernel
theorem dX9_readWord_60 : decode cX9_readWord 60 = .ok (.goto 11, 3) := by decide +kernel
theorem dX9_readWord_63 : decode cX9_readWord 63 = .ok (.aload_n 0, 1) := by decide +kernel
theorem dX9_readWord_64 : decode cX9_readWord 64 = .ok (.iload_n 1, 1) := by decide +kernel
theorem dX9_readWord_65 : decode cX9_readWord 65 = .ok (.iload_n 2, 1) := by decide +kernel
theorem dX9_readWord_66 : decode cX9_readWord 66 = .ok (.iload_n 1, 1) := by decide +kernel
theorem dX9_readWord_67 : decode cX9_readWord 67 = .ok (.isub, 1) := by decide +kernel
theorem dX9_readWord_68 : decode cX9_readWord 68 = .ok (.invokevirtual 80, 3) := by decide +kernel
theorem dX9_readWord_71 : decode cX9_readWord 71 = .ok (.iload_n 1, 1) := by decide +kernel
theorem dX9_readWord_72 : decode cX9_readWord 72 = .ok (.lload_n 3, 1) := by decide +kernel
theorem dX9_readWord_73 : decode cX9_readWord 73 = .ok (.invokevirtual 60, 3) := by decide +kernel
theorem dX9_readWord_76 : decode cX9_readWord 76 = .ok (.iload_n 2, 1) := by decide +kernel
theorem dX9_readWord_77 : decode cX9_readWord 77 = .ok (.ireturn, 1) := by decide +kernel
def wX9_readWord (cy : Nat → ClassId) (tA : Nat) (t_size : Int32) (t_count : Int32) (t_here : Int32) (t_fault : Int32) (t_signsA : Nat) (t_signsN : Nat) (t_signs : Nat → Int32) (t_tokensA : Nat) (t_tokensN : Nat) (t_tokens : Nat → Int32) (t_startsA : Nat) (t_startsN : Nat) (t_starts : Nat → Int32) (t_valuesA : Nat) (t_valuesN : Nat) (t_values : Nat → Int64) : va_W :=
  [(tA, .inr (9, [.ref t_signsA, .int t_size, .ref t_tokensA, .ref t_startsA, .ref t_valuesA, .int t_count, .int t_here, .int t_fault])), (t_signsA, .inl (cy 0, t_signsN, .inl t_signs)), (t_tokensA, .inl (cy 1, t_tokensN, .inl t_tokens)), (t_startsA, .inl (cy 1, t_startsN, .inl t_starts)), (t_valuesA, .inl (cy 2, t_valuesN, .inr (.inl t_values)))]
noncomputable def bX9_readWord_L71 (F : Nat) (t_size : Int32) (t_signsN : Nat) (t_signs : Nat → Int32) (t_tokensN : Nat) (t_startsN : Nat) (t_valuesN : Nat)  (x1 : Int32) (x2 : Int32) (x3 : Int64) (s1 : Int32) (t_count : Int32) (t_tokens : Nat → Int32) (t_starts : Nat → Int32) (t_values : Nat → Int64) : Option (Int32 × (Int32) × (Nat → Int32) × (Nat → Int32) × (Nat → Int64)) :=
  (fX9_lay F t_tokensN t_startsN t_valuesN s1 x1 x3 t_count t_tokens t_starts t_values).bind fun R73 => (some (x2, R73.1, R73.2.1, R73.2.2.1, R73.2.2.2))
theorem vX9_readWord_L71 {l : Launch} {D : va_G} {cy : Nat → ClassId} {av : List Value} {ws0 : va_W} {Q : Option Value → va_W → Prop} (F : Nat) (tA : Nat) (t_size : Int32) (t_here : Int32) (t_fault : Int32) (t_signsA : Nat) (t_signsN : Nat) (t_signs : Nat → Int32) (t_tokensA : Nat) (t_tokensN : Nat) (t_startsA : Nat) (t_startsN : Nat) (t_valuesA : Nat) (t_valuesN : Nat)  (x1 : Int32) (x2 : Int32) (x3 : Int64) (s1 : Int32) (t_count : Int32) (t_tokens : Nat → Int32) (t_starts : Nat → Int32) (t_values : Nat → Int64) (R : Int32 × (Int32) × (Nat → Int32) × (Nat → Int32) × (Nat → Int64)) (h : bX9_readWord_L71 F t_size t_signsN t_signs t_tokensN t_startsN t_valuesN  x1 x2 x3 s1 t_count t_tokens t_starts t_values = some R) (hQ : Q (some (.int R.1)) (wX9_readWord cy tA t_size R.2.1 t_here t_fault t_signsA t_signsN t_signs t_tokensA t_tokensN R.2.2.1 t_startsA t_startsN R.2.2.2.1 t_valuesA t_valuesN R.2.2.2.2)) : V l D cy MX9_readWord 6 0 0 av ws0 Q 71 [(1, .int x1), (2, .int x2), (3, .long x3)] [.int s1, .ref tA] (wX9_readWord cy tA t_size t_count t_here t_fault t_signsA t_signsN t_signs t_tokensA t_tokensN t_tokens t_startsA t_startsN t_starts t_valuesA t_valuesN t_values) 0 0 := by
  unfold bX9_readWord_L71 at h
  refine V.iload_n dX9_readWord_71 rfl 0 rfl ?_
  refine V.lload_n dX9_readWord_72 rfl 2 rfl ?_
  obtain ⟨R73, hg73, h⟩ := Option.bind_eq_some_iff.mp h
  refine V.callV (As := [.int s1, .int x1, .long x3]) (rest := []) (wc := (wX9_lay cy tA (.ref t_signsA) t_size t_count t_here t_fault t_tokensA t_tokensN t_tokens t_startsA t_startsN t_starts t_valuesA t_valuesN t_values)) (wr := [(t_signsA, .inl (cy 0, t_signsN, .inl t_signs))]) (q0 := 0) (CX9_lay F tA (.ref t_signsA) t_size t_count t_here t_fault t_tokensA t_tokensN t_tokens t_startsA t_startsN t_starts t_valuesA t_valuesN t_values s1 x1 x3 R73 hg73) kvX9_lay klX9_60 [0, 2, 3, 4] [1] rfl rfl (by decide) (by decide) (by decide) rfl rfl rfl rfl dX9_readWord_73 ⟨by decide, by decide, by decide, by decide⟩ (Nat.le_of_ble_eq_true rfl) (fun r w1 hq => ?_)
  obtain ⟨rfl, rfl⟩ := hq
  refine V.cells (ws' := (wX9_readWord cy tA t_size R73.1 t_here t_fault t_signsA t_signsN t_signs t_tokensA t_tokensN R73.2.1 t_startsA t_startsN R73.2.2.1 t_valuesA t_valuesN R73.2.2.2)) [1, 0, 2, 3, 4] (by decide) rfl ?_
  show V l D cy MX9_readWord 6 0 0 _ _ _ 76 [(1, .int x1), (2, .int x2), (3, .long x3)] [] (wX9_readWord cy tA t_size R73.1 t_here t_fault t_signsA t_signsN t_signs t_tokensA t_tokensN R73.2.1 t_startsA t_startsN R73.2.2.1 t_valuesA t_valuesN R73.2.2.2) 0 0
  refine V.iload_n dX9_readWord_76 rfl 1 rfl ?_
  have e9 := Option.some.inj h; subst e9
  exact V.iret (ty := .int) rfl rfl dX9_readWord_77 (Nat.le_refl _) (Nat.le_refl _) hQ
noncomputable def bX9_readWord_L49 (F : Nat) (t_size : Int32) (t_signsN : Nat) (t_signs : Nat → Int32) (t_tokensN : Nat) (t_startsN : Nat) (t_valuesN : Nat)  (x1 : Int32) (x2 : Int32) (x3 : Int64) (t_count : Int32) (t_tokens : Nat → Int32) (t_starts : Nat → Int32) (t_values : Nat → Int64) : Option (Int32 × (Int32) × (Nat → Int32) × (Nat → Int32) × (Nat → Int64)) :=
  if (x2 - x1) ≤ (8 : Int32) then ((fX9_wordAt F t_size t_signsN t_signs x1 (x2 - x1)).bind fun R68 => (bX9_readWord_L71 F t_size t_signsN t_signs t_tokensN t_startsN t_valuesN x1 x2 x3 R68 t_count t_tokens t_starts t_values)) else (bX9_readWord_L71 F t_size t_signsN t_signs t_tokensN t_startsN t_valuesN x1 x2 x3 (23 : Int32) t_count t_tokens t_starts t_values)
theorem vX9_readWord_L49 {l : Launch} {D : va_G} {cy : Nat → ClassId} {av : List Value} {ws0 : va_W} {Q : Option Value → va_W → Prop} (F : Nat) (tA : Nat) (t_size : Int32) (t_here : Int32) (t_fault : Int32) (t_signsA : Nat) (t_signsN : Nat) (t_signs : Nat → Int32) (t_tokensA : Nat) (t_tokensN : Nat) (t_startsA : Nat) (t_startsN : Nat) (t_valuesA : Nat) (t_valuesN : Nat)  (x1 : Int32) (x2 : Int32) (x3 : Int64) (t_count : Int32) (t_tokens : Nat → Int32) (t_starts : Nat → Int32) (t_values : Nat → Int64) (R : Int32 × (Int32) × (Nat → Int32) × (Nat → Int32) × (Nat → Int64)) (h : bX9_readWord_L49 F t_size t_signsN t_signs t_tokensN t_startsN t_valuesN  x1 x2 x3 t_count t_tokens t_starts t_values = some R) (hQ : Q (some (.int R.1)) (wX9_readWord cy tA t_size R.2.1 t_here t_fault t_signsA t_signsN t_signs t_tokensA t_tokensN R.2.2.1 t_startsA t_startsN R.2.2.2.1 t_valuesA t_valuesN R.2.2.2.2)) : V l D cy MX9_readWord 6 0 0 av ws0 Q 49 [(0, .ref tA), (1, .int x1), (2, .int x2), (3, .long x3)] [] (wX9_readWord cy tA t_size t_count t_here t_fault t_signsA t_signsN t_signs t_tokensA t_tokensN t_tokens t_startsA t_startsN t_starts t_valuesA t_valuesN t_values) 0 0 := by
  unfold bX9_readWord_L49 at h
  refine V.aload_n dX9_readWord_49 rfl 0 rfl ?_
  refine V.iload_n dX9_readWord_50 rfl 2 rfl ?_
  refine V.iload_n dX9_readWord_51 rfl 1 rfl ?_
  refine V.isub dX9_readWord_52 ?_
  refine V.bipush (v := (8 : Int32)) dX9_readWord_53 (by decide) ?_
  refine V.icmp_le (tgt := 63) dX9_readWord_55 (by decide) (fun hc55 => ?_) (fun hc55 => ?_)
  · replace h := (if_pos hc55).symm.trans h
    refine V.aload_n dX9_readWord_63 rfl 0 rfl ?_
    refine V.iload_n dX9_readWord_64 rfl 1 rfl ?_
    refine V.iload_n dX9_readWord_65 rfl 2 rfl ?_
    refine V.iload_n dX9_readWord_66 rfl 1 rfl ?_
    refine V.isub dX9_readWord_67 ?_
    obtain ⟨R68, hg68, h⟩ := Option.bind_eq_some_iff.mp h
    refine V.callV (As := [.int x1, .int (x2 - x1)]) (rest := [.ref tA]) (wc := (wX9_wordAt cy tA t_size (.ref t_tokensA) (.ref t_startsA) (.ref t_valuesA) t_count t_here t_fault t_signsA t_signsN t_signs)) (wr := [(t_tokensA, .inl (cy 1, t_tokensN, .inl t_tokens)), (t_startsA, .inl (cy 1, t_startsN, .inl t_starts)), (t_valuesA, .inl (cy 2, t_valuesN, .inr (.inl t_values)))]) (q0 := 0) (CX9_wordAt F tA t_size (.ref t_tokensA) (.ref t_startsA) (.ref t_valuesA) t_count t_here t_fault t_signsA t_signsN t_signs x1 (x2 - x1) R68 hg68) kvX9_wordAt klX9_80 [0, 1] [2, 3, 4] rfl rfl (by decide) (by decide) (by decide) rfl rfl rfl rfl dX9_readWord_68 ⟨by decide, by decide, by decide, by decide⟩ (Nat.le_of_ble_eq_true rfl) (fun r w1 hq => ?_)
    obtain ⟨rfl, rfl⟩ := hq
    refine V.cells (ws' := (wX9_readWord cy tA t_size t_count t_here t_fault t_signsA t_signsN t_signs t_tokensA t_tokensN t_tokens t_startsA t_startsN t_starts t_valuesA t_valuesN t_values)) [3, 4, 0, 1, 2] (by decide) rfl ?_
    show V l D cy MX9_readWord 6 0 0 _ _ _ 71 [(0, .ref tA), (1, .int x1), (2, .int x2), (3, .long x3)] [.int R68, .ref tA] (wX9_readWord cy tA t_size t_count t_here t_fault t_signsA t_signsN t_signs t_tokensA t_tokensN t_tokens t_startsA t_startsN t_starts t_valuesA t_valuesN t_values) 0 0
    refine V.lvs [1, 2, 3] rfl ?_
    exact vX9_readWord_L71 _ _ _ _ _ _ _ _ _ _ _ _ _ _   _ _ _ _ _ _ _ _ R h hQ
  · replace h := (if_neg hc55).symm.trans h
    refine V.bipush (v := (23 : Int32)) dX9_readWord_58 (by decide) ?_
    refine V.goto (tgt := 71) dX9_readWord_60 (by decide) ?_
    refine V.lvs [1, 2, 3] rfl ?_
    exact vX9_readWord_L71 _ _ _ _ _ _ _ _ _ _ _ _ _ _   _ _ _ _ _ _ _ _ R h hQ
noncomputable def bX9_readWord_L4 (F : Nat) (t_size : Int32) (t_signsN : Nat) (t_signs : Nat → Int32) (t_tokensN : Nat) (t_startsN : Nat) (t_valuesN : Nat) (k4 : Int32 → Int32 → Int64 → Int32 → (Nat → Int32) → (Nat → Int32) → (Nat → Int64) → Option (Int32 × (Int32) × (Nat → Int32) × (Nat → Int32) × (Nat → Int64))) (x1 : Int32) (x2 : Int32) (x3 : Int64) (t_count : Int32) (t_tokens : Nat → Int32) (t_starts : Nat → Int32) (t_values : Nat → Int64) : Option (Int32 × (Int32) × (Nat → Int32) × (Nat → Int32) × (Nat → Int64)) :=
  if t_size ≤ x2 then (bX9_readWord_L49 F t_size t_signsN t_signs t_tokensN t_startsN t_valuesN x1 x2 x3 t_count t_tokens t_starts t_values) else (if x2 < 0 ∨ t_signsN ≤ x2.toNatClampNeg then none else ((fX9_isLetter F (t_signs (x2).toNatClampNeg)).bind fun R18 => (if R18 = 0 then (bX9_readWord_L49 F t_size t_signsN t_signs t_tokensN t_startsN t_valuesN x1 x2 x3 t_count t_tokens t_starts t_values) else (if x2 < 0 ∨ t_signsN ≤ x2.toNatClampNeg then none else (k4 x1 (x2 + (1 : Int32)) ((x3 * (32 : Int64)) + ((((t_signs (x2).toNatClampNeg) - (97 : Int32)) + (1 : Int32)).toInt64)) t_count t_tokens t_starts t_values)))))
theorem vbX9_readWord_L4 {l : Launch} {D : va_G} {cy : Nat → ClassId} {av : List Value} {ws0 : va_W} {Q : Option Value → va_W → Prop} (F : Nat) (tA : Nat) (t_size : Int32) (t_here : Int32) (t_fault : Int32) (t_signsA : Nat) (t_signsN : Nat) (t_signs : Nat → Int32) (t_tokensA : Nat) (t_tokensN : Nat) (t_startsA : Nat) (t_startsN : Nat) (t_valuesA : Nat) (t_valuesN : Nat) (k4 : Int32 → Int32 → Int64 → Int32 → (Nat → Int32) → (Nat → Int32) → (Nat → Int64) → Option (Int32 × (Int32) × (Nat → Int32) × (Nat → Int32) × (Nat → Int64))) (hk4 : ∀ (x1 : Int32) (x2 : Int32) (x3 : Int64) (t_count : Int32) (t_tokens : Nat → Int32) (t_starts : Nat → Int32) (t_values : Nat → Int64) (R : Int32 × (Int32) × (Nat → Int32) × (Nat → Int32) × (Nat → Int64)), k4 x1 x2 x3 t_count t_tokens t_starts t_values = some R → Q (some (.int R.1)) (wX9_readWord cy tA t_size R.2.1 t_here t_fault t_signsA t_signsN t_signs t_tokensA t_tokensN R.2.2.1 t_startsA t_startsN R.2.2.2.1 t_valuesA t_valuesN R.2.2.2.2) → V l D cy MX9_readWord 6 0 0 av ws0 Q 4 [(0, .ref tA), (1, .int x1), (2, .int x2), (3, .long x3)] [] (wX9_readWord cy tA t_size t_count t_here t_fault t_signsA t_signsN t_signs t_tokensA t_tokensN t_tokens t_startsA t_startsN t_starts t_valuesA t_valuesN t_values) 0 0) (x1 : Int32) (x2 : Int32) (x3 : Int64) (t_count : Int32) (t_tokens : Nat → Int32) (t_starts : Nat → Int32) (t_values : Nat → Int64) (R : Int32 × (Int32) × (Nat → Int32) × (Nat → Int32) × (Nat → Int64)) (h : bX9_readWord_L4 F t_size t_signsN t_signs t_tokensN t_startsN t_valuesN k4 x1 x2 x3 t_count t_tokens t_starts t_values = some R) (hQ : Q (some (.int R.1)) (wX9_readWord cy tA t_size R.2.1 t_here t_fault t_signsA t_signsN t_signs t_tokensA t_tokensN R.2.2.1 t_startsA t_startsN R.2.2.2.1 t_valuesA t_valuesN R.2.2.2.2)) : V l D cy MX9_readWord 6 0 0 av ws0 Q 4 [(0, .ref tA), (1, .int x1), (2, .int x2), (3, .long x3)] [] (wX9_readWord cy tA t_size t_count t_here t_fault t_signsA t_signsN t_signs t_tokensA t_tokensN t_tokens t_startsA t_startsN t_starts t_valuesA t_valuesN t_values) 0 0 := by
  unfold bX9_readWord_L4 at h
  refine V.iload_n dX9_readWord_4 rfl 2 rfl ?_
  refine V.aload_n dX9_readWord_5 rfl 0 rfl ?_
  refine V.get kfX9 0 rfl rfl 1 (by decide) klX9_26 rfl dX9_readWord_6 ?_
  refine V.icmp_ge (tgt := 49) dX9_readWord_9 (by decide) (fun hc9 => ?_) (fun hc9 => ?_)
  · replace h := (if_pos hc9).symm.trans h
    exact vX9_readWord_L49 _ _ _ _ _ _ _ _ _ _ _ _ _ _   _ _ _ _ _ _ _ R h hQ
  · replace h := (if_neg hc9).symm.trans h
    refine V.aload_n dX9_readWord_12 rfl 0 rfl ?_
    refine V.get kfX9 0 rfl rfl 0 (by decide) klX9_9 rfl dX9_readWord_13 ?_
    refine V.iload_n dX9_readWord_16 rfl 2 rfl ?_
    by_cases hb17 : x2 < 0 ∨ t_signsN ≤ x2.toNatClampNeg
    · exact vNone ((if_pos hb17).symm.trans h)
    replace h := (if_neg hb17).symm.trans h
    refine V.bald dX9_readWord_17 1 rfl hb17 ?_
    obtain ⟨R18, hg18, h⟩ := Option.bind_eq_some_iff.mp h
    refine V.callS (As := [.int (t_signs (x2).toNatClampNeg)]) (rest := []) (wc := (wX9_isLetter cy )) (wr := [(tA, .inr (9, [.ref t_signsA, .int t_size, .ref t_tokensA, .ref t_startsA, .ref t_valuesA, .int t_count, .int t_here, .int t_fault])), (t_signsA, .inl (cy 0, t_signsN, .inl t_signs)), (t_tokensA, .inl (cy 1, t_tokensN, .inl t_tokens)), (t_startsA, .inl (cy 1, t_startsN, .inl t_starts)), (t_valuesA, .inl (cy 2, t_valuesN, .inr (.inl t_values)))]) (CX9_isLetter F (t_signs (x2).toNatClampNeg) R18 hg18) kvX9_isLetter klX9_39 [] [0, 1, 2, 3, 4] rfl rfl (by decide) (by decide) (by decide) rfl dX9_readWord_18 ⟨by decide, by decide, by decide, by decide⟩ (Nat.le_of_ble_eq_true rfl) (fun r w1 hq => ?_)
    obtain ⟨rfl, rfl⟩ := hq
    refine V.cells (ws' := (wX9_readWord cy tA t_size t_count t_here t_fault t_signsA t_signsN t_signs t_tokensA t_tokensN t_tokens t_startsA t_startsN t_starts t_valuesA t_valuesN t_values)) [0, 1, 2, 3, 4] (by decide) rfl ?_
    show V l D cy MX9_readWord 6 0 0 _ _ _ 21 [(0, .ref tA), (1, .int x1), (2, .int x2), (3, .long x3)] [.int R18] (wX9_readWord cy tA t_size t_count t_here t_fault t_signsA t_signsN t_signs t_tokensA t_tokensN t_tokens t_startsA t_startsN t_starts t_valuesA t_valuesN t_values) 0 0
    refine V.if_eq (tgt := 49) dX9_readWord_21 (by decide) (fun hc21 => ?_) (fun hc21 => ?_)
    · replace h := (if_pos hc21).symm.trans h
      exact vX9_readWord_L49 _ _ _ _ _ _ _ _ _ _ _ _ _ _   _ _ _ _ _ _ _ R h hQ
    · replace h := (if_neg hc21).symm.trans h
      refine V.lload_n dX9_readWord_24 rfl 3 rfl ?_
      refine V.ldc2 (v := (32 : Int64)) klX9_78 dX9_readWord_25 ?_
      refine V.lmul dX9_readWord_28 ?_
      refine V.aload_n dX9_readWord_29 rfl 0 rfl ?_
      refine V.get kfX9 0 rfl rfl 0 (by decide) klX9_9 rfl dX9_readWord_30 ?_
      refine V.iload_n dX9_readWord_33 rfl 2 rfl ?_
      by_cases hb34 : x2 < 0 ∨ t_signsN ≤ x2.toNatClampNeg
      · exact vNone ((if_pos hb34).symm.trans h)
      replace h := (if_neg hb34).symm.trans h
      refine V.bald dX9_readWord_34 1 rfl hb34 ?_
      refine V.bipush (v := (97 : Int32)) dX9_readWord_35 (by decide) ?_
      refine V.isub dX9_readWord_37 ?_
      refine V.iconst (v := (1 : Int32)) dX9_readWord_38 (by decide) ?_
      refine V.iadd dX9_readWord_39 ?_
      refine V.i2l dX9_readWord_40 ?_
      refine V.ladd dX9_readWord_41 ?_
      refine V.lstore_n (lv' := [(3, .long ((x3 * (32 : Int64)) + ((((t_signs (x2).toNatClampNeg) - (97 : Int32)) + (1 : Int32)).toInt64))), (0, .ref tA), (1, .int x1), (2, .int x2)]) dX9_readWord_42 rfl (by decide) rfl ?_
      refine V.iinc (v := x2 + (1 : Int32)) (lv' := [(2, .int (x2 + (1 : Int32))), (3, .long ((x3 * (32 : Int64)) + ((((t_signs (x2).toNatClampNeg) - (97 : Int32)) + (1 : Int32)).toInt64))), (0, .ref tA), (1, .int x1)]) dX9_readWord_43 3 rfl rfl (by decide) rfl ?_
      refine V.goto (tgt := 4) dX9_readWord_46 (by decide) ?_
      refine V.lvs [2, 3, 0, 1] rfl ?_
      exact hk4 _ _ _ _ _ _ _ R h hQ
noncomputable def fX9_readWord_L4 (F : Nat) (t_size : Int32) (t_signsN : Nat) (t_signs : Nat → Int32) (t_tokensN : Nat) (t_startsN : Nat) (t_valuesN : Nat)  : Nat → Int32 → Int32 → Int64 → Int32 → (Nat → Int32) → (Nat → Int32) → (Nat → Int64) → Option (Int32 × (Int32) × (Nat → Int32) × (Nat → Int32) × (Nat → Int64))
  | 0 => fun _ _ _ _ _ _ _ => none
  | n + 1 => bX9_readWord_L4 F t_size t_signsN t_signs t_tokensN t_startsN t_valuesN (fX9_readWord_L4 F t_size t_signsN t_signs t_tokensN t_startsN t_valuesN  n)
theorem vX9_readWord_L4 {l : Launch} {D : va_G} {cy : Nat → ClassId} {av : List Value} {ws0 : va_W} {Q : Option Value → va_W → Prop} (F : Nat) (tA : Nat) (t_size : Int32) (t_here : Int32) (t_fault : Int32) (t_signsA : Nat) (t_signsN : Nat) (t_signs : Nat → Int32) (t_tokensA : Nat) (t_tokensN : Nat) (t_startsA : Nat) (t_startsN : Nat) (t_valuesA : Nat) (t_valuesN : Nat)  : ∀ (n : Nat) (x1 : Int32) (x2 : Int32) (x3 : Int64) (t_count : Int32) (t_tokens : Nat → Int32) (t_starts : Nat → Int32) (t_values : Nat → Int64) (R : Int32 × (Int32) × (Nat → Int32) × (Nat → Int32) × (Nat → Int64)), fX9_readWord_L4 F t_size t_signsN t_signs t_tokensN t_startsN t_valuesN  n x1 x2 x3 t_count t_tokens t_starts t_values = some R → Q (some (.int R.1)) (wX9_readWord cy tA t_size R.2.1 t_here t_fault t_signsA t_signsN t_signs t_tokensA t_tokensN R.2.2.1 t_startsA t_startsN R.2.2.2.1 t_valuesA t_valuesN R.2.2.2.2) → V l D cy MX9_readWord 6 0 0 av ws0 Q 4 [(0, .ref tA), (1, .int x1), (2, .int x2), (3, .long x3)] [] (wX9_readWord cy tA t_size t_count t_here t_fault t_signsA t_signsN t_signs t_tokensA t_tokensN t_tokens t_startsA t_startsN t_starts t_valuesA t_valuesN t_values) 0 0 := by
  intro n
  induction n with
  | zero => intro x1 x2 x3 t_count t_tokens t_starts t_values R h; exact vNone h
  | succ n ih => intro x1 x2 x3 t_count t_tokens t_starts t_values R h hQ; exact vbX9_readWord_L4 F tA t_size t_here t_fault t_signsA t_signsN t_signs t_tokensA t_tokensN t_startsA t_startsN t_valuesA t_valuesN _ ih x1 x2 x3 t_count t_tokens t_starts t_values R h hQ
noncomputable def fX9_readWord (F : Nat) (t_size : Int32) (t_signsN : Nat) (t_signs : Nat → Int32) (t_tokensN : Nat) (t_startsN : Nat) (t_valuesN : Nat) (a1 : Int32) (t_count : Int32) (t_tokens : Nat → Int32) (t_starts : Nat → Int32) (t_values : Nat → Int64) : Option (Int32 × (Int32) × (Nat → Int32) × (Nat → Int32) × (Nat → Int64)) :=
  fX9_readWord_L4 F t_size t_signsN t_signs t_tokensN t_startsN t_valuesN F a1 a1 (0 : Int64) t_count t_tokens t_starts t_values
theorem CX9_readWord {l : Launch} {D : va_G} {cy : Nat → ClassId} (F : Nat) (tA : Nat) (t_size : Int32) (t_count : Int32) (t_here : Int32) (t_fault : Int32) (t_signsA : Nat) (t_signsN : Nat) (t_signs : Nat → Int32) (t_tokensA : Nat) (t_tokensN : Nat) (t_tokens : Nat → Int32) (t_startsA : Nat) (t_startsN : Nat) (t_starts : Nat → Int32) (t_valuesA : Nat) (t_valuesN : Nat) (t_values : Nat → Int64) (a1 : Int32) (R : Int32 × (Int32) × (Nat → Int32) × (Nat → Int32) × (Nat → Int64)) (h : fX9_readWord F t_size t_signsN t_signs t_tokensN t_startsN t_valuesN a1 t_count t_tokens t_starts t_values = some R) : vMet l D cy MX9_readWord 6 0 0 [.ref tA, .int a1] (wX9_readWord cy tA t_size t_count t_here t_fault t_signsA t_signsN t_signs t_tokensA t_tokensN t_tokens t_startsA t_startsN t_starts t_valuesA t_valuesN t_values) (fun (r : Option Value) (w : va_W) => r = (some (.int R.1)) ∧ w = (wX9_readWord cy tA t_size R.2.1 t_here t_fault t_signsA t_signsN t_signs t_tokensA t_tokensN R.2.2.1 t_startsA t_startsN R.2.2.2.1 t_valuesA t_valuesN R.2.2.2.2)) := by
  refine vMet.start (by decide +kernel) (Nat.le_of_ble_eq_true rfl) ?_
  generalize hQe : (fun (r : Option Value) (w : va_W) => r = (some (.int R.1)) ∧ w = (wX9_readWord cy tA t_size R.2.1 t_here t_fault t_signsA t_signsN t_signs t_tokensA t_tokensN R.2.2.1 t_startsA t_startsN R.2.2.2.1 t_valuesA t_valuesN R.2.2.2.2)) = Q
  have hQ : Q (some (.int R.1)) (wX9_readWord cy tA t_size R.2.1 t_here t_fault t_signsA t_signsN t_signs t_tokensA t_tokensN R.2.2.1 t_startsA t_startsN R.2.2.2.1 t_valuesA t_valuesN R.2.2.2.2) := by rw [← hQe]; exact ⟨rfl, rfl⟩
  show V l D cy MX9_readWord 6 0 0 _ _ Q 0 [(0, .ref tA), (1, .int a1)] [] _ 0 0
  show V l D cy MX9_readWord 6 0 0 [.ref tA, .int a1] _ Q 0 [(0, .ref tA), (1, .int a1)] [] (wX9_readWord cy tA t_size t_count t_here t_fault t_signsA t_signsN t_signs t_tokensA t_tokensN t_tokens t_startsA t_startsN t_starts t_valuesA t_valuesN t_values) 0 0
  unfold fX9_readWord at h
  refine V.iload_n dX9_readWord_0 rfl 1 rfl ?_
  refine V.istore_n (lv' := [(2, .int a1), (0, .ref tA), (1, .int a1)]) dX9_readWord_1 rfl (by decide) rfl ?_
  refine V.lconst (v := (0 : Int64)) dX9_readWord_2 (by decide) ?_
  refine V.lstore_n (lv' := [(3, .long (0 : Int64)), (2, .int a1), (0, .ref tA), (1, .int a1)]) dX9_readWord_3 rfl (by decide) rfl ?_
  refine V.lvs [2, 3, 1, 0] rfl ?_
  exact vX9_readWord_L4 _ _ _ _ _ _ _ _ _ _ _ _ _ _  _ _ _ _ _ _ _ _ R h hQ
theorem dX2_readClause_0 : decode cX2_readClause 0 = .ok (.aload_n 1, 1) := by decide +kernel
theorem dX2_readClause_1 : decode cX2_readClause 1 = .ok (.invokevirtual 118, 3) := by decide +kernel
theorem dX2_readClause_4 : decode cX2_readClause 4 = .ok (.tableswitch 66 0 4 #[36, 42, 48, 54, 60], 36) := by decide +kernel
theorem dX2_readClause_40 : decode cX2_readClause 40 = .ok (.aload_n 0, 1) := by decide +kernel
theorem dX2_readClause_41 : decode cX2_readClause 41 = .ok (.aload_n 1, 1) := by decide +kernel
theorem dX2_readClause_42 : decode cX2_readClause 42 = .ok (.invokevirtual 129, 3) := by decide +kernel
theorem dX2_readClause_45 : decode cX2_readClause 45 = .ok (.ireturn, 1) := by decide +kernel
theorem dX2_readClause_46 : decode cX2_readClause 46 = .ok (.aload_n 0, 1) := by decide +kernel
theorem dX2_readClause_47 : decode cX2_readClause 47 = .ok (.aload_n 1, 1) := by decide +kernel
theorem dX2_readClause_48 : decode cX2_readClause 48 = .ok (.invokevirtual 132, 3) := by decide +kernel
theorem dX2_readClause_51 : decode cX2_readClause 51 = .ok (.ireturn, 1) := by decide +kernel
theorem dX2_readClause_52 : decode cX2_readClause 52 = .ok (.aload_n 0, 1) := by decide +kernel
theorem dX2_readClause_53 : decode cX2_readClause 53 = .ok (.aload_n 1, 1) := by decide +kernel
theorem dX2_readClause_54 : decode cX2_readClause 54 = .ok (.invokevirtual 135, 3) := by decide +kernel
theorem dX2_readClause_57 : decode cX2_readClause 57 = .ok (.ireturn, 1) := by decide +kernel
theorem dX2_readClause_58 : decode cX2_readClause 58 = .ok (.aload_n 0, 1) := by decide +kernel
theorem dX2_readClause_59 : decode cX2_readClause 59 = .ok (.aload_n 1, 1) := by decide +kernel
theorem dX2_readClause_60 : decode cX2_readClause 60 = .ok (.invokevirtual 138, 3) := by decide +kernel
theorem dX2_readClause_63 : decode cX2_readClause 63 = .ok (.ireturn, 1) := by decide +kernel
theorem dX2_readClause_64 : decode cX2_readClause 64 = .ok (.aload_n 0, 1) := by decide +kernel
theorem dX2_readClause_65 : decode cX2_readClause 65 = .ok (.aload_n 1, 1) := by decide +kernel
theorem dX2_readClause_66 : decode cX2_readClause 66 = .ok (.invokevirtual 141, 3) := by decide +kernel
theorem dX2_readClause_69 : decode cX2_readClause 69 = .ok (.ireturn, 1) := by decide +kernel
theorem dX2_readClause_70 : decode cX2_readClause 70 = .ok (.aload_n 1, 1) := by decide +kernel
theorem dX2_readClause_71 : decode cX2_readClause 71 = .ok (.iconst 1, 1) := by decide +kernel
theorem dX2_readClause_72 : decode cX2_readClause 72 = .ok (.invokevirtual 144, 3) := by decide +kernel
theorem dX2_readClause_75 : decode cX2_readClause 75 = .ok (.ireturn, 1) := by decide +kernel
def wX2_readClause (cy : Nat → ClassId) (tA : Nat) (t_folks : Int32) (t_pairs : Int32) (t_line : Int32) (t_rope : Int32) (t_lineTold : Int32) (t_ropeTold : Int32) (t_takenV : Value) (t_namesA : Nat) (t_namesN : Nat) (t_names : Nat → Int64) (t_kindsA : Nat) (t_kindsN : Nat) (t_kinds : Nat → Int32) (t_kinA : Nat) (t_kinN : Nat) (t_kin : Nat → Int32) (t_stopsA : Nat) (t_stopsN : Nat) (t_stops : Nat → Int32) (t_roundsA : Nat) (t_roundsN : Nat) (t_rounds : Nat → Int32) (t_lawA : Nat) (t_law_size : Int32) (t_law_waits : Int32) (t_law_within : Int32) (t_law_brackets : Int32) (t_law_partIsDue : Int32) (t_law_stackV : Value) (t_law_codeA : Nat) (t_law_codeN : Nat) (t_law_code : Nat → Int32) (t_law_waitingA : Nat) (t_law_waitingN : Nat) (t_law_waiting : Nat → Int32) (p1A : Nat) (p1_signsV : Value) (p1_size : Int32) (p1_count : Int32) (p1_here : Int32) (p1_fault : Int32) (p1_tokensA : Nat) (p1_tokensN : Nat) (p1_tokens : Nat → Int32) (p1_startsA : Nat) (p1_startsN : Nat) (p1_starts : Nat → Int32) (p1_valuesA : Nat) (p1_valuesN : Nat) (p1_values : Nat → Int64) : va_W :=
  [(tA, .inr (2, [.ref t_namesA, .ref t_kindsA, .ref t_kinA, .ref t_stopsA, .ref t_roundsA, .int t_folks, .int t_pairs, .int t_line, .int t_rope, .int t_lineTold, .int t_ropeTold, .ref t_lawA, t_takenV])), (t_namesA, .inl (cy 2, t_namesN, .inr (.inl t_names))), (t_kindsA, .inl (cy 1, t_kindsN, .inl t_kinds)), (t_kinA, .inl (cy 1, t_kinN, .inl t_kin)), (t_stopsA, .inl (cy 1, t_stopsN, .inl t_stops)), (t_roundsA, .inl (cy 1, t_roundsN, .inl t_rounds)), (t_lawA, .inr (1, [.ref t_law_codeA, .int t_law_size, .ref t_law_waitingA, .int t_law_waits, .int t_law_within, .int t_law_brackets, .int t_law_partIsDue, t_law_stackV])), (t_law_codeA, .inl (cy 1, t_law_codeN, .inl t_law_code)), (t_law_waitingA, .inl (cy 1, t_law_waitingN, .inl t_law_waiting)), (p1A, .inr (9, [p1_signsV, .int p1_size, .ref p1_tokensA, .ref p1_startsA, .ref p1_valuesA, .int p1_count, .int p1_here, .int p1_fault])), (p1_tokensA, .inl (cy 1, p1_tokensN, .inl p1_tokens)), (p1_startsA, .inl (cy 1, p1_startsN, .inl p1_starts)), (p1_valuesA, .inl (cy 2, p1_valuesN, .inr (.inl p1_values)))]
noncomputable def fX2_readClause (F : Nat) (t_namesN : Nat) (t_kindsN : Nat) (t_kinN : Nat) (t_stopsN : Nat) (t_roundsN : Nat) (t_law_codeN : Nat) (t_law_waitingN : Nat) (p1_size : Int32) (p1_count : Int32) (p1_tokensN : Nat) (p1_tokens : Nat → Int32) (p1_startsN : Nat) (p1_starts : Nat → Int32) (p1_valuesN : Nat) (p1_values : Nat → Int64) (t_folks : Int32) (t_pairs : Int32) (t_line : Int32) (t_rope : Int32) (t_lineTold : Int32) (t_ropeTold : Int32) (t_names : Nat → Int64) (t_kinds : Nat → Int32) (t_kin : Nat → Int32) (t_stops : Nat → Int32) (t_rounds : Nat → Int32) (t_law_size : Int32) (t_law_waits : Int32) (t_law_within : Int32) (t_law_brackets : Int32) (t_law_partIsDue : Int32) (t_law_code : Nat → Int32) (t_law_waiting : Nat → Int32) (p1_here : Int32) (p1_fault : Int32) : Option (Int32 × (Int32) × (Int32) × (Int32) × (Int32) × (Int32) × (Int32) × (Nat → Int64) × (Nat → Int32) × (Nat → Int32) × (Nat → Int32) × (Nat → Int32) × (Int32) × (Int32) × (Int32) × (Int32) × (Int32) × (Nat → Int32) × (Nat → Int32) × (Int32) × (Int32)) :=
  (fX9_token F p1_count p1_here p1_tokensN p1_tokens).bind fun R1 => (if R1 = (0 : Int32) then ((fX2_readFolk F t_namesN t_kindsN t_stopsN t_roundsN p1_size p1_count p1_tokensN p1_tokens p1_startsN p1_starts p1_valuesN p1_values t_folks t_names t_kinds t_stops t_rounds p1_here p1_fault).bind fun R42 => (if R42.1 = 0 ∨ R42.1 = 1 then some (R42.1, R42.2.1, t_pairs, t_line, t_rope, t_lineTold, t_ropeTold, R42.2.2.1, R42.2.2.2.1, t_kin, R42.2.2.2.2.1, R42.2.2.2.2.2.1, t_law_size, t_law_waits, t_law_within, t_law_brackets, t_law_partIsDue, t_law_code, t_law_waiting, R42.2.2.2.2.2.2.1, R42.2.2.2.2.2.2.2) else none)) else if R1 = (1 : Int32) then ((fX2_readKin F t_folks t_namesN t_names t_kinN t_stopsN p1_size p1_count p1_tokensN p1_tokens p1_startsN p1_starts p1_valuesN p1_values t_pairs t_kin t_stops p1_here p1_fault).bind fun R48 => (if R48.1 = 0 ∨ R48.1 = 1 then some (R48.1, t_folks, R48.2.1, t_line, t_rope, t_lineTold, t_ropeTold, t_names, t_kinds, R48.2.2.1, R48.2.2.2.1, t_rounds, t_law_size, t_law_waits, t_law_within, t_law_brackets, t_law_partIsDue, t_law_code, t_law_waiting, R48.2.2.2.2.1, R48.2.2.2.2.2) else none)) else if R1 = (2 : Int32) then ((fX2_readLine F p1_size p1_count p1_tokensN p1_tokens p1_startsN p1_starts p1_valuesN p1_values t_line t_lineTold p1_here p1_fault).bind fun R54 => (if R54.1 = 0 ∨ R54.1 = 1 then some (R54.1, t_folks, t_pairs, R54.2.1, t_rope, R54.2.2.1, t_ropeTold, t_names, t_kinds, t_kin, t_stops, t_rounds, t_law_size, t_law_waits, t_law_within, t_law_brackets, t_law_partIsDue, t_law_code, t_law_waiting, R54.2.2.2.1, R54.2.2.2.2) else none)) else if R1 = (3 : Int32) then ((fX2_readRope F p1_size p1_count p1_tokensN p1_tokens p1_startsN p1_starts p1_valuesN p1_values t_rope t_ropeTold p1_here p1_fault).bind fun R60 => (if R60.1 = 0 ∨ R60.1 = 1 then some (R60.1, t_folks, t_pairs, t_line, R60.2.1, t_lineTold, R60.2.2.1, t_names, t_kinds, t_kin, t_stops, t_rounds, t_law_size, t_law_waits, t_law_within, t_law_brackets, t_law_partIsDue, t_law_code, t_law_waiting, R60.2.2.2.1, R60.2.2.2.2) else none)) else if R1 = (4 : Int32) then ((fX2_readTakes F t_law_codeN t_law_waitingN p1_size p1_count p1_tokensN p1_tokens p1_startsN p1_starts p1_valuesN p1_values t_law_size t_law_waits t_law_within t_law_brackets t_law_partIsDue t_law_code t_law_waiting p1_here p1_fault).bind fun R66 => (if R66.1 = 0 ∨ R66.1 = 1 then some (R66.1, t_folks, t_pairs, t_line, t_rope, t_lineTold, t_ropeTold, t_names, t_kinds, t_kin, t_stops, t_rounds, R66.2.1, R66.2.2.1, R66.2.2.2.1, R66.2.2.2.2.1, R66.2.2.2.2.2.1, R66.2.2.2.2.2.2.1, R66.2.2.2.2.2.2.2.1, R66.2.2.2.2.2.2.2.2.1, R66.2.2.2.2.2.2.2.2.2) else none)) else ((fX9_wrong F p1_size p1_count p1_here p1_startsN p1_starts (1 : Int32) p1_fault).bind fun R72 => (if R72.1 = 0 ∨ R72.1 = 1 then some (R72.1, t_folks, t_pairs, t_line, t_rope, t_lineTold, t_ropeTold, t_names, t_kinds, t_kin, t_stops, t_rounds, t_law_size, t_law_waits, t_law_within, t_law_brackets, t_law_partIsDue, t_law_code, t_law_waiting, p1_here, R72.2) else none)))
theorem CX2_readClause {l : Launch} {D : va_G} {cy : Nat → ClassId} (F : Nat) (tA : Nat) (t_folks : Int32) (t_pairs : Int32) (t_line : Int32) (t_rope : Int32) (t_lineTold : Int32) (t_ropeTold : Int32) (t_takenV : Value) (t_namesA : Nat) (t_namesN : Nat) (t_names : Nat → Int64) (t_kindsA : Nat) (t_kindsN : Nat) (t_kinds : Nat → Int32) (t_kinA : Nat) (t_kinN : Nat) (t_kin : Nat → Int32) (t_stopsA : Nat) (t_stopsN : Nat) (t_stops : Nat → Int32) (t_roundsA : Nat) (t_roundsN : Nat) (t_rounds : Nat → Int32) (t_lawA : Nat) (t_law_size : Int32) (t_law_waits : Int32) (t_law_within : Int32) (t_law_brackets : Int32) (t_law_partIsDue : Int32) (t_law_stackV : Value) (t_law_codeA : Nat) (t_law_codeN : Nat) (t_law_code : Nat → Int32) (t_law_waitingA : Nat) (t_law_waitingN : Nat) (t_law_waiting : Nat → Int32) (p1A : Nat) (p1_signsV : Value) (p1_size : Int32) (p1_count : Int32) (p1_here : Int32) (p1_fault : Int32) (p1_tokensA : Nat) (p1_tokensN : Nat) (p1_tokens : Nat → Int32) (p1_startsA : Nat) (p1_startsN : Nat) (p1_starts : Nat → Int32) (p1_valuesA : Nat) (p1_valuesN : Nat) (p1_values : Nat → Int64) (R : Int32 × (Int32) × (Int32) × (Int32) × (Int32) × (Int32) × (Int32) × (Nat → Int64) × (Nat → Int32) × (Nat → Int32) × (Nat → Int32) × (Nat → Int32) × (Int32) × (Int32) × (Int32) × (Int32) × (Int32) × (Nat → Int32) × (Nat → Int32) × (Int32) × (Int32)) (h : fX2_readClause F t_namesN t_kindsN t_kinN t_stopsN t_roundsN t_law_codeN t_law_waitingN p1_size p1_count p1_tokensN p1_tokens p1_startsN p1_starts p1_valuesN p1_values t_folks t_pairs t_line t_rope t_lineTold t_ropeTold t_names t_kinds t_kin t_stops t_rounds t_law_size t_law_waits t_law_within t_law_brackets t_law_partIsDue t_law_code t_law_waiting p1_here p1_fault = some R) : vMet l D cy MX2_readClause 5 0 0 [.ref tA, .ref p1A] (wX2_readClause cy tA t_folks t_pairs t_line t_rope t_lineTold t_ropeTold t_takenV t_namesA t_namesN t_names t_kindsA t_kindsN t_kinds t_kinA t_kinN t_kin t_stopsA t_stopsN t_stops t_roundsA t_roundsN t_rounds t_lawA t_law_size t_law_waits t_law_within t_law_brackets t_law_partIsDue t_law_stackV t_law_codeA t_law_codeN t_law_code t_law_waitingA t_law_waitingN t_law_waiting p1A p1_signsV p1_size p1_count p1_here p1_fault p1_tokensA p1_tokensN p1_tokens p1_startsA p1_startsN p1_starts p1_valuesA p1_valuesN p1_values) (fun (r : Option Value) (w : va_W) => r = (some (.int R.1)) ∧ w = (wX2_readClause cy tA R.2.1 R.2.2.1 R.2.2.2.1 R.2.2.2.2.1 R.2.2.2.2.2.1 R.2.2.2.2.2.2.1 t_takenV t_namesA t_namesN R.2.2.2.2.2.2.2.1 t_kindsA t_kindsN R.2.2.2.2.2.2.2.2.1 t_kinA t_kinN R.2.2.2.2.2.2.2.2.2.1 t_stopsA t_stopsN R.2.2.2.2.2.2.2.2.2.2.1 t_roundsA t_roundsN R.2.2.2.2.2.2.2.2.2.2.2.1 t_lawA R.2.2.2.2.2.2.2.2.2.2.2.2.1 R.2.2.2.2.2.2.2.2.2.2.2.2.2.1 R.2.2.2.2.2.2.2.2.2.2.2.2.2.2.1 R.2.2.2.2.2.2.2.2.2.2.2.2.2.2.2.1 R.2.2.2.2.2.2.2.2.2.2.2.2.2.2.2.2.1 t_law_stackV t_law_codeA t_law_codeN R.2.2.2.2.2.2.2.2.2.2.2.2.2.2.2.2.2.1 t_law_waitingA t_law_waitingN R.2.2.2.2.2.2.2.2.2.2.2.2.2.2.2.2.2.2.1 p1A p1_signsV p1_size p1_count R.2.2.2.2.2.2.2.2.2.2.2.2.2.2.2.2.2.2.2.1 R.2.2.2.2.2.2.2.2.2.2.2.2.2.2.2.2.2.2.2.2 p1_tokensA p1_tokensN p1_tokens p1_startsA p1_startsN p1_starts p1_valuesA p1_valuesN p1_values)) := by
  refine vMet.start (by decide +kernel) (Nat.le_of_ble_eq_true rfl) ?_
  generalize hQe : (fun (r : Option Value) (w : va_W) => r = (some (.int R.1)) ∧ w = (wX2_readClause cy tA R.2.1 R.2.2.1 R.2.2.2.1 R.2.2.2.2.1 R.2.2.2.2.2.1 R.2.2.2.2.2.2.1 t_takenV t_namesA t_namesN R.2.2.2.2.2.2.2.1 t_kindsA t_kindsN R.2.2.2.2.2.2.2.2.1 t_kinA t_kinN R.2.2.2.2.2.2.2.2.2.1 t_stopsA t_stopsN R.2.2.2.2.2.2.2.2.2.2.1 t_roundsA t_roundsN R.2.2.2.2.2.2.2.2.2.2.2.1 t_lawA R.2.2.2.2.2.2.2.2.2.2.2.2.1 R.2.2.2.2.2.2.2.2.2.2.2.2.2.1 R.2.2.2.2.2.2.2.2.2.2.2.2.2.2.1 R.2.2.2.2.2.2.2.2.2.2.2.2.2.2.2.1 R.2.2.2.2.2.2.2.2.2.2.2.2.2.2.2.2.1 t_law_stackV t_law_codeA t_law_codeN R.2.2.2.2.2.2.2.2.2.2.2.2.2.2.2.2.2.1 t_law_waitingA t_law_waitingN R.2.2.2.2.2.2.2.2.2.2.2.2.2.2.2.2.2.2.1 p1A p1_signsV p1_size p1_count R.2.2.2.2.2.2.2.2.2.2.2.2.2.2.2.2.2.2.2.1 R.2.2.2.2.2.2.2.2.2.2.2.2.2.2.2.2.2.2.2.2 p1_tokensA p1_tokensN p1_tokens p1_startsA p1_startsN p1_starts p1_valuesA p1_valuesN p1_values)) = Q
  have hQ : Q (some (.int R.1)) (wX2_readClause cy tA R.2.1 R.2.2.1 R.2.2.2.1 R.2.2.2.2.1 R.2.2.2.2.2.1 R.2.2.2.2.2.2.1 t_takenV t_namesA t_namesN R.2.2.2.2.2.2.2.1 t_kindsA t_kindsN R.2.2.2.2.2.2.2.2.1 t_kinA t_kinN R.2.2.2.2.2.2.2.2.2.1 t_stopsA t_stopsN R.2.2.2.2.2.2.2.2.2.2.1 t_roundsA t_roundsN R.2.2.2.2.2.2.2.2.2.2.2.1 t_lawA R.2.2.2.2.2.2.2.2.2.2.2.2.1 R.2.2.2.2.2.2.2.2.2.2.2.2.2.1 R.2.2.2.2.2.2.2.2.2.2.2.2.2.2.1 R.2.2.2.2.2.2.2.2.2.2.2.2.2.2.2.1 R.2.2.2.2.2.2.2.2.2.2.2.2.2.2.2.2.1 t_law_stackV t_law_codeA t_law_codeN R.2.2.2.2.2.2.2.2.2.2.2.2.2.2.2.2.2.1 t_law_waitingA t_law_waitingN R.2.2.2.2.2.2.2.2.2.2.2.2.2.2.2.2.2.2.1 p1A p1_signsV p1_size p1_count R.2.2.2.2.2.2.2.2.2.2.2.2.2.2.2.2.2.2.2.1 R.2.2.2.2.2.2.2.2.2.2.2.2.2.2.2.2.2.2.2.2 p1_tokensA p1_tokensN p1_tokens p1_startsA p1_startsN p1_starts p1_valuesA p1_valuesN p1_values) := by rw [← hQe]; exact ⟨rfl, rfl⟩
  show V l D cy MX2_readClause 5 0 0 _ _ Q 0 [(0, .ref tA), (1, .ref p1A)] [] _ 0 0
  show V l D cy MX2_readClause 5 0 0 [.ref tA, .ref p1A] _ Q 0 [(0, .ref tA), (1, .ref p1A)] [] (wX2_readClause cy tA t_folks t_pairs t_line t_rope t_lineTold t_ropeTold t_takenV t_namesA t_namesN t_names t_kindsA t_kindsN t_kinds t_kinA t_kinN t_kin t_stopsA t_stopsN t_stops t_roundsA t_roundsN t_rounds t_lawA t_law_size t_law_waits t_law_within t_law_brackets t_law_partIsDue t_law_stackV t_law_codeA t_law_codeN t_law_code t_law_waitingA t_law_waitingN t_law_waiting p1A p1_signsV p1_size p1_count p1_here p1_fault p1_tokensA p1_tokensN p1_tokens p1_startsA p1_startsN p1_starts p1_valuesA p1_valuesN p1_values) 0 0
  unfold fX2_readClause at h
  refine V.aload_n dX2_readClause_0 rfl 1 rfl ?_
  obtain ⟨R1, hg1, h⟩ := Option.bind_eq_some_iff.mp h
  refine V.callV (As := []) (rest := []) (wc := (wX9_token cy p1A p1_signsV p1_size (.ref p1_startsA) (.ref p1_valuesA) p1_count p1_here p1_fault p1_tokensA p1_tokensN p1_tokens)) (wr := [(tA, .inr (2, [.ref t_namesA, .ref t_kindsA, .ref t_kinA, .ref t_stopsA, .ref t_roundsA, .int t_folks, .int t_pairs, .int t_line, .int t_rope, .int t_lineTold, .int t_ropeTold, .ref t_lawA, t_takenV])), (t_namesA, .inl (cy 2, t_namesN, .inr (.inl t_names))), (t_kindsA, .inl (cy 1, t_kindsN, .inl t_kinds)), (t_kinA, .inl (cy 1, t_kinN, .inl t_kin)), (t_stopsA, .inl (cy 1, t_stopsN, .inl t_stops)), (t_roundsA, .inl (cy 1, t_roundsN, .inl t_rounds)), (t_lawA, .inr (1, [.ref t_law_codeA, .int t_law_size, .ref t_law_waitingA, .int t_law_waits, .int t_law_within, .int t_law_brackets, .int t_law_partIsDue, t_law_stackV])), (t_law_codeA, .inl (cy 1, t_law_codeN, .inl t_law_code)), (t_law_waitingA, .inl (cy 1, t_law_waitingN, .inl t_law_waiting)), (p1_startsA, .inl (cy 1, p1_startsN, .inl p1_starts)), (p1_valuesA, .inl (cy 2, p1_valuesN, .inr (.inl p1_values)))]) (q0 := 9) (CX9_token F p1A p1_signsV p1_size (.ref p1_startsA) (.ref p1_valuesA) p1_count p1_here p1_fault p1_tokensA p1_tokensN p1_tokens R1 hg1) kvX9_token klX2_118 [9, 10] [0, 1, 2, 3, 4, 5, 6, 7, 8, 11, 12] rfl rfl (by decide) (by decide) (by decide) rfl rfl rfl rfl dX2_readClause_1 ⟨by decide, by decide, by decide, by decide⟩ (Nat.le_of_ble_eq_true rfl) (fun r w1 hq => ?_)
  obtain ⟨rfl, rfl⟩ := hq
  refine V.cells (ws' := (wX2_readClause cy tA t_folks t_pairs t_line t_rope t_lineTold t_ropeTold t_takenV t_namesA t_namesN t_names t_kindsA t_kindsN t_kinds t_kinA t_kinN t_kin t_stopsA t_stopsN t_stops t_roundsA t_roundsN t_rounds t_lawA t_law_size t_law_waits t_law_within t_law_brackets t_law_partIsDue t_law_stackV t_law_codeA t_law_codeN t_law_code t_law_waitingA t_law_waitingN t_law_waiting p1A p1_signsV p1_size p1_count p1_here p1_fault p1_tokensA p1_tokensN p1_tokens p1_startsA p1_startsN p1_starts p1_valuesA p1_valuesN p1_values)) [0, 1, 2, 3, 4, 5, 6, 7, 8, 11, 12, 9, 10] (by decide) rfl ?_
  show V l D cy MX2_readClause 5 0 0 _ _ _ 4 [(0, .ref tA), (1, .ref p1A)] [.int R1] (wX2_readClause cy tA t_folks t_pairs t_line t_rope t_lineTold t_ropeTold t_takenV t_namesA t_namesN t_names t_kindsA t_kindsN t_kinds t_kinA t_kinN t_kin t_stopsA t_stopsN t_stops t_roundsA t_roundsN t_rounds t_lawA t_law_size t_law_waits t_law_within t_law_brackets t_law_partIsDue t_law_stackV t_law_codeA t_law_codeN t_law_code t_law_waitingA t_law_waitingN t_law_waiting p1A p1_signsV p1_size p1_count p1_here p1_fault p1_tokensA p1_tokensN p1_tokens p1_startsA p1_startsN p1_starts p1_valuesA p1_valuesN p1_values) 0 0
  by_cases hs4_0 : R1 = (0 : Int32)
  · replace h := (if_pos hs4_0).symm.trans h
    refine V.tswIn (tgt := 40) dX2_readClause_4 (by rw [hs4_0]; decide) (by rw [hs4_0]; decide) (by rw [hs4_0]; rfl) (by decide) ?_
    refine V.aload_n dX2_readClause_40 rfl 0 rfl ?_
    refine V.aload_n dX2_readClause_41 rfl 1 rfl ?_
    obtain ⟨R42, hg42, h⟩ := Option.bind_eq_some_iff.mp h
    refine V.callV (As := [.ref p1A]) (rest := []) (wc := (wX2_readFolk cy tA (.ref t_kinA) t_folks t_pairs t_line t_rope t_lineTold t_ropeTold (.ref t_lawA) t_takenV t_namesA t_namesN t_names t_kindsA t_kindsN t_kinds t_stopsA t_stopsN t_stops t_roundsA t_roundsN t_rounds p1A p1_signsV p1_size p1_count p1_here p1_fault p1_tokensA p1_tokensN p1_tokens p1_startsA p1_startsN p1_starts p1_valuesA p1_valuesN p1_values)) (wr := [(t_kinA, .inl (cy 1, t_kinN, .inl t_kin)), (t_lawA, .inr (1, [.ref t_law_codeA, .int t_law_size, .ref t_law_waitingA, .int t_law_waits, .int t_law_within, .int t_law_brackets, .int t_law_partIsDue, t_law_stackV])), (t_law_codeA, .inl (cy 1, t_law_codeN, .inl t_law_code)), (t_law_waitingA, .inl (cy 1, t_law_waitingN, .inl t_law_waiting))]) (q0 := 0) (CX2_readFolk F tA (.ref t_kinA) t_folks t_pairs t_line t_rope t_lineTold t_ropeTold (.ref t_lawA) t_takenV t_namesA t_namesN t_names t_kindsA t_kindsN t_kinds t_stopsA t_stopsN t_stops t_roundsA t_roundsN t_rounds p1A p1_signsV p1_size p1_count p1_here p1_fault p1_tokensA p1_tokensN p1_tokens p1_startsA p1_startsN p1_starts p1_valuesA p1_valuesN p1_values R42 hg42) kvX2_readFolk klX2_129 [0, 1, 2, 4, 5, 9, 10, 11, 12] [3, 6, 7, 8] rfl rfl (by decide) (by decide) (by decide) rfl rfl rfl rfl dX2_readClause_42 ⟨by decide, by decide, by decide, by decide⟩ (Nat.le_of_ble_eq_true rfl) (fun r w1 hq => ?_)
    obtain ⟨rfl, rfl⟩ := hq
    refine V.cells (ws' := (wX2_readClause cy tA R42.2.1 t_pairs t_line t_rope t_lineTold t_ropeTold t_takenV t_namesA t_namesN R42.2.2.1 t_kindsA t_kindsN R42.2.2.2.1 t_kinA t_kinN t_kin t_stopsA t_stopsN R42.2.2.2.2.1 t_roundsA t_roundsN R42.2.2.2.2.2.1 t_lawA t_law_size t_law_waits t_law_within t_law_brackets t_law_partIsDue t_law_stackV t_law_codeA t_law_codeN t_law_code t_law_waitingA t_law_waitingN t_law_waiting p1A p1_signsV p1_size p1_count R42.2.2.2.2.2.2.1 R42.2.2.2.2.2.2.2 p1_tokensA p1_tokensN p1_tokens p1_startsA p1_startsN p1_starts p1_valuesA p1_valuesN p1_values)) [4, 5, 6, 0, 7, 8, 1, 2, 3, 9, 10, 11, 12] (by decide) rfl ?_
    show V l D cy MX2_readClause 5 0 0 _ _ _ 45 [(0, .ref tA), (1, .ref p1A)] [.int R42.1] (wX2_readClause cy tA R42.2.1 t_pairs t_line t_rope t_lineTold t_ropeTold t_takenV t_namesA t_namesN R42.2.2.1 t_kindsA t_kindsN R42.2.2.2.1 t_kinA t_kinN t_kin t_stopsA t_stopsN R42.2.2.2.2.1 t_roundsA t_roundsN R42.2.2.2.2.2.1 t_lawA t_law_size t_law_waits t_law_within t_law_brackets t_law_partIsDue t_law_stackV t_law_codeA t_law_codeN t_law_code t_law_waitingA t_law_waitingN t_law_waiting p1A p1_signsV p1_size p1_count R42.2.2.2.2.2.2.1 R42.2.2.2.2.2.2.2 p1_tokensA p1_tokensN p1_tokens p1_startsA p1_startsN p1_starts p1_valuesA p1_valuesN p1_values) 0 0
    by_cases hz45 : R42.1 = 0 ∨ R42.1 = 1
    case neg => exact vNone ((if_neg hz45).symm.trans h)
    replace h := (if_pos hz45).symm.trans h
    have e9 := Option.some.inj h; subst e9
    exact V.iret (ty := .boolean) rfl (vBool hz45).1 dX2_readClause_45 (Nat.le_refl _) (Nat.le_refl _) hQ
  replace h := (if_neg hs4_0).symm.trans h
  by_cases hs4_1 : R1 = (1 : Int32)
  · replace h := (if_pos hs4_1).symm.trans h
    refine V.tswIn (tgt := 46) dX2_readClause_4 (by rw [hs4_1]; decide) (by rw [hs4_1]; decide) (by rw [hs4_1]; rfl) (by decide) ?_
    refine V.aload_n dX2_readClause_46 rfl 0 rfl ?_
    refine V.aload_n dX2_readClause_47 rfl 1 rfl ?_
    obtain ⟨R48, hg48, h⟩ := Option.bind_eq_some_iff.mp h
    refine V.callV (As := [.ref p1A]) (rest := []) (wc := (wX2_readKin cy tA (.ref t_kindsA) (.ref t_roundsA) t_folks t_pairs t_line t_rope t_lineTold t_ropeTold (.ref t_lawA) t_takenV t_namesA t_namesN t_names t_kinA t_kinN t_kin t_stopsA t_stopsN t_stops p1A p1_signsV p1_size p1_count p1_here p1_fault p1_tokensA p1_tokensN p1_tokens p1_startsA p1_startsN p1_starts p1_valuesA p1_valuesN p1_values)) (wr := [(t_kindsA, .inl (cy 1, t_kindsN, .inl t_kinds)), (t_roundsA, .inl (cy 1, t_roundsN, .inl t_rounds)), (t_lawA, .inr (1, [.ref t_law_codeA, .int t_law_size, .ref t_law_waitingA, .int t_law_waits, .int t_law_within, .int t_law_brackets, .int t_law_partIsDue, t_law_stackV])), (t_law_codeA, .inl (cy 1, t_law_codeN, .inl t_law_code)), (t_law_waitingA, .inl (cy 1, t_law_waitingN, .inl t_law_waiting))]) (q0 := 0) (CX2_readKin F tA (.ref t_kindsA) (.ref t_roundsA) t_folks t_pairs t_line t_rope t_lineTold t_ropeTold (.ref t_lawA) t_takenV t_namesA t_namesN t_names t_kinA t_kinN t_kin t_stopsA t_stopsN t_stops p1A p1_signsV p1_size p1_count p1_here p1_fault p1_tokensA p1_tokensN p1_tokens p1_startsA p1_startsN p1_starts p1_valuesA p1_valuesN p1_values R48 hg48) kvX2_readKin klX2_132 [0, 1, 3, 4, 9, 10, 11, 12] [2, 5, 6, 7, 8] rfl rfl (by decide) (by decide) (by decide) rfl rfl rfl rfl dX2_readClause_48 ⟨by decide, by decide, by decide, by decide⟩ (Nat.le_of_ble_eq_true rfl) (fun r w1 hq => ?_)
    obtain ⟨rfl, rfl⟩ := hq
    refine V.cells (ws' := (wX2_readClause cy tA t_folks R48.2.1 t_line t_rope t_lineTold t_ropeTold t_takenV t_namesA t_namesN t_names t_kindsA t_kindsN t_kinds t_kinA t_kinN R48.2.2.1 t_stopsA t_stopsN R48.2.2.2.1 t_roundsA t_roundsN t_rounds t_lawA t_law_size t_law_waits t_law_within t_law_brackets t_law_partIsDue t_law_stackV t_law_codeA t_law_codeN t_law_code t_law_waitingA t_law_waitingN t_law_waiting p1A p1_signsV p1_size p1_count R48.2.2.2.2.1 R48.2.2.2.2.2 p1_tokensA p1_tokensN p1_tokens p1_startsA p1_startsN p1_starts p1_valuesA p1_valuesN p1_values)) [5, 6, 0, 7, 8, 1, 2, 3, 4, 9, 10, 11, 12] (by decide) rfl ?_
    show V l D cy MX2_readClause 5 0 0 _ _ _ 51 [(0, .ref tA), (1, .ref p1A)] [.int R48.1] (wX2_readClause cy tA t_folks R48.2.1 t_line t_rope t_lineTold t_ropeTold t_takenV t_namesA t_namesN t_names t_kindsA t_kindsN t_kinds t_kinA t_kinN R48.2.2.1 t_stopsA t_stopsN R48.2.2.2.1 t_roundsA t_roundsN t_rounds t_lawA t_law_size t_law_waits t_law_within t_law_brackets t_law_partIsDue t_law_stackV t_law_codeA t_law_codeN t_law_code t_law_waitingA t_law_waitingN t_law_waiting p1A p1_signsV p1_size p1_count R48.2.2.2.2.1 R48.2.2.2.2.2 p1_tokensA p1_tokensN p1_tokens p1_startsA p1_startsN p1_starts p1_valuesA p1_valuesN p1_values) 0 0
    by_cases hz51 : R48.1 = 0 ∨ R48.1 = 1
    case neg => exact vNone ((if_neg hz51).symm.trans h)
    replace h := (if_pos hz51).symm.trans h
    have e9 := Option.some.inj h; subst e9
    exact V.iret (ty := .boolean) rfl (vBool hz51).1 dX2_readClause_51 (Nat.le_refl _) (Nat.le_refl _) hQ
  replace h := (if_neg hs4_1).symm.trans h
  by_cases hs4_2 : R1 = (2 : Int32)
  · replace h := (if_pos hs4_2).symm.trans h
    refine V.tswIn (tgt := 52) dX2_readClause_4 (by rw [hs4_2]; decide) (by rw [hs4_2]; decide) (by rw [hs4_2]; rfl) (by decide) ?_
    refine V.aload_n dX2_readClause_52 rfl 0 rfl ?_
    refine V.aload_n dX2_readClause_53 rfl 1 rfl ?_
    obtain ⟨R54, hg54, h⟩ := Option.bind_eq_some_iff.mp h
    refine V.callV (As := [.ref p1A]) (rest := []) (wc := (wX2_readLine cy tA (.ref t_namesA) (.ref t_kindsA) (.ref t_kinA) (.ref t_stopsA) (.ref t_roundsA) t_folks t_pairs t_line t_rope t_lineTold t_ropeTold (.ref t_lawA) t_takenV p1A p1_signsV p1_size p1_count p1_here p1_fault p1_tokensA p1_tokensN p1_tokens p1_startsA p1_startsN p1_starts p1_valuesA p1_valuesN p1_values)) (wr := [(t_namesA, .inl (cy 2, t_namesN, .inr (.inl t_names))), (t_kindsA, .inl (cy 1, t_kindsN, .inl t_kinds)), (t_kinA, .inl (cy 1, t_kinN, .inl t_kin)), (t_stopsA, .inl (cy 1, t_stopsN, .inl t_stops)), (t_roundsA, .inl (cy 1, t_roundsN, .inl t_rounds)), (t_lawA, .inr (1, [.ref t_law_codeA, .int t_law_size, .ref t_law_waitingA, .int t_law_waits, .int t_law_within, .int t_law_brackets, .int t_law_partIsDue, t_law_stackV])), (t_law_codeA, .inl (cy 1, t_law_codeN, .inl t_law_code)), (t_law_waitingA, .inl (cy 1, t_law_waitingN, .inl t_law_waiting))]) (q0 := 0) (CX2_readLine F tA (.ref t_namesA) (.ref t_kindsA) (.ref t_kinA) (.ref t_stopsA) (.ref t_roundsA) t_folks t_pairs t_line t_rope t_lineTold t_ropeTold (.ref t_lawA) t_takenV p1A p1_signsV p1_size p1_count p1_here p1_fault p1_tokensA p1_tokensN p1_tokens p1_startsA p1_startsN p1_starts p1_valuesA p1_valuesN p1_values R54 hg54) kvX2_readLine klX2_135 [0, 9, 10, 11, 12] [1, 2, 3, 4, 5, 6, 7, 8] rfl rfl (by decide) (by decide) (by decide) rfl rfl rfl rfl dX2_readClause_54 ⟨by decide, by decide, by decide, by decide⟩ (Nat.le_of_ble_eq_true rfl) (fun r w1 hq => ?_)
    obtain ⟨rfl, rfl⟩ := hq
    refine V.cells (ws' := (wX2_readClause cy tA t_folks t_pairs R54.2.1 t_rope R54.2.2.1 t_ropeTold t_takenV t_namesA t_namesN t_names t_kindsA t_kindsN t_kinds t_kinA t_kinN t_kin t_stopsA t_stopsN t_stops t_roundsA t_roundsN t_rounds t_lawA t_law_size t_law_waits t_law_within t_law_brackets t_law_partIsDue t_law_stackV t_law_codeA t_law_codeN t_law_code t_law_waitingA t_law_waitingN t_law_waiting p1A p1_signsV p1_size p1_count R54.2.2.2.1 R54.2.2.2.2 p1_tokensA p1_tokensN p1_tokens p1_startsA p1_startsN p1_starts p1_valuesA p1_valuesN p1_values)) [8, 0, 1, 2, 3, 4, 5, 6, 7, 9, 10, 11, 12] (by decide) rfl ?_
    show V l D cy MX2_readClause 5 0 0 _ _ _ 57 [(0, .ref tA), (1, .ref p1A)] [.int R54.1] (wX2_readClause cy tA t_folks t_pairs R54.2.1 t_rope R54.2.2.1 t_ropeTold t_takenV t_namesA t_namesN t_names t_kindsA t_kindsN t_kinds t_kinA t_kinN t_kin t_stopsA t_stopsN t_stops t_roundsA t_roundsN t_rounds t_lawA t_law_size t_law_waits t_law_within t_law_brackets t_law_partIsDue t_law_stackV t_law_codeA t_law_codeN t_law_code t_law_waitingA t_law_waitingN t_law_waiting p1A p1_signsV p1_size p1_count R54.2.2.2.1 R54.2.2.2.2 p1_tokensA p1_tokensN p1_tokens p1_startsA p1_startsN p1_starts p1_valuesA p1_valuesN p1_values) 0 0
    by_cases hz57 : R54.1 = 0 ∨ R54.1 = 1
    case neg => exact vNone ((if_neg hz57).symm.trans h)
    replace h := (if_pos hz57).symm.trans h
    have e9 := Option.some.inj h; subst e9
    exact V.iret (ty := .boolean) rfl (vBool hz57).1 dX2_readClause_57 (Nat.le_refl _) (Nat.le_refl _) hQ
  replace h := (if_neg hs4_2).symm.trans h
  by_cases hs4_3 : R1 = (3 : Int32)
  · replace h := (if_pos hs4_3).symm.trans h
    refine V.tswIn (tgt := 58) dX2_readClause_4 (by rw [hs4_3]; decide) (by rw [hs4_3]; decide) (by rw [hs4_3]; rfl) (by decide) ?_
    refine V.aload_n dX2_readClause_58 rfl 0 rfl ?_
    refine V.aload_n dX2_readClause_59 rfl 1 rfl ?_
    obtain ⟨R60, hg60, h⟩ := Option.bind_eq_some_iff.mp h
    refine V.callV (As := [.ref p1A]) (rest := []) (wc := (wX2_readRope cy tA (.ref t_namesA) (.ref t_kindsA) (.ref t_kinA) (.ref t_stopsA) (.ref t_roundsA) t_folks t_pairs t_line t_rope t_lineTold t_ropeTold (.ref t_lawA) t_takenV p1A p1_signsV p1_size p1_count p1_here p1_fault p1_tokensA p1_tokensN p1_tokens p1_startsA p1_startsN p1_starts p1_valuesA p1_valuesN p1_values)) (wr := [(t_namesA, .inl (cy 2, t_namesN, .inr (.inl t_names))), (t_kindsA, .inl (cy 1, t_kindsN, .inl t_kinds)), (t_kinA, .inl (cy 1, t_kinN, .inl t_kin)), (t_stopsA, .inl (cy 1, t_stopsN, .inl t_stops)), (t_roundsA, .inl (cy 1, t_roundsN, .inl t_rounds)), (t_lawA, .inr (1, [.ref t_law_codeA, .int t_law_size, .ref t_law_waitingA, .int t_law_waits, .int t_law_within, .int t_law_brackets, .int t_law_partIsDue, t_law_stackV])), (t_law_codeA, .inl (cy 1, t_law_codeN, .inl t_law_code)), (t_law_waitingA, .inl (cy 1, t_law_waitingN, .inl t_law_waiting))]) (q0 := 0) (CX2_readRope F tA (.ref t_namesA) (.ref t_kindsA) (.ref t_kinA) (.ref t_stopsA) (.ref t_roundsA) t_folks t_pairs t_line t_rope t_lineTold t_ropeTold (.ref t_lawA) t_takenV p1A p1_signsV p1_size p1_count p1_here p1_fault p1_tokensA p1_tokensN p1_tokens p1_startsA p1_startsN p1_starts p1_valuesA p1_valuesN p1_values R60 hg60) kvX2_readRope klX2_138 [0, 9, 10, 11, 12] [1, 2, 3, 4, 5, 6, 7, 8] rfl rfl (by decide) (by decide) (by decide) rfl rfl rfl rfl dX2_readClause_60 ⟨by decide, by decide, by decide, by decide⟩ (Nat.le_of_ble_eq_true rfl) (fun r w1 hq => ?_)
    obtain ⟨rfl, rfl⟩ := hq
    refine V.cells (ws' := (wX2_readClause cy tA t_folks t_pairs t_line R60.2.1 t_lineTold R60.2.2.1 t_takenV t_namesA t_namesN t_names t_kindsA t_kindsN t_kinds t_kinA t_kinN t_kin t_stopsA t_stopsN t_stops t_roundsA t_roundsN t_rounds t_lawA t_law_size t_law_waits t_law_within t_law_brackets t_law_partIsDue t_law_stackV t_law_codeA t_law_codeN t_law_code t_law_waitingA t_law_waitingN t_law_waiting p1A p1_signsV p1_size p1_count R60.2.2.2.1 R60.2.2.2.2 p1_tokensA p1_tokensN p1_tokens p1_startsA p1_startsN p1_starts p1_valuesA p1_valuesN p1_values)) [8, 0, 1, 2, 3, 4, 5, 6, 7, 9, 10, 11, 12] (by decide) rfl ?_
    show V l D cy MX2_readClause 5 0 0 _ _ _ 63 [(0, .ref tA), (1, .ref p1A)] [.int R60.1] (wX2_readClause cy tA t_folks t_pairs t_line R60.2.1 t_lineTold R60.2.2.1 t_takenV t_namesA t_namesN t_names t_kindsA t_kindsN t_kinds t_kinA t_kinN t_kin t_stopsA t_stopsN t_stops t_roundsA t_roundsN t_rounds t_lawA t_law_size t_law_waits t_law_within t_law_brackets t_law_partIsDue t_law_stackV t_law_codeA t_law_codeN t_law_code t_law_waitingA t_law_waitingN t_law_waiting p1A p1_signsV p1_size p1_count R60.2.2.2.1 R60.2.2.2.2 p1_tokensA p1_tokensN p1_tokens p1_startsA p1_startsN p1_starts p1_valuesA p1_valuesN p1_values) 0 0
    by_cases hz63 : R60.1 = 0 ∨ R60.1 = 1
    case neg => exact vNone ((if_neg hz63).symm.trans h)
    replace h := (if_pos hz63).symm.trans h
    have e9 := Option.some.inj h; subst e9
    exact V.iret (ty := .boolean) rfl (vBool hz63).1 dX2_readClause_63 (Nat.le_refl _) (Nat.le_refl _) hQ
  replace h := (if_neg hs4_3).symm.trans h
  by_cases hs4_4 : R1 = (4 : Int32)
  · replace h := (if_pos hs4_4).symm.trans h
    refine V.tswIn (tgt := 64) dX2_readClause_4 (by rw [hs4_4]; decide) (by rw [hs4_4]; decide) (by rw [hs4_4]; rfl) (by decide) ?_
    refine V.aload_n dX2_readClause_64 rfl 0 rfl ?_
    refine V.aload_n dX2_readClause_65 rfl 1 rfl ?_
    obtain ⟨R66, hg66, h⟩ := Option.bind_eq_some_iff.mp h
    refine V.callV (As := [.ref p1A]) (rest := []) (wc := (wX2_readTakes cy tA (.ref t_namesA) (.ref t_kindsA) (.ref t_kinA) (.ref t_stopsA) (.ref t_roundsA) t_folks t_pairs t_line t_rope t_lineTold t_ropeTold t_takenV t_lawA t_law_size t_law_waits t_law_within t_law_brackets t_law_partIsDue t_law_stackV t_law_codeA t_law_codeN t_law_code t_law_waitingA t_law_waitingN t_law_waiting p1A p1_signsV p1_size p1_count p1_here p1_fault p1_tokensA p1_tokensN p1_tokens p1_startsA p1_startsN p1_starts p1_valuesA p1_valuesN p1_values)) (wr := [(t_namesA, .inl (cy 2, t_namesN, .inr (.inl t_names))), (t_kindsA, .inl (cy 1, t_kindsN, .inl t_kinds)), (t_kinA, .inl (cy 1, t_kinN, .inl t_kin)), (t_stopsA, .inl (cy 1, t_stopsN, .inl t_stops)), (t_roundsA, .inl (cy 1, t_roundsN, .inl t_rounds))]) (q0 := 0) (CX2_readTakes F tA (.ref t_namesA) (.ref t_kindsA) (.ref t_kinA) (.ref t_stopsA) (.ref t_roundsA) t_folks t_pairs t_line t_rope t_lineTold t_ropeTold t_takenV t_lawA t_law_size t_law_waits t_law_within t_law_brackets t_law_partIsDue t_law_stackV t_law_codeA t_law_codeN t_law_code t_law_waitingA t_law_waitingN t_law_waiting p1A p1_signsV p1_size p1_count p1_here p1_fault p1_tokensA p1_tokensN p1_tokens p1_startsA p1_startsN p1_starts p1_valuesA p1_valuesN p1_values R66 hg66) kvX2_readTakes klX2_141 [0, 6, 7, 8, 9, 10, 11, 12] [1, 2, 3, 4, 5] rfl rfl (by decide) (by decide) (by decide) rfl rfl rfl rfl dX2_readClause_66 ⟨by decide, by decide, by decide, by decide⟩ (Nat.le_of_ble_eq_true rfl) (fun r w1 hq => ?_)
    obtain ⟨rfl, rfl⟩ := hq
    refine V.cells (ws' := (wX2_readClause cy tA t_folks t_pairs t_line t_rope t_lineTold t_ropeTold t_takenV t_namesA t_namesN t_names t_kindsA t_kindsN t_kinds t_kinA t_kinN t_kin t_stopsA t_stopsN t_stops t_roundsA t_roundsN t_rounds t_lawA R66.2.1 R66.2.2.1 R66.2.2.2.1 R66.2.2.2.2.1 R66.2.2.2.2.2.1 t_law_stackV t_law_codeA t_law_codeN R66.2.2.2.2.2.2.1 t_law_waitingA t_law_waitingN R66.2.2.2.2.2.2.2.1 p1A p1_signsV p1_size p1_count R66.2.2.2.2.2.2.2.2.1 R66.2.2.2.2.2.2.2.2.2 p1_tokensA p1_tokensN p1_tokens p1_startsA p1_startsN p1_starts p1_valuesA p1_valuesN p1_values)) [5, 0, 1, 2, 3, 4, 6, 7, 8, 9, 10, 11, 12] (by decide) rfl ?_
    show V l D cy MX2_readClause 5 0 0 _ _ _ 69 [(0, .ref tA), (1, .ref p1A)] [.int R66.1] (wX2_readClause cy tA t_folks t_pairs t_line t_rope t_lineTold t_ropeTold t_takenV t_namesA t_namesN t_names t_kindsA t_kindsN t_kinds t_kinA t_kinN t_kin t_stopsA t_stopsN t_stops t_roundsA t_roundsN t_rounds t_lawA R66.2.1 R66.2.2.1 R66.2.2.2.1 R66.2.2.2.2.1 R66.2.2.2.2.2.1 t_law_stackV t_law_codeA t_law_codeN R66.2.2.2.2.2.2.1 t_law_waitingA t_law_waitingN R66.2.2.2.2.2.2.2.1 p1A p1_signsV p1_size p1_count R66.2.2.2.2.2.2.2.2.1 R66.2.2.2.2.2.2.2.2.2 p1_tokensA p1_tokensN p1_tokens p1_startsA p1_startsN p1_starts p1_valuesA p1_valuesN p1_values) 0 0
    by_cases hz69 : R66.1 = 0 ∨ R66.1 = 1
    case neg => exact vNone ((if_neg hz69).symm.trans h)
    replace h := (if_pos hz69).symm.trans h
    have e9 := Option.some.inj h; subst e9
    exact V.iret (ty := .boolean) rfl (vBool hz69).1 dX2_readClause_69 (Nat.le_refl _) (Nat.le_refl _) hQ
  replace h := (if_neg hs4_4).symm.trans h
  refine V.tswOut (tgt := 70) dX2_readClause_4 (by have e0 := lv_neT hs4_0 (a := 0) (by decide); have e1 := lv_neT hs4_1 (a := 1) (by decide); have e2 := lv_neT hs4_2 (a := 2) (by decide); have e3 := lv_neT hs4_3 (a := 3) (by decide); have e4 := lv_neT hs4_4 (a := 4) (by decide); omega) (by decide) ?_
  refine V.aload_n dX2_readClause_70 rfl 1 rfl ?_
  refine V.iconst (v := (1 : Int32)) dX2_readClause_71 (by decide) ?_
  obtain ⟨R72, hg72, h⟩ := Option.bind_eq_some_iff.mp h
  refine V.callV (As := [.int (1 : Int32)]) (rest := []) (wc := (wX9_wrong cy p1A p1_signsV p1_size (.ref p1_tokensA) (.ref p1_valuesA) p1_count p1_here p1_fault p1_startsA p1_startsN p1_starts)) (wr := [(tA, .inr (2, [.ref t_namesA, .ref t_kindsA, .ref t_kinA, .ref t_stopsA, .ref t_roundsA, .int t_folks, .int t_pairs, .int t_line, .int t_rope, .int t_lineTold, .int t_ropeTold, .ref t_lawA, t_takenV])), (t_namesA, .inl (cy 2, t_namesN, .inr (.inl t_names))), (t_kindsA, .inl (cy 1, t_kindsN, .inl t_kinds)), (t_kinA, .inl (cy 1, t_kinN, .inl t_kin)), (t_stopsA, .inl (cy 1, t_stopsN, .inl t_stops)), (t_roundsA, .inl (cy 1, t_roundsN, .inl t_rounds)), (t_lawA, .inr (1, [.ref t_law_codeA, .int t_law_size, .ref t_law_waitingA, .int t_law_waits, .int t_law_within, .int t_law_brackets, .int t_law_partIsDue, t_law_stackV])), (t_law_codeA, .inl (cy 1, t_law_codeN, .inl t_law_code)), (t_law_waitingA, .inl (cy 1, t_law_waitingN, .inl t_law_waiting)), (p1_tokensA, .inl (cy 1, p1_tokensN, .inl p1_tokens)), (p1_valuesA, .inl (cy 2, p1_valuesN, .inr (.inl p1_values)))]) (q0 := 9) (CX9_wrong F p1A p1_signsV p1_size (.ref p1_tokensA) (.ref p1_valuesA) p1_count p1_here p1_fault p1_startsA p1_startsN p1_starts (1 : Int32) R72 hg72) kvX9_wrong klX2_144 [9, 11] [0, 1, 2, 3, 4, 5, 6, 7, 8, 10, 12] rfl rfl (by decide) (by decide) (by decide) rfl rfl rfl rfl dX2_readClause_72 ⟨by decide, by decide, by decide, by decide⟩ (Nat.le_of_ble_eq_true rfl) (fun r w1 hq => ?_)
  obtain ⟨rfl, rfl⟩ := hq
  refine V.cells (ws' := (wX2_readClause cy tA t_folks t_pairs t_line t_rope t_lineTold t_ropeTold t_takenV t_namesA t_namesN t_names t_kindsA t_kindsN t_kinds t_kinA t_kinN t_kin t_stopsA t_stopsN t_stops t_roundsA t_roundsN t_rounds t_lawA t_law_size t_law_waits t_law_within t_law_brackets t_law_partIsDue t_law_stackV t_law_codeA t_law_codeN t_law_code t_law_waitingA t_law_waitingN t_law_waiting p1A p1_signsV p1_size p1_count p1_here R72.2 p1_tokensA p1_tokensN p1_tokens p1_startsA p1_startsN p1_starts p1_valuesA p1_valuesN p1_values)) [0, 1, 2, 3, 4, 5, 6, 7, 8, 11, 9, 12, 10] (by decide) rfl ?_
  show V l D cy MX2_readClause 5 0 0 _ _ _ 75 [(0, .ref tA), (1, .ref p1A)] [.int R72.1] (wX2_readClause cy tA t_folks t_pairs t_line t_rope t_lineTold t_ropeTold t_takenV t_namesA t_namesN t_names t_kindsA t_kindsN t_kinds t_kinA t_kinN t_kin t_stopsA t_stopsN t_stops t_roundsA t_roundsN t_rounds t_lawA t_law_size t_law_waits t_law_within t_law_brackets t_law_partIsDue t_law_stackV t_law_codeA t_law_codeN t_law_code t_law_waitingA t_law_waitingN t_law_waiting p1A p1_signsV p1_size p1_count p1_here R72.2 p1_tokensA p1_tokensN p1_tokens p1_startsA p1_startsN p1_starts p1_valuesA p1_valuesN p1_values) 0 0
  by_cases hz75 : R72.1 = 0 ∨ R72.1 = 1
  case neg => exact vNone ((if_neg hz75).symm.trans h)
  replace h := (if_pos hz75).symm.trans h
  have e9 := Option.some.inj h; subst e9
  exact V.iret (ty := .boolean) rfl (vBool hz75).1 dX2_readClause_75 (Nat.le_refl _) (Nat.le_refl _) hQ
def wJ0_isLatin1_aae02_zS1 (cy : Nat → ClassId)  : va_W :=
  []
noncomputable def bJ0_isLatin1_aae02_zS1_L18 (F : Nat)   (s0 : Int32) : Option (Int32) :=
  if s0 = 0 ∨ s0 = 1 then some s0 else none
theorem vJ0_isLatin1_aae02_zS1_L18 {l : Launch} {D : va_G} {cy : Nat → ClassId} {av : List Value} {ws0 : va_W} {Q : Option Value → va_W → Prop} (F : Nat)   (s0 : Int32) (R : Int32) (h : bJ0_isLatin1_aae02_zS1_L18 F  s0 = some R) (hQ : Q (some (.int R)) (wJ0_isLatin1_aae02_zS1 cy )) : V l D cy MJ0_isLatin1_aae02 0 0 0 av ws0 Q 18 [] [.int s0] (wJ0_isLatin1_aae02_zS1 cy ) 0 0 := by
  unfold bJ0_isLatin1_aae02_zS1_L18 at h
  by_cases hz18 : s0 = 0 ∨ s0 = 1
  case neg => exact vNone ((if_neg hz18).symm.trans h)
  replace h := (if_pos hz18).symm.trans h
  have e9 := Option.some.inj h; subst e9
  exact V.iret (ty := .boolean) rfl (vBool hz18).1 dJ0_isLatin1_aae02_18 (Nat.le_refl _) (Nat.le_refl _) hQ
noncomputable def bJ0_isLatin1_aae02_zS1_L17 (F : Nat)    : Option (Int32) :=
  bJ0_isLatin1_aae02_zS1_L18 F (0 : Int32)
theorem vJ0_isLatin1_aae02_zS1_L17 {l : Launch} {D : va_G} {cy : Nat → ClassId} {av : List Value} {ws0 : va_W} {Q : Option Value → va_W → Prop} (F : Nat)    (R : Int32) (h : bJ0_isLatin1_aae02_zS1_L17 F   = some R) (hQ : Q (some (.int R)) (wJ0_isLatin1_aae02_zS1 cy )) : V l D cy MJ0_isLatin1_aae02 0 0 0 av ws0 Q 17 [] [] (wJ0_isLatin1_aae02_zS1 cy ) 0 0 := by
  unfold bJ0_isLatin1_aae02_zS1_L17 at h
  refine V.iconst (v := (0 : Int32)) dJ0_isLatin1_aae02_17 (by decide) ?_
  exact vJ0_isLatin1_aae02_zS1_L18 _   _ R h hQ
noncomputable def fJ0_isLatin1_aae02_zS1 (F : Nat)  : Option (Int32) :=
  if (1 : Int32) = 0 then (bJ0_isLatin1_aae02_zS1_L17 F) else (if (0 : Int32) = 0 then (bJ0_isLatin1_aae02_zS1_L18 F (1 : Int32)) else (bJ0_isLatin1_aae02_zS1_L17 F))
theorem CJ0_isLatin1_aae02_zS1 {l : Launch} {D : va_G} {cy : Nat → ClassId} (F : Nat)  (R : Int32) (h : fJ0_isLatin1_aae02_zS1 F  = some R) : vMet l D cy MJ0_isLatin1_aae02 0 0 0 [.ref (vAdK cy 1)] (wJ0_isLatin1_aae02_zS1 cy ) (fun (r : Option Value) (w : va_W) => r = (some (.int R)) ∧ w = (wJ0_isLatin1_aae02_zS1 cy )) := by
  refine vMet.start (by decide +kernel) (Nat.le_of_ble_eq_true rfl) ?_
  generalize hQe : (fun (r : Option Value) (w : va_W) => r = (some (.int R)) ∧ w = (wJ0_isLatin1_aae02_zS1 cy )) = Q
  have hQ : Q (some (.int R)) (wJ0_isLatin1_aae02_zS1 cy ) := by rw [← hQe]; exact ⟨rfl, rfl⟩
  show V l D cy MJ0_isLatin1_aae02 0 0 0 _ _ Q 0 [(0, .ref (vAdK cy 1))] [] _ 0 0
  show V l D cy MJ0_isLatin1_aae02 0 0 0 [.ref (vAdK cy 1)] _ Q 0 [(0, .ref (vAdK cy 1))] [] (wJ0_isLatin1_aae02_zS1 cy ) 0 0
  unfold fJ0_isLatin1_aae02_zS1 at h
  refine V.zcompact klJ0_38 dJ0_isLatin1_aae02_0 ?_
  refine V.if_eq (tgt := 17) dJ0_isLatin1_aae02_3 (by decide) (fun hc3 => ?_) (fun hc3 => ?_)
  · replace h := (if_pos hc3).symm.trans h
    refine V.lvs [] rfl ?_
    exact vJ0_isLatin1_aae02_zS1_L17 _    R h hQ
  · replace h := (if_neg hc3).symm.trans h
    refine V.aload_n dJ0_isLatin1_aae02_6 rfl 0 rfl ?_
    refine V.zcod 1 (by decide) klJ0_15 dJ0_isLatin1_aae02_7 ?_
    refine V.if_ne (tgt := 17) dJ0_isLatin1_aae02_10 (by decide) (fun hc10 => ?_) (fun hc10 => ?_)
    · replace h := (if_neg hc10).symm.trans h
      refine V.lvs [] rfl ?_
      exact vJ0_isLatin1_aae02_zS1_L17 _    R h hQ
    · replace h := (if_pos hc10).symm.trans h
      refine V.iconst (v := (1 : Int32)) dJ0_isLatin1_aae02_13 (by decide) ?_
      refine V.goto (tgt := 18) dJ0_isLatin1_aae02_14 (by decide) ?_
      refine V.lvs [] rfl ?_
      exact vJ0_isLatin1_aae02_zS1_L18 _   _ R h hQ
theorem dJ0_coder_7d493_0 : decode cJ0_coder_7d493 0 = .ok (.getstatic 38, 3) := by decide +kernel
theorem dJ0_coder_7d493_3 : decode cJ0_coder_7d493 3 = .ok (.ifCond .eq 10, 3) := by decide +kernel
theorem dJ0_coder_7d493_6 : decode cJ0_coder_7d493 6 = .ok (.aload_n 0, 1) := by decide +kernel
theorem dJ0_coder_7d493_7 : decode cJ0_coder_7d493 7 = .ok (.getfield 15, 3) := by decide +kernel
theorem dJ0_coder_7d493_10 : decode cJ0_coder_7d493 10 = .ok (.goto 4, 3) := by decide +kernel
theorem dJ0_coder_7d493_13 : decode cJ0_coder_7d493 13 = .ok (.iconst 1, 1) := by decide +kernel
theorem dJ0_coder_7d493_14 : decode cJ0_coder_7d493 14 = .ok (.ireturn, 1) := by decide +kernel
def wJ0_coder_7d493_zS1 (cy : Nat → ClassId)  : va_W :=
  []
noncomputable def bJ0_coder_7d493_zS1_L14 (F : Nat)   (s0 : Int32) : Option (Int32) :=
  if s0.toInt8.toInt32 = s0 then some s0 else none
theorem vJ0_coder_7d493_zS1_L14 {l : Launch} {D : va_G} {cy : Nat → ClassId} {av : List Value} {ws0 : va_W} {Q : Option Value → va_W → Prop} (F : Nat)   (s0 : Int32) (R : Int32) (h : bJ0_coder_7d493_zS1_L14 F  s0 = some R) (hQ : Q (some (.int R)) (wJ0_coder_7d493_zS1 cy )) : V l D cy MJ0_coder_7d493 0 0 0 av ws0 Q 14 [] [.int s0] (wJ0_coder_7d493_zS1 cy ) 0 0 := by
  unfold bJ0_coder_7d493_zS1_L14 at h
  by_cases hz14 : s0.toInt8.toInt32 = s0
  case neg => exact vNone ((if_neg hz14).symm.trans h)
  replace h := (if_pos hz14).symm.trans h
  have e9 := Option.some.inj h; subst e9
  exact V.iret (ty := .byte) rfl (congrArg Value.int hz14) dJ0_coder_7d493_14 (Nat.le_refl _) (Nat.le_refl _) hQ
noncomputable def fJ0_coder_7d493_zS1 (F : Nat)  : Option (Int32) :=
  if (1 : Int32) = 0 then (bJ0_coder_7d493_zS1_L14 F (1 : Int32)) else (bJ0_coder_7d493_zS1_L14 F (0 : Int32))
theorem CJ0_coder_7d493_zS1 {l : Launch} {D : va_G} {cy : Nat → ClassId} (F : Nat)  (R : Int32) (h : fJ0_coder_7d493_zS1 F  = some R) : vMet l D cy MJ0_coder_7d493 0 0 0 [.ref (vAdK cy 1)] (wJ0_coder_7d493_zS1 cy ) (fun (r : Option Value) (w : va_W) => r = (some (.int R)) ∧ w = (wJ0_coder_7d493_zS1 cy )) := by
  refine vMet.start (by decide +kernel) (Nat.le_of_ble_eq_true rfl) ?_
  generalize hQe : (fun (r : Option Value) (w : va_W) => r = (some (.int R)) ∧ w = (wJ0_coder_7d493_zS1 cy )) = Q
  have hQ : Q (some (.int R)) (wJ0_coder_7d493_zS1 cy ) := by rw [← hQe]; exact ⟨rfl, rfl⟩
  show V l D cy MJ0_coder_7d493 0 0 0 _ _ Q 0 [(0, .ref (vAdK cy 1))] [] _ 0 0
  show V l D cy MJ0_coder_7d493 0 0 0 [.ref (vAdK cy 1)] _ Q 0 [(0, .ref (vAdK cy 1))] [] (wJ0_coder_7d493_zS1 cy ) 0 0
  unfold fJ0_coder_7d493_zS1 at h
  refine V.zcompact klJ0_38 dJ0_coder_7d493_0 ?_
  refine V.if_eq (tgt := 13) dJ0_coder_7d493_3 (by decide) (fun hc3 => ?_) (fun hc3 => ?_)
  · replace h := (if_pos hc3).symm.trans h
    refine V.iconst (v := (1 : Int32)) dJ0_coder_7d493_13 (by decide) ?_
    refine V.lvs [] rfl ?_
    exact vJ0_coder_7d493_zS1_L14 _   _ R h hQ
  · replace h := (if_neg hc3).symm.trans h
    refine V.aload_n dJ0_coder_7d493_6 rfl 0 rfl ?_
    refine V.zcod 1 (by decide) klJ0_15 dJ0_coder_7d493_7 ?_
    refine V.goto (tgt := 14) dJ0_coder_7d493_10 (by decide) ?_
    refine V.lvs [] rfl ?_
    exact vJ0_coder_7d493_zS1_L14 _   _ R h hQ
theorem dJ0_length_8abf5_0 : decode cJ0_length_8abf5 0 = .ok (.aload_n 0, 1) := by decide +kernel
theorem dJ0_length_8abf5_1 : decode cJ0_length_8abf5 1 = .ok (.getfield 9, 3) := by decide +kernel
theorem dJ0_length_8abf5_4 : decode cJ0_length_8abf5 4 = .ok (.arraylength, 1) := by decide +kernel
theorem dJ0_length_8abf5_5 : decode cJ0_length_8abf5 5 = .ok (.aload_n 0, 1) := by decide +kernel
theorem dJ0_length_8abf5_6 : decode cJ0_length_8abf5 6 = .ok (.invokevirtual 335, 3) := by decide +kernel
theorem dJ0_length_8abf5_9 : decode cJ0_length_8abf5 9 = .ok (.ishr, 1) := by decide +kernel
theorem dJ0_length_8abf5_10 : decode cJ0_length_8abf5 10 = .ok (.ireturn, 1) := by decide +kernel
def wJ0_length_8abf5_zS1 (cy : Nat → ClassId)  : va_W :=
  []
noncomputable def fJ0_length_8abf5_zS1 (F : Nat)  : Option (Int32) :=
  (fJ0_coder_7d493_zS1 F).bind fun R6 => (some ((Int32.ofNat (vLen 1)) >>> (R6 &&& 31)))
theorem CJ0_length_8abf5_zS1 {l : Launch} {D : va_G} {cy : Nat → ClassId} (F : Nat)  (R : Int32) (h : fJ0_length_8abf5_zS1 F  = some R) : vMet l D cy MJ0_length_8abf5 1 0 0 [.ref (vAdK cy 1)] (wJ0_length_8abf5_zS1 cy ) (fun (r : Option Value) (w : va_W) => r = (some (.int R)) ∧ w = (wJ0_length_8abf5_zS1 cy )) := by
  refine vMet.start (by decide +kernel) (Nat.le_of_ble_eq_true rfl) ?_
  generalize hQe : (fun (r : Option Value) (w : va_W) => r = (some (.int R)) ∧ w = (wJ0_length_8abf5_zS1 cy )) = Q
  have hQ : Q (some (.int R)) (wJ0_length_8abf5_zS1 cy ) := by rw [← hQe]; exact ⟨rfl, rfl⟩
  show V l D cy MJ0_length_8abf5 1 0 0 _ _ Q 0 [(0, .ref (vAdK cy 1))] [] _ 0 0
  show V l D cy MJ0_length_8abf5 1 0 0 [.ref (vAdK cy 1)] _ Q 0 [(0, .ref (vAdK cy 1))] [] (wJ0_length_8abf5_zS1 cy ) 0 0
  unfold fJ0_length_8abf5_zS1 at h
  refine V.aload_n dJ0_length_8abf5_0 rfl 0 rfl ?_
  refine V.zval 1 (by decide) klJ0_9 dJ0_length_8abf5_1 ?_
  refine V.zblen 1 (by decide) dJ0_length_8abf5_4 ?_
  refine V.aload_n dJ0_length_8abf5_5 rfl 0 rfl ?_
  obtain ⟨R6, hg6, h⟩ := Option.bind_eq_some_iff.mp h
  refine V.callVz (As := []) (rest := [.int (Int32.ofNat (vLen 1))]) 1 (by decide) (CJ0_coder_7d493_zS1 F  R6 hg6) kvJ0_coder_7d493 klJ0_335 rfl rfl dJ0_length_8abf5_6 ⟨by decide, by decide, by decide, by decide⟩ (Nat.le_of_ble_eq_true rfl) (fun r w1 hq => ?_)
  obtain ⟨rfl, rfl⟩ := hq
  refine V.cells (ws' := (wJ0_length_8abf5_zS1 cy )) [] (by decide) rfl ?_
  show V l D cy MJ0_length_8abf5 1 0 0 _ _ _ 9 [(0, .ref (vAdK cy 1))] [.int R6, .int (Int32.ofNat (vLen 1))] (wJ0_length_8abf5_zS1 cy ) 0 0
  refine V.ishr dJ0_length_8abf5_9 ?_
  have e9 := Option.some.inj h; subst e9
  exact V.iret (ty := .int) rfl rfl dJ0_length_8abf5_10 (Nat.le_refl _) (Nat.le_refl _) hQ
theorem dJ1_indexOfChar_4cfef_0 : decode cJ1_indexOfChar_4cfef 0 = .ok (.iload_n 1, 1) := by decide +kernel
theorem dJ1_indexOfChar_4cfef_1 : decode cJ1_indexOfChar_4cfef 1 = .ok (.i2b, 1) := by decide +kernel
theorem dJ1_indexOfChar_4cfef_2 : decode cJ1_indexOfChar_4cfef 2 = .ok (.istore 4, 2) := by decide +kernel
theorem dJ1_indexOfChar_4cfef_4 : decode cJ1_indexOfChar_4cfef 4 = .ok (.iload_n 2, 1) := by decide +kernel
theorem dJ1_indexOfChar_4cfef_5 : decode cJ1_indexOfChar_4cfef 5 = .ok (.istore 5, 2) := by decide +kernel
theorem dJ1_indexOfChar_4cfef_7 : decode cJ1_indexOfChar_4cfef 7 = .ok (.iload 5, 2) := by decide +kernel
theorem dJ1_indexOfChar_4cfef_9 : decode cJ1_indexOfChar_4cfef 9 = .ok (.iload_n 3, 1) := by decide +kernel
theorem dJ1_indexOfChar_4cfef_10 : decode cJ1_indexOfChar_4cfef 10 = .ok (.if_icmp .ge 21, 3) := by decide +kernel
theorem dJ1_indexOfChar_4cfef_13 : decode cJ1_indexOfChar_4cfef 13 = .ok (.aload_n 0, 1) := by decide +kernel
theorem dJ1_indexOfChar_4cfef_14 : decode cJ1_indexOfChar_4cfef 14 = .ok (.iload 5, 2) := by decide +kernel
theorem dJ1_indexOfChar_4cfef_16 : decode cJ1_indexOfChar_4cfef 16 = .ok (.baload, 1) := by decide +kernel
theorem dJ1_indexOfChar_4cfef_17 : decode cJ1_indexOfChar_4cfef 17 = .ok (.iload 4, 2) := by decide +kernel
theorem dJ1_indexOfChar_4cfef_19 : decode cJ1_indexOfChar_4cfef 19 = .ok (.if_icmp .ne 6, 3) := by decide +kernel
theorem dJ1_indexOfChar_4cfef_22 : decode cJ1_indexOfChar_4cfef 22 = .ok (.iload 5, 2) := by decide +kernel
theorem dJ1_indexOfChar_4cfef_24 : decode cJ1_indexOfChar_4cfef 24 = .ok (.ireturn, 1) := by decide +kernel
theorem dJ1_indexOfChar_4cfef_25 : decode cJ1_indexOfChar_4cfef 25 = .ok (.iinc 5 1, 3) := by decide +kernel
theorem dJ1_indexOfChar_4cfef_28 : decode cJ1_indexOfChar_4cfef 28 = .ok (.goto (-21), 3) := by decide +kernel
theorem dJ1_indexOfChar_4cfef_31 : decode cJ1_indexOfChar_4cfef 31 = .ok (.iconst (-1), 1) := by decide +kernel
theorem dJ1_indexOfChar_4cfef_32 : decode cJ1_indexOfChar_4cfef 32 = .ok (.ireturn, 1) := by decide +kernel
def wJ1_indexOfChar_4cfef_zB1 (cy : Nat → ClassId)  : va_W :=
  []
noncomputable def bJ1_indexOfChar_4cfef_zB1_L7 (F : Nat)  (k7 : Int32 → Int32 → Int32 → Option (Int32)) (x3 : Int32) (x4 : Int32) (x5 : Int32) : Option (Int32) :=
  if x3 ≤ x5 then (some (-1 : Int32)) else (if x5 < 0 ∨ vLen 1 ≤ x5.toNatClampNeg then none else (if ((vTx 1).getD x5.toNatClampNeg 0) = x4 then (some x5) else (k7 x3 x4 (x5 + (1 : Int32)))))
theorem vbJ1_indexOfChar_4cfef_zB1_L7 {l : Launch} {D : va_G} {cy : Nat → ClassId} {av : List Value} {ws0 : va_W} {Q : Option Value → va_W → Prop} (F : Nat)  (k7 : Int32 → Int32 → Int32 → Option (Int32)) (hk7 : ∀ (x3 : Int32) (x4 : Int32) (x5 : Int32) (R : Int32), k7 x3 x4 x5 = some R → Q (some (.int R)) (wJ1_indexOfChar_4cfef_zB1 cy ) → V l D cy MJ1_indexOfChar_4cfef 0 0 0 av ws0 Q 7 [(0, .ref (vAdV cy 1)), (3, .int x3), (4, .int x4), (5, .int x5)] [] (wJ1_indexOfChar_4cfef_zB1 cy ) 0 0) (x3 : Int32) (x4 : Int32) (x5 : Int32) (R : Int32) (h : bJ1_indexOfChar_4cfef_zB1_L7 F k7 x3 x4 x5 = some R) (hQ : Q (some (.int R)) (wJ1_indexOfChar_4cfef_zB1 cy )) : V l D cy MJ1_indexOfChar_4cfef 0 0 0 av ws0 Q 7 [(0, .ref (vAdV cy 1)), (3, .int x3), (4, .int x4), (5, .int x5)] [] (wJ1_indexOfChar_4cfef_zB1 cy ) 0 0 := by
  unfold bJ1_indexOfChar_4cfef_zB1_L7 at h
  refine V.iload dJ1_indexOfChar_4cfef_7 3 rfl ?_
  refine V.iload_n dJ1_indexOfChar_4cfef_9 rfl 1 rfl ?_
  refine V.icmp_ge (tgt := 31) dJ1_indexOfChar_4cfef_10 (by decide) (fun hc10 => ?_) (fun hc10 => ?_)
  · replace h := (if_pos hc10).symm.trans h
    refine V.iconst (v := (-1 : Int32)) dJ1_indexOfChar_4cfef_31 (by decide) ?_
    have e9 := Option.some.inj h; subst e9
    exact V.iret (ty := .int) rfl rfl dJ1_indexOfChar_4cfef_32 (Nat.le_refl _) (Nat.le_refl _) hQ
  · replace h := (if_neg hc10).symm.trans h
    refine V.aload_n dJ1_indexOfChar_4cfef_13 rfl 0 rfl ?_
    refine V.iload dJ1_indexOfChar_4cfef_14 3 rfl ?_
    by_cases hb16 : x5 < 0 ∨ vLen 1 ≤ x5.toNatClampNeg
    · exact vNone ((if_pos hb16).symm.trans h)
    replace h := (if_neg hb16).symm.trans h
    refine V.zbald 1 (by decide) dJ1_indexOfChar_4cfef_16 hb16 ?_
    refine V.iload dJ1_indexOfChar_4cfef_17 2 rfl ?_
    refine V.icmp_ne (tgt := 25) dJ1_indexOfChar_4cfef_19 (by decide) (fun hc19 => ?_) (fun hc19 => ?_)
    · replace h := (if_neg hc19).symm.trans h
      refine V.iinc (v := x5 + (1 : Int32)) (lv' := [(5, .int (x5 + (1 : Int32))), (0, .ref (vAdV cy 1)), (3, .int x3), (4, .int x4)]) dJ1_indexOfChar_4cfef_25 3 rfl rfl (by decide) rfl ?_
      refine V.goto (tgt := 7) dJ1_indexOfChar_4cfef_28 (by decide) ?_
      refine V.lvs [1, 2, 3, 0] rfl ?_
      exact hk7 _ _ _ R h hQ
    · replace h := (if_pos hc19).symm.trans h
      refine V.iload dJ1_indexOfChar_4cfef_22 3 rfl ?_
      have e9 := Option.some.inj h; subst e9
      exact V.iret (ty := .int) rfl rfl dJ1_indexOfChar_4cfef_24 (Nat.le_refl _) (Nat.le_refl _) hQ
noncomputable def fJ1_indexOfChar_4cfef_zB1_L7 (F : Nat)   : Nat → Int32 → Int32 → Int32 → Option (Int32)
  | 0 => fun _ _ _ => none
  | n + 1 => bJ1_indexOfChar_4cfef_zB1_L7 F (fJ1_indexOfChar_4cfef_zB1_L7 F  n)
theorem vJ1_indexOfChar_4cfef_zB1_L7 {l : Launch} {D : va_G} {cy : Nat → ClassId} {av : List Value} {ws0 : va_W} {Q : Option Value → va_W → Prop} (F : Nat)   : ∀ (n : Nat) (x3 : Int32) (x4 : Int32) (x5 : Int32) (R : Int32), fJ1_indexOfChar_4cfef_zB1_L7 F  n x3 x4 x5 = some R → Q (some (.int R)) (wJ1_indexOfChar_4cfef_zB1 cy ) → V l D cy MJ1_indexOfChar_4cfef 0 0 0 av ws0 Q 7 [(0, .ref (vAdV cy 1)), (3, .int x3), (4, .int x4), (5, .int x5)] [] (wJ1_indexOfChar_4cfef_zB1 cy ) 0 0 := by
  intro n
  induction n with
  | zero => intro x3 x4 x5 R h; exact vNone h
  | succ n ih => intro x3 x4 x5 R h hQ; exact vbJ1_indexOfChar_4cfef_zB1_L7 F  _ ih x3 x4 x5 R h hQ
noncomputable def fJ1_indexOfChar_4cfef_zB1 (F : Nat) (a1 : Int32) (a2 : Int32) (a3 : Int32) : Option (Int32) :=
  fJ1_indexOfChar_4cfef_zB1_L7 F F a3 a1.toInt8.toInt32 a2
theorem CJ1_indexOfChar_4cfef_zB1 {l : Launch} {D : va_G} {cy : Nat → ClassId} (F : Nat) (a1 : Int32) (a2 : Int32) (a3 : Int32) (R : Int32) (h : fJ1_indexOfChar_4cfef_zB1 F a1 a2 a3 = some R) : vMet l D cy MJ1_indexOfChar_4cfef 0 0 0 [.ref (vAdV cy 1), .int a1, .int a2, .int a3] (wJ1_indexOfChar_4cfef_zB1 cy ) (fun (r : Option Value) (w : va_W) => r = (some (.int R)) ∧ w = (wJ1_indexOfChar_4cfef_zB1 cy )) := by
  refine vMet.start (by decide +kernel) (Nat.le_of_ble_eq_true rfl) ?_
  generalize hQe : (fun (r : Option Value) (w : va_W) => r = (some (.int R)) ∧ w = (wJ1_indexOfChar_4cfef_zB1 cy )) = Q
  have hQ : Q (some (.int R)) (wJ1_indexOfChar_4cfef_zB1 cy ) := by rw [← hQe]; exact ⟨rfl, rfl⟩
  show V l D cy MJ1_indexOfChar_4cfef 0 0 0 _ _ Q 0 [(0, .ref (vAdV cy 1)), (1, .int a1), (2, .int a2), (3, .int a3)] [] _ 0 0
  show V l D cy MJ1_indexOfChar_4cfef 0 0 0 [.ref (vAdV cy 1), .int a1, .int a2, .int a3] _ Q 0 [(0, .ref (vAdV cy 1)), (1, .int a1), (2, .int a2), (3, .int a3)] [] (wJ1_indexOfChar_4cfef_zB1 cy ) 0 0
  unfold fJ1_indexOfChar_4cfef_zB1 at h
  refine V.iload_n dJ1_indexOfChar_4cfef_0 rfl 1 rfl ?_
  refine V.i2b dJ1_indexOfChar_4cfef_1 ?_
  refine V.istore (lv' := [(4, .int a1.toInt8.toInt32), (0, .ref (vAdV cy 1)), (1, .int a1), (2, .int a2), (3, .int a3)]) dJ1_indexOfChar_4cfef_2 (by decide) rfl ?_
  refine V.iload_n dJ1_indexOfChar_4cfef_4 rfl 3 rfl ?_
  refine V.istore (lv' := [(5, .int a2), (4, .int a1.toInt8.toInt32), (0, .ref (vAdV cy 1)), (1, .int a1), (2, .int a2), (3, .int a3)]) dJ1_indexOfChar_4cfef_5 (by decide) rfl ?_
  refine V.lvs [2, 5, 1, 0] rfl ?_
  exact vJ1_indexOfChar_4cfef_zB1_L7 _  _ _ _ _ R h hQ
theorem dJ1_indexOf_4cfef_0 : decode cJ1_indexOf_4cfef 0 = .ok (.iload_n 1, 1) := by decide +kernel
theorem dJ1_indexOf_4cfef_1 : decode cJ1_indexOf_4cfef 1 = .ok (.invokestatic 88, 3) := by decide +kernel
theorem dJ1_indexOf_4cfef_4 : decode cJ1_indexOf_4cfef 4 = .ok (.ifCond .ne 5, 3) := by decide +kernel
theorem dJ1_indexOf_4cfef_7 : decode cJ1_indexOf_4cfef 7 = .ok (.iconst (-1), 1) := by decide +kernel
theorem dJ1_indexOf_4cfef_8 : decode cJ1_indexOf_4cfef 8 = .ok (.ireturn, 1) := by decide +kernel
theorem dJ1_indexOf_4cfef_9 : decode cJ1_indexOf_4cfef 9 = .ok (.iload_n 2, 1) := by decide +kernel
theorem dJ1_indexOf_4cfef_10 : decode cJ1_indexOf_4cfef 10 = .ok (.iconst 0, 1) := by decide +kernel
theorem dJ1_indexOf_4cfef_11 : decode cJ1_indexOf_4cfef 11 = .ok (.invokestatic 92, 3) := by decide +kernel
theorem dJ1_indexOf_4cfef_14 : decode cJ1_indexOf_4cfef 14 = .ok (.istore_n 2, 1) := by decide +kernel
theorem dJ1_indexOf_4cfef_15 : decode cJ1_indexOf_4cfef 15 = .ok (.iload_n 3, 1) := by decide +kernel
theorem dJ1_indexOf_4cfef_16 : decode cJ1_indexOf_4cfef 16 = .ok (.aload_n 0, 1) := by decide +kernel
theorem dJ1_indexOf_4cfef_17 : decode cJ1_indexOf_4cfef 17 = .ok (.arraylength, 1) := by decide +kernel
theorem dJ1_indexOf_4cfef_18 : decode cJ1_indexOf_4cfef 18 = .ok (.invokestatic 38, 3) := by decide +kernel
theorem dJ1_indexOf_4cfef_21 : decode cJ1_indexOf_4cfef 21 = .ok (.istore_n 3, 1) := by decide +kernel
theorem dJ1_indexOf_4cfef_22 : decode cJ1_indexOf_4cfef 22 = .ok (.iload_n 2, 1) := by decide +kernel
theorem dJ1_indexOf_4cfef_23 : decode cJ1_indexOf_4cfef 23 = .ok (.iload_n 3, 1) := by decide +kernel
theorem dJ1_indexOf_4cfef_24 : decode cJ1_indexOf_4cfef 24 = .ok (.if_icmp .lt 5, 3) := by decide +kernel
theorem dJ1_indexOf_4cfef_27 : decode cJ1_indexOf_4cfef 27 = .ok (.iconst (-1), 1) := by decide +kernel
theorem dJ1_indexOf_4cfef_28 : decode cJ1_indexOf_4cfef 28 = .ok (.ireturn, 1) := by decide +kernel
theorem dJ1_indexOf_4cfef_29 : decode cJ1_indexOf_4cfef 29 = .ok (.aload_n 0, 1) := by decide +kernel
theorem dJ1_indexOf_4cfef_30 : decode cJ1_indexOf_4cfef 30 = .ok (.iload_n 1, 1) := by decide +kernel
theorem dJ1_indexOf_4cfef_31 : decode cJ1_indexOf_4cfef 31 = .ok (.iload_n 2, 1) := by decide +kernel
theorem dJ1_indexOf_4cfef_32 : decode cJ1_indexOf_4cfef 32 = .ok (.iload_n 3, 1) := by decide +kernel
theorem dJ1_indexOf_4cfef_33 : decode cJ1_indexOf_4cfef 33 = .ok (.invokestatic 95, 3) := by decide +kernel
theorem dJ1_indexOf_4cfef_36 : decode cJ1_indexOf_4cfef 36 = .ok (.ireturn, 1) := by decide +kernel
def wJ1_indexOf_4cfef_zB1 (cy : Nat → ClassId)  : va_W :=
  []
noncomputable def fJ1_indexOf_4cfef_zB1 (F : Nat) (a1 : Int32) (a2 : Int32) (a3 : Int32) : Option (Int32) :=
  (fJ1_canEncode_9a6ad F a1).bind fun R1 => (if R1 = 0 then (some (-1 : Int32)) else (if (if a2 < (0 : Int32) then (0 : Int32) else a2) < (if (Int32.ofNat (vLen 1)) < a3 then (Int32.ofNat (vLen 1)) else a3) then ((fJ1_indexOfChar_4cfef_zB1 F a1 (if a2 < (0 : Int32) then (0 : Int32) else a2) (if (Int32.ofNat (vLen 1)) < a3 then (Int32.ofNat (vLen 1)) else a3)).bind fun R33 => (some R33)) else (some (-1 : Int32))))
theorem CJ1_indexOf_4cfef_zB1 {l : Launch} {D : va_G} {cy : Nat → ClassId} (F : Nat) (a1 : Int32) (a2 : Int32) (a3 : Int32) (R : Int32) (h : fJ1_indexOf_4cfef_zB1 F a1 a2 a3 = some R) : vMet l D cy MJ1_indexOf_4cfef 1 0 0 [.ref (vAdV cy 1), .int a1, .int a2, .int a3] (wJ1_indexOf_4cfef_zB1 cy ) (fun (r : Option Value) (w : va_W) => r = (some (.int R)) ∧ w = (wJ1_indexOf_4cfef_zB1 cy )) := by
  refine vMet.start (by decide +kernel) (Nat.le_of_ble_eq_true rfl) ?_
  generalize hQe : (fun (r : Option Value) (w : va_W) => r = (some (.int R)) ∧ w = (wJ1_indexOf_4cfef_zB1 cy )) = Q
  have hQ : Q (some (.int R)) (wJ1_indexOf_4cfef_zB1 cy ) := by rw [← hQe]; exact ⟨rfl, rfl⟩
  show V l D cy MJ1_indexOf_4cfef 1 0 0 _ _ Q 0 [(0, .ref (vAdV cy 1)), (1, .int a1), (2, .int a2), (3, .int a3)] [] _ 0 0
  show V l D cy MJ1_indexOf_4cfef 1 0 0 [.ref (vAdV cy 1), .int a1, .int a2, .int a3] _ Q 0 [(0, .ref (vAdV cy 1)), (1, .int a1), (2, .int a2), (3, .int a3)] [] (wJ1_indexOf_4cfef_zB1 cy ) 0 0
  unfold fJ1_indexOf_4cfef_zB1 at h
  refine V.iload_n dJ1_indexOf_4cfef_0 rfl 1 rfl ?_
  obtain ⟨R1, hg1, h⟩ := Option.bind_eq_some_iff.mp h
  refine V.callS (As := [.int a1]) (rest := []) (wc := (wJ1_canEncode_9a6ad cy )) (wr := []) (CJ1_canEncode_9a6ad F a1 R1 hg1) kvJ1_canEncode_9a6ad klJ1_88 [] [] rfl rfl (by decide) (by decide) (by decide) rfl dJ1_indexOf_4cfef_1 ⟨by decide, by decide, by decide, by decide⟩ (Nat.le_of_ble_eq_true rfl) (fun r w1 hq => ?_)
  obtain ⟨rfl, rfl⟩ := hq
  refine V.cells (ws' := (wJ1_indexOf_4cfef_zB1 cy )) [] (by decide) rfl ?_
  show V l D cy MJ1_indexOf_4cfef 1 0 0 _ _ _ 4 [(0, .ref (vAdV cy 1)), (1, .int a1), (2, .int a2), (3, .int a3)] [.int R1] (wJ1_indexOf_4cfef_zB1 cy ) 0 0
  refine V.if_ne (tgt := 9) dJ1_indexOf_4cfef_4 (by decide) (fun hc4 => ?_) (fun hc4 => ?_)
  · replace h := (if_neg hc4).symm.trans h
    refine V.iload_n dJ1_indexOf_4cfef_9 rfl 2 rfl ?_
    refine V.iconst (v := (0 : Int32)) dJ1_indexOf_4cfef_10 (by decide) ?_
    refine V.mmax klJ1_92 dJ1_indexOf_4cfef_11 (Nat.le_of_ble_eq_true rfl) ⟨Nat.le_refl _, Nat.le_refl _⟩ ?_
    refine V.istore_n (lv' := [(2, .int (if a2 < (0 : Int32) then (0 : Int32) else a2)), (0, .ref (vAdV cy 1)), (1, .int a1), (3, .int a3)]) dJ1_indexOf_4cfef_14 rfl (by decide) rfl ?_
    refine V.iload_n dJ1_indexOf_4cfef_15 rfl 3 rfl ?_
    refine V.aload_n dJ1_indexOf_4cfef_16 rfl 1 rfl ?_
    refine V.zblen 1 (by decide) dJ1_indexOf_4cfef_17 ?_
    refine V.mmin klJ1_38 dJ1_indexOf_4cfef_18 (Nat.le_of_ble_eq_true rfl) ⟨Nat.le_refl _, Nat.le_refl _⟩ ?_
    refine V.istore_n (lv' := [(3, .int (if (Int32.ofNat (vLen 1)) < a3 then (Int32.ofNat (vLen 1)) else a3)), (2, .int (if a2 < (0 : Int32) then (0 : Int32) else a2)), (0, .ref (vAdV cy 1)), (1, .int a1)]) dJ1_indexOf_4cfef_21 rfl (by decide) rfl ?_
    refine V.iload_n dJ1_indexOf_4cfef_22 rfl 1 rfl ?_
    refine V.iload_n dJ1_indexOf_4cfef_23 rfl 0 rfl ?_
    refine V.icmp_lt (tgt := 29) dJ1_indexOf_4cfef_24 (by decide) (fun hc24 => ?_) (fun hc24 => ?_)
    · replace h := (if_pos hc24).symm.trans h
      refine V.aload_n dJ1_indexOf_4cfef_29 rfl 2 rfl ?_
      refine V.iload_n dJ1_indexOf_4cfef_30 rfl 3 rfl ?_
      refine V.iload_n dJ1_indexOf_4cfef_31 rfl 1 rfl ?_
      refine V.iload_n dJ1_indexOf_4cfef_32 rfl 0 rfl ?_
      obtain ⟨R33, hg33, h⟩ := Option.bind_eq_some_iff.mp h
      refine V.callS (As := [.ref (vAdV cy 1), .int a1, .int (if a2 < (0 : Int32) then (0 : Int32) else a2), .int (if (Int32.ofNat (vLen 1)) < a3 then (Int32.ofNat (vLen 1)) else a3)]) (rest := []) (wc := (wJ1_indexOfChar_4cfef_zB1 cy )) (wr := []) (CJ1_indexOfChar_4cfef_zB1 F a1 (if a2 < (0 : Int32) then (0 : Int32) else a2) (if (Int32.ofNat (vLen 1)) < a3 then (Int32.ofNat (vLen 1)) else a3) R33 hg33) kvJ1_indexOfChar_4cfef klJ1_95 [] [] rfl rfl (by decide) (by decide) (by decide) rfl dJ1_indexOf_4cfef_33 ⟨by decide, by decide, by decide, by decide⟩ (Nat.le_of_ble_eq_true rfl) (fun r w1 hq => ?_)
      obtain ⟨rfl, rfl⟩ := hq
      refine V.cells (ws' := (wJ1_indexOf_4cfef_zB1 cy )) [] (by decide) rfl ?_
      show V l D cy MJ1_indexOf_4cfef 1 0 0 _ _ _ 36 [(3, .int (if (Int32.ofNat (vLen 1)) < a3 then (Int32.ofNat (vLen 1)) else a3)), (2, .int (if a2 < (0 : Int32) then (0 : Int32) else a2)), (0, .ref (vAdV cy 1)), (1, .int a1)] [.int R33] (wJ1_indexOf_4cfef_zB1 cy ) 0 0
      have e9 := Option.some.inj h; subst e9
      exact V.iret (ty := .int) rfl rfl dJ1_indexOf_4cfef_36 (Nat.le_refl _) (Nat.le_refl _) hQ
    · replace h := (if_neg hc24).symm.trans h
      refine V.iconst (v := (-1 : Int32)) dJ1_indexOf_4cfef_27 (by decide) ?_
      have e9 := Option.some.inj h; subst e9
      exact V.iret (ty := .int) rfl rfl dJ1_indexOf_4cfef_28 (Nat.le_refl _) (Nat.le_refl _) hQ
  · replace h := (if_pos hc4).symm.trans h
    refine V.iconst (v := (-1 : Int32)) dJ1_indexOf_4cfef_7 (by decide) ?_
    have e9 := Option.some.inj h; subst e9
    exact V.iret (ty := .int) rfl rfl dJ1_indexOf_4cfef_8 (Nat.le_refl _) (Nat.le_refl _) hQ
theorem dJ0_indexOf_7cf53_0 : decode cJ0_indexOf_7cf53 0 = .ok (.aload_n 0, 1) := by decide +kernel
theorem dJ0_indexOf_7cf53_1 : decode cJ0_indexOf_7cf53 1 = .ok (.invokevirtual 492, 3) := by decide +kernel
theorem dJ0_indexOf_7cf53_4 : decode cJ0_indexOf_7cf53 4 = .ok (.ifCond .eq 19, 3) := by decide +kernel
theorem dJ0_indexOf_7cf53_7 : decode cJ0_indexOf_7cf53 7 = .ok (.aload_n 0, 1) := by decide +kernel
theorem dJ0_indexOf_7cf53_8 : decode cJ0_indexOf_7cf53 8 = .ok (.getfield 9, 3) := by decide +kernel
theorem dJ0_indexOf_7cf53_11 : decode cJ0_indexOf_7cf53 11 = .ok (.iload_n 1, 1) := by decide +kernel
theorem dJ0_indexOf_7cf53_12 : decode cJ0_indexOf_7cf53 12 = .ok (.iload_n 2, 1) := by decide +kernel
theorem dJ0_indexOf_7cf53_13 : decode cJ0_indexOf_7cf53 13 = .ok (.aload_n 0, 1) := by decide +kernel
theorem dJ0_indexOf_7cf53_14 : decode cJ0_indexOf_7cf53 14 = .ok (.invokevirtual 505, 3) := by decide +kernel
theorem dJ0_indexOf_7cf53_17 : decode cJ0_indexOf_7cf53 17 = .ok (.invokestatic 637, 3) := by decide +kernel
theorem dJ0_indexOf_7cf53_20 : decode cJ0_indexOf_7cf53 20 = .ok (.goto 16, 3) := by decide +kernel
theorem dJ0_indexOf_7cf53_23 : decode cJ0_indexOf_7cf53 23 = .ok (.aload_n 0, 1) := by decide +kernel
theorem dJ0_indexOf_7cf53_24 : decode cJ0_indexOf_7cf53 24 = .ok (.getfield 9, 3) := by decide +kernel
theorem dJ0_indexOf_7cf53_27 : decode cJ0_indexOf_7cf53 27 = .ok (.iload_n 1, 1) := by decide +kernel
theorem dJ0_indexOf_7cf53_28 : decode cJ0_indexOf_7cf53 28 = .ok (.iload_n 2, 1) := by decide +kernel
theorem dJ0_indexOf_7cf53_29 : decode cJ0_indexOf_7cf53 29 = .ok (.aload_n 0, 1) := by decide +kernel
theorem dJ0_indexOf_7cf53_30 : decode cJ0_indexOf_7cf53 30 = .ok (.invokevirtual 505, 3) := by decide +kernel
theorem dJ0_indexOf_7cf53_33 : decode cJ0_indexOf_7cf53 33 = .ok (.invokestatic 640, 3) := by decide +kernel
theorem dJ0_indexOf_7cf53_36 : decode cJ0_indexOf_7cf53 36 = .ok (.ireturn, 1) := by decide +kernel
def wJ0_indexOf_7cf53_zS1 (cy : Nat → ClassId)  : va_W :=
  []
noncomputable def fJ0_indexOf_7cf53_zS1 (F : Nat) (a1 : Int32) (a2 : Int32) : Option (Int32) :=
  (fJ0_isLatin1_aae02_zS1 F).bind fun R1 => (if R1 = 0 then ((fJ0_length_8abf5_zS1 F).bind fun R30 => (none)) else ((fJ0_length_8abf5_zS1 F).bind fun R14 => ((fJ1_indexOf_4cfef_zB1 F a1 a2 R14).bind fun R17 => (some R17))))
theorem CJ0_indexOf_7cf53_zS1 {l : Launch} {D : va_G} {cy : Nat → ClassId} (F : Nat) (a1 : Int32) (a2 : Int32) (R : Int32) (h : fJ0_indexOf_7cf53_zS1 F a1 a2 = some R) : vMet l D cy MJ0_indexOf_7cf53 2 0 0 [.ref (vAdK cy 1), .int a1, .int a2] (wJ0_indexOf_7cf53_zS1 cy ) (fun (r : Option Value) (w : va_W) => r = (some (.int R)) ∧ w = (wJ0_indexOf_7cf53_zS1 cy )) := by
  refine vMet.start (by decide +kernel) (Nat.le_of_ble_eq_true rfl) ?_
  generalize hQe : (fun (r : Option Value) (w : va_W) => r = (some (.int R)) ∧ w = (wJ0_indexOf_7cf53_zS1 cy )) = Q
  have hQ : Q (some (.int R)) (wJ0_indexOf_7cf53_zS1 cy ) := by rw [← hQe]; exact ⟨rfl, rfl⟩
  show V l D cy MJ0_indexOf_7cf53 2 0 0 _ _ Q 0 [(0, .ref (vAdK cy 1)), (1, .int a1), (2, .int a2)] [] _ 0 0
  show V l D cy MJ0_indexOf_7cf53 2 0 0 [.ref (vAdK cy 1), .int a1, .int a2] _ Q 0 [(0, .ref (vAdK cy 1)), (1, .int a1), (2, .int a2)] [] (wJ0_indexOf_7cf53_zS1 cy ) 0 0
  unfold fJ0_indexOf_7cf53_zS1 at h
  refine V.aload_n dJ0_indexOf_7cf53_0 rfl 0 rfl ?_
  obtain ⟨R1, hg1, h⟩ := Option.bind_eq_some_iff.mp h
  refine V.callVz (As := []) (rest := []) 1 (by decide) (CJ0_isLatin1_aae02_zS1 F  R1 hg1) kvJ0_isLatin1_aae02 klJ0_492 rfl rfl dJ0_indexOf_7cf53_1 ⟨by decide, by decide, by decide, by decide⟩ (Nat.le_of_ble_eq_true rfl) (fun r w1 hq => ?_)
  obtain ⟨rfl, rfl⟩ := hq
  refine V.cells (ws' := (wJ0_indexOf_7cf53_zS1 cy )) [] (by decide) rfl ?_
  show V l D cy MJ0_indexOf_7cf53 2 0 0 _ _ _ 4 [(0, .ref (vAdK cy 1)), (1, .int a1), (2, .int a2)] [.int R1] (wJ0_indexOf_7cf53_zS1 cy ) 0 0
  refine V.if_eq (tgt := 23) dJ0_indexOf_7cf53_4 (by decide) (fun hc4 => ?_) (fun hc4 => ?_)
  · replace h := (if_pos hc4).symm.trans h
    refine V.aload_n dJ0_indexOf_7cf53_23 rfl 0 rfl ?_
    refine V.zval 1 (by decide) klJ0_9 dJ0_indexOf_7cf53_24 ?_
    refine V.iload_n dJ0_indexOf_7cf53_27 rfl 1 rfl ?_
    refine V.iload_n dJ0_indexOf_7cf53_28 rfl 2 rfl ?_
    refine V.aload_n dJ0_indexOf_7cf53_29 rfl 0 rfl ?_
    obtain ⟨R30, hg30, h⟩ := Option.bind_eq_some_iff.mp h
    refine V.callVz (As := []) (rest := [.int a2, .int a1, .ref (vAdV cy 1)]) 1 (by decide) (CJ0_length_8abf5_zS1 F  R30 hg30) kvJ0_length_8abf5 klJ0_505 rfl rfl dJ0_indexOf_7cf53_30 ⟨by decide, by decide, by decide, by decide⟩ (Nat.le_of_ble_eq_true rfl) (fun r w1 hq => ?_)
    obtain ⟨rfl, rfl⟩ := hq
    refine V.cells (ws' := (wJ0_indexOf_7cf53_zS1 cy )) [] (by decide) rfl ?_
    show V l D cy MJ0_indexOf_7cf53 2 0 0 _ _ _ 33 [(0, .ref (vAdK cy 1)), (1, .int a1), (2, .int a2)] [.int R30, .int a2, .int a1, .ref (vAdV cy 1)] (wJ0_indexOf_7cf53_zS1 cy ) 0 0
    exact vNone h
  · replace h := (if_neg hc4).symm.trans h
    refine V.aload_n dJ0_indexOf_7cf53_7 rfl 0 rfl ?_
    refine V.zval 1 (by decide) klJ0_9 dJ0_indexOf_7cf53_8 ?_
    refine V.iload_n dJ0_indexOf_7cf53_11 rfl 1 rfl ?_
    refine V.iload_n dJ0_indexOf_7cf53_12 rfl 2 rfl ?_
    refine V.aload_n dJ0_indexOf_7cf53_13 rfl 0 rfl ?_
    obtain ⟨R14, hg14, h⟩ := Option.bind_eq_some_iff.mp h
    refine V.callVz (As := []) (rest := [.int a2, .int a1, .ref (vAdV cy 1)]) 1 (by decide) (CJ0_length_8abf5_zS1 F  R14 hg14) kvJ0_length_8abf5 klJ0_505 rfl rfl dJ0_indexOf_7cf53_14 ⟨by decide, by decide, by decide, by decide⟩ (Nat.le_of_ble_eq_true rfl) (fun r w1 hq => ?_)
    obtain ⟨rfl, rfl⟩ := hq
    refine V.cells (ws' := (wJ0_indexOf_7cf53_zS1 cy )) [] (by decide) rfl ?_
    show V l D cy MJ0_indexOf_7cf53 2 0 0 _ _ _ 17 [(0, .ref (vAdK cy 1)), (1, .int a1), (2, .int a2)] [.int R14, .int a2, .int a1, .ref (vAdV cy 1)] (wJ0_indexOf_7cf53_zS1 cy ) 0 0
    obtain ⟨R17, hg17, h⟩ := Option.bind_eq_some_iff.mp h
    refine V.callS (As := [.ref (vAdV cy 1), .int a1, .int a2, .int R14]) (rest := []) (wc := (wJ1_indexOf_4cfef_zB1 cy )) (wr := []) (CJ1_indexOf_4cfef_zB1 F a1 a2 R14 R17 hg17) kvJ1_indexOf_4cfef klJ0_637 [] [] rfl rfl (by decide) (by decide) (by decide) rfl dJ0_indexOf_7cf53_17 ⟨by decide, by decide, by decide, by decide⟩ (Nat.le_of_ble_eq_true rfl) (fun r w1 hq => ?_)
    obtain ⟨rfl, rfl⟩ := hq
    refine V.cells (ws' := (wJ0_indexOf_7cf53_zS1 cy )) [] (by decide) rfl ?_
    show V l D cy MJ0_indexOf_7cf53 2 0 0 _ _ _ 20 [(0, .ref (vAdK cy 1)), (1, .int a1), (2, .int a2)] [.int R17] (wJ0_indexOf_7cf53_zS1 cy ) 0 0
    refine V.goto (tgt := 36) dJ0_indexOf_7cf53_20 (by decide) ?_
    have e9 := Option.some.inj h; subst e9
    exact V.iret (ty := .int) rfl rfl dJ0_indexOf_7cf53_36 (Nat.le_refl _) (Nat.le_refl _) hQ
theorem dJ0_indexOf_0f7a4_0 : decode cJ0_indexOf_0f7a4 0 = .ok (.aload_n 0, 1) := by decide +kernel
theorem dJ0_indexOf_0f7a4_1 : decode cJ0_indexOf_0f7a4 1 = .ok (.iload_n 1, 1) := by decide +kernel
theorem dJ0_indexOf_0f7a4_2 : decode cJ0_indexOf_0f7a4 2 = .ok (.iconst 0, 1) := by decide +kernel
theorem dJ0_indexOf_0f7a4_3 : decode cJ0_indexOf_0f7a4 3 = .ok (.invokevirtual 633, 3) := by decide +kernel
theorem dJ0_indexOf_0f7a4_6 : decode cJ0_indexOf_0f7a4 6 = .ok (.ireturn, 1) := by decide +kernel
def wJ0_indexOf_0f7a4_zS1 (cy : Nat → ClassId)  : va_W :=
  []
noncomputable def fJ0_indexOf_0f7a4_zS1 (F : Nat) (a1 : Int32) : Option (Int32) :=
  (fJ0_indexOf_7cf53_zS1 F a1 (0 : Int32)).bind fun R3 => (some R3)
theorem CJ0_indexOf_0f7a4_zS1 {l : Launch} {D : va_G} {cy : Nat → ClassId} (F : Nat) (a1 : Int32) (R : Int32) (h : fJ0_indexOf_0f7a4_zS1 F a1 = some R) : vMet l D cy MJ0_indexOf_0f7a4 3 0 0 [.ref (vAdK cy 1), .int a1] (wJ0_indexOf_0f7a4_zS1 cy ) (fun (r : Option Value) (w : va_W) => r = (some (.int R)) ∧ w = (wJ0_indexOf_0f7a4_zS1 cy )) := by
  refine vMet.start (by decide +kernel) (Nat.le_of_ble_eq_true rfl) ?_
  generalize hQe : (fun (r : Option Value) (w : va_W) => r = (some (.int R)) ∧ w = (wJ0_indexOf_0f7a4_zS1 cy )) = Q
  have hQ : Q (some (.int R)) (wJ0_indexOf_0f7a4_zS1 cy ) := by rw [← hQe]; exact ⟨rfl, rfl⟩
  show V l D cy MJ0_indexOf_0f7a4 3 0 0 _ _ Q 0 [(0, .ref (vAdK cy 1)), (1, .int a1)] [] _ 0 0
  show V l D cy MJ0_indexOf_0f7a4 3 0 0 [.ref (vAdK cy 1), .int a1] _ Q 0 [(0, .ref (vAdK cy 1)), (1, .int a1)] [] (wJ0_indexOf_0f7a4_zS1 cy ) 0 0
  unfold fJ0_indexOf_0f7a4_zS1 at h
  refine V.aload_n dJ0_indexOf_0f7a4_0 rfl 0 rfl ?_
  refine V.iload_n dJ0_indexOf_0f7a4_1 rfl 1 rfl ?_
  refine V.iconst (v := (0 : Int32)) dJ0_indexOf_0f7a4_2 (by decide) ?_
  obtain ⟨R3, hg3, h⟩ := Option.bind_eq_some_iff.mp h
  refine V.callVz (As := [.int a1, .int (0 : Int32)]) (rest := []) 1 (by decide) (CJ0_indexOf_7cf53_zS1 F a1 (0 : Int32) R3 hg3) kvJ0_indexOf_7cf53 klJ0_633 rfl rfl dJ0_indexOf_0f7a4_3 ⟨by decide, by decide, by decide, by decide⟩ (Nat.le_of_ble_eq_true rfl) (fun r w1 hq => ?_)
  obtain ⟨rfl, rfl⟩ := hq
  refine V.cells (ws' := (wJ0_indexOf_0f7a4_zS1 cy )) [] (by decide) rfl ?_
  show V l D cy MJ0_indexOf_0f7a4 3 0 0 _ _ _ 6 [(0, .ref (vAdK cy 1)), (1, .int a1)] [.int R3] (wJ0_indexOf_0f7a4_zS1 cy ) 0 0
  have e9 := Option.some.inj h; subst e9
  exact V.iret (ty := .int) rfl rfl dJ0_indexOf_0f7a4_6 (Nat.le_refl _) (Nat.le_refl _) hQ
theorem dX9_begin_0 : decode cX9_begin 0 = .ok (.aload_n 0, 1) := by decide +kernel
theorem dX9_begin_1 : decode cX9_begin 1 = .ok (.iconst 0, 1) := by decide +kernel
theorem dX9_begin_2 : decode cX9_begin 2 = .ok (.putfield 30, 3) := by decide +kernel
theorem dX9_begin_5 : decode cX9_begin 5 = .ok (.aload_n 0, 1) := by decide +kernel
theorem dX9_begin_6 : decode cX9_begin 6 = .ok (.iconst 0, 1) := by decide +kernel
theorem dX9_begin_7 : decode cX9_begin 7 = .ok (.putfield 33, 3) := by decide +kernel
theorem dX9_begin_10 : decode cX9_begin 10 = .ok (.aload_n 0, 1) := by decide +kernel
theorem dX9_begin_11 : decode cX9_begin 11 = .ok (.iconst 0, 1) := by decide +kernel
theorem dX9_begin_12 : decode cX9_begin 12 = .ok (.putfield 36, 3) := by decide +kernel
theorem dX9_begin_15 : decode cX9_begin 15 = .ok (.iconst 0, 1) := by decide +kernel
theorem dX9_begin_16 : decode cX9_begin 16 = .ok (.istore_n 1, 1) := by decide +kernel
theorem dX9_begin_17 : decode cX9_begin 17 = .ok (.iload_n 1, 1) := by decide +kernel
theorem dX9_begin_18 : decode cX9_begin 18 = .ok (.aload_n 0, 1) := by decide +kernel
theorem dX9_begin_19 : decode cX9_begin 19 = .ok (.getfield 26, 3) := by decide +kernel
theorem dX9_begin_22 : decode cX9_begin 22 = .ok (.if_icmp .ge 96, 3) := by decide +kernel
theorem dX9_begin_25 : decode cX9_begin 25 = .ok (.aload_n 0, 1) := by decide +kernel
theorem dX9_begin_26 : decode cX9_begin 26 = .ok (.getfield 9, 3) := by decide +kernel
theorem dX9_begin_29 : decode cX9_begin 29 = .ok (.iload_n 1, 1) := by decide +kernel
theorem dX9_begin_30 : decode cX9_begin 30 = .ok (.baload, 1) := by decide +kernel
theorem dX9_begin_31 : decode cX9_begin 31 = .ok (.istore_n 2, 1) := by decide +kernel
theorem dX9_begin_32 : decode cX9_begin 32 = .ok (.iload_n 1, 1) := by decide +kernel
theorem dX9_begin_33 : decode cX9_begin 33 = .ok (.iconst 1, 1) := by decide +kernel
theorem dX9_begin_34 : decode cX9_begin 34 = .ok (.iadd, 1) := by decide +kernel
theorem dX9_begin_35 : decode cX9_begin 35 = .ok (.istore_n 3, 1) := by decide +kernel
theorem dX9_begin_36 : decode cX9_begin 36 = .ok (.iload_n 2, 1) := by decide +kernel
theorem dX9_begin_37 : decode cX9_begin 37 = .ok (.invokestatic 39, 3) := by decide +kernel
theorem dX9_begin_40 : decode cX9_begin 40 = .ok (.ifCond .eq 12, 3) := by decide +kernel
theorem dX9_begin_43 : decode cX9_begin 43 = .ok (.aload_n 0, 1) := by decide +kernel
theorem dX9_begin_44 : decode cX9_begin 44 = .ok (.iload_n 1, 1) := by decide +kernel
theorem dX9_begin_45 : decode cX9_begin 45 = .ok (.invokevirtual 43, 3) := by decide +kernel
theorem dX9_begin_48 : decode cX9_begin 48 = .ok (.istore_n 3, 1) := by decide +kernel
theorem dX9_begin_49 : decode cX9_begin 49 = .ok (.goto 53, 3) := by decide +kernel
theorem dX9_begin_52 : decode cX9_begin 52 = .ok (.iload_n 2, 1) := by decide +kernel
theorem dX9_begin_53 : decode cX9_begin 53 = .ok (.invokestatic 47, 3) := by decide +kernel
theorem dX9_begin_56 : decode cX9_begin 56 = .ok (.ifCond .eq 12, 3) := by decide +kernel
theorem dX9_begin_59 : decode cX9_begin 59 = .ok (.aload_n 0, 1) := by decide +kernel
theorem dX9_begin_60 : decode cX9_begin 60 = .ok (.iload_n 1, 1) := by decide +kernel
theorem dX9_begin_61 : decode cX9_begin 61 = .ok (.invokevirtual 50, 3) := by decide +kernel
theorem dX9_begin_64 : decode cX9_begin 64 = .ok (.istore_n 3, 1) := by decide +kernel
theorem dX9_begin_65 : decode cX9_begin 65 = .ok (.goto 37, 3) := by decide +kernel
theorem dX9_begin_68 : decode cX9_begin 68 = .ok (.iload_n 2, 1) := by decide +kernel
theorem dX9_begin_69 : decode cX9_begin 69 = .ok (.bipush 10, 2) := by decide +kernel
theorem dX9_begin_71 : decode cX9_begin 71 = .ok (.if_icmp .eq 31, 3) := by decide +kernel
theorem dX9_begin_74 : decode cX9_begin 74 = .ok (.iload_n 2, 1) := by decide +kernel
theorem dX9_begin_75 : decode cX9_begin 75 = .ok (.bipush 32, 2) := by decide +kernel
theorem dX9_begin_77 : decode cX9_begin 77 = .ok (.if_icmp .eq 25, 3) := by decide +kernel
theorem dX9_begin_80 : decode cX9_begin 80 = .ok (.aload_n 0, 1) := by decide +kernel
theorem dX9_begin_81 : decode cX9_begin 81 = .ok (.ldc 53, 2) := by decide +kernel
theorem dX9_begin_83 : decode cX9_begin 83 = .ok (.iload_n 2, 1) := by decide +kernel
theorem dX9_begin_84 : decode cX9_begin 84 = .ok (.i2c, 1) := by decide +kernel
theorem dX9_begin_85 : decode cX9_begin 85 = .ok (.invokevirtual 55, 3) := by decide +kernel
theorem dX9_begin_88 : decode cX9_begin 88 = .ok (.ifCond .lt 7, 3) := by decide +kernel
theorem dX9_begin_91 : decode cX9_begin 91 = .ok (.iload_n 2, 1) := by decide +kernel
theorem dX9_begin_92 : decode cX9_begin 92 = .ok (.goto 5, 3) := by decide +kernel
theorem dX9_begin_95 : decode cX9_begin 95 = .ok (.bipush 23, 2) := by decide +kernel
theorem dX9_begin_97 : decode cX9_begin 97 = .ok (.iload_n 1, 1) := by decide +kernel
theorem dX9_begin_98 : decode cX9_begin 98 = .ok (.lconst 0, 1) := by decide +kernel
theorem dX9_begin_99 : decode cX9_begin 99 = .ok (.invokevirtual 60, 3) := by decide +kernel
theorem dX9_begin_102 : decode cX9_begin 102 = .ok (.iload_n 3, 1) := by decide +kernel
theorem dX9_begin_103 : decode cX9_begin 103 = .ok (.iload_n 1, 1) := by decide +kernel
theorem dX9_begin_104 : decode cX9_begin 104 = .ok (.if_icmp .le 7, 3) := by decide +kernel
theorem dX9_begin_107 : decode cX9_begin 107 = .ok (.iload_n 3, 1) := by decide +kernel
theorem dX9_begin_108 : decode cX9_begin 108 = .ok (.goto 6, 3) := by decide +kernel
theorem dX9_begin_111 : decode cX9_begin 111 = .ok (.iload_n 1, 1) := by decide +kernel
theorem dX9_begin_112 : decode cX9_begin 112 = .ok (.iconst 1, 1) := by decide +kernel
theorem dX9_begin_113 : decode cX9_begin 113 = .ok (.iadd, 1) := by decide +kernel
theorem dX9_begin_114 : decode cX9_begin 114 = .ok (.istore_n 1, 1) := by decide +kernel
theorem dX9_begin_115 : decode cX9_begin 115 = .ok (.goto (-98), 3) := by decide +kernel
theorem dX9_begin_118 : decode cX9_begin 118 = .ok (.aload_n 0, 1) := by decide +kernel
theorem dX9_begin_119 : decode cX9_begin 119 = .ok (.bipush 22, 2) := by decide +kernel
theorem dX9_begin_121 : decode cX9_begin 121 = .ok (.aload_n 0, 1) := by decide +kernel
theorem dX9_begin_122 : decode cX9_begin 122 = .ok (.getfield 26, 3) := by decide +kernel
theorem dX9_begin_125 : decode cX9_begin 125 = .ok (.lconst 0, 1) := by decide +kernel
theorem dX9_begin_126 : decode cX9_begin 126 = .ok (.invokevirtual 60, 3) := by decide +kernel
theorem dX9_begin_129 : decode cX9_begin 129 = .ok (.return_, 1) := by decide +kernel
def wX9_begin (cy : Nat → ClassId) (tA : Nat) (t_size : Int32) (t_count : Int32) (t_here : Int32) (t_fault : Int32) (t_signsA : Nat) (t_signsN : Nat) (t_signs : Nat → Int32) (t_tokensA : Nat) (t_tokensN : Nat) (t_tokens : Nat → Int32) (t_startsA : Nat) (t_startsN : Nat) (t_starts : Nat → Int32) (t_valuesA : Nat) (t_valuesN : Nat) (t_values : Nat → Int64) : va_W :=
  [(tA, .inr (9, [.ref t_signsA, .int t_size, .ref t_tokensA, .ref t_startsA, .ref t_valuesA, .int t_count, .int t_here, .int t_fault])), (t_signsA, .inl (cy 0, t_signsN, .inl t_signs)), (t_tokensA, .inl (cy 1, t_tokensN, .inl t_tokens)), (t_startsA, .inl (cy 1, t_startsN, .inl t_starts)), (t_valuesA, .inl (cy 2, t_valuesN, .inr (.inl t_values)))]
noncomputable def bX9_begin_L114 (F : Nat) (t_size : Int32) (t_signsN : Nat) (t_signs : Nat → Int32) (t_tokensN : Nat) (t_startsN : Nat) (t_valuesN : Nat) (k17 : Int32 → Int32 → Int32 → Int32 → (Nat → Int32) → (Nat → Int32) → (Nat → Int64) → Option ((Int32) × (Int32) × (Int32) × (Nat → Int32) × (Nat → Int32) × (Nat → Int64))) (s0 : Int32) (t_count : Int32) (t_here : Int32) (t_fault : Int32) (t_tokens : Nat → Int32) (t_starts : Nat → Int32) (t_values : Nat → Int64) : Option ((Int32) × (Int32) × (Int32) × (Nat → Int32) × (Nat → Int32) × (Nat → Int64)) :=
  k17 s0 t_count t_here t_fault t_tokens t_starts t_values
theorem vX9_begin_L114 {l : Launch} {D : va_G} {cy : Nat → ClassId} {av : List Value} {ws0 : va_W} {Q : Option Value → va_W → Prop} (F : Nat) (tA : Nat) (t_size : Int32) (t_signsA : Nat) (t_signsN : Nat) (t_signs : Nat → Int32) (t_tokensA : Nat) (t_tokensN : Nat) (t_startsA : Nat) (t_startsN : Nat) (t_valuesA : Nat) (t_valuesN : Nat) (k17 : Int32 → Int32 → Int32 → Int32 → (Nat → Int32) → (Nat → Int32) → (Nat → Int64) → Option ((Int32) × (Int32) × (Int32) × (Nat → Int32) × (Nat → Int32) × (Nat → Int64))) (hk17 : ∀ (x1 : Int32) (t_count : Int32) (t_here : Int32) (t_fault : Int32) (t_tokens : Nat → Int32) (t_starts : Nat → Int32) (t_values : Nat → Int64) (R : (Int32) × (Int32) × (Int32) × (Nat → Int32) × (Nat → Int32) × (Nat → Int64)), k17 x1 t_count t_here t_fault t_tokens t_starts t_values = some R → Q none (wX9_begin cy tA t_size R.1 R.2.1 R.2.2.1 t_signsA t_signsN t_signs t_tokensA t_tokensN R.2.2.2.1 t_startsA t_startsN R.2.2.2.2.1 t_valuesA t_valuesN R.2.2.2.2.2) → V l D cy MX9_begin 7 0 0 av ws0 Q 17 [(0, .ref tA), (1, .int x1)] [] (wX9_begin cy tA t_size t_count t_here t_fault t_signsA t_signsN t_signs t_tokensA t_tokensN t_tokens t_startsA t_startsN t_starts t_valuesA t_valuesN t_values) 0 0) (s0 : Int32) (t_count : Int32) (t_here : Int32) (t_fault : Int32) (t_tokens : Nat → Int32) (t_starts : Nat → Int32) (t_values : Nat → Int64) (R : (Int32) × (Int32) × (Int32) × (Nat → Int32) × (Nat → Int32) × (Nat → Int64)) (h : bX9_begin_L114 F t_size t_signsN t_signs t_tokensN t_startsN t_valuesN k17 s0 t_count t_here t_fault t_tokens t_starts t_values = some R) (hQ : Q none (wX9_begin cy tA t_size R.1 R.2.1 R.2.2.1 t_signsA t_signsN t_signs t_tokensA t_tokensN R.2.2.2.1 t_startsA t_startsN R.2.2.2.2.1 t_valuesA t_valuesN R.2.2.2.2.2)) : V l D cy MX9_begin 7 0 0 av ws0 Q 114 [(0, .ref tA)] [.int s0] (wX9_begin cy tA t_size t_count t_here t_fault t_signsA t_signsN t_signs t_tokensA t_tokensN t_tokens t_startsA t_startsN t_starts t_valuesA t_valuesN t_values) 0 0 := by
  unfold bX9_begin_L114 at h
  refine V.istore_n (lv' := [(1, .int s0), (0, .ref tA)]) dX9_begin_114 rfl (by decide) rfl ?_
  refine V.goto (tgt := 17) dX9_begin_115 (by decide) ?_
  refine V.lvs [1, 0] rfl ?_
  exact hk17 _ _ _ _ _ _ _ R h hQ
noncomputable def bX9_begin_L102 (F : Nat) (t_size : Int32) (t_signsN : Nat) (t_signs : Nat → Int32) (t_tokensN : Nat) (t_startsN : Nat) (t_valuesN : Nat) (k17 : Int32 → Int32 → Int32 → Int32 → (Nat → Int32) → (Nat → Int32) → (Nat → Int64) → Option ((Int32) × (Int32) × (Int32) × (Nat → Int32) × (Nat → Int32) × (Nat → Int64))) (x1 : Int32) (x3 : Int32) (t_count : Int32) (t_here : Int32) (t_fault : Int32) (t_tokens : Nat → Int32) (t_starts : Nat → Int32) (t_values : Nat → Int64) : Option ((Int32) × (Int32) × (Int32) × (Nat → Int32) × (Nat → Int32) × (Nat → Int64)) :=
  if x3 ≤ x1 then (bX9_begin_L114 F t_size t_signsN t_signs t_tokensN t_startsN t_valuesN k17 (x1 + (1 : Int32)) t_count t_here t_fault t_tokens t_starts t_values) else (bX9_begin_L114 F t_size t_signsN t_signs t_tokensN t_startsN t_valuesN k17 x3 t_count t_here t_fault t_tokens t_starts t_values)
theorem vX9_begin_L102 {l : Launch} {D : va_G} {cy : Nat → ClassId} {av : List Value} {ws0 : va_W} {Q : Option Value → va_W → Prop} (F : Nat) (tA : Nat) (t_size : Int32) (t_signsA : Nat) (t_signsN : Nat) (t_signs : Nat → Int32) (t_tokensA : Nat) (t_tokensN : Nat) (t_startsA : Nat) (t_startsN : Nat) (t_valuesA : Nat) (t_valuesN : Nat) (k17 : Int32 → Int32 → Int32 → Int32 → (Nat → Int32) → (Nat → Int32) → (Nat → Int64) → Option ((Int32) × (Int32) × (Int32) × (Nat → Int32) × (Nat → Int32) × (Nat → Int64))) (hk17 : ∀ (x1 : Int32) (t_count : Int32) (t_here : Int32) (t_fault : Int32) (t_tokens : Nat → Int32) (t_starts : Nat → Int32) (t_values : Nat → Int64) (R : (Int32) × (Int32) × (Int32) × (Nat → Int32) × (Nat → Int32) × (Nat → Int64)), k17 x1 t_count t_here t_fault t_tokens t_starts t_values = some R → Q none (wX9_begin cy tA t_size R.1 R.2.1 R.2.2.1 t_signsA t_signsN t_signs t_tokensA t_tokensN R.2.2.2.1 t_startsA t_startsN R.2.2.2.2.1 t_valuesA t_valuesN R.2.2.2.2.2) → V l D cy MX9_begin 7 0 0 av ws0 Q 17 [(0, .ref tA), (1, .int x1)] [] (wX9_begin cy tA t_size t_count t_here t_fault t_signsA t_signsN t_signs t_tokensA t_tokensN t_tokens t_startsA t_startsN t_starts t_valuesA t_valuesN t_values) 0 0) (x1 : Int32) (x3 : Int32) (t_count : Int32) (t_here : Int32) (t_fault : Int32) (t_tokens : Nat → Int32) (t_starts : Nat → Int32) (t_values : Nat → Int64) (R : (Int32) × (Int32) × (Int32) × (Nat → Int32) × (Nat → Int32) × (Nat → Int64)) (h : bX9_begin_L102 F t_size t_signsN t_signs t_tokensN t_startsN t_valuesN k17 x1 x3 t_count t_here t_fault t_tokens t_starts t_values = some R) (hQ : Q none (wX9_begin cy tA t_size R.1 R.2.1 R.2.2.1 t_signsA t_signsN t_signs t_tokensA t_tokensN R.2.2.2.1 t_startsA t_startsN R.2.2.2.2.1 t_valuesA t_valuesN R.2.2.2.2.2)) : V l D cy MX9_begin 7 0 0 av ws0 Q 102 [(0, .ref tA), (1, .int x1), (3, .int x3)] [] (wX9_begin cy tA t_size t_count t_here t_fault t_signsA t_signsN t_signs t_tokensA t_tokensN t_tokens t_startsA t_startsN t_starts t_valuesA t_valuesN t_values) 0 0 := by
  unfold bX9_begin_L102 at h
  refine V.iload_n dX9_begin_102 rfl 2 rfl ?_
  refine V.iload_n dX9_begin_103 rfl 1 rfl ?_
  refine V.icmp_le (tgt := 111) dX9_begin_104 (by decide) (fun hc104 => ?_) (fun hc104 => ?_)
  · replace h := (if_pos hc104).symm.trans h
    refine V.iload_n dX9_begin_111 rfl 1 rfl ?_
    refine V.iconst (v := (1 : Int32)) dX9_begin_112 (by decide) ?_
    refine V.iadd dX9_begin_113 ?_
    refine V.lvs [0] rfl ?_
    exact vX9_begin_L114 _ _ _ _ _ _ _ _ _ _ _ _ _ hk17  _ _ _ _ _ _ _ R h hQ
  · replace h := (if_neg hc104).symm.trans h
    refine V.iload_n dX9_begin_107 rfl 2 rfl ?_
    refine V.goto (tgt := 114) dX9_begin_108 (by decide) ?_
    refine V.lvs [0] rfl ?_
    exact vX9_begin_L114 _ _ _ _ _ _ _ _ _ _ _ _ _ hk17  _ _ _ _ _ _ _ R h hQ
noncomputable def bX9_begin_L97 (F : Nat) (t_size : Int32) (t_signsN : Nat) (t_signs : Nat → Int32) (t_tokensN : Nat) (t_startsN : Nat) (t_valuesN : Nat) (k17 : Int32 → Int32 → Int32 → Int32 → (Nat → Int32) → (Nat → Int32) → (Nat → Int64) → Option ((Int32) × (Int32) × (Int32) × (Nat → Int32) × (Nat → Int32) × (Nat → Int64))) (x1 : Int32) (x3 : Int32) (s1 : Int32) (t_count : Int32) (t_here : Int32) (t_fault : Int32) (t_tokens : Nat → Int32) (t_starts : Nat → Int32) (t_values : Nat → Int64) : Option ((Int32) × (Int32) × (Int32) × (Nat → Int32) × (Nat → Int32) × (Nat → Int64)) :=
  (fX9_lay F t_tokensN t_startsN t_valuesN s1 x1 (0 : Int64) t_count t_tokens t_starts t_values).bind fun R99 => (bX9_begin_L102 F t_size t_signsN t_signs t_tokensN t_startsN t_valuesN k17 x1 x3 R99.1 t_here t_fault R99.2.1 R99.2.2.1 R99.2.2.2)
theorem vX9_begin_L97 {l : Launch} {D : va_G} {cy : Nat → ClassId} {av : List Value} {ws0 : va_W} {Q : Option Value → va_W → Prop} (F : Nat) (tA : Nat) (t_size : Int32) (t_signsA : Nat) (t_signsN : Nat) (t_signs : Nat → Int32) (t_tokensA : Nat) (t_tokensN : Nat) (t_startsA : Nat) (t_startsN : Nat) (t_valuesA : Nat) (t_valuesN : Nat) (k17 : Int32 → Int32 → Int32 → Int32 → (Nat → Int32) → (Nat → Int32) → (Nat → Int64) → Option ((Int32) × (Int32) × (Int32) × (Nat → Int32) × (Nat → Int32) × (Nat → Int64))) (hk17 : ∀ (x1 : Int32) (t_count : Int32) (t_here : Int32) (t_fault : Int32) (t_tokens : Nat → Int32) (t_starts : Nat → Int32) (t_values : Nat → Int64) (R : (Int32) × (Int32) × (Int32) × (Nat → Int32) × (Nat → Int32) × (Nat → Int64)), k17 x1 t_count t_here t_fault t_tokens t_starts t_values = some R → Q none (wX9_begin cy tA t_size R.1 R.2.1 R.2.2.1 t_signsA t_signsN t_signs t_tokensA t_tokensN R.2.2.2.1 t_startsA t_startsN R.2.2.2.2.1 t_valuesA t_valuesN R.2.2.2.2.2) → V l D cy MX9_begin 7 0 0 av ws0 Q 17 [(0, .ref tA), (1, .int x1)] [] (wX9_begin cy tA t_size t_count t_here t_fault t_signsA t_signsN t_signs t_tokensA t_tokensN t_tokens t_startsA t_startsN t_starts t_valuesA t_valuesN t_values) 0 0) (x1 : Int32) (x3 : Int32) (s1 : Int32) (t_count : Int32) (t_here : Int32) (t_fault : Int32) (t_tokens : Nat → Int32) (t_starts : Nat → Int32) (t_values : Nat → Int64) (R : (Int32) × (Int32) × (Int32) × (Nat → Int32) × (Nat → Int32) × (Nat → Int64)) (h : bX9_begin_L97 F t_size t_signsN t_signs t_tokensN t_startsN t_valuesN k17 x1 x3 s1 t_count t_here t_fault t_tokens t_starts t_values = some R) (hQ : Q none (wX9_begin cy tA t_size R.1 R.2.1 R.2.2.1 t_signsA t_signsN t_signs t_tokensA t_tokensN R.2.2.2.1 t_startsA t_startsN R.2.2.2.2.1 t_valuesA t_valuesN R.2.2.2.2.2)) : V l D cy MX9_begin 7 0 0 av ws0 Q 97 [(0, .ref tA), (1, .int x1), (3, .int x3)] [.int s1, .ref tA] (wX9_begin cy tA t_size t_count t_here t_fault t_signsA t_signsN t_signs t_tokensA t_tokensN t_tokens t_startsA t_startsN t_starts t_valuesA t_valuesN t_values) 0 0 := by
  unfold bX9_begin_L97 at h
  refine V.iload_n dX9_begin_97 rfl 1 rfl ?_
  refine V.lconst (v := (0 : Int64)) dX9_begin_98 (by decide) ?_
  obtain ⟨R99, hg99, h⟩ := Option.bind_eq_some_iff.mp h
  refine V.callV (As := [.int s1, .int x1, .long (0 : Int64)]) (rest := []) (wc := (wX9_lay cy tA (.ref t_signsA) t_size t_count t_here t_fault t_tokensA t_tokensN t_tokens t_startsA t_startsN t_starts t_valuesA t_valuesN t_values)) (wr := [(t_signsA, .inl (cy 0, t_signsN, .inl t_signs))]) (q0 := 0) (CX9_lay F tA (.ref t_signsA) t_size t_count t_here t_fault t_tokensA t_tokensN t_tokens t_startsA t_startsN t_starts t_valuesA t_valuesN t_values s1 x1 (0 : Int64) R99 hg99) kvX9_lay klX9_60 [0, 2, 3, 4] [1] rfl rfl (by decide) (by decide) (by decide) rfl rfl rfl rfl dX9_begin_99 ⟨by decide, by decide, by decide, by decide⟩ (Nat.le_of_ble_eq_true rfl) (fun r w1 hq => ?_)
  obtain ⟨rfl, rfl⟩ := hq
  refine V.cells (ws' := (wX9_begin cy tA t_size R99.1 t_here t_fault t_signsA t_signsN t_signs t_tokensA t_tokensN R99.2.1 t_startsA t_startsN R99.2.2.1 t_valuesA t_valuesN R99.2.2.2)) [1, 0, 2, 3, 4] (by decide) rfl ?_
  show V l D cy MX9_begin 7 0 0 _ _ _ 102 [(0, .ref tA), (1, .int x1), (3, .int x3)] [] (wX9_begin cy tA t_size R99.1 t_here t_fault t_signsA t_signsN t_signs t_tokensA t_tokensN R99.2.1 t_startsA t_startsN R99.2.2.1 t_valuesA t_valuesN R99.2.2.2) 0 0
  exact vX9_begin_L102 _ _ _ _ _ _ _ _ _ _ _ _ _ hk17  _ _ _ _ _ _ _ _ R h hQ
noncomputable def bX9_begin_L17 (F : Nat) (t_size : Int32) (t_signsN : Nat) (t_signs : Nat → Int32) (t_tokensN : Nat) (t_startsN : Nat) (t_valuesN : Nat) (k17 : Int32 → Int32 → Int32 → Int32 → (Nat → Int32) → (Nat → Int32) → (Nat → Int64) → Option ((Int32) × (Int32) × (Int32) × (Nat → Int32) × (Nat → Int32) × (Nat → Int64))) (x1 : Int32) (t_count : Int32) (t_here : Int32) (t_fault : Int32) (t_tokens : Nat → Int32) (t_starts : Nat → Int32) (t_values : Nat → Int64) : Option ((Int32) × (Int32) × (Int32) × (Nat → Int32) × (Nat → Int32) × (Nat → Int64)) :=
  if t_size ≤ x1 then ((fX9_lay F t_tokensN t_startsN t_valuesN (22 : Int32) t_size (0 : Int64) t_count t_tokens t_starts t_values).bind fun R126 => (some (R126.1, t_here, t_fault, R126.2.1, R126.2.2.1, R126.2.2.2))) else (if x1 < 0 ∨ t_signsN ≤ x1.toNatClampNeg then none else ((fX9_isLetter F (t_signs (x1).toNatClampNeg)).bind fun R37 => (if R37 = 0 then ((fX9_isDigit F (t_signs (x1).toNatClampNeg)).bind fun R53 => (if R53 = 0 then (if (t_signs (x1).toNatClampNeg) = (10 : Int32) then (bX9_begin_L102 F t_size t_signsN t_signs t_tokensN t_startsN t_valuesN k17 x1 (x1 + (1 : Int32)) t_count t_here t_fault t_tokens t_starts t_values) else (if (t_signs (x1).toNatClampNeg) = (32 : Int32) then (bX9_begin_L102 F t_size t_signsN t_signs t_tokensN t_startsN t_valuesN k17 x1 (x1 + (1 : Int32)) t_count t_here t_fault t_tokens t_starts t_values) else ((fJ0_indexOf_0f7a4_zS1 F (((t_signs (x1).toNatClampNeg).toUInt32 % 65536).toInt32)).bind fun R85 => (if R85 < 0 then (bX9_begin_L97 F t_size t_signsN t_signs t_tokensN t_startsN t_valuesN k17 x1 (x1 + (1 : Int32)) (23 : Int32) t_count t_here t_fault t_tokens t_starts t_values) else (bX9_begin_L97 F t_size t_signsN t_signs t_tokensN t_startsN t_valuesN k17 x1 (x1 + (1 : Int32)) (t_signs (x1).toNatClampNeg) t_count t_here t_fault t_tokens t_starts t_values))))) else ((fX9_readNumber F t_size t_signsN t_signs t_tokensN t_startsN t_valuesN x1 t_count t_tokens t_starts t_values).bind fun R61 => (bX9_begin_L102 F t_size t_signsN t_signs t_tokensN t_startsN t_valuesN k17 x1 R61.1 R61.2.1 t_here t_fault R61.2.2.1 R61.2.2.2.1 R61.2.2.2.2)))) else ((fX9_readWord F t_size t_signsN t_signs t_tokensN t_startsN t_valuesN x1 t_count t_tokens t_starts t_values).bind fun R45 => (bX9_begin_L102 F t_size t_signsN t_signs t_tokensN t_startsN t_valuesN k17 x1 R45.1 R45.2.1 t_here t_fault R45.2.2.1 R45.2.2.2.1 R45.2.2.2.2)))))
theorem vbX9_begin_L17 {l : Launch} {D : va_G} {cy : Nat → ClassId} {av : List Value} {ws0 : va_W} {Q : Option Value → va_W → Prop} (F : Nat) (tA : Nat) (t_size : Int32) (t_signsA : Nat) (t_signsN : Nat) (t_signs : Nat → Int32) (t_tokensA : Nat) (t_tokensN : Nat) (t_startsA : Nat) (t_startsN : Nat) (t_valuesA : Nat) (t_valuesN : Nat) (k17 : Int32 → Int32 → Int32 → Int32 → (Nat → Int32) → (Nat → Int32) → (Nat → Int64) → Option ((Int32) × (Int32) × (Int32) × (Nat → Int32) × (Nat → Int32) × (Nat → Int64))) (hk17 : ∀ (x1 : Int32) (t_count : Int32) (t_here : Int32) (t_fault : Int32) (t_tokens : Nat → Int32) (t_starts : Nat → Int32) (t_values : Nat → Int64) (R : (Int32) × (Int32) × (Int32) × (Nat → Int32) × (Nat → Int32) × (Nat → Int64)), k17 x1 t_count t_here t_fault t_tokens t_starts t_values = some R → Q none (wX9_begin cy tA t_size R.1 R.2.1 R.2.2.1 t_signsA t_signsN t_signs t_tokensA t_tokensN R.2.2.2.1 t_startsA t_startsN R.2.2.2.2.1 t_valuesA t_valuesN R.2.2.2.2.2) → V l D cy MX9_begin 7 0 0 av ws0 Q 17 [(0, .ref tA), (1, .int x1)] [] (wX9_begin cy tA t_size t_count t_here t_fault t_signsA t_signsN t_signs t_tokensA t_tokensN t_tokens t_startsA t_startsN t_starts t_valuesA t_valuesN t_values) 0 0) (x1 : Int32) (t_count : Int32) (t_here : Int32) (t_fault : Int32) (t_tokens : Nat → Int32) (t_starts : Nat → Int32) (t_values : Nat → Int64) (R : (Int32) × (Int32) × (Int32) × (Nat → Int32) × (Nat → Int32) × (Nat → Int64)) (h : bX9_begin_L17 F t_size t_signsN t_signs t_tokensN t_startsN t_valuesN k17 x1 t_count t_here t_fault t_tokens t_starts t_values = some R) (hQ : Q none (wX9_begin cy tA t_size R.1 R.2.1 R.2.2.1 t_signsA t_signsN t_signs t_tokensA t_tokensN R.2.2.2.1 t_startsA t_startsN R.2.2.2.2.1 t_valuesA t_valuesN R.2.2.2.2.2)) : V l D cy MX9_begin 7 0 0 av ws0 Q 17 [(0, .ref tA), (1, .int x1)] [] (wX9_begin cy tA t_size t_count t_here t_fault t_signsA t_signsN t_signs t_tokensA t_tokensN t_tokens t_startsA t_startsN t_starts t_valuesA t_valuesN t_values) 0 0 := by
  unfold bX9_begin_L17 at h
  refine V.iload_n dX9_begin_17 rfl 1 rfl ?_
  refine V.aload_n dX9_begin_18 rfl 0 rfl ?_
  refine V.get kfX9 0 rfl rfl 1 (by decide) klX9_26 rfl dX9_begin_19 ?_
  refine V.icmp_ge (tgt := 118) dX9_begin_22 (by decide) (fun hc22 => ?_) (fun hc22 => ?_)
  · replace h := (if_pos hc22).symm.trans h
    refine V.aload_n dX9_begin_118 rfl 0 rfl ?_
    refine V.bipush (v := (22 : Int32)) dX9_begin_119 (by decide) ?_
    refine V.aload_n dX9_begin_121 rfl 0 rfl ?_
    refine V.get kfX9 0 rfl rfl 1 (by decide) klX9_26 rfl dX9_begin_122 ?_
    refine V.lconst (v := (0 : Int64)) dX9_begin_125 (by decide) ?_
    obtain ⟨R126, hg126, h⟩ := Option.bind_eq_some_iff.mp h
    refine V.callV (As := [.int (22 : Int32), .int t_size, .long (0 : Int64)]) (rest := []) (wc := (wX9_lay cy tA (.ref t_signsA) t_size t_count t_here t_fault t_tokensA t_tokensN t_tokens t_startsA t_startsN t_starts t_valuesA t_valuesN t_values)) (wr := [(t_signsA, .inl (cy 0, t_signsN, .inl t_signs))]) (q0 := 0) (CX9_lay F tA (.ref t_signsA) t_size t_count t_here t_fault t_tokensA t_tokensN t_tokens t_startsA t_startsN t_starts t_valuesA t_valuesN t_values (22 : Int32) t_size (0 : Int64) R126 hg126) kvX9_lay klX9_60 [0, 2, 3, 4] [1] rfl rfl (by decide) (by decide) (by decide) rfl rfl rfl rfl dX9_begin_126 ⟨by decide, by decide, by decide, by decide⟩ (Nat.le_of_ble_eq_true rfl) (fun r w1 hq => ?_)
    obtain ⟨rfl, rfl⟩ := hq
    refine V.cells (ws' := (wX9_begin cy tA t_size R126.1 t_here t_fault t_signsA t_signsN t_signs t_tokensA t_tokensN R126.2.1 t_startsA t_startsN R126.2.2.1 t_valuesA t_valuesN R126.2.2.2)) [1, 0, 2, 3, 4] (by decide) rfl ?_
    show V l D cy MX9_begin 7 0 0 _ _ _ 129 [(0, .ref tA), (1, .int x1)] [] (wX9_begin cy tA t_size R126.1 t_here t_fault t_signsA t_signsN t_signs t_tokensA t_tokensN R126.2.1 t_startsA t_startsN R126.2.2.1 t_valuesA t_valuesN R126.2.2.2) 0 0
    have e9 := Option.some.inj h; subst e9
    exact V.vret rfl dX9_begin_129 (Nat.le_refl _) (Nat.le_refl _) hQ
  · replace h := (if_neg hc22).symm.trans h
    refine V.aload_n dX9_begin_25 rfl 0 rfl ?_
    refine V.get kfX9 0 rfl rfl 0 (by decide) klX9_9 rfl dX9_begin_26 ?_
    refine V.iload_n dX9_begin_29 rfl 1 rfl ?_
    by_cases hb30 : x1 < 0 ∨ t_signsN ≤ x1.toNatClampNeg
    · exact vNone ((if_pos hb30).symm.trans h)
    replace h := (if_neg hb30).symm.trans h
    refine V.bald dX9_begin_30 1 rfl hb30 ?_
    refine V.istore_n (lv' := [(2, .int (t_signs (x1).toNatClampNeg)), (0, .ref tA), (1, .int x1)]) dX9_begin_31 rfl (by decide) rfl ?_
    refine V.iload_n dX9_begin_32 rfl 2 rfl ?_
    refine V.iconst (v := (1 : Int32)) dX9_begin_33 (by decide) ?_
    refine V.iadd dX9_begin_34 ?_
    refine V.istore_n (lv' := [(3, .int (x1 + (1 : Int32))), (2, .int (t_signs (x1).toNatClampNeg)), (0, .ref tA), (1, .int x1)]) dX9_begin_35 rfl (by decide) rfl ?_
    refine V.iload_n dX9_begin_36 rfl 1 rfl ?_
    obtain ⟨R37, hg37, h⟩ := Option.bind_eq_some_iff.mp h
    refine V.callS (As := [.int (t_signs (x1).toNatClampNeg)]) (rest := []) (wc := (wX9_isLetter cy )) (wr := [(tA, .inr (9, [.ref t_signsA, .int t_size, .ref t_tokensA, .ref t_startsA, .ref t_valuesA, .int t_count, .int t_here, .int t_fault])), (t_signsA, .inl (cy 0, t_signsN, .inl t_signs)), (t_tokensA, .inl (cy 1, t_tokensN, .inl t_tokens)), (t_startsA, .inl (cy 1, t_startsN, .inl t_starts)), (t_valuesA, .inl (cy 2, t_valuesN, .inr (.inl t_values)))]) (CX9_isLetter F (t_signs (x1).toNatClampNeg) R37 hg37) kvX9_isLetter klX9_39 [] [0, 1, 2, 3, 4] rfl rfl (by decide) (by decide) (by decide) rfl dX9_begin_37 ⟨by decide, by decide, by decide, by decide⟩ (Nat.le_of_ble_eq_true rfl) (fun r w1 hq => ?_)
    obtain ⟨rfl, rfl⟩ := hq
    refine V.cells (ws' := (wX9_begin cy tA t_size t_count t_here t_fault t_signsA t_signsN t_signs t_tokensA t_tokensN t_tokens t_startsA t_startsN t_starts t_valuesA t_valuesN t_values)) [0, 1, 2, 3, 4] (by decide) rfl ?_
    show V l D cy MX9_begin 7 0 0 _ _ _ 40 [(3, .int (x1 + (1 : Int32))), (2, .int (t_signs (x1).toNatClampNeg)), (0, .ref tA), (1, .int x1)] [.int R37] (wX9_begin cy tA t_size t_count t_here t_fault t_signsA t_signsN t_signs t_tokensA t_tokensN t_tokens t_startsA t_startsN t_starts t_valuesA t_valuesN t_values) 0 0
    refine V.if_eq (tgt := 52) dX9_begin_40 (by decide) (fun hc40 => ?_) (fun hc40 => ?_)
    · replace h := (if_pos hc40).symm.trans h
      refine V.iload_n dX9_begin_52 rfl 1 rfl ?_
      obtain ⟨R53, hg53, h⟩ := Option.bind_eq_some_iff.mp h
      refine V.callS (As := [.int (t_signs (x1).toNatClampNeg)]) (rest := []) (wc := (wX9_isDigit cy )) (wr := [(tA, .inr (9, [.ref t_signsA, .int t_size, .ref t_tokensA, .ref t_startsA, .ref t_valuesA, .int t_count, .int t_here, .int t_fault])), (t_signsA, .inl (cy 0, t_signsN, .inl t_signs)), (t_tokensA, .inl (cy 1, t_tokensN, .inl t_tokens)), (t_startsA, .inl (cy 1, t_startsN, .inl t_starts)), (t_valuesA, .inl (cy 2, t_valuesN, .inr (.inl t_values)))]) (CX9_isDigit F (t_signs (x1).toNatClampNeg) R53 hg53) kvX9_isDigit klX9_47 [] [0, 1, 2, 3, 4] rfl rfl (by decide) (by decide) (by decide) rfl dX9_begin_53 ⟨by decide, by decide, by decide, by decide⟩ (Nat.le_of_ble_eq_true rfl) (fun r w1 hq => ?_)
      obtain ⟨rfl, rfl⟩ := hq
      refine V.cells (ws' := (wX9_begin cy tA t_size t_count t_here t_fault t_signsA t_signsN t_signs t_tokensA t_tokensN t_tokens t_startsA t_startsN t_starts t_valuesA t_valuesN t_values)) [0, 1, 2, 3, 4] (by decide) rfl ?_
      show V l D cy MX9_begin 7 0 0 _ _ _ 56 [(3, .int (x1 + (1 : Int32))), (2, .int (t_signs (x1).toNatClampNeg)), (0, .ref tA), (1, .int x1)] [.int R53] (wX9_begin cy tA t_size t_count t_here t_fault t_signsA t_signsN t_signs t_tokensA t_tokensN t_tokens t_startsA t_startsN t_starts t_valuesA t_valuesN t_values) 0 0
      refine V.if_eq (tgt := 68) dX9_begin_56 (by decide) (fun hc56 => ?_) (fun hc56 => ?_)
      · replace h := (if_pos hc56).symm.trans h
        refine V.iload_n dX9_begin_68 rfl 1 rfl ?_
        refine V.bipush (v := (10 : Int32)) dX9_begin_69 (by decide) ?_
        refine V.icmp_eq (tgt := 102) dX9_begin_71 (by decide) (fun hc71 => ?_) (fun hc71 => ?_)
        · replace h := (if_pos hc71).symm.trans h
          refine V.lvs [2, 3, 0] rfl ?_
          exact vX9_begin_L102 _ _ _ _ _ _ _ _ _ _ _ _ _ hk17  _ _ _ _ _ _ _ _ R h hQ
        · replace h := (if_neg hc71).symm.trans h
          refine V.iload_n dX9_begin_74 rfl 1 rfl ?_
          refine V.bipush (v := (32 : Int32)) dX9_begin_75 (by decide) ?_
          refine V.icmp_eq (tgt := 102) dX9_begin_77 (by decide) (fun hc77 => ?_) (fun hc77 => ?_)
          · replace h := (if_pos hc77).symm.trans h
            refine V.lvs [2, 3, 0] rfl ?_
            exact vX9_begin_L102 _ _ _ _ _ _ _ _ _ _ _ _ _ hk17  _ _ _ _ _ _ _ _ R h hQ
          · replace h := (if_neg hc77).symm.trans h
            refine V.aload_n dX9_begin_80 rfl 2 rfl ?_
            refine V.ldcS 1 (by decide) rfl dX9_begin_81 ?_
            refine V.iload_n dX9_begin_83 rfl 1 rfl ?_
            refine V.i2c dX9_begin_84 ?_
            obtain ⟨R85, hg85, h⟩ := Option.bind_eq_some_iff.mp h
            refine V.callVz (As := [.int (((t_signs (x1).toNatClampNeg).toUInt32 % 65536).toInt32)]) (rest := [.ref tA]) 1 (by decide) (CJ0_indexOf_0f7a4_zS1 F (((t_signs (x1).toNatClampNeg).toUInt32 % 65536).toInt32) R85 hg85) kvJ0_indexOf_0f7a4 klX9_55 rfl rfl dX9_begin_85 ⟨by decide, by decide, by decide, by decide⟩ (Nat.le_of_ble_eq_true rfl) (fun r w1 hq => ?_)
            obtain ⟨rfl, rfl⟩ := hq
            refine V.cells (ws' := (wX9_begin cy tA t_size t_count t_here t_fault t_signsA t_signsN t_signs t_tokensA t_tokensN t_tokens t_startsA t_startsN t_starts t_valuesA t_valuesN t_values)) [0, 1, 2, 3, 4] (by decide) rfl ?_
            show V l D cy MX9_begin 7 0 0 _ _ _ 88 [(3, .int (x1 + (1 : Int32))), (2, .int (t_signs (x1).toNatClampNeg)), (0, .ref tA), (1, .int x1)] [.int R85, .ref tA] (wX9_begin cy tA t_size t_count t_here t_fault t_signsA t_signsN t_signs t_tokensA t_tokensN t_tokens t_startsA t_startsN t_starts t_valuesA t_valuesN t_values) 0 0
            refine V.if_lt (tgt := 95) dX9_begin_88 (by decide) (fun hc88 => ?_) (fun hc88 => ?_)
            · replace h := (if_pos hc88).symm.trans h
              refine V.bipush (v := (23 : Int32)) dX9_begin_95 (by decide) ?_
              refine V.lvs [2, 3, 0] rfl ?_
              exact vX9_begin_L97 _ _ _ _ _ _ _ _ _ _ _ _ _ hk17  _ _ _ _ _ _ _ _ _ R h hQ
            · replace h := (if_neg hc88).symm.trans h
              refine V.iload_n dX9_begin_91 rfl 1 rfl ?_
              refine V.goto (tgt := 97) dX9_begin_92 (by decide) ?_
              refine V.lvs [2, 3, 0] rfl ?_
              exact vX9_begin_L97 _ _ _ _ _ _ _ _ _ _ _ _ _ hk17  _ _ _ _ _ _ _ _ _ R h hQ
      · replace h := (if_neg hc56).symm.trans h
        refine V.aload_n dX9_begin_59 rfl 2 rfl ?_
        refine V.iload_n dX9_begin_60 rfl 3 rfl ?_
        obtain ⟨R61, hg61, h⟩ := Option.bind_eq_some_iff.mp h
        refine V.callV (As := [.int x1]) (rest := []) (wc := (wX9_readNumber cy tA t_size t_count t_here t_fault t_signsA t_signsN t_signs t_tokensA t_tokensN t_tokens t_startsA t_startsN t_starts t_valuesA t_valuesN t_values)) (wr := []) (q0 := 0) (CX9_readNumber F tA t_size t_count t_here t_fault t_signsA t_signsN t_signs t_tokensA t_tokensN t_tokens t_startsA t_startsN t_starts t_valuesA t_valuesN t_values x1 R61 hg61) kvX9_readNumber klX9_50 [0, 1, 2, 3, 4] [] rfl rfl (by decide) (by decide) (by decide) rfl rfl rfl rfl dX9_begin_61 ⟨by decide, by decide, by decide, by decide⟩ (Nat.le_of_ble_eq_true rfl) (fun r w1 hq => ?_)
        obtain ⟨rfl, rfl⟩ := hq
        refine V.cells (ws' := (wX9_begin cy tA t_size R61.2.1 t_here t_fault t_signsA t_signsN t_signs t_tokensA t_tokensN R61.2.2.1 t_startsA t_startsN R61.2.2.2.1 t_valuesA t_valuesN R61.2.2.2.2)) [0, 1, 2, 3, 4] (by decide) rfl ?_
        show V l D cy MX9_begin 7 0 0 _ _ _ 64 [(3, .int (x1 + (1 : Int32))), (2, .int (t_signs (x1).toNatClampNeg)), (0, .ref tA), (1, .int x1)] [.int R61.1] (wX9_begin cy tA t_size R61.2.1 t_here t_fault t_signsA t_signsN t_signs t_tokensA t_tokensN R61.2.2.1 t_startsA t_startsN R61.2.2.2.1 t_valuesA t_valuesN R61.2.2.2.2) 0 0
        refine V.istore_n (lv' := [(3, .int R61.1), (2, .int (t_signs (x1).toNatClampNeg)), (0, .ref tA), (1, .int x1)]) dX9_begin_64 rfl (by decide) rfl ?_
        refine V.goto (tgt := 102) dX9_begin_65 (by decide) ?_
        refine V.lvs [2, 3, 0] rfl ?_
        exact vX9_begin_L102 _ _ _ _ _ _ _ _ _ _ _ _ _ hk17  _ _ _ _ _ _ _ _ R h hQ
    · replace h := (if_neg hc40).symm.trans h
      refine V.aload_n dX9_begin_43 rfl 2 rfl ?_
      refine V.iload_n dX9_begin_44 rfl 3 rfl ?_
      obtain ⟨R45, hg45, h⟩ := Option.bind_eq_some_iff.mp h
      refine V.callV (As := [.int x1]) (rest := []) (wc := (wX9_readWord cy tA t_size t_count t_here t_fault t_signsA t_signsN t_signs t_tokensA t_tokensN t_tokens t_startsA t_startsN t_starts t_valuesA t_valuesN t_values)) (wr := []) (q0 := 0) (CX9_readWord F tA t_size t_count t_here t_fault t_signsA t_signsN t_signs t_tokensA t_tokensN t_tokens t_startsA t_startsN t_starts t_valuesA t_valuesN t_values x1 R45 hg45) kvX9_readWord klX9_43 [0, 1, 2, 3, 4] [] rfl rfl (by decide) (by decide) (by decide) rfl rfl rfl rfl dX9_begin_45 ⟨by decide, by decide, by decide, by decide⟩ (Nat.le_of_ble_eq_true rfl) (fun r w1 hq => ?_)
      obtain ⟨rfl, rfl⟩ := hq
      refine V.cells (ws' := (wX9_begin cy tA t_size R45.2.1 t_here t_fault t_signsA t_signsN t_signs t_tokensA t_tokensN R45.2.2.1 t_startsA t_startsN R45.2.2.2.1 t_valuesA t_valuesN R45.2.2.2.2)) [0, 1, 2, 3, 4] (by decide) rfl ?_
      show V l D cy MX9_begin 7 0 0 _ _ _ 48 [(3, .int (x1 + (1 : Int32))), (2, .int (t_signs (x1).toNatClampNeg)), (0, .ref tA), (1, .int x1)] [.int R45.1] (wX9_begin cy tA t_size R45.2.1 t_here t_fault t_signsA t_signsN t_signs t_tokensA t_tokensN R45.2.2.1 t_startsA t_startsN R45.2.2.2.1 t_valuesA t_valuesN R45.2.2.2.2) 0 0
      refine V.istore_n (lv' := [(3, .int R45.1), (2, .int (t_signs (x1).toNatClampNeg)), (0, .ref tA), (1, .int x1)]) dX9_begin_48 rfl (by decide) rfl ?_
      refine V.goto (tgt := 102) dX9_begin_49 (by decide) ?_
      refine V.lvs [2, 3, 0] rfl ?_
      exact vX9_begin_L102 _ _ _ _ _ _ _ _ _ _ _ _ _ hk17  _ _ _ _ _ _ _ _ R h hQ
noncomputable def fX9_begin_L17 (F : Nat) (t_size : Int32) (t_signsN : Nat) (t_signs : Nat → Int32) (t_tokensN : Nat) (t_startsN : Nat) (t_valuesN : Nat)  : Nat → Int32 → Int32 → Int32 → Int32 → (Nat → Int32) → (Nat → Int32) → (Nat → Int64) → Option ((Int32) × (Int32) × (Int32) × (Nat → Int32) × (Nat → Int32) × (Nat → Int64))
  | 0 => fun _ _ _ _ _ _ _ => none
  | n + 1 => bX9_begin_L17 F t_size t_signsN t_signs t_tokensN t_startsN t_valuesN (fX9_begin_L17 F t_size t_signsN t_signs t_tokensN t_startsN t_valuesN  n)
theorem vX9_begin_L17 {l : Launch} {D : va_G} {cy : Nat → ClassId} {av : List Value} {ws0 : va_W} {Q : Option Value → va_W → Prop} (F : Nat) (tA : Nat) (t_size : Int32) (t_signsA : Nat) (t_signsN : Nat) (t_signs : Nat → Int32) (t_tokensA : Nat) (t_tokensN : Nat) (t_startsA : Nat) (t_startsN : Nat) (t_valuesA : Nat) (t_valuesN : Nat)  : ∀ (n : Nat) (x1 : Int32) (t_count : Int32) (t_here : Int32) (t_fault : Int32) (t_tokens : Nat → Int32) (t_starts : Nat → Int32) (t_values : Nat → Int64) (R : (Int32) × (Int32) × (Int32) × (Nat → Int32) × (Nat → Int32) × (Nat → Int64)), fX9_begin_L17 F t_size t_signsN t_signs t_tokensN t_startsN t_valuesN  n x1 t_count t_here t_fault t_tokens t_starts t_values = some R → Q none (wX9_begin cy tA t_size R.1 R.2.1 R.2.2.1 t_signsA t_signsN t_signs t_tokensA t_tokensN R.2.2.2.1 t_startsA t_startsN R.2.2.2.2.1 t_valuesA t_valuesN R.2.2.2.2.2) → V l D cy MX9_begin 7 0 0 av ws0 Q 17 [(0, .ref tA), (1, .int x1)] [] (wX9_begin cy tA t_size t_count t_here t_fault t_signsA t_signsN t_signs t_tokensA t_tokensN t_tokens t_startsA t_startsN t_starts t_valuesA t_valuesN t_values) 0 0 := by
  intro n
  induction n with
  | zero => intro x1 t_count t_here t_fault t_tokens t_starts t_values R h; exact vNone h
  | succ n ih => intro x1 t_count t_here t_fault t_tokens t_starts t_values R h hQ; exact vbX9_begin_L17 F tA t_size t_signsA t_signsN t_signs t_tokensA t_tokensN t_startsA t_startsN t_valuesA t_valuesN _ ih x1 t_count t_here t_fault t_tokens t_starts t_values R h hQ
noncomputable def fX9_begin (F : Nat) (t_size : Int32) (t_signsN : Nat) (t_signs : Nat → Int32) (t_tokensN : Nat) (t_startsN : Nat) (t_valuesN : Nat) (t_count : Int32) (t_here : Int32) (t_fault : Int32) (t_tokens : Nat → Int32) (t_starts : Nat → Int32) (t_values : Nat → Int64) : Option ((Int32) × (Int32) × (Int32) × (Nat → Int32) × (Nat → Int32) × (Nat → Int64)) :=
  fX9_begin_L17 F t_size t_signsN t_signs t_tokensN t_startsN t_valuesN F (0 : Int32) (0 : Int32) (0 : Int32) (0 : Int32) t_tokens t_starts t_values
theorem CX9_begin {l : Launch} {D : va_G} {cy : Nat → ClassId} (F : Nat) (tA : Nat) (t_size : Int32) (t_count : Int32) (t_here : Int32) (t_fault : Int32) (t_signsA : Nat) (t_signsN : Nat) (t_signs : Nat → Int32) (t_tokensA : Nat) (t_tokensN : Nat) (t_tokens : Nat → Int32) (t_startsA : Nat) (t_startsN : Nat) (t_starts : Nat → Int32) (t_valuesA : Nat) (t_valuesN : Nat) (t_values : Nat → Int64) (R : (Int32) × (Int32) × (Int32) × (Nat → Int32) × (Nat → Int32) × (Nat → Int64)) (h : fX9_begin F t_size t_signsN t_signs t_tokensN t_startsN t_valuesN t_count t_here t_fault t_tokens t_starts t_values = some R) : vMet l D cy MX9_begin 7 0 0 [.ref tA] (wX9_begin cy tA t_size t_count t_here t_fault t_signsA t_signsN t_signs t_tokensA t_tokensN t_tokens t_startsA t_startsN t_starts t_valuesA t_valuesN t_values) (fun (r : Option Value) (w : va_W) => r = none ∧ w = (wX9_begin cy tA t_size R.1 R.2.1 R.2.2.1 t_signsA t_signsN t_signs t_tokensA t_tokensN R.2.2.2.1 t_startsA t_startsN R.2.2.2.2.1 t_valuesA t_valuesN R.2.2.2.2.2)) := by
  refine vMet.start (by decide +kernel) (Nat.le_of_ble_eq_true rfl) ?_
  generalize hQe : (fun (r : Option Value) (w : va_W) => r = none ∧ w = (wX9_begin cy tA t_size R.1 R.2.1 R.2.2.1 t_signsA t_signsN t_signs t_tokensA t_tokensN R.2.2.2.1 t_startsA t_startsN R.2.2.2.2.1 t_valuesA t_valuesN R.2.2.2.2.2)) = Q
  have hQ : Q none (wX9_begin cy tA t_size R.1 R.2.1 R.2.2.1 t_signsA t_signsN t_signs t_tokensA t_tokensN R.2.2.2.1 t_startsA t_startsN R.2.2.2.2.1 t_valuesA t_valuesN R.2.2.2.2.2) := by rw [← hQe]; exact ⟨rfl, rfl⟩
  show V l D cy MX9_begin 7 0 0 _ _ Q 0 [(0, .ref tA)] [] _ 0 0
  show V l D cy MX9_begin 7 0 0 [.ref tA] _ Q 0 [(0, .ref tA)] [] (wX9_begin cy tA t_size t_count t_here t_fault t_signsA t_signsN t_signs t_tokensA t_tokensN t_tokens t_startsA t_startsN t_starts t_valuesA t_valuesN t_values) 0 0
  unfold fX9_begin at h
  refine V.aload_n dX9_begin_0 rfl 0 rfl ?_
  refine V.iconst (v := (0 : Int32)) dX9_begin_1 (by decide) ?_
  refine V.put (ws' := (wX9_begin cy tA t_size (0 : Int32) t_here t_fault t_signsA t_signsN t_signs t_tokensA t_tokensN t_tokens t_startsA t_startsN t_starts t_valuesA t_valuesN t_values)) kfX9 tyX9 tyX9_ok nmX9 0 rfl rfl 5 (by decide) klX9_30 rfl (tyX9_ok 5 (by decide)) rfl rfl (Nat.le_of_ble_eq_true rfl) dX9_begin_2 rfl ?_
  refine V.aload_n dX9_begin_5 rfl 0 rfl ?_
  refine V.iconst (v := (0 : Int32)) dX9_begin_6 (by decide) ?_
  refine V.put (ws' := (wX9_begin cy tA t_size (0 : Int32) (0 : Int32) t_fault t_signsA t_signsN t_signs t_tokensA t_tokensN t_tokens t_startsA t_startsN t_starts t_valuesA t_valuesN t_values)) kfX9 tyX9 tyX9_ok nmX9 0 rfl rfl 6 (by decide) klX9_33 rfl (tyX9_ok 6 (by decide)) rfl rfl (Nat.le_of_ble_eq_true rfl) dX9_begin_7 rfl ?_
  refine V.aload_n dX9_begin_10 rfl 0 rfl ?_
  refine V.iconst (v := (0 : Int32)) dX9_begin_11 (by decide) ?_
  refine V.put (ws' := (wX9_begin cy tA t_size (0 : Int32) (0 : Int32) (0 : Int32) t_signsA t_signsN t_signs t_tokensA t_tokensN t_tokens t_startsA t_startsN t_starts t_valuesA t_valuesN t_values)) kfX9 tyX9 tyX9_ok nmX9 0 rfl rfl 7 (by decide) klX9_36 rfl (tyX9_ok 7 (by decide)) rfl rfl (Nat.le_of_ble_eq_true rfl) dX9_begin_12 rfl ?_
  refine V.iconst (v := (0 : Int32)) dX9_begin_15 (by decide) ?_
  refine V.istore_n (lv' := [(1, .int (0 : Int32)), (0, .ref tA)]) dX9_begin_16 rfl (by decide) rfl ?_
  refine V.lvs [1, 0] rfl ?_
  exact vX9_begin_L17 _ _ _ _ _ _ _ _ _ _ _ _  _ _ _ _ _ _ _ _ R h hQ
theorem dX11_year_0 : decode cX11_year 0 = .ok (.aload_n 0, 1) := by decide +kernel
theorem dX11_year_1 : decode cX11_year 1 = .ok (.getfield 10, 3) := by decide +kernel
theorem dX11_year_4 : decode cX11_year 4 = .ok (.invokevirtual 102, 3) := by decide +kernel
theorem dX11_year_7 : decode cX11_year 7 = .ok (.aload_n 0, 1) := by decide +kernel
theorem dX11_year_8 : decode cX11_year 8 = .ok (.getfield 19, 3) := by decide +kernel
theorem dX11_year_11 : decode cX11_year 11 = .ok (.aload_n 0, 1) := by decide +kernel
theorem dX11_year_12 : decode cX11_year 12 = .ok (.getfield 10, 3) := by decide +kernel
theorem dX11_year_15 : decode cX11_year 15 = .ok (.aload_n 0, 1) := by decide +kernel
theorem dX11_year_16 : decode cX11_year 16 = .ok (.getfield 31, 3) := by decide +kernel
theorem dX11_year_19 : decode cX11_year 19 = .ok (.bipush 40, 2) := by decide +kernel
theorem dX11_year_21 : decode cX11_year 21 = .ok (.iconst 1, 1) := by decide +kernel
theorem dX11_year_22 : decode cX11_year 22 = .ok (.invokevirtual 121, 3) := by decide +kernel
theorem dX11_year_25 : decode cX11_year 25 = .ok (.istore_n 1, 1) := by decide +kernel
theorem dX11_year_26 : decode cX11_year 26 = .ok (.iload_n 1, 1) := by decide +kernel
theorem dX11_year_27 : decode cX11_year 27 = .ok (.ifCond .eq 17, 3) := by decide +kernel
theorem dX11_year_30 : decode cX11_year 30 = .ok (.aload_n 0, 1) := by decide +kernel
theorem dX11_year_31 : decode cX11_year 31 = .ok (.getfield 38, 3) := by decide +kernel
theorem dX11_year_34 : decode cX11_year 34 = .ok (.getfield 125, 3) := by decide +kernel
theorem dX11_year_37 : decode cX11_year 37 = .ok (.aload_n 0, 1) := by decide +kernel
theorem dX11_year_38 : decode cX11_year 38 = .ok (.getfield 31, 3) := by decide +kernel
theorem dX11_year_41 : decode cX11_year 41 = .ok (.invokevirtual 128, 3) := by decide +kernel
theorem dX11_year_44 : decode cX11_year 44 = .ok (.aload_n 0, 1) := by decide +kernel
theorem dX11_year_45 : decode cX11_year 45 = .ok (.getfield 10, 3) := by decide +kernel
theorem dX11_year_48 : decode cX11_year 48 = .ok (.iload_n 1, 1) := by decide +kernel
theorem dX11_year_49 : decode cX11_year 49 = .ok (.invokevirtual 117, 3) := by decide +kernel
theorem dX11_year_52 : decode cX11_year 52 = .ok (.ireturn, 1) := by decide +kernel
def wX11_year (cy : Nat → ClassId) (tA : Nat) (t_spareNetV : Value) (t_marksV : Value) (t_pastV : Value) (t_pileV : Value) (t_knotV : Value) (t_secondV : Value) (t_trialsV : Value) (t_cutterV : Value) (t_placingsV : Value) (t_ringsV : Value) (t_tapeA : Nat) (t_tape_size : Int32) (t_tape_count : Int32) (t_tape_here : Int32) (t_tape_fault : Int32) (t_tape_signsA : Nat) (t_tape_signsN : Nat) (t_tape_signs : Nat → Int32) (t_tape_tokensA : Nat) (t_tape_tokensN : Nat) (t_tape_tokens : Nat → Int32) (t_tape_startsA : Nat) (t_tape_startsN : Nat) (t_tape_starts : Nat → Int32) (t_tape_valuesA : Nat) (t_tape_valuesN : Nat) (t_tape_values : Nat → Int64) (t_netA : Nat) (t_net_kindsV : Value) (t_net_kinV : Value) (t_net_stopsV : Value) (t_net_roundsV : Value) (t_net_folks : Int32) (t_net_pairs : Int32) (t_net_line : Int32) (t_net_rope : Int32) (t_net_lineTold : Int32) (t_net_ropeTold : Int32) (t_net_lawV : Value) (t_net_takenV : Value) (t_net_namesA : Nat) (t_net_namesN : Nat) (t_net_names : Nat → Int64) (t_heardA : Nat) (t_heard_size : Int32) (t_heard_tiesA : Nat) (t_heard_tiesN : Nat) (t_heard_ties : Nat → Int32) (t_nowA : Nat) (t_now_lineV : Value) (t_now_otherV : Value) (t_now_earlierV : Value) (t_now_laterV : Value) (t_now_aheads : Int32) (t_now_laid : Int32) (t_now_yearA : Nat) (t_now_year_size : Int32) (t_now_year_tiesA : Nat) (t_now_year_tiesN : Nat) (t_now_year_ties : Nat → Int32) : va_W :=
  [(tA, .inr (11, [.ref t_tapeA, .ref t_netA, t_spareNetV, .ref t_heardA, .ref t_nowA, t_marksV, t_pastV, t_pileV, t_knotV, t_secondV, t_trialsV, t_cutterV, t_placingsV, t_ringsV])), (t_tapeA, .inr (9, [.ref t_tape_signsA, .int t_tape_size, .ref t_tape_tokensA, .ref t_tape_startsA, .ref t_tape_valuesA, .int t_tape_count, .int t_tape_here, .int t_tape_fault])), (t_tape_signsA, .inl (cy 0, t_tape_signsN, .inl t_tape_signs)), (t_tape_tokensA, .inl (cy 1, t_tape_tokensN, .inl t_tape_tokens)), (t_tape_startsA, .inl (cy 1, t_tape_startsN, .inl t_tape_starts)), (t_tape_valuesA, .inl (cy 2, t_tape_valuesN, .inr (.inl t_tape_values))), (t_netA, .inr (2, [.ref t_net_namesA, t_net_kindsV, t_net_kinV, t_net_stopsV, t_net_roundsV, .int t_net_folks, .int t_net_pairs, .int t_net_line, .int t_net_rope, .int t_net_lineTold, .int t_net_ropeTold, t_net_lawV, t_net_takenV])), (t_net_namesA, .inl (cy 2, t_net_namesN, .inr (.inl t_net_names))), (t_heardA, .inr (7, [.ref t_heard_tiesA, .int t_heard_size])), (t_heard_tiesA, .inl (cy 1, t_heard_tiesN, .inl t_heard_ties)), (t_nowA, .inr (8, [t_now_lineV, .ref t_now_yearA, t_now_otherV, t_now_earlierV, t_now_laterV, .int t_now_aheads, .int t_now_laid])), (t_now_yearA, .inr (7, [.ref t_now_year_tiesA, .int t_now_year_size])), (t_now_year_tiesA, .inl (cy 1, t_now_year_tiesN, .inl t_now_year_ties))]
noncomputable def bX11_year_L44 (F : Nat) (t_tape_signsN : Nat) (t_tape_signs : Nat → Int32) (t_tape_tokensN : Nat) (t_tape_startsN : Nat) (t_tape_valuesN : Nat) (t_net_folks : Int32) (t_net_namesN : Nat) (t_net_names : Nat → Int64) (t_heard_tiesN : Nat) (t_now_year_tiesN : Nat)  (x1 : Int32) (t_tape_size : Int32) (t_tape_count : Int32) (t_tape_here : Int32) (t_tape_fault : Int32) (t_tape_tokens : Nat → Int32) (t_tape_starts : Nat → Int32) (t_tape_values : Nat → Int64) (t_heard_size : Int32) (t_heard_ties : Nat → Int32) (t_now_year_size : Int32) (t_now_year_ties : Nat → Int32) : Option (Int32 × (Int32) × (Int32) × (Int32) × (Int32) × (Nat → Int32) × (Nat → Int32) × (Nat → Int64) × (Int32) × (Nat → Int32) × (Int32) × (Nat → Int32)) :=
  (fX9_finish F t_tape_fault x1 t_tape_size).bind fun R49 => (some (R49.1, R49.2, t_tape_count, t_tape_here, t_tape_fault, t_tape_tokens, t_tape_starts, t_tape_values, t_heard_size, t_heard_ties, t_now_year_size, t_now_year_ties))
theorem vX11_year_L44 {l : Launch} {D : va_G} {cy : Nat → ClassId} {av : List Value} {ws0 : va_W} {Q : Option Value → va_W → Prop} (F : Nat) (tA : Nat) (t_spareNetV : Value) (t_marksV : Value) (t_pastV : Value) (t_pileV : Value) (t_knotV : Value) (t_secondV : Value) (t_trialsV : Value) (t_cutterV : Value) (t_placingsV : Value) (t_ringsV : Value) (t_tapeA : Nat) (t_tape_signsA : Nat) (t_tape_signsN : Nat) (t_tape_signs : Nat → Int32) (t_tape_tokensA : Nat) (t_tape_tokensN : Nat) (t_tape_startsA : Nat) (t_tape_startsN : Nat) (t_tape_valuesA : Nat) (t_tape_valuesN : Nat) (t_netA : Nat) (t_net_kindsV : Value) (t_net_kinV : Value) (t_net_stopsV : Value) (t_net_roundsV : Value) (t_net_folks : Int32) (t_net_pairs : Int32) (t_net_line : Int32) (t_net_rope : Int32) (t_net_lineTold : Int32) (t_net_ropeTold : Int32) (t_net_lawV : Value) (t_net_takenV : Value) (t_net_namesA : Nat) (t_net_namesN : Nat) (t_net_names : Nat → Int64) (t_heardA : Nat) (t_heard_tiesA : Nat) (t_heard_tiesN : Nat) (t_nowA : Nat) (t_now_lineV : Value) (t_now_otherV : Value) (t_now_earlierV : Value) (t_now_laterV : Value) (t_now_aheads : Int32) (t_now_laid : Int32) (t_now_yearA : Nat) (t_now_year_tiesA : Nat) (t_now_year_tiesN : Nat)  (x1 : Int32) (t_tape_size : Int32) (t_tape_count : Int32) (t_tape_here : Int32) (t_tape_fault : Int32) (t_tape_tokens : Nat → Int32) (t_tape_starts : Nat → Int32) (t_tape_values : Nat → Int64) (t_heard_size : Int32) (t_heard_ties : Nat → Int32) (t_now_year_size : Int32) (t_now_year_ties : Nat → Int32) (R : Int32 × (Int32) × (Int32) × (Int32) × (Int32) × (Nat → Int32) × (Nat → Int32) × (Nat → Int64) × (Int32) × (Nat → Int32) × (Int32) × (Nat → Int32)) (h : bX11_year_L44 F t_tape_signsN t_tape_signs t_tape_tokensN t_tape_startsN t_tape_valuesN t_net_folks t_net_namesN t_net_names t_heard_tiesN t_now_year_tiesN  x1 t_tape_size t_tape_count t_tape_here t_tape_fault t_tape_tokens t_tape_starts t_tape_values t_heard_size t_heard_ties t_now_year_size t_now_year_ties = some R) (hQ : Q (some (.int R.1)) (wX11_year cy tA t_spareNetV t_marksV t_pastV t_pileV t_knotV t_secondV t_trialsV t_cutterV t_placingsV t_ringsV t_tapeA R.2.1 R.2.2.1 R.2.2.2.1 R.2.2.2.2.1 t_tape_signsA t_tape_signsN t_tape_signs t_tape_tokensA t_tape_tokensN R.2.2.2.2.2.1 t_tape_startsA t_tape_startsN R.2.2.2.2.2.2.1 t_tape_valuesA t_tape_valuesN R.2.2.2.2.2.2.2.1 t_netA t_net_kindsV t_net_kinV t_net_stopsV t_net_roundsV t_net_folks t_net_pairs t_net_line t_net_rope t_net_lineTold t_net_ropeTold t_net_lawV t_net_takenV t_net_namesA t_net_namesN t_net_names t_heardA R.2.2.2.2.2.2.2.2.1 t_heard_tiesA t_heard_tiesN R.2.2.2.2.2.2.2.2.2.1 t_nowA t_now_lineV t_now_otherV t_now_earlierV t_now_laterV t_now_aheads t_now_laid t_now_yearA R.2.2.2.2.2.2.2.2.2.2.1 t_now_year_tiesA t_now_year_tiesN R.2.2.2.2.2.2.2.2.2.2.2)) : V l D cy MX11_year 8 0 0 av ws0 Q 44 [(0, .ref tA), (1, .int x1)] [] (wX11_year cy tA t_spareNetV t_marksV t_pastV t_pileV t_knotV t_secondV t_trialsV t_cutterV t_placingsV t_ringsV t_tapeA t_tape_size t_tape_count t_tape_here t_tape_fault t_tape_signsA t_tape_signsN t_tape_signs t_tape_tokensA t_tape_tokensN t_tape_tokens t_tape_startsA t_tape_startsN t_tape_starts t_tape_valuesA t_tape_valuesN t_tape_values t_netA t_net_kindsV t_net_kinV t_net_stopsV t_net_roundsV t_net_folks t_net_pairs t_net_line t_net_rope t_net_lineTold t_net_ropeTold t_net_lawV t_net_takenV t_net_namesA t_net_namesN t_net_names t_heardA t_heard_size t_heard_tiesA t_heard_tiesN t_heard_ties t_nowA t_now_lineV t_now_otherV t_now_earlierV t_now_laterV t_now_aheads t_now_laid t_now_yearA t_now_year_size t_now_year_tiesA t_now_year_tiesN t_now_year_ties) 0 0 := by
  unfold bX11_year_L44 at h
  refine V.aload_n dX11_year_44 rfl 0 rfl ?_
  refine V.get kfX11 0 rfl rfl 0 (by decide) klX11_10 rfl dX11_year_45 ?_
  refine V.iload_n dX11_year_48 rfl 1 rfl ?_
  obtain ⟨R49, hg49, h⟩ := Option.bind_eq_some_iff.mp h
  refine V.callV (As := [.int x1]) (rest := []) (wc := (wX9_finish cy t_tapeA (.ref t_tape_signsA) t_tape_size (.ref t_tape_tokensA) (.ref t_tape_startsA) (.ref t_tape_valuesA) t_tape_count t_tape_here t_tape_fault)) (wr := [(tA, .inr (11, [.ref t_tapeA, .ref t_netA, t_spareNetV, .ref t_heardA, .ref t_nowA, t_marksV, t_pastV, t_pileV, t_knotV, t_secondV, t_trialsV, t_cutterV, t_placingsV, t_ringsV])), (t_tape_signsA, .inl (cy 0, t_tape_signsN, .inl t_tape_signs)), (t_tape_tokensA, .inl (cy 1, t_tape_tokensN, .inl t_tape_tokens)), (t_tape_startsA, .inl (cy 1, t_tape_startsN, .inl t_tape_starts)), (t_tape_valuesA, .inl (cy 2, t_tape_valuesN, .inr (.inl t_tape_values))), (t_netA, .inr (2, [.ref t_net_namesA, t_net_kindsV, t_net_kinV, t_net_stopsV, t_net_roundsV, .int t_net_folks, .int t_net_pairs, .int t_net_line, .int t_net_rope, .int t_net_lineTold, .int t_net_ropeTold, t_net_lawV, t_net_takenV])), (t_net_namesA, .inl (cy 2, t_net_namesN, .inr (.inl t_net_names))), (t_heardA, .inr (7, [.ref t_heard_tiesA, .int t_heard_size])), (t_heard_tiesA, .inl (cy 1, t_heard_tiesN, .inl t_heard_ties)), (t_nowA, .inr (8, [t_now_lineV, .ref t_now_yearA, t_now_otherV, t_now_earlierV, t_now_laterV, .int t_now_aheads, .int t_now_laid])), (t_now_yearA, .inr (7, [.ref t_now_year_tiesA, .int t_now_year_size])), (t_now_year_tiesA, .inl (cy 1, t_now_year_tiesN, .inl t_now_year_ties))]) (q0 := 1) (CX9_finish F t_tapeA (.ref t_tape_signsA) t_tape_size (.ref t_tape_tokensA) (.ref t_tape_startsA) (.ref t_tape_valuesA) t_tape_count t_tape_here t_tape_fault x1 R49 hg49) kvX9_finish klX11_117 [1] [0, 2, 3, 4, 5, 6, 7, 8, 9, 10, 11, 12] rfl rfl (by decide) (by decide) (by decide) rfl rfl rfl rfl dX11_year_49 ⟨by decide, by decide, by decide, by decide⟩ (Nat.le_of_ble_eq_true rfl) (fun r w1 hq => ?_)
  obtain ⟨rfl, rfl⟩ := hq
  refine V.cells (ws' := (wX11_year cy tA t_spareNetV t_marksV t_pastV t_pileV t_knotV t_secondV t_trialsV t_cutterV t_placingsV t_ringsV t_tapeA R49.2 t_tape_count t_tape_here t_tape_fault t_tape_signsA t_tape_signsN t_tape_signs t_tape_tokensA t_tape_tokensN t_tape_tokens t_tape_startsA t_tape_startsN t_tape_starts t_tape_valuesA t_tape_valuesN t_tape_values t_netA t_net_kindsV t_net_kinV t_net_stopsV t_net_roundsV t_net_folks t_net_pairs t_net_line t_net_rope t_net_lineTold t_net_ropeTold t_net_lawV t_net_takenV t_net_namesA t_net_namesN t_net_names t_heardA t_heard_size t_heard_tiesA t_heard_tiesN t_heard_ties t_nowA t_now_lineV t_now_otherV t_now_earlierV t_now_laterV t_now_aheads t_now_laid t_now_yearA t_now_year_size t_now_year_tiesA t_now_year_tiesN t_now_year_ties)) [0, 12, 1, 2, 3, 4, 5, 6, 7, 8, 9, 10, 11] (by decide) rfl ?_
  show V l D cy MX11_year 8 0 0 _ _ _ 52 [(0, .ref tA), (1, .int x1)] [.int R49.1] (wX11_year cy tA t_spareNetV t_marksV t_pastV t_pileV t_knotV t_secondV t_trialsV t_cutterV t_placingsV t_ringsV t_tapeA R49.2 t_tape_count t_tape_here t_tape_fault t_tape_signsA t_tape_signsN t_tape_signs t_tape_tokensA t_tape_tokensN t_tape_tokens t_tape_startsA t_tape_startsN t_tape_starts t_tape_valuesA t_tape_valuesN t_tape_values t_netA t_net_kindsV t_net_kinV t_net_stopsV t_net_roundsV t_net_folks t_net_pairs t_net_line t_net_rope t_net_lineTold t_net_ropeTold t_net_lawV t_net_takenV t_net_namesA t_net_namesN t_net_names t_heardA t_heard_size t_heard_tiesA t_heard_tiesN t_heard_ties t_nowA t_now_lineV t_now_otherV t_now_earlierV t_now_laterV t_now_aheads t_now_laid t_now_yearA t_now_year_size t_now_year_tiesA t_now_year_tiesN t_now_year_ties) 0 0
  have e9 := Option.some.inj h; subst e9
  exact V.iret (ty := .int) rfl rfl dX11_year_52 (Nat.le_refl _) (Nat.le_refl _) hQ
noncomputable def fX11_year (F : Nat) (t_tape_signsN : Nat) (t_tape_signs : Nat → Int32) (t_tape_tokensN : Nat) (t_tape_startsN : Nat) (t_tape_valuesN : Nat) (t_net_folks : Int32) (t_net_namesN : Nat) (t_net_names : Nat → Int64) (t_heard_tiesN : Nat) (t_now_year_tiesN : Nat) (t_tape_size : Int32) (t_tape_count : Int32) (t_tape_here : Int32) (t_tape_fault : Int32) (t_tape_tokens : Nat → Int32) (t_tape_starts : Nat → Int32) (t_tape_values : Nat → Int64) (t_heard_size : Int32) (t_heard_ties : Nat → Int32) (t_now_year_size : Int32) (t_now_year_ties : Nat → Int32) : Option (Int32 × (Int32) × (Int32) × (Int32) × (Int32) × (Nat → Int32) × (Nat → Int32) × (Nat → Int64) × (Int32) × (Nat → Int32) × (Int32) × (Nat → Int32)) :=
  (fX9_begin F t_tape_size t_tape_signsN t_tape_signs t_tape_tokensN t_tape_startsN t_tape_valuesN t_tape_count t_tape_here t_tape_fault t_tape_tokens t_tape_starts t_tape_values).bind fun R4 => ((fX2_readLines F t_net_folks t_net_namesN t_net_names t_tape_size R4.1 t_tape_tokensN R4.2.2.2.1 t_tape_startsN R4.2.2.2.2.1 t_tape_valuesN R4.2.2.2.2.2 t_heard_tiesN (40 : Int32) (1 : Int32) R4.2.1 R4.2.2.1 t_heard_size t_heard_ties).bind fun R22 => (if R22.1 = 0 then (bX11_year_L44 F t_tape_signsN t_tape_signs t_tape_tokensN t_tape_startsN t_tape_valuesN t_net_folks t_net_namesN t_net_names t_heard_tiesN t_now_year_tiesN R22.1 t_tape_size R4.1 R22.2.1 R22.2.2.1 R4.2.2.2.1 R4.2.2.2.2.1 R4.2.2.2.2.2 R22.2.2.2.1 R22.2.2.2.2 t_now_year_size t_now_year_ties) else ((fX7_copyFrom F t_now_year_tiesN R22.2.2.2.1 t_heard_tiesN R22.2.2.2.2 t_now_year_size t_now_year_ties).bind fun R41 => (bX11_year_L44 F t_tape_signsN t_tape_signs t_tape_tokensN t_tape_startsN t_tape_valuesN t_net_folks t_net_namesN t_net_names t_heard_tiesN t_now_year_tiesN R22.1 t_tape_size R4.1 R22.2.1 R22.2.2.1 R4.2.2.2.1 R4.2.2.2.2.1 R4.2.2.2.2.2 R22.2.2.2.1 R22.2.2.2.2 R41.1 R41.2))))
theorem CX11_year {l : Launch} {D : va_G} {cy : Nat → ClassId} (F : Nat) (tA : Nat) (t_spareNetV : Value) (t_marksV : Value) (t_pastV : Value) (t_pileV : Value) (t_knotV : Value) (t_secondV : Value) (t_trialsV : Value) (t_cutterV : Value) (t_placingsV : Value) (t_ringsV : Value) (t_tapeA : Nat) (t_tape_size : Int32) (t_tape_count : Int32) (t_tape_here : Int32) (t_tape_fault : Int32) (t_tape_signsA : Nat) (t_tape_signsN : Nat) (t_tape_signs : Nat → Int32) (t_tape_tokensA : Nat) (t_tape_tokensN : Nat) (t_tape_tokens : Nat → Int32) (t_tape_startsA : Nat) (t_tape_startsN : Nat) (t_tape_starts : Nat → Int32) (t_tape_valuesA : Nat) (t_tape_valuesN : Nat) (t_tape_values : Nat → Int64) (t_netA : Nat) (t_net_kindsV : Value) (t_net_kinV : Value) (t_net_stopsV : Value) (t_net_roundsV : Value) (t_net_folks : Int32) (t_net_pairs : Int32) (t_net_line : Int32) (t_net_rope : Int32) (t_net_lineTold : Int32) (t_net_ropeTold : Int32) (t_net_lawV : Value) (t_net_takenV : Value) (t_net_namesA : Nat) (t_net_namesN : Nat) (t_net_names : Nat → Int64) (t_heardA : Nat) (t_heard_size : Int32) (t_heard_tiesA : Nat) (t_heard_tiesN : Nat) (t_heard_ties : Nat → Int32) (t_nowA : Nat) (t_now_lineV : Value) (t_now_otherV : Value) (t_now_earlierV : Value) (t_now_laterV : Value) (t_now_aheads : Int32) (t_now_laid : Int32) (t_now_yearA : Nat) (t_now_year_size : Int32) (t_now_year_tiesA : Nat) (t_now_year_tiesN : Nat) (t_now_year_ties : Nat → Int32) (R : Int32 × (Int32) × (Int32) × (Int32) × (Int32) × (Nat → Int32) × (Nat → Int32) × (Nat → Int64) × (Int32) × (Nat → Int32) × (Int32) × (Nat → Int32)) (h : fX11_year F t_tape_signsN t_tape_signs t_tape_tokensN t_tape_startsN t_tape_valuesN t_net_folks t_net_namesN t_net_names t_heard_tiesN t_now_year_tiesN t_tape_size t_tape_count t_tape_here t_tape_fault t_tape_tokens t_tape_starts t_tape_values t_heard_size t_heard_ties t_now_year_size t_now_year_ties = some R) : vMet l D cy MX11_year 8 0 0 [.ref tA] (wX11_year cy tA t_spareNetV t_marksV t_pastV t_pileV t_knotV t_secondV t_trialsV t_cutterV t_placingsV t_ringsV t_tapeA t_tape_size t_tape_count t_tape_here t_tape_fault t_tape_signsA t_tape_signsN t_tape_signs t_tape_tokensA t_tape_tokensN t_tape_tokens t_tape_startsA t_tape_startsN t_tape_starts t_tape_valuesA t_tape_valuesN t_tape_values t_netA t_net_kindsV t_net_kinV t_net_stopsV t_net_roundsV t_net_folks t_net_pairs t_net_line t_net_rope t_net_lineTold t_net_ropeTold t_net_lawV t_net_takenV t_net_namesA t_net_namesN t_net_names t_heardA t_heard_size t_heard_tiesA t_heard_tiesN t_heard_ties t_nowA t_now_lineV t_now_otherV t_now_earlierV t_now_laterV t_now_aheads t_now_laid t_now_yearA t_now_year_size t_now_year_tiesA t_now_year_tiesN t_now_year_ties) (fun (r : Option Value) (w : va_W) => r = (some (.int R.1)) ∧ w = (wX11_year cy tA t_spareNetV t_marksV t_pastV t_pileV t_knotV t_secondV t_trialsV t_cutterV t_placingsV t_ringsV t_tapeA R.2.1 R.2.2.1 R.2.2.2.1 R.2.2.2.2.1 t_tape_signsA t_tape_signsN t_tape_signs t_tape_tokensA t_tape_tokensN R.2.2.2.2.2.1 t_tape_startsA t_tape_startsN R.2.2.2.2.2.2.1 t_tape_valuesA t_tape_valuesN R.2.2.2.2.2.2.2.1 t_netA t_net_kindsV t_net_kinV t_net_stopsV t_net_roundsV t_net_folks t_net_pairs t_net_line t_net_rope t_net_lineTold t_net_ropeTold t_net_lawV t_net_takenV t_net_namesA t_net_namesN t_net_names t_heardA R.2.2.2.2.2.2.2.2.1 t_heard_tiesA t_heard_tiesN R.2.2.2.2.2.2.2.2.2.1 t_nowA t_now_lineV t_now_otherV t_now_earlierV t_now_laterV t_now_aheads t_now_laid t_now_yearA R.2.2.2.2.2.2.2.2.2.2.1 t_now_year_tiesA t_now_year_tiesN R.2.2.2.2.2.2.2.2.2.2.2)) := by
  refine vMet.start (by decide +kernel) (Nat.le_of_ble_eq_true rfl) ?_
  generalize hQe : (fun (r : Option Value) (w : va_W) => r = (some (.int R.1)) ∧ w = (wX11_year cy tA t_spareNetV t_marksV t_pastV t_pileV t_knotV t_secondV t_trialsV t_cutterV t_placingsV t_ringsV t_tapeA R.2.1 R.2.2.1 R.2.2.2.1 R.2.2.2.2.1 t_tape_signsA t_tape_signsN t_tape_signs t_tape_tokensA t_tape_tokensN R.2.2.2.2.2.1 t_tape_startsA t_tape_startsN R.2.2.2.2.2.2.1 t_tape_valuesA t_tape_valuesN R.2.2.2.2.2.2.2.1 t_netA t_net_kindsV t_net_kinV t_net_stopsV t_net_roundsV t_net_folks t_net_pairs t_net_line t_net_rope t_net_lineTold t_net_ropeTold t_net_lawV t_net_takenV t_net_namesA t_net_namesN t_net_names t_heardA R.2.2.2.2.2.2.2.2.1 t_heard_tiesA t_heard_tiesN R.2.2.2.2.2.2.2.2.2.1 t_nowA t_now_lineV t_now_otherV t_now_earlierV t_now_laterV t_now_aheads t_now_laid t_now_yearA R.2.2.2.2.2.2.2.2.2.2.1 t_now_year_tiesA t_now_year_tiesN R.2.2.2.2.2.2.2.2.2.2.2)) = Q
  have hQ : Q (some (.int R.1)) (wX11_year cy tA t_spareNetV t_marksV t_pastV t_pileV t_knotV t_secondV t_trialsV t_cutterV t_placingsV t_ringsV t_tapeA R.2.1 R.2.2.1 R.2.2.2.1 R.2.2.2.2.1 t_tape_signsA t_tape_signsN t_tape_signs t_tape_tokensA t_tape_tokensN R.2.2.2.2.2.1 t_tape_startsA t_tape_startsN R.2.2.2.2.2.2.1 t_tape_valuesA t_tape_valuesN R.2.2.2.2.2.2.2.1 t_netA t_net_kindsV t_net_kinV t_net_stopsV t_net_roundsV t_net_folks t_net_pairs t_net_line t_net_rope t_net_lineTold t_net_ropeTold t_net_lawV t_net_takenV t_net_namesA t_net_namesN t_net_names t_heardA R.2.2.2.2.2.2.2.2.1 t_heard_tiesA t_heard_tiesN R.2.2.2.2.2.2.2.2.2.1 t_nowA t_now_lineV t_now_otherV t_now_earlierV t_now_laterV t_now_aheads t_now_laid t_now_yearA R.2.2.2.2.2.2.2.2.2.2.1 t_now_year_tiesA t_now_year_tiesN R.2.2.2.2.2.2.2.2.2.2.2) := by rw [← hQe]; exact ⟨rfl, rfl⟩
  show V l D cy MX11_year 8 0 0 _ _ Q 0 [(0, .ref tA)] [] _ 0 0
  show V l D cy MX11_year 8 0 0 [.ref tA] _ Q 0 [(0, .ref tA)] [] (wX11_year cy tA t_spareNetV t_marksV t_pastV t_pileV t_knotV t_secondV t_trialsV t_cutterV t_placingsV t_ringsV t_tapeA t_tape_size t_tape_count t_tape_here t_tape_fault t_tape_signsA t_tape_signsN t_tape_signs t_tape_tokensA t_tape_tokensN t_tape_tokens t_tape_startsA t_tape_startsN t_tape_starts t_tape_valuesA t_tape_valuesN t_tape_values t_netA t_net_kindsV t_net_kinV t_net_stopsV t_net_roundsV t_net_folks t_net_pairs t_net_line t_net_rope t_net_lineTold t_net_ropeTold t_net_lawV t_net_takenV t_net_namesA t_net_namesN t_net_names t_heardA t_heard_size t_heard_tiesA t_heard_tiesN t_heard_ties t_nowA t_now_lineV t_now_otherV t_now_earlierV t_now_laterV t_now_aheads t_now_laid t_now_yearA t_now_year_size t_now_year_tiesA t_now_year_tiesN t_now_year_ties) 0 0
  unfold fX11_year at h
  refine V.aload_n dX11_year_0 rfl 0 rfl ?_
  refine V.get kfX11 0 rfl rfl 0 (by decide) klX11_10 rfl dX11_year_1 ?_
  obtain ⟨R4, hg4, h⟩ := Option.bind_eq_some_iff.mp h
  refine V.callV (As := []) (rest := []) (wc := (wX9_begin cy t_tapeA t_tape_size t_tape_count t_tape_here t_tape_fault t_tape_signsA t_tape_signsN t_tape_signs t_tape_tokensA t_tape_tokensN t_tape_tokens t_tape_startsA t_tape_startsN t_tape_starts t_tape_valuesA t_tape_valuesN t_tape_values)) (wr := [(tA, .inr (11, [.ref t_tapeA, .ref t_netA, t_spareNetV, .ref t_heardA, .ref t_nowA, t_marksV, t_pastV, t_pileV, t_knotV, t_secondV, t_trialsV, t_cutterV, t_placingsV, t_ringsV])), (t_netA, .inr (2, [.ref t_net_namesA, t_net_kindsV, t_net_kinV, t_net_stopsV, t_net_roundsV, .int t_net_folks, .int t_net_pairs, .int t_net_line, .int t_net_rope, .int t_net_lineTold, .int t_net_ropeTold, t_net_lawV, t_net_takenV])), (t_net_namesA, .inl (cy 2, t_net_namesN, .inr (.inl t_net_names))), (t_heardA, .inr (7, [.ref t_heard_tiesA, .int t_heard_size])), (t_heard_tiesA, .inl (cy 1, t_heard_tiesN, .inl t_heard_ties)), (t_nowA, .inr (8, [t_now_lineV, .ref t_now_yearA, t_now_otherV, t_now_earlierV, t_now_laterV, .int t_now_aheads, .int t_now_laid])), (t_now_yearA, .inr (7, [.ref t_now_year_tiesA, .int t_now_year_size])), (t_now_year_tiesA, .inl (cy 1, t_now_year_tiesN, .inl t_now_year_ties))]) (q0 := 1) (CX9_begin F t_tapeA t_tape_size t_tape_count t_tape_here t_tape_fault t_tape_signsA t_tape_signsN t_tape_signs t_tape_tokensA t_tape_tokensN t_tape_tokens t_tape_startsA t_tape_startsN t_tape_starts t_tape_valuesA t_tape_valuesN t_tape_values R4 hg4) kvX9_begin klX11_102 [1, 2, 3, 4, 5] [0, 6, 7, 8, 9, 10, 11, 12] rfl rfl (by decide) (by decide) (by decide) rfl rfl rfl rfl dX11_year_4 ⟨by decide, by decide, by decide, by decide⟩ (Nat.le_of_ble_eq_true rfl) (fun r w1 hq => ?_)
  obtain ⟨rfl, rfl⟩ := hq
  refine V.cells (ws' := (wX11_year cy tA t_spareNetV t_marksV t_pastV t_pileV t_knotV t_secondV t_trialsV t_cutterV t_placingsV t_ringsV t_tapeA t_tape_size R4.1 R4.2.1 R4.2.2.1 t_tape_signsA t_tape_signsN t_tape_signs t_tape_tokensA t_tape_tokensN R4.2.2.2.1 t_tape_startsA t_tape_startsN R4.2.2.2.2.1 t_tape_valuesA t_tape_valuesN R4.2.2.2.2.2 t_netA t_net_kindsV t_net_kinV t_net_stopsV t_net_roundsV t_net_folks t_net_pairs t_net_line t_net_rope t_net_lineTold t_net_ropeTold t_net_lawV t_net_takenV t_net_namesA t_net_namesN t_net_names t_heardA t_heard_size t_heard_tiesA t_heard_tiesN t_heard_ties t_nowA t_now_lineV t_now_otherV t_now_earlierV t_now_laterV t_now_aheads t_now_laid t_now_yearA t_now_year_size t_now_year_tiesA t_now_year_tiesN t_now_year_ties)) [0, 8, 9, 10, 11, 12, 1, 2, 3, 4, 5, 6, 7] (by decide) rfl ?_
  show V l D cy MX11_year 8 0 0 _ _ _ 7 [(0, .ref tA)] [] (wX11_year cy tA t_spareNetV t_marksV t_pastV t_pileV t_knotV t_secondV t_trialsV t_cutterV t_placingsV t_ringsV t_tapeA t_tape_size R4.1 R4.2.1 R4.2.2.1 t_tape_signsA t_tape_signsN t_tape_signs t_tape_tokensA t_tape_tokensN R4.2.2.2.1 t_tape_startsA t_tape_startsN R4.2.2.2.2.1 t_tape_valuesA t_tape_valuesN R4.2.2.2.2.2 t_netA t_net_kindsV t_net_kinV t_net_stopsV t_net_roundsV t_net_folks t_net_pairs t_net_line t_net_rope t_net_lineTold t_net_ropeTold t_net_lawV t_net_takenV t_net_namesA t_net_namesN t_net_names t_heardA t_heard_size t_heard_tiesA t_heard_tiesN t_heard_ties t_nowA t_now_lineV t_now_otherV t_now_earlierV t_now_laterV t_now_aheads t_now_laid t_now_yearA t_now_year_size t_now_year_tiesA t_now_year_tiesN t_now_year_ties) 0 0
  refine V.aload_n dX11_year_7 rfl 0 rfl ?_
  refine V.get kfX11 0 rfl rfl 1 (by decide) klX11_19 rfl dX11_year_8 ?_
  refine V.aload_n dX11_year_11 rfl 0 rfl ?_
  refine V.get kfX11 0 rfl rfl 0 (by decide) klX11_10 rfl dX11_year_12 ?_
  refine V.aload_n dX11_year_15 rfl 0 rfl ?_
  refine V.get kfX11 0 rfl rfl 3 (by decide) klX11_31 rfl dX11_year_16 ?_
  refine V.bipush (v := (40 : Int32)) dX11_year_19 (by decide) ?_
  refine V.iconst (v := (1 : Int32)) dX11_year_21 (by decide) ?_
  obtain ⟨R22, hg22, h⟩ := Option.bind_eq_some_iff.mp h
  refine V.callV (As := [.ref t_tapeA, .ref t_heardA, .int (40 : Int32), .int (1 : Int32)]) (rest := []) (wc := (wX2_readLines cy t_netA t_net_kindsV t_net_kinV t_net_stopsV t_net_roundsV t_net_folks t_net_pairs t_net_line t_net_rope t_net_lineTold t_net_ropeTold t_net_lawV t_net_takenV t_net_namesA t_net_namesN t_net_names t_tapeA (.ref t_tape_signsA) t_tape_size R4.1 R4.2.1 R4.2.2.1 t_tape_tokensA t_tape_tokensN R4.2.2.2.1 t_tape_startsA t_tape_startsN R4.2.2.2.2.1 t_tape_valuesA t_tape_valuesN R4.2.2.2.2.2 t_heardA t_heard_size t_heard_tiesA t_heard_tiesN t_heard_ties)) (wr := [(tA, .inr (11, [.ref t_tapeA, .ref t_netA, t_spareNetV, .ref t_heardA, .ref t_nowA, t_marksV, t_pastV, t_pileV, t_knotV, t_secondV, t_trialsV, t_cutterV, t_placingsV, t_ringsV])), (t_tape_signsA, .inl (cy 0, t_tape_signsN, .inl t_tape_signs)), (t_nowA, .inr (8, [t_now_lineV, .ref t_now_yearA, t_now_otherV, t_now_earlierV, t_now_laterV, .int t_now_aheads, .int t_now_laid])), (t_now_yearA, .inr (7, [.ref t_now_year_tiesA, .int t_now_year_size])), (t_now_year_tiesA, .inl (cy 1, t_now_year_tiesN, .inl t_now_year_ties))]) (q0 := 6) (CX2_readLines F t_netA t_net_kindsV t_net_kinV t_net_stopsV t_net_roundsV t_net_folks t_net_pairs t_net_line t_net_rope t_net_lineTold t_net_ropeTold t_net_lawV t_net_takenV t_net_namesA t_net_namesN t_net_names t_tapeA (.ref t_tape_signsA) t_tape_size R4.1 R4.2.1 R4.2.2.1 t_tape_tokensA t_tape_tokensN R4.2.2.2.1 t_tape_startsA t_tape_startsN R4.2.2.2.2.1 t_tape_valuesA t_tape_valuesN R4.2.2.2.2.2 t_heardA t_heard_size t_heard_tiesA t_heard_tiesN t_heard_ties (40 : Int32) (1 : Int32) R22 hg22) kvX2_readLines klX11_121 [6, 7, 1, 3, 4, 5, 8, 9] [0, 2, 10, 11, 12] rfl rfl (by decide) (by decide) (by decide) rfl rfl rfl rfl dX11_year_22 ⟨by decide, by decide, by decide, by decide⟩ (Nat.le_of_ble_eq_true rfl) (fun r w1 hq => ?_)
  obtain ⟨rfl, rfl⟩ := hq
  refine V.cells (ws' := (wX11_year cy tA t_spareNetV t_marksV t_pastV t_pileV t_knotV t_secondV t_trialsV t_cutterV t_placingsV t_ringsV t_tapeA t_tape_size R4.1 R22.2.1 R22.2.2.1 t_tape_signsA t_tape_signsN t_tape_signs t_tape_tokensA t_tape_tokensN R4.2.2.2.1 t_tape_startsA t_tape_startsN R4.2.2.2.2.1 t_tape_valuesA t_tape_valuesN R4.2.2.2.2.2 t_netA t_net_kindsV t_net_kinV t_net_stopsV t_net_roundsV t_net_folks t_net_pairs t_net_line t_net_rope t_net_lineTold t_net_ropeTold t_net_lawV t_net_takenV t_net_namesA t_net_namesN t_net_names t_heardA R22.2.2.2.1 t_heard_tiesA t_heard_tiesN R22.2.2.2.2 t_nowA t_now_lineV t_now_otherV t_now_earlierV t_now_laterV t_now_aheads t_now_laid t_now_yearA t_now_year_size t_now_year_tiesA t_now_year_tiesN t_now_year_ties)) [0, 7, 1, 8, 9, 10, 5, 6, 11, 12, 2, 3, 4] (by decide) rfl ?_
  show V l D cy MX11_year 8 0 0 _ _ _ 25 [(0, .ref tA)] [.int R22.1] (wX11_year cy tA t_spareNetV t_marksV t_pastV t_pileV t_knotV t_secondV t_trialsV t_cutterV t_placingsV t_ringsV t_tapeA t_tape_size R4.1 R22.2.1 R22.2.2.1 t_tape_signsA t_tape_signsN t_tape_signs t_tape_tokensA t_tape_tokensN R4.2.2.2.1 t_tape_startsA t_tape_startsN R4.2.2.2.2.1 t_tape_valuesA t_tape_valuesN R4.2.2.2.2.2 t_netA t_net_kindsV t_net_kinV t_net_stopsV t_net_roundsV t_net_folks t_net_pairs t_net_line t_net_rope t_net_lineTold t_net_ropeTold t_net_lawV t_net_takenV t_net_namesA t_net_namesN t_net_names t_heardA R22.2.2.2.1 t_heard_tiesA t_heard_tiesN R22.2.2.2.2 t_nowA t_now_lineV t_now_otherV t_now_earlierV t_now_laterV t_now_aheads t_now_laid t_now_yearA t_now_year_size t_now_year_tiesA t_now_year_tiesN t_now_year_ties) 0 0
  refine V.istore_n (lv' := [(1, .int R22.1), (0, .ref tA)]) dX11_year_25 rfl (by decide) rfl ?_
  refine V.iload_n dX11_year_26 rfl 0 rfl ?_
  refine V.if_eq (tgt := 44) dX11_year_27 (by decide) (fun hc27 => ?_) (fun hc27 => ?_)
  · replace h := (if_pos hc27).symm.trans h
    refine V.lvs [1, 0] rfl ?_
    exact vX11_year_L44 _ _ _ _ _ _ _ _ _ _ _ _ _ _ _ _ _ _ _ _ _ _ _ _ _ _ _ _ _ _ _ _ _ _ _ _ _ _ _ _ _ _ _ _ _ _ _ _ _ _ _   _ _ _ _ _ _ _ _ _ _ _ _ R h hQ
  · replace h := (if_neg hc27).symm.trans h
    refine V.aload_n dX11_year_30 rfl 1 rfl ?_
    refine V.get kfX11 0 rfl rfl 4 (by decide) klX11_38 rfl dX11_year_31 ?_
    refine V.get kfX8 10 rfl rfl 1 (by decide) klX11_125 rfl dX11_year_34 ?_
    refine V.aload_n dX11_year_37 rfl 1 rfl ?_
    refine V.get kfX11 0 rfl rfl 3 (by decide) klX11_31 rfl dX11_year_38 ?_
    obtain ⟨R41, hg41, h⟩ := Option.bind_eq_some_iff.mp h
    refine V.callV (As := [.ref t_heardA]) (rest := []) (wc := (wX7_copyFrom cy t_now_yearA t_now_year_size t_now_year_tiesA t_now_year_tiesN t_now_year_ties t_heardA R22.2.2.2.1 t_heard_tiesA t_heard_tiesN R22.2.2.2.2)) (wr := [(tA, .inr (11, [.ref t_tapeA, .ref t_netA, t_spareNetV, .ref t_heardA, .ref t_nowA, t_marksV, t_pastV, t_pileV, t_knotV, t_secondV, t_trialsV, t_cutterV, t_placingsV, t_ringsV])), (t_tapeA, .inr (9, [.ref t_tape_signsA, .int t_tape_size, .ref t_tape_tokensA, .ref t_tape_startsA, .ref t_tape_valuesA, .int R4.1, .int R22.2.1, .int R22.2.2.1])), (t_tape_signsA, .inl (cy 0, t_tape_signsN, .inl t_tape_signs)), (t_tape_tokensA, .inl (cy 1, t_tape_tokensN, .inl R4.2.2.2.1)), (t_tape_startsA, .inl (cy 1, t_tape_startsN, .inl R4.2.2.2.2.1)), (t_tape_valuesA, .inl (cy 2, t_tape_valuesN, .inr (.inl R4.2.2.2.2.2))), (t_netA, .inr (2, [.ref t_net_namesA, t_net_kindsV, t_net_kinV, t_net_stopsV, t_net_roundsV, .int t_net_folks, .int t_net_pairs, .int t_net_line, .int t_net_rope, .int t_net_lineTold, .int t_net_ropeTold, t_net_lawV, t_net_takenV])), (t_net_namesA, .inl (cy 2, t_net_namesN, .inr (.inl t_net_names))), (t_nowA, .inr (8, [t_now_lineV, .ref t_now_yearA, t_now_otherV, t_now_earlierV, t_now_laterV, .int t_now_aheads, .int t_now_laid]))]) (q0 := 11) (CX7_copyFrom F t_now_yearA t_now_year_size t_now_year_tiesA t_now_year_tiesN t_now_year_ties t_heardA R22.2.2.2.1 t_heard_tiesA t_heard_tiesN R22.2.2.2.2 R41 hg41) kvX7_copyFrom klX11_128 [11, 12, 8, 9] [0, 1, 2, 3, 4, 5, 6, 7, 10] rfl rfl (by decide) (by decide) (by decide) rfl rfl rfl rfl dX11_year_41 ⟨by decide, by decide, by decide, by decide⟩ (Nat.le_of_ble_eq_true rfl) (fun r w1 hq => ?_)
    obtain ⟨rfl, rfl⟩ := hq
    refine V.cells (ws' := (wX11_year cy tA t_spareNetV t_marksV t_pastV t_pileV t_knotV t_secondV t_trialsV t_cutterV t_placingsV t_ringsV t_tapeA t_tape_size R4.1 R22.2.1 R22.2.2.1 t_tape_signsA t_tape_signsN t_tape_signs t_tape_tokensA t_tape_tokensN R4.2.2.2.1 t_tape_startsA t_tape_startsN R4.2.2.2.2.1 t_tape_valuesA t_tape_valuesN R4.2.2.2.2.2 t_netA t_net_kindsV t_net_kinV t_net_stopsV t_net_roundsV t_net_folks t_net_pairs t_net_line t_net_rope t_net_lineTold t_net_ropeTold t_net_lawV t_net_takenV t_net_namesA t_net_namesN t_net_names t_heardA R22.2.2.2.1 t_heard_tiesA t_heard_tiesN R22.2.2.2.2 t_nowA t_now_lineV t_now_otherV t_now_earlierV t_now_laterV t_now_aheads t_now_laid t_now_yearA R41.1 t_now_year_tiesA t_now_year_tiesN R41.2)) [0, 1, 2, 3, 4, 5, 6, 7, 11, 12, 8, 9, 10] (by decide) rfl ?_
    show V l D cy MX11_year 8 0 0 _ _ _ 44 [(1, .int R22.1), (0, .ref tA)] [] (wX11_year cy tA t_spareNetV t_marksV t_pastV t_pileV t_knotV t_secondV t_trialsV t_cutterV t_placingsV t_ringsV t_tapeA t_tape_size R4.1 R22.2.1 R22.2.2.1 t_tape_signsA t_tape_signsN t_tape_signs t_tape_tokensA t_tape_tokensN R4.2.2.2.1 t_tape_startsA t_tape_startsN R4.2.2.2.2.1 t_tape_valuesA t_tape_valuesN R4.2.2.2.2.2 t_netA t_net_kindsV t_net_kinV t_net_stopsV t_net_roundsV t_net_folks t_net_pairs t_net_line t_net_rope t_net_lineTold t_net_ropeTold t_net_lawV t_net_takenV t_net_namesA t_net_namesN t_net_names t_heardA R22.2.2.2.1 t_heard_tiesA t_heard_tiesN R22.2.2.2.2 t_nowA t_now_lineV t_now_otherV t_now_earlierV t_now_laterV t_now_aheads t_now_laid t_now_yearA R41.1 t_now_year_tiesA t_now_year_tiesN R41.2) 0 0
    refine V.lvs [1, 0] rfl ?_
    exact vX11_year_L44 _ _ _ _ _ _ _ _ _ _ _ _ _ _ _ _ _ _ _ _ _ _ _ _ _ _ _ _ _ _ _ _ _ _ _ _ _ _ _ _ _ _ _ _ _ _ _ _ _ _ _   _ _ _ _ _ _ _ _ _ _ _ _ R h hQ
theorem dX11_other_0 : decode cX11_other 0 = .ok (.aload_n 0, 1) := by decide +kernel
theorem dX11_other_1 : decode cX11_other 1 = .ok (.getfield 10, 3) := by decide +kernel
theorem dX11_other_4 : decode cX11_other 4 = .ok (.invokevirtual 102, 3) := by decide +kernel
theorem dX11_other_7 : decode cX11_other 7 = .ok (.aload_n 0, 1) := by decide +kernel
theorem dX11_other_8 : decode cX11_other 8 = .ok (.getfield 19, 3) := by decide +kernel
theorem dX11_other_11 : decode cX11_other 11 = .ok (.aload_n 0, 1) := by decide +kernel
theorem dX11_other_12 : decode cX11_other 12 = .ok (.getfield 10, 3) := by decide +kernel
theorem dX11_other_15 : decode cX11_other 15 = .ok (.aload_n 0, 1) := by decide +kernel
theorem dX11_other_16 : decode cX11_other 16 = .ok (.getfield 31, 3) := by decide +kernel
theorem dX11_other_19 : decode cX11_other 19 = .ok (.bipush 24, 2) := by decide +kernel
theorem dX11_other_21 : decode cX11_other 21 = .ok (.iconst 0, 1) := by decide +kernel
theorem dX11_other_22 : decode cX11_other 22 = .ok (.invokevirtual 121, 3) := by decide +kernel
theorem dX11_other_25 : decode cX11_other 25 = .ok (.istore_n 1, 1) := by decide +kernel
theorem dX11_other_26 : decode cX11_other 26 = .ok (.iload_n 1, 1) := by decide +kernel
theorem dX11_other_27 : decode cX11_other 27 = .ok (.ifCond .eq 17, 3) := by decide +kernel
theorem dX11_other_30 : decode cX11_other 30 = .ok (.aload_n 0, 1) := by decide +kernel
theorem dX11_other_31 : decode cX11_other 31 = .ok (.getfield 38, 3) := by decide +kernel
theorem dX11_other_34 : decode cX11_other 34 = .ok (.getfield 132, 3) := by decide +kernel
theorem dX11_other_37 : decode cX11_other 37 = .ok (.aload_n 0, 1) := by decide +kernel
theorem dX11_other_38 : decode cX11_other 38 = .ok (.getfield 31, 3) := by decide +kernel
theorem dX11_other_41 : decode cX11_other 41 = .ok (.invokevirtual 128, 3) := by decide +kernel
theorem dX11_other_44 : decode cX11_other 44 = .ok (.aload_n 0, 1) := by decide +kernel
theorem dX11_other_45 : decode cX11_other 45 = .ok (.getfield 10, 3) := by decide +kernel
theorem dX11_other_48 : decode cX11_other 48 = .ok (.iload_n 1, 1) := by decide +kernel
theorem dX11_other_49 : decode cX11_other 49 = .ok (.invokevirtual 117, 3) := by decide +kernel
theorem dX11_other_52 : decode cX11_other 52 = .ok (.ireturn, 1) := by decide +kernel
def wX11_other (cy : Nat → ClassId) (tA : Nat) (t_spareNetV : Value) (t_marksV : Value) (t_pastV : Value) (t_pileV : Value) (t_knotV : Value) (t_secondV : Value) (t_trialsV : Value) (t_cutterV : Value) (t_placingsV : Value) (t_ringsV : Value) (t_tapeA : Nat) (t_tape_size : Int32) (t_tape_count : Int32) (t_tape_here : Int32) (t_tape_fault : Int32) (t_tape_signsA : Nat) (t_tape_signsN : Nat) (t_tape_signs : Nat → Int32) (t_tape_tokensA : Nat) (t_tape_tokensN : Nat) (t_tape_tokens : Nat → Int32) (t_tape_startsA : Nat) (t_tape_startsN : Nat) (t_tape_starts : Nat → Int32) (t_tape_valuesA : Nat) (t_tape_valuesN : Nat) (t_tape_values : Nat → Int64) (t_netA : Nat) (t_net_kindsV : Value) (t_net_kinV : Value) (t_net_stopsV : Value) (t_net_roundsV : Value) (t_net_folks : Int32) (t_net_pairs : Int32) (t_net_line : Int32) (t_net_rope : Int32) (t_net_lineTold : Int32) (t_net_ropeTold : Int32) (t_net_lawV : Value) (t_net_takenV : Value) (t_net_namesA : Nat) (t_net_namesN : Nat) (t_net_names : Nat → Int64) (t_heardA : Nat) (t_heard_size : Int32) (t_heard_tiesA : Nat) (t_heard_tiesN : Nat) (t_heard_ties : Nat → Int32) (t_nowA : Nat) (t_now_lineV : Value) (t_now_yearV : Value) (t_now_earlierV : Value) (t_now_laterV : Value) (t_now_aheads : Int32) (t_now_laid : Int32) (t_now_otherA : Nat) (t_now_other_size : Int32) (t_now_other_tiesA : Nat) (t_now_other_tiesN : Nat) (t_now_other_ties : Nat → Int32) : va_W :=
  [(tA, .inr (11, [.ref t_tapeA, .ref t_netA, t_spareNetV, .ref t_heardA, .ref t_nowA, t_marksV, t_pastV, t_pileV, t_knotV, t_secondV, t_trialsV, t_cutterV, t_placingsV, t_ringsV])), (t_tapeA, .inr (9, [.ref t_tape_signsA, .int t_tape_size, .ref t_tape_tokensA, .ref t_tape_startsA, .ref t_tape_valuesA, .int t_tape_count, .int t_tape_here, .int t_tape_fault])), (t_tape_signsA, .inl (cy 0, t_tape_signsN, .inl t_tape_signs)), (t_tape_tokensA, .inl (cy 1, t_tape_tokensN, .inl t_tape_tokens)), (t_tape_startsA, .inl (cy 1, t_tape_startsN, .inl t_tape_starts)), (t_tape_valuesA, .inl (cy 2, t_tape_valuesN, .inr (.inl t_tape_values))), (t_netA, .inr (2, [.ref t_net_namesA, t_net_kindsV, t_net_kinV, t_net_stopsV, t_net_roundsV, .int t_net_folks, .int t_net_pairs, .int t_net_line, .int t_net_rope, .int t_net_lineTold, .int t_net_ropeTold, t_net_lawV, t_net_takenV])), (t_net_namesA, .inl (cy 2, t_net_namesN, .inr (.inl t_net_names))), (t_heardA, .inr (7, [.ref t_heard_tiesA, .int t_heard_size])), (t_heard_tiesA, .inl (cy 1, t_heard_tiesN, .inl t_heard_ties)), (t_nowA, .inr (8, [t_now_lineV, t_now_yearV, .ref t_now_otherA, t_now_earlierV, t_now_laterV, .int t_now_aheads, .int t_now_laid])), (t_now_otherA, .inr (7, [.ref t_now_other_tiesA, .int t_now_other_size])), (t_now_other_tiesA, .inl (cy 1, t_now_other_tiesN, .inl t_now_other_ties))]
noncomputable def bX11_other_L44 (F : Nat) (t_tape_signsN : Nat) (t_tape_signs : Nat → Int32) (t_tape_tokensN : Nat) (t_tape_startsN : Nat) (t_tape_valuesN : Nat) (t_net_folks : Int32) (t_net_namesN : Nat) (t_net_names : Nat → Int64) (t_heard_tiesN : Nat) (t_now_other_tiesN : Nat)  (x1 : Int32) (t_tape_size : Int32) (t_tape_count : Int32) (t_tape_here : Int32) (t_tape_fault : Int32) (t_tape_tokens : Nat → Int32) (t_tape_starts : Nat → Int32) (t_tape_values : Nat → Int64) (t_heard_size : Int32) (t_heard_ties : Nat → Int32) (t_now_other_size : Int32) (t_now_other_ties : Nat → Int32) : Option (Int32 × (Int32) × (Int32) × (Int32) × (Int32) × (Nat → Int32) × (Nat → Int32) × (Nat → Int64) × (Int32) × (Nat → Int32) × (Int32) × (Nat → Int32)) :=
  (fX9_finish F t_tape_fault x1 t_tape_size).bind fun R49 => (some (R49.1, R49.2, t_tape_count, t_tape_here, t_tape_fault, t_tape_tokens, t_tape_starts, t_tape_values, t_heard_size, t_heard_ties, t_now_other_size, t_now_other_ties))
theorem vX11_other_L44 {l : Launch} {D : va_G} {cy : Nat → ClassId} {av : List Value} {ws0 : va_W} {Q : Option Value → va_W → Prop} (F : Nat) (tA : Nat) (t_spareNetV : Value) (t_marksV : Value) (t_pastV : Value) (t_pileV : Value) (t_knotV : Value) (t_secondV : Value) (t_trialsV : Value) (t_cutterV : Value) (t_placingsV : Value) (t_ringsV : Value) (t_tapeA : Nat) (t_tape_signsA : Nat) (t_tape_signsN : Nat) (t_tape_signs : Nat → Int32) (t_tape_tokensA : Nat) (t_tape_tokensN : Nat) (t_tape_startsA : Nat) (t_tape_startsN : Nat) (t_tape_valuesA : Nat) (t_tape_valuesN : Nat) (t_netA : Nat) (t_net_kindsV : Value) (t_net_kinV : Value) (t_net_stopsV : Value) (t_net_roundsV : Value) (t_net_folks : Int32) (t_net_pairs : Int32) (t_net_line : Int32) (t_net_rope : Int32) (t_net_lineTold : Int32) (t_net_ropeTold : Int32) (t_net_lawV : Value) (t_net_takenV : Value) (t_net_namesA : Nat) (t_net_namesN : Nat) (t_net_names : Nat → Int64) (t_heardA : Nat) (t_heard_tiesA : Nat) (t_heard_tiesN : Nat) (t_nowA : Nat) (t_now_lineV : Value) (t_now_yearV : Value) (t_now_earlierV : Value) (t_now_laterV : Value) (t_now_aheads : Int32) (t_now_laid : Int32) (t_now_otherA : Nat) (t_now_other_tiesA : Nat) (t_now_other_tiesN : Nat)  (x1 : Int32) (t_tape_size : Int32) (t_tape_count : Int32) (t_tape_here : Int32) (t_tape_fault : Int32) (t_tape_tokens : Nat → Int32) (t_tape_starts : Nat → Int32) (t_tape_values : Nat → Int64) (t_heard_size : Int32) (t_heard_ties : Nat → Int32) (t_now_other_size : Int32) (t_now_other_ties : Nat → Int32) (R : Int32 × (Int32) × (Int32) × (Int32) × (Int32) × (Nat → Int32) × (Nat → Int32) × (Nat → Int64) × (Int32) × (Nat → Int32) × (Int32) × (Nat → Int32)) (h : bX11_other_L44 F t_tape_signsN t_tape_signs t_tape_tokensN t_tape_startsN t_tape_valuesN t_net_folks t_net_namesN t_net_names t_heard_tiesN t_now_other_tiesN  x1 t_tape_size t_tape_count t_tape_here t_tape_fault t_tape_tokens t_tape_starts t_tape_values t_heard_size t_heard_ties t_now_other_size t_now_other_ties = some R) (hQ : Q (some (.int R.1)) (wX11_other cy tA t_spareNetV t_marksV t_pastV t_pileV t_knotV t_secondV t_trialsV t_cutterV t_placingsV t_ringsV t_tapeA R.2.1 R.2.2.1 R.2.2.2.1 R.2.2.2.2.1 t_tape_signsA t_tape_signsN t_tape_signs t_tape_tokensA t_tape_tokensN R.2.2.2.2.2.1 t_tape_startsA t_tape_startsN R.2.2.2.2.2.2.1 t_tape_valuesA t_tape_valuesN R.2.2.2.2.2.2.2.1 t_netA t_net_kindsV t_net_kinV t_net_stopsV t_net_roundsV t_net_folks t_net_pairs t_net_line t_net_rope t_net_lineTold t_net_ropeTold t_net_lawV t_net_takenV t_net_namesA t_net_namesN t_net_names t_heardA R.2.2.2.2.2.2.2.2.1 t_heard_tiesA t_heard_tiesN R.2.2.2.2.2.2.2.2.2.1 t_nowA t_now_lineV t_now_yearV t_now_earlierV t_now_laterV t_now_aheads t_now_laid t_now_otherA R.2.2.2.2.2.2.2.2.2.2.1 t_now_other_tiesA t_now_other_tiesN R.2.2.2.2.2.2.2.2.2.2.2)) : V l D cy MX11_other 8 0 0 av ws0 Q 44 [(0, .ref tA), (1, .int x1)] [] (wX11_other cy tA t_spareNetV t_marksV t_pastV t_pileV t_knotV t_secondV t_trialsV t_cutterV t_placingsV t_ringsV t_tapeA t_tape_size t_tape_count t_tape_here t_tape_fault t_tape_signsA t_tape_signsN t_tape_signs t_tape_tokensA t_tape_tokensN t_tape_tokens t_tape_startsA t_tape_startsN t_tape_starts t_tape_valuesA t_tape_valuesN t_tape_values t_netA t_net_kindsV t_net_kinV t_net_stopsV t_net_roundsV t_net_folks t_net_pairs t_net_line t_net_rope t_net_lineTold t_net_ropeTold t_net_lawV t_net_takenV t_net_namesA t_net_namesN t_net_names t_heardA t_heard_size t_heard_tiesA t_heard_tiesN t_heard_ties t_nowA t_now_lineV t_now_yearV t_now_earlierV t_now_laterV t_now_aheads t_now_laid t_now_otherA t_now_other_size t_now_other_tiesA t_now_other_tiesN t_now_other_ties) 0 0 := by
  unfold bX11_other_L44 at h
  refine V.aload_n dX11_other_44 rfl 0 rfl ?_
  refine V.get kfX11 0 rfl rfl 0 (by decide) klX11_10 rfl dX11_other_45 ?_
  refine V.iload_n dX11_other_48 rfl 1 rfl ?_
  obtain ⟨R49, hg49, h⟩ := Option.bind_eq_some_iff.mp h
  refine V.callV (As := [.int x1]) (rest := []) (wc := (wX9_finish cy t_tapeA (.ref t_tape_signsA) t_tape_size (.ref t_tape_tokensA) (.ref t_tape_startsA) (.ref t_tape_valuesA) t_tape_count t_tape_here t_tape_fault)) (wr := [(tA, .inr (11, [.ref t_tapeA, .ref t_netA, t_spareNetV, .ref t_heardA, .ref t_nowA, t_marksV, t_pastV, t_pileV, t_knotV, t_secondV, t_trialsV, t_cutterV, t_placingsV, t_ringsV])), (t_tape_signsA, .inl (cy 0, t_tape_signsN, .inl t_tape_signs)), (t_tape_tokensA, .inl (cy 1, t_tape_tokensN, .inl t_tape_tokens)), (t_tape_startsA, .inl (cy 1, t_tape_startsN, .inl t_tape_starts)), (t_tape_valuesA, .inl (cy 2, t_tape_valuesN, .inr (.inl t_tape_values))), (t_netA, .inr (2, [.ref t_net_namesA, t_net_kindsV, t_net_kinV, t_net_stopsV, t_net_roundsV, .int t_net_folks, .int t_net_pairs, .int t_net_line, .int t_net_rope, .int t_net_lineTold, .int t_net_ropeTold, t_net_lawV, t_net_takenV])), (t_net_namesA, .inl (cy 2, t_net_namesN, .inr (.inl t_net_names))), (t_heardA, .inr (7, [.ref t_heard_tiesA, .int t_heard_size])), (t_heard_tiesA, .inl (cy 1, t_heard_tiesN, .inl t_heard_ties)), (t_nowA, .inr (8, [t_now_lineV, t_now_yearV, .ref t_now_otherA, t_now_earlierV, t_now_laterV, .int t_now_aheads, .int t_now_laid])), (t_now_otherA, .inr (7, [.ref t_now_other_tiesA, .int t_now_other_size])), (t_now_other_tiesA, .inl (cy 1, t_now_other_tiesN, .inl t_now_other_ties))]) (q0 := 1) (CX9_finish F t_tapeA (.ref t_tape_signsA) t_tape_size (.ref t_tape_tokensA) (.ref t_tape_startsA) (.ref t_tape_valuesA) t_tape_count t_tape_here t_tape_fault x1 R49 hg49) kvX9_finish klX11_117 [1] [0, 2, 3, 4, 5, 6, 7, 8, 9, 10, 11, 12] rfl rfl (by decide) (by decide) (by decide) rfl rfl rfl rfl dX11_other_49 ⟨by decide, by decide, by decide, by decide⟩ (Nat.le_of_ble_eq_true rfl) (fun r w1 hq => ?_)
  obtain ⟨rfl, rfl⟩ := hq
  refine V.cells (ws' := (wX11_other cy tA t_spareNetV t_marksV t_pastV t_pileV t_knotV t_secondV t_trialsV t_cutterV t_placingsV t_ringsV t_tapeA R49.2 t_tape_count t_tape_here t_tape_fault t_tape_signsA t_tape_signsN t_tape_signs t_tape_tokensA t_tape_tokensN t_tape_tokens t_tape_startsA t_tape_startsN t_tape_starts t_tape_valuesA t_tape_valuesN t_tape_values t_netA t_net_kindsV t_net_kinV t_net_stopsV t_net_roundsV t_net_folks t_net_pairs t_net_line t_net_rope t_net_lineTold t_net_ropeTold t_net_lawV t_net_takenV t_net_namesA t_net_namesN t_net_names t_heardA t_heard_size t_heard_tiesA t_heard_tiesN t_heard_ties t_nowA t_now_lineV t_now_yearV t_now_earlierV t_now_laterV t_now_aheads t_now_laid t_now_otherA t_now_other_size t_now_other_tiesA t_now_other_tiesN t_now_other_ties)) [0, 12, 1, 2, 3, 4, 5, 6, 7, 8, 9, 10, 11] (by decide) rfl ?_
  show V l D cy MX11_other 8 0 0 _ _ _ 52 [(0, .ref tA), (1, .int x1)] [.int R49.1] (wX11_other cy tA t_spareNetV t_marksV t_pastV t_pileV t_knotV t_secondV t_trialsV t_cutterV t_placingsV t_ringsV t_tapeA R49.2 t_tape_count t_tape_here t_tape_fault t_tape_signsA t_tape_signsN t_tape_signs t_tape_tokensA t_tape_tokensN t_tape_tokens t_tape_startsA t_tape_startsN t_tape_starts t_tape_valuesA t_tape_valuesN t_tape_values t_netA t_net_kindsV t_net_kinV t_net_stopsV t_net_roundsV t_net_folks t_net_pairs t_net_line t_net_rope t_net_lineTold t_net_ropeTold t_net_lawV t_net_takenV t_net_namesA t_net_namesN t_net_names t_heardA t_heard_size t_heard_tiesA t_heard_tiesN t_heard_ties t_nowA t_now_lineV t_now_yearV t_now_earlierV t_now_laterV t_now_aheads t_now_laid t_now_otherA t_now_other_size t_now_other_tiesA t_now_other_tiesN t_now_other_ties) 0 0
  have e9 := Option.some.inj h; subst e9
  exact V.iret (ty := .int) rfl rfl dX11_other_52 (Nat.le_refl _) (Nat.le_refl _) hQ
noncomputable def fX11_other (F : Nat) (t_tape_signsN : Nat) (t_tape_signs : Nat → Int32) (t_tape_tokensN : Nat) (t_tape_startsN : Nat) (t_tape_valuesN : Nat) (t_net_folks : Int32) (t_net_namesN : Nat) (t_net_names : Nat → Int64) (t_heard_tiesN : Nat) (t_now_other_tiesN : Nat) (t_tape_size : Int32) (t_tape_count : Int32) (t_tape_here : Int32) (t_tape_fault : Int32) (t_tape_tokens : Nat → Int32) (t_tape_starts : Nat → Int32) (t_tape_values : Nat → Int64) (t_heard_size : Int32) (t_heard_ties : Nat → Int32) (t_now_other_size : Int32) (t_now_other_ties : Nat → Int32) : Option (Int32 × (Int32) × (Int32) × (Int32) × (Int32) × (Nat → Int32) × (Nat → Int32) × (Nat → Int64) × (Int32) × (Nat → Int32) × (Int32) × (Nat → Int32)) :=
  (fX9_begin F t_tape_size t_tape_signsN t_tape_signs t_tape_tokensN t_tape_startsN t_tape_valuesN t_tape_count t_tape_here t_tape_fault t_tape_tokens t_tape_starts t_tape_values).bind fun R4 => ((fX2_readLines F t_net_folks t_net_namesN t_net_names t_tape_size R4.1 t_tape_tokensN R4.2.2.2.1 t_tape_startsN R4.2.2.2.2.1 t_tape_valuesN R4.2.2.2.2.2 t_heard_tiesN (24 : Int32) (0 : Int32) R4.2.1 R4.2.2.1 t_heard_size t_heard_ties).bind fun R22 => (if R22.1 = 0 then (bX11_other_L44 F t_tape_signsN t_tape_signs t_tape_tokensN t_tape_startsN t_tape_valuesN t_net_folks t_net_namesN t_net_names t_heard_tiesN t_now_other_tiesN R22.1 t_tape_size R4.1 R22.2.1 R22.2.2.1 R4.2.2.2.1 R4.2.2.2.2.1 R4.2.2.2.2.2 R22.2.2.2.1 R22.2.2.2.2 t_now_other_size t_now_other_ties) else ((fX7_copyFrom F t_now_other_tiesN R22.2.2.2.1 t_heard_tiesN R22.2.2.2.2 t_now_other_size t_now_other_ties).bind fun R41 => (bX11_other_L44 F t_tape_signsN t_tape_signs t_tape_tokensN t_tape_startsN t_tape_valuesN t_net_folks t_net_namesN t_net_names t_heard_tiesN t_now_other_tiesN R22.1 t_tape_size R4.1 R22.2.1 R22.2.2.1 R4.2.2.2.1 R4.2.2.2.2.1 R4.2.2.2.2.2 R22.2.2.2.1 R22.2.2.2.2 R41.1 R41.2))))
theorem CX11_other {l : Launch} {D : va_G} {cy : Nat → ClassId} (F : Nat) (tA : Nat) (t_spareNetV : Value) (t_marksV : Value) (t_pastV : Value) (t_pileV : Value) (t_knotV : Value) (t_secondV : Value) (t_trialsV : Value) (t_cutterV : Value) (t_placingsV : Value) (t_ringsV : Value) (t_tapeA : Nat) (t_tape_size : Int32) (t_tape_count : Int32) (t_tape_here : Int32) (t_tape_fault : Int32) (t_tape_signsA : Nat) (t_tape_signsN : Nat) (t_tape_signs : Nat → Int32) (t_tape_tokensA : Nat) (t_tape_tokensN : Nat) (t_tape_tokens : Nat → Int32) (t_tape_startsA : Nat) (t_tape_startsN : Nat) (t_tape_starts : Nat → Int32) (t_tape_valuesA : Nat) (t_tape_valuesN : Nat) (t_tape_values : Nat → Int64) (t_netA : Nat) (t_net_kindsV : Value) (t_net_kinV : Value) (t_net_stopsV : Value) (t_net_roundsV : Value) (t_net_folks : Int32) (t_net_pairs : Int32) (t_net_line : Int32) (t_net_rope : Int32) (t_net_lineTold : Int32) (t_net_ropeTold : Int32) (t_net_lawV : Value) (t_net_takenV : Value) (t_net_namesA : Nat) (t_net_namesN : Nat) (t_net_names : Nat → Int64) (t_heardA : Nat) (t_heard_size : Int32) (t_heard_tiesA : Nat) (t_heard_tiesN : Nat) (t_heard_ties : Nat → Int32) (t_nowA : Nat) (t_now_lineV : Value) (t_now_yearV : Value) (t_now_earlierV : Value) (t_now_laterV : Value) (t_now_aheads : Int32) (t_now_laid : Int32) (t_now_otherA : Nat) (t_now_other_size : Int32) (t_now_other_tiesA : Nat) (t_now_other_tiesN : Nat) (t_now_other_ties : Nat → Int32) (R : Int32 × (Int32) × (Int32) × (Int32) × (Int32) × (Nat → Int32) × (Nat → Int32) × (Nat → Int64) × (Int32) × (Nat → Int32) × (Int32) × (Nat → Int32)) (h : fX11_other F t_tape_signsN t_tape_signs t_tape_tokensN t_tape_startsN t_tape_valuesN t_net_folks t_net_namesN t_net_names t_heard_tiesN t_now_other_tiesN t_tape_size t_tape_count t_tape_here t_tape_fault t_tape_tokens t_tape_starts t_tape_values t_heard_size t_heard_ties t_now_other_size t_now_other_ties = some R) : vMet l D cy MX11_other 8 0 0 [.ref tA] (wX11_other cy tA t_spareNetV t_marksV t_pastV t_pileV t_knotV t_secondV t_trialsV t_cutterV t_placingsV t_ringsV t_tapeA t_tape_size t_tape_count t_tape_here t_tape_fault t_tape_signsA t_tape_signsN t_tape_signs t_tape_tokensA t_tape_tokensN t_tape_tokens t_tape_startsA t_tape_startsN t_tape_starts t_tape_valuesA t_tape_valuesN t_tape_values t_netA t_net_kindsV t_net_kinV t_net_stopsV t_net_roundsV t_net_folks t_net_pairs t_net_line t_net_rope t_net_lineTold t_net_ropeTold t_net_lawV t_net_takenV t_net_namesA t_net_namesN t_net_names t_heardA t_heard_size t_heard_tiesA t_heard_tiesN t_heard_ties t_nowA t_now_lineV t_now_yearV t_now_earlierV t_now_laterV t_now_aheads t_now_laid t_now_otherA t_now_other_size t_now_other_tiesA t_now_other_tiesN t_now_other_ties) (fun (r : Option Value) (w : va_W) => r = (some (.int R.1)) ∧ w = (wX11_other cy tA t_spareNetV t_marksV t_pastV t_pileV t_knotV t_secondV t_trialsV t_cutterV t_placingsV t_ringsV t_tapeA R.2.1 R.2.2.1 R.2.2.2.1 R.2.2.2.2.1 t_tape_signsA t_tape_signsN t_tape_signs t_tape_tokensA t_tape_tokensN R.2.2.2.2.2.1 t_tape_startsA t_tape_startsN R.2.2.2.2.2.2.1 t_tape_valuesA t_tape_valuesN R.2.2.2.2.2.2.2.1 t_netA t_net_kindsV t_net_kinV t_net_stopsV t_net_roundsV t_net_folks t_net_pairs t_net_line t_net_rope t_net_lineTold t_net_ropeTold t_net_lawV t_net_takenV t_net_namesA t_net_namesN t_net_names t_heardA R.2.2.2.2.2.2.2.2.1 t_heard_tiesA t_heard_tiesN R.2.2.2.2.2.2.2.2.2.1 t_nowA t_now_lineV t_now_yearV t_now_earlierV t_now_laterV t_now_aheads t_now_laid t_now_otherA R.2.2.2.2.2.2.2.2.2.2.1 t_now_other_tiesA t_now_other_tiesN R.2.2.2.2.2.2.2.2.2.2.2)) := by
  refine vMet.start (by decide +kernel) (Nat.le_of_ble_eq_true rfl) ?_
  generalize hQe : (fun (r : Option Value) (w : va_W) => r = (some (.int R.1)) ∧ w = (wX11_other cy tA t_spareNetV t_marksV t_pastV t_pileV t_knotV t_secondV t_trialsV t_cutterV t_placingsV t_ringsV t_tapeA R.2.1 R.2.2.1 R.2.2.2.1 R.2.2.2.2.1 t_tape_signsA t_tape_signsN t_tape_signs t_tape_tokensA t_tape_tokensN R.2.2.2.2.2.1 t_tape_startsA t_tape_startsN R.2.2.2.2.2.2.1 t_tape_valuesA t_tape_valuesN R.2.2.2.2.2.2.2.1 t_netA t_net_kindsV t_net_kinV t_net_stopsV t_net_roundsV t_net_folks t_net_pairs t_net_line t_net_rope t_net_lineTold t_net_ropeTold t_net_lawV t_net_takenV t_net_namesA t_net_namesN t_net_names t_heardA R.2.2.2.2.2.2.2.2.1 t_heard_tiesA t_heard_tiesN R.2.2.2.2.2.2.2.2.2.1 t_nowA t_now_lineV t_now_yearV t_now_earlierV t_now_laterV t_now_aheads t_now_laid t_now_otherA R.2.2.2.2.2.2.2.2.2.2.1 t_now_other_tiesA t_now_other_tiesN R.2.2.2.2.2.2.2.2.2.2.2)) = Q
  have hQ : Q (some (.int R.1)) (wX11_other cy tA t_spareNetV t_marksV t_pastV t_pileV t_knotV t_secondV t_trialsV t_cutterV t_placingsV t_ringsV t_tapeA R.2.1 R.2.2.1 R.2.2.2.1 R.2.2.2.2.1 t_tape_signsA t_tape_signsN t_tape_signs t_tape_tokensA t_tape_tokensN R.2.2.2.2.2.1 t_tape_startsA t_tape_startsN R.2.2.2.2.2.2.1 t_tape_valuesA t_tape_valuesN R.2.2.2.2.2.2.2.1 t_netA t_net_kindsV t_net_kinV t_net_stopsV t_net_roundsV t_net_folks t_net_pairs t_net_line t_net_rope t_net_lineTold t_net_ropeTold t_net_lawV t_net_takenV t_net_namesA t_net_namesN t_net_names t_heardA R.2.2.2.2.2.2.2.2.1 t_heard_tiesA t_heard_tiesN R.2.2.2.2.2.2.2.2.2.1 t_nowA t_now_lineV t_now_yearV t_now_earlierV t_now_laterV t_now_aheads t_now_laid t_now_otherA R.2.2.2.2.2.2.2.2.2.2.1 t_now_other_tiesA t_now_other_tiesN R.2.2.2.2.2.2.2.2.2.2.2) := by rw [← hQe]; exact ⟨rfl, rfl⟩
  show V l D cy MX11_other 8 0 0 _ _ Q 0 [(0, .ref tA)] [] _ 0 0
  show V l D cy MX11_other 8 0 0 [.ref tA] _ Q 0 [(0, .ref tA)] [] (wX11_other cy tA t_spareNetV t_marksV t_pastV t_pileV t_knotV t_secondV t_trialsV t_cutterV t_placingsV t_ringsV t_tapeA t_tape_size t_tape_count t_tape_here t_tape_fault t_tape_signsA t_tape_signsN t_tape_signs t_tape_tokensA t_tape_tokensN t_tape_tokens t_tape_startsA t_tape_startsN t_tape_starts t_tape_valuesA t_tape_valuesN t_tape_values t_netA t_net_kindsV t_net_kinV t_net_stopsV t_net_roundsV t_net_folks t_net_pairs t_net_line t_net_rope t_net_lineTold t_net_ropeTold t_net_lawV t_net_takenV t_net_namesA t_net_namesN t_net_names t_heardA t_heard_size t_heard_tiesA t_heard_tiesN t_heard_ties t_nowA t_now_lineV t_now_yearV t_now_earlierV t_now_laterV t_now_aheads t_now_laid t_now_otherA t_now_other_size t_now_other_tiesA t_now_other_tiesN t_now_other_ties) 0 0
  unfold fX11_other at h
  refine V.aload_n dX11_other_0 rfl 0 rfl ?_
  refine V.get kfX11 0 rfl rfl 0 (by decide) klX11_10 rfl dX11_other_1 ?_
  obtain ⟨R4, hg4, h⟩ := Option.bind_eq_some_iff.mp h
  refine V.callV (As := []) (rest := []) (wc := (wX9_begin cy t_tapeA t_tape_size t_tape_count t_tape_here t_tape_fault t_tape_signsA t_tape_signsN t_tape_signs t_tape_tokensA t_tape_tokensN t_tape_tokens t_tape_startsA t_tape_startsN t_tape_starts t_tape_valuesA t_tape_valuesN t_tape_values)) (wr := [(tA, .inr (11, [.ref t_tapeA, .ref t_netA, t_spareNetV, .ref t_heardA, .ref t_nowA, t_marksV, t_pastV, t_pileV, t_knotV, t_secondV, t_trialsV, t_cutterV, t_placingsV, t_ringsV])), (t_netA, .inr (2, [.ref t_net_namesA, t_net_kindsV, t_net_kinV, t_net_stopsV, t_net_roundsV, .int t_net_folks, .int t_net_pairs, .int t_net_line, .int t_net_rope, .int t_net_lineTold, .int t_net_ropeTold, t_net_lawV, t_net_takenV])), (t_net_namesA, .inl (cy 2, t_net_namesN, .inr (.inl t_net_names))), (t_heardA, .inr (7, [.ref t_heard_tiesA, .int t_heard_size])), (t_heard_tiesA, .inl (cy 1, t_heard_tiesN, .inl t_heard_ties)), (t_nowA, .inr (8, [t_now_lineV, t_now_yearV, .ref t_now_otherA, t_now_earlierV, t_now_laterV, .int t_now_aheads, .int t_now_laid])), (t_now_otherA, .inr (7, [.ref t_now_other_tiesA, .int t_now_other_size])), (t_now_other_tiesA, .inl (cy 1, t_now_other_tiesN, .inl t_now_other_ties))]) (q0 := 1) (CX9_begin F t_tapeA t_tape_size t_tape_count t_tape_here t_tape_fault t_tape_signsA t_tape_signsN t_tape_signs t_tape_tokensA t_tape_tokensN t_tape_tokens t_tape_startsA t_tape_startsN t_tape_starts t_tape_valuesA t_tape_valuesN t_tape_values R4 hg4) kvX9_begin klX11_102 [1, 2, 3, 4, 5] [0, 6, 7, 8, 9, 10, 11, 12] rfl rfl (by decide) (by decide) (by decide) rfl rfl rfl rfl dX11_other_4 ⟨by decide, by decide, by decide, by decide⟩ (Nat.le_of_ble_eq_true rfl) (fun r w1 hq => ?_)
  obtain ⟨rfl, rfl⟩ := hq
  refine V.cells (ws' := (wX11_other cy tA t_spareNetV t_marksV t_pastV t_pileV t_knotV t_secondV t_trialsV t_cutterV t_placingsV t_ringsV t_tapeA t_tape_size R4.1 R4.2.1 R4.2.2.1 t_tape_signsA t_tape_signsN t_tape_signs t_tape_tokensA t_tape_tokensN R4.2.2.2.1 t_tape_startsA t_tape_startsN R4.2.2.2.2.1 t_tape_valuesA t_tape_valuesN R4.2.2.2.2.2 t_netA t_net_kindsV t_net_kinV t_net_stopsV t_net_roundsV t_net_folks t_net_pairs t_net_line t_net_rope t_net_lineTold t_net_ropeTold t_net_lawV t_net_takenV t_net_namesA t_net_namesN t_net_names t_heardA t_heard_size t_heard_tiesA t_heard_tiesN t_heard_ties t_nowA t_now_lineV t_now_yearV t_now_earlierV t_now_laterV t_now_aheads t_now_laid t_now_otherA t_now_other_size t_now_other_tiesA t_now_other_tiesN t_now_other_ties)) [0, 8, 9, 10, 11, 12, 1, 2, 3, 4, 5, 6, 7] (by decide) rfl ?_
  show V l D cy MX11_other 8 0 0 _ _ _ 7 [(0, .ref tA)] [] (wX11_other cy tA t_spareNetV t_marksV t_pastV t_pileV t_knotV t_secondV t_trialsV t_cutterV t_placingsV t_ringsV t_tapeA t_tape_size R4.1 R4.2.1 R4.2.2.1 t_tape_signsA t_tape_signsN t_tape_signs t_tape_tokensA t_tape_tokensN R4.2.2.2.1 t_tape_startsA t_tape_startsN R4.2.2.2.2.1 t_tape_valuesA t_tape_valuesN R4.2.2.2.2.2 t_netA t_net_kindsV t_net_kinV t_net_stopsV t_net_roundsV t_net_folks t_net_pairs t_net_line t_net_rope t_net_lineTold t_net_ropeTold t_net_lawV t_net_takenV t_net_namesA t_net_namesN t_net_names t_heardA t_heard_size t_heard_tiesA t_heard_tiesN t_heard_ties t_nowA t_now_lineV t_now_yearV t_now_earlierV t_now_laterV t_now_aheads t_now_laid t_now_otherA t_now_other_size t_now_other_tiesA t_now_other_tiesN t_now_other_ties) 0 0
  refine V.aload_n dX11_other_7 rfl 0 rfl ?_
  refine V.get kfX11 0 rfl rfl 1 (by decide) klX11_19 rfl dX11_other_8 ?_
  refine V.aload_n dX11_other_11 rfl 0 rfl ?_
  refine V.get kfX11 0 rfl rfl 0 (by decide) klX11_10 rfl dX11_other_12 ?_
  refine V.aload_n dX11_other_15 rfl 0 rfl ?_
  refine V.get kfX11 0 rfl rfl 3 (by decide) klX11_31 rfl dX11_other_16 ?_
  refine V.bipush (v := (24 : Int32)) dX11_other_19 (by decide) ?_
  refine V.iconst (v := (0 : Int32)) dX11_other_21 (by decide) ?_
  obtain ⟨R22, hg22, h⟩ := Option.bind_eq_some_iff.mp h
  refine V.callV (As := [.ref t_tapeA, .ref t_heardA, .int (24 : Int32), .int (0 : Int32)]) (rest := []) (wc := (wX2_readLines cy t_netA t_net_kindsV t_net_kinV t_net_stopsV t_net_roundsV t_net_folks t_net_pairs t_net_line t_net_rope t_net_lineTold t_net_ropeTold t_net_lawV t_net_takenV t_net_namesA t_net_namesN t_net_names t_tapeA (.ref t_tape_signsA) t_tape_size R4.1 R4.2.1 R4.2.2.1 t_tape_tokensA t_tape_tokensN R4.2.2.2.1 t_tape_startsA t_tape_startsN R4.2.2.2.2.1 t_tape_valuesA t_tape_valuesN R4.2.2.2.2.2 t_heardA t_heard_size t_heard_tiesA t_heard_tiesN t_heard_ties)) (wr := [(tA, .inr (11, [.ref t_tapeA, .ref t_netA, t_spareNetV, .ref t_heardA, .ref t_nowA, t_marksV, t_pastV, t_pileV, t_knotV, t_secondV, t_trialsV, t_cutterV, t_placingsV, t_ringsV])), (t_tape_signsA, .inl (cy 0, t_tape_signsN, .inl t_tape_signs)), (t_nowA, .inr (8, [t_now_lineV, t_now_yearV, .ref t_now_otherA, t_now_earlierV, t_now_laterV, .int t_now_aheads, .int t_now_laid])), (t_now_otherA, .inr (7, [.ref t_now_other_tiesA, .int t_now_other_size])), (t_now_other_tiesA, .inl (cy 1, t_now_other_tiesN, .inl t_now_other_ties))]) (q0 := 6) (CX2_readLines F t_netA t_net_kindsV t_net_kinV t_net_stopsV t_net_roundsV t_net_folks t_net_pairs t_net_line t_net_rope t_net_lineTold t_net_ropeTold t_net_lawV t_net_takenV t_net_namesA t_net_namesN t_net_names t_tapeA (.ref t_tape_signsA) t_tape_size R4.1 R4.2.1 R4.2.2.1 t_tape_tokensA t_tape_tokensN R4.2.2.2.1 t_tape_startsA t_tape_startsN R4.2.2.2.2.1 t_tape_valuesA t_tape_valuesN R4.2.2.2.2.2 t_heardA t_heard_size t_heard_tiesA t_heard_tiesN t_heard_ties (24 : Int32) (0 : Int32) R22 hg22) kvX2_readLines klX11_121 [6, 7, 1, 3, 4, 5, 8, 9] [0, 2, 10, 11, 12] rfl rfl (by decide) (by decide) (by decide) rfl rfl rfl rfl dX11_other_22 ⟨by decide, by decide, by decide, by decide⟩ (Nat.le_of_ble_eq_true rfl) (fun r w1 hq => ?_)
  obtain ⟨rfl, rfl⟩ := hq
  refine V.cells (ws' := (wX11_other cy tA t_spareNetV t_marksV t_pastV t_pileV t_knotV t_secondV t_trialsV t_cutterV t_placingsV t_ringsV t_tapeA t_tape_size R4.1 R22.2.1 R22.2.2.1 t_tape_signsA t_tape_signsN t_tape_signs t_tape_tokensA t_tape_tokensN R4.2.2.2.1 t_tape_startsA t_tape_startsN R4.2.2.2.2.1 t_tape_valuesA t_tape_valuesN R4.2.2.2.2.2 t_netA t_net_kindsV t_net_kinV t_net_stopsV t_net_roundsV t_net_folks t_net_pairs t_net_line t_net_rope t_net_lineTold t_net_ropeTold t_net_lawV t_net_takenV t_net_namesA t_net_namesN t_net_names t_heardA R22.2.2.2.1 t_heard_tiesA t_heard_tiesN R22.2.2.2.2 t_nowA t_now_lineV t_now_yearV t_now_earlierV t_now_laterV t_now_aheads t_now_laid t_now_otherA t_now_other_size t_now_other_tiesA t_now_other_tiesN t_now_other_ties)) [0, 7, 1, 8, 9, 10, 5, 6, 11, 12, 2, 3, 4] (by decide) rfl ?_
  show V l D cy MX11_other 8 0 0 _ _ _ 25 [(0, .ref tA)] [.int R22.1] (wX11_other cy tA t_spareNetV t_marksV t_pastV t_pileV t_knotV t_secondV t_trialsV t_cutterV t_placingsV t_ringsV t_tapeA t_tape_size R4.1 R22.2.1 R22.2.2.1 t_tape_signsA t_tape_signsN t_tape_signs t_tape_tokensA t_tape_tokensN R4.2.2.2.1 t_tape_startsA t_tape_startsN R4.2.2.2.2.1 t_tape_valuesA t_tape_valuesN R4.2.2.2.2.2 t_netA t_net_kindsV t_net_kinV t_net_stopsV t_net_roundsV t_net_folks t_net_pairs t_net_line t_net_rope t_net_lineTold t_net_ropeTold t_net_lawV t_net_takenV t_net_namesA t_net_namesN t_net_names t_heardA R22.2.2.2.1 t_heard_tiesA t_heard_tiesN R22.2.2.2.2 t_nowA t_now_lineV t_now_yearV t_now_earlierV t_now_laterV t_now_aheads t_now_laid t_now_otherA t_now_other_size t_now_other_tiesA t_now_other_tiesN t_now_other_ties) 0 0
  refine V.istore_n (lv' := [(1, .int R22.1), (0, .ref tA)]) dX11_other_25 rfl (by decide) rfl ?_
  refine V.iload_n dX11_other_26 rfl 0 rfl ?_
  refine V.if_eq (tgt := 44) dX11_other_27 (by decide) (fun hc27 => ?_) (fun hc27 => ?_)
  · replace h := (if_pos hc27).symm.trans h
    refine V.lvs [1, 0] rfl ?_
    exact vX11_other_L44 _ _ _ _ _ _ _ _ _ _ _ _ _ _ _ _ _ _ _ _ _ _ _ _ _ _ _ _ _ _ _ _ _ _ _ _ _ _ _ _ _ _ _ _ _ _ _ _ _ _ _   _ _ _ _ _ _ _ _ _ _ _ _ R h hQ
  · replace h := (if_neg hc27).symm.trans h
    refine V.aload_n dX11_other_30 rfl 1 rfl ?_
    refine V.get kfX11 0 rfl rfl 4 (by decide) klX11_38 rfl dX11_other_31 ?_
    refine V.get kfX8 10 rfl rfl 2 (by decide) klX11_132 rfl dX11_other_34 ?_
    refine V.aload_n dX11_other_37 rfl 1 rfl ?_
    refine V.get kfX11 0 rfl rfl 3 (by decide) klX11_31 rfl dX11_other_38 ?_
    obtain ⟨R41, hg41, h⟩ := Option.bind_eq_some_iff.mp h
    refine V.callV (As := [.ref t_heardA]) (rest := []) (wc := (wX7_copyFrom cy t_now_otherA t_now_other_size t_now_other_tiesA t_now_other_tiesN t_now_other_ties t_heardA R22.2.2.2.1 t_heard_tiesA t_heard_tiesN R22.2.2.2.2)) (wr := [(tA, .inr (11, [.ref t_tapeA, .ref t_netA, t_spareNetV, .ref t_heardA, .ref t_nowA, t_marksV, t_pastV, t_pileV, t_knotV, t_secondV, t_trialsV, t_cutterV, t_placingsV, t_ringsV])), (t_tapeA, .inr (9, [.ref t_tape_signsA, .int t_tape_size, .ref t_tape_tokensA, .ref t_tape_startsA, .ref t_tape_valuesA, .int R4.1, .int R22.2.1, .int R22.2.2.1])), (t_tape_signsA, .inl (cy 0, t_tape_signsN, .inl t_tape_signs)), (t_tape_tokensA, .inl (cy 1, t_tape_tokensN, .inl R4.2.2.2.1)), (t_tape_startsA, .inl (cy 1, t_tape_startsN, .inl R4.2.2.2.2.1)), (t_tape_valuesA, .inl (cy 2, t_tape_valuesN, .inr (.inl R4.2.2.2.2.2))), (t_netA, .inr (2, [.ref t_net_namesA, t_net_kindsV, t_net_kinV, t_net_stopsV, t_net_roundsV, .int t_net_folks, .int t_net_pairs, .int t_net_line, .int t_net_rope, .int t_net_lineTold, .int t_net_ropeTold, t_net_lawV, t_net_takenV])), (t_net_namesA, .inl (cy 2, t_net_namesN, .inr (.inl t_net_names))), (t_nowA, .inr (8, [t_now_lineV, t_now_yearV, .ref t_now_otherA, t_now_earlierV, t_now_laterV, .int t_now_aheads, .int t_now_laid]))]) (q0 := 11) (CX7_copyFrom F t_now_otherA t_now_other_size t_now_other_tiesA t_now_other_tiesN t_now_other_ties t_heardA R22.2.2.2.1 t_heard_tiesA t_heard_tiesN R22.2.2.2.2 R41 hg41) kvX7_copyFrom klX11_128 [11, 12, 8, 9] [0, 1, 2, 3, 4, 5, 6, 7, 10] rfl rfl (by decide) (by decide) (by decide) rfl rfl rfl rfl dX11_other_41 ⟨by decide, by decide, by decide, by decide⟩ (Nat.le_of_ble_eq_true rfl) (fun r w1 hq => ?_)
    obtain ⟨rfl, rfl⟩ := hq
    refine V.cells (ws' := (wX11_other cy tA t_spareNetV t_marksV t_pastV t_pileV t_knotV t_secondV t_trialsV t_cutterV t_placingsV t_ringsV t_tapeA t_tape_size R4.1 R22.2.1 R22.2.2.1 t_tape_signsA t_tape_signsN t_tape_signs t_tape_tokensA t_tape_tokensN R4.2.2.2.1 t_tape_startsA t_tape_startsN R4.2.2.2.2.1 t_tape_valuesA t_tape_valuesN R4.2.2.2.2.2 t_netA t_net_kindsV t_net_kinV t_net_stopsV t_net_roundsV t_net_folks t_net_pairs t_net_line t_net_rope t_net_lineTold t_net_ropeTold t_net_lawV t_net_takenV t_net_namesA t_net_namesN t_net_names t_heardA R22.2.2.2.1 t_heard_tiesA t_heard_tiesN R22.2.2.2.2 t_nowA t_now_lineV t_now_yearV t_now_earlierV t_now_laterV t_now_aheads t_now_laid t_now_otherA R41.1 t_now_other_tiesA t_now_other_tiesN R41.2)) [0, 1, 2, 3, 4, 5, 6, 7, 11, 12, 8, 9, 10] (by decide) rfl ?_
    show V l D cy MX11_other 8 0 0 _ _ _ 44 [(1, .int R22.1), (0, .ref tA)] [] (wX11_other cy tA t_spareNetV t_marksV t_pastV t_pileV t_knotV t_secondV t_trialsV t_cutterV t_placingsV t_ringsV t_tapeA t_tape_size R4.1 R22.2.1 R22.2.2.1 t_tape_signsA t_tape_signsN t_tape_signs t_tape_tokensA t_tape_tokensN R4.2.2.2.1 t_tape_startsA t_tape_startsN R4.2.2.2.2.1 t_tape_valuesA t_tape_valuesN R4.2.2.2.2.2 t_netA t_net_kindsV t_net_kinV t_net_stopsV t_net_roundsV t_net_folks t_net_pairs t_net_line t_net_rope t_net_lineTold t_net_ropeTold t_net_lawV t_net_takenV t_net_namesA t_net_namesN t_net_names t_heardA R22.2.2.2.1 t_heard_tiesA t_heard_tiesN R22.2.2.2.2 t_nowA t_now_lineV t_now_yearV t_now_earlierV t_now_laterV t_now_aheads t_now_laid t_now_otherA R41.1 t_now_other_tiesA t_now_other_tiesN R41.2) 0 0
    refine V.lvs [1, 0] rfl ?_
    exact vX11_other_L44 _ _ _ _ _ _ _ _ _ _ _ _ _ _ _ _ _ _ _ _ _ _ _ _ _ _ _ _ _ _ _ _ _ _ _ _ _ _ _ _ _ _ _ _ _ _ _ _ _ _ _   _ _ _ _ _ _ _ _ _ _ _ _ R h hQ
theorem dX2_readNet_0 : decode cX2_readNet 0 = .ok (.aload_n 0, 1) := by decide +kernel
theorem dX2_readNet_1 : decode cX2_readNet 1 = .ok (.invokevirtual 38, 3) := by decide +kernel
theorem dX2_readNet_4 : decode cX2_readNet 4 = .ok (.iconst 0, 1) := by decide +kernel
theorem dX2_readNet_5 : decode cX2_readNet 5 = .ok (.istore_n 2, 1) := by decide +kernel
theorem dX2_readNet_6 : decode cX2_readNet 6 = .ok (.iload_n 2, 1) := by decide +kernel
theorem dX2_readNet_7 : decode cX2_readNet 7 = .ok (.sipush 1000, 3) := by decide +kernel
theorem dX2_readNet_10 : decode cX2_readNet 10 = .ok (.if_icmp .gt 28, 3) := by decide +kernel
theorem dX2_readNet_13 : decode cX2_readNet 13 = .ok (.aload_n 1, 1) := by decide +kernel
theorem dX2_readNet_14 : decode cX2_readNet 14 = .ok (.invokevirtual 118, 3) := by decide +kernel
theorem dX2_readNet_17 : decode cX2_readNet 17 = .ok (.bipush 22, 2) := by decide +kernel
theorem dX2_readNet_19 : decode cX2_readNet 19 = .ok (.if_icmp .eq 19, 3) := by decide +kernel
theorem dX2_readNet_22 : decode cX2_readNet 22 = .ok (.aload_n 0, 1) := by decide +kernel
theorem dX2_readNet_23 : decode cX2_readNet 23 = .ok (.aload_n 1, 1) := by decide +kernel
theorem dX2_readNet_24 : decode cX2_readNet 24 = .ok (.invokevirtual 122, 3) := by decide +kernel
theorem dX2_readNet_27 : decode cX2_readNet 27 = .ok (.ifCond .ne 5, 3) := by decide +kernel
theorem dX2_readNet_30 : decode cX2_readNet 30 = .ok (.iconst 0, 1) := by decide +kernel
theorem dX2_readNet_31 : decode cX2_readNet 31 = .ok (.ireturn, 1) := by decide +kernel
theorem dX2_readNet_32 : decode cX2_readNet 32 = .ok (.iinc 2 1, 3) := by decide +kernel
theorem dX2_readNet_35 : decode cX2_readNet 35 = .ok (.goto (-29), 3) := by decide +kernel
theorem dX2_readNet_38 : decode cX2_readNet 38 = .ok (.aload_n 0, 1) := by decide +kernel
theorem dX2_readNet_39 : decode cX2_readNet 39 = .ok (.invokevirtual 126, 3) := by decide +kernel
theorem dX2_readNet_42 : decode cX2_readNet 42 = .ok (.iconst 1, 1) := by decide +kernel
theorem dX2_readNet_43 : decode cX2_readNet 43 = .ok (.ireturn, 1) := by decide +kernel
def wX2_readNet (cy : Nat → ClassId) (tA : Nat) (t_folks : Int32) (t_pairs : Int32) (t_line : Int32) (t_rope : Int32) (t_lineTold : Int32) (t_ropeTold : Int32) (t_namesA : Nat) (t_namesN : Nat) (t_names : Nat → Int64) (t_kindsA : Nat) (t_kindsN : Nat) (t_kinds : Nat → Int32) (t_kinA : Nat) (t_kinN : Nat) (t_kin : Nat → Int32) (t_stopsA : Nat) (t_stopsN : Nat) (t_stops : Nat → Int32) (t_roundsA : Nat) (t_roundsN : Nat) (t_rounds : Nat → Int32) (t_lawA : Nat) (t_law_size : Int32) (t_law_waits : Int32) (t_law_within : Int32) (t_law_brackets : Int32) (t_law_partIsDue : Int32) (t_law_codeA : Nat) (t_law_codeN : Nat) (t_law_code : Nat → Int32) (t_law_waitingA : Nat) (t_law_waitingN : Nat) (t_law_waiting : Nat → Int32) (t_law_stackA : Nat) (t_law_stackN : Nat) (t_law_stack : Nat → Int32) (t_takenA : Nat) (t_takenN : Nat) (t_taken : Nat → Int32) (p1A : Nat) (p1_signsV : Value) (p1_size : Int32) (p1_count : Int32) (p1_here : Int32) (p1_fault : Int32) (p1_tokensA : Nat) (p1_tokensN : Nat) (p1_tokens : Nat → Int32) (p1_startsA : Nat) (p1_startsN : Nat) (p1_starts : Nat → Int32) (p1_valuesA : Nat) (p1_valuesN : Nat) (p1_values : Nat → Int64) : va_W :=
  [(tA, .inr (2, [.ref t_namesA, .ref t_kindsA, .ref t_kinA, .ref t_stopsA, .ref t_roundsA, .int t_folks, .int t_pairs, .int t_line, .int t_rope, .int t_lineTold, .int t_ropeTold, .ref t_lawA, .ref t_takenA])), (t_namesA, .inl (cy 2, t_namesN, .inr (.inl t_names))), (t_kindsA, .inl (cy 1, t_kindsN, .inl t_kinds)), (t_kinA, .inl (cy 1, t_kinN, .inl t_kin)), (t_stopsA, .inl (cy 1, t_stopsN, .inl t_stops)), (t_roundsA, .inl (cy 1, t_roundsN, .inl t_rounds)), (t_lawA, .inr (1, [.ref t_law_codeA, .int t_law_size, .ref t_law_waitingA, .int t_law_waits, .int t_law_within, .int t_law_brackets, .int t_law_partIsDue, .ref t_law_stackA])), (t_law_codeA, .inl (cy 1, t_law_codeN, .inl t_law_code)), (t_law_waitingA, .inl (cy 1, t_law_waitingN, .inl t_law_waiting)), (t_law_stackA, .inl (cy 1, t_law_stackN, .inl t_law_stack)), (t_takenA, .inl (cy 1, t_takenN, .inl t_taken)), (p1A, .inr (9, [p1_signsV, .int p1_size, .ref p1_tokensA, .ref p1_startsA, .ref p1_valuesA, .int p1_count, .int p1_here, .int p1_fault])), (p1_tokensA, .inl (cy 1, p1_tokensN, .inl p1_tokens)), (p1_startsA, .inl (cy 1, p1_startsN, .inl p1_starts)), (p1_valuesA, .inl (cy 2, p1_valuesN, .inr (.inl p1_values)))]
noncomputable def bX2_readNet_L38 (F : Nat) (t_namesN : Nat) (t_kindsN : Nat) (t_kinN : Nat) (t_stopsN : Nat) (t_roundsN : Nat) (t_law_codeN : Nat) (t_law_waitingN : Nat) (t_law_stackN : Nat) (t_takenN : Nat) (p1_size : Int32) (p1_count : Int32) (p1_tokensN : Nat) (p1_tokens : Nat → Int32) (p1_startsN : Nat) (p1_starts : Nat → Int32) (p1_valuesN : Nat) (p1_values : Nat → Int64)  (t_folks : Int32) (t_pairs : Int32) (t_line : Int32) (t_rope : Int32) (t_lineTold : Int32) (t_ropeTold : Int32) (t_names : Nat → Int64) (t_kinds : Nat → Int32) (t_kin : Nat → Int32) (t_stops : Nat → Int32) (t_rounds : Nat → Int32) (t_law_size : Int32) (t_law_waits : Int32) (t_law_within : Int32) (t_law_brackets : Int32) (t_law_partIsDue : Int32) (t_law_code : Nat → Int32) (t_law_waiting : Nat → Int32) (t_law_stack : Nat → Int32) (t_taken : Nat → Int32) (p1_here : Int32) (p1_fault : Int32) : Option (Int32 × (Int32) × (Int32) × (Int32) × (Int32) × (Int32) × (Int32) × (Nat → Int64) × (Nat → Int32) × (Nat → Int32) × (Nat → Int32) × (Nat → Int32) × (Int32) × (Int32) × (Int32) × (Int32) × (Int32) × (Nat → Int32) × (Nat → Int32) × (Nat → Int32) × (Nat → Int32) × (Int32) × (Int32)) :=
  (fX2_layTaken F t_folks t_line t_kindsN t_kinds t_kinN t_kin t_law_size t_law_codeN t_law_code t_law_stackN t_takenN t_law_stack t_taken).bind fun R39 => (some ((1 : Int32), t_folks, t_pairs, t_line, t_rope, t_lineTold, t_ropeTold, t_names, t_kinds, t_kin, t_stops, t_rounds, t_law_size, t_law_waits, t_law_within, t_law_brackets, t_law_partIsDue, t_law_code, t_law_waiting, R39.1, R39.2, p1_here, p1_fault))
theorem vX2_readNet_L38 {l : Launch} {D : va_G} {cy : Nat → ClassId} {av : List Value} {ws0 : va_W} {Q : Option Value → va_W → Prop} (F : Nat) (tA : Nat) (t_namesA : Nat) (t_namesN : Nat) (t_kindsA : Nat) (t_kindsN : Nat) (t_kinA : Nat) (t_kinN : Nat) (t_stopsA : Nat) (t_stopsN : Nat) (t_roundsA : Nat) (t_roundsN : Nat) (t_lawA : Nat) (t_law_codeA : Nat) (t_law_codeN : Nat) (t_law_waitingA : Nat) (t_law_waitingN : Nat) (t_law_stackA : Nat) (t_law_stackN : Nat) (t_takenA : Nat) (t_takenN : Nat) (p1A : Nat) (p1_signsV : Value) (p1_size : Int32) (p1_count : Int32) (p1_tokensA : Nat) (p1_tokensN : Nat) (p1_tokens : Nat → Int32) (p1_startsA : Nat) (p1_startsN : Nat) (p1_starts : Nat → Int32) (p1_valuesA : Nat) (p1_valuesN : Nat) (p1_values : Nat → Int64)  (t_folks : Int32) (t_pairs : Int32) (t_line : Int32) (t_rope : Int32) (t_lineTold : Int32) (t_ropeTold : Int32) (t_names : Nat → Int64) (t_kinds : Nat → Int32) (t_kin : Nat → Int32) (t_stops : Nat → Int32) (t_rounds : Nat → Int32) (t_law_size : Int32) (t_law_waits : Int32) (t_law_within : Int32) (t_law_brackets : Int32) (t_law_partIsDue : Int32) (t_law_code : Nat → Int32) (t_law_waiting : Nat → Int32) (t_law_stack : Nat → Int32) (t_taken : Nat → Int32) (p1_here : Int32) (p1_fault : Int32) (R : Int32 × (Int32) × (Int32) × (Int32) × (Int32) × (Int32) × (Int32) × (Nat → Int64) × (Nat → Int32) × (Nat → Int32) × (Nat → Int32) × (Nat → Int32) × (Int32) × (Int32) × (Int32) × (Int32) × (Int32) × (Nat → Int32) × (Nat → Int32) × (Nat → Int32) × (Nat → Int32) × (Int32) × (Int32)) (h : bX2_readNet_L38 F t_namesN t_kindsN t_kinN t_stopsN t_roundsN t_law_codeN t_law_waitingN t_law_stackN t_takenN p1_size p1_count p1_tokensN p1_tokens p1_startsN p1_starts p1_valuesN p1_values  t_folks t_pairs t_line t_rope t_lineTold t_ropeTold t_names t_kinds t_kin t_stops t_rounds t_law_size t_law_waits t_law_within t_law_brackets t_law_partIsDue t_law_code t_law_waiting t_law_stack t_taken p1_here p1_fault = some R) (hQ : Q (some (.int R.1)) (wX2_readNet cy tA R.2.1 R.2.2.1 R.2.2.2.1 R.2.2.2.2.1 R.2.2.2.2.2.1 R.2.2.2.2.2.2.1 t_namesA t_namesN R.2.2.2.2.2.2.2.1 t_kindsA t_kindsN R.2.2.2.2.2.2.2.2.1 t_kinA t_kinN R.2.2.2.2.2.2.2.2.2.1 t_stopsA t_stopsN R.2.2.2.2.2.2.2.2.2.2.1 t_roundsA t_roundsN R.2.2.2.2.2.2.2.2.2.2.2.1 t_lawA R.2.2.2.2.2.2.2.2.2.2.2.2.1 R.2.2.2.2.2.2.2.2.2.2.2.2.2.1 R.2.2.2.2.2.2.2.2.2.2.2.2.2.2.1 R.2.2.2.2.2.2.2.2.2.2.2.2.2.2.2.1 R.2.2.2.2.2.2.2.2.2.2.2.2.2.2.2.2.1 t_law_codeA t_law_codeN R.2.2.2.2.2.2.2.2.2.2.2.2.2.2.2.2.2.1 t_law_waitingA t_law_waitingN R.2.2.2.2.2.2.2.2.2.2.2.2.2.2.2.2.2.2.1 t_law_stackA t_law_stackN R.2.2.2.2.2.2.2.2.2.2.2.2.2.2.2.2.2.2.2.1 t_takenA t_takenN R.2.2.2.2.2.2.2.2.2.2.2.2.2.2.2.2.2.2.2.2.1 p1A p1_signsV p1_size p1_count R.2.2.2.2.2.2.2.2.2.2.2.2.2.2.2.2.2.2.2.2.2.1 R.2.2.2.2.2.2.2.2.2.2.2.2.2.2.2.2.2.2.2.2.2.2 p1_tokensA p1_tokensN p1_tokens p1_startsA p1_startsN p1_starts p1_valuesA p1_valuesN p1_values)) : V l D cy MX2_readNet 6 0 0 av ws0 Q 38 [(0, .ref tA)] [] (wX2_readNet cy tA t_folks t_pairs t_line t_rope t_lineTold t_ropeTold t_namesA t_namesN t_names t_kindsA t_kindsN t_kinds t_kinA t_kinN t_kin t_stopsA t_stopsN t_stops t_roundsA t_roundsN t_rounds t_lawA t_law_size t_law_waits t_law_within t_law_brackets t_law_partIsDue t_law_codeA t_law_codeN t_law_code t_law_waitingA t_law_waitingN t_law_waiting t_law_stackA t_law_stackN t_law_stack t_takenA t_takenN t_taken p1A p1_signsV p1_size p1_count p1_here p1_fault p1_tokensA p1_tokensN p1_tokens p1_startsA p1_startsN p1_starts p1_valuesA p1_valuesN p1_values) 0 0 := by
  unfold bX2_readNet_L38 at h
  refine V.aload_n dX2_readNet_38 rfl 0 rfl ?_
  obtain ⟨R39, hg39, h⟩ := Option.bind_eq_some_iff.mp h
  refine V.callV (As := []) (rest := []) (wc := (wX2_layTaken cy tA (.ref t_namesA) (.ref t_stopsA) (.ref t_roundsA) t_folks t_pairs t_line t_rope t_lineTold t_ropeTold t_kindsA t_kindsN t_kinds t_kinA t_kinN t_kin t_lawA t_law_size (.ref t_law_waitingA) t_law_waits t_law_within t_law_brackets t_law_partIsDue t_law_codeA t_law_codeN t_law_code t_law_stackA t_law_stackN t_law_stack t_takenA t_takenN t_taken)) (wr := [(t_namesA, .inl (cy 2, t_namesN, .inr (.inl t_names))), (t_stopsA, .inl (cy 1, t_stopsN, .inl t_stops)), (t_roundsA, .inl (cy 1, t_roundsN, .inl t_rounds)), (t_law_waitingA, .inl (cy 1, t_law_waitingN, .inl t_law_waiting)), (p1A, .inr (9, [p1_signsV, .int p1_size, .ref p1_tokensA, .ref p1_startsA, .ref p1_valuesA, .int p1_count, .int p1_here, .int p1_fault])), (p1_tokensA, .inl (cy 1, p1_tokensN, .inl p1_tokens)), (p1_startsA, .inl (cy 1, p1_startsN, .inl p1_starts)), (p1_valuesA, .inl (cy 2, p1_valuesN, .inr (.inl p1_values)))]) (q0 := 0) (CX2_layTaken F tA (.ref t_namesA) (.ref t_stopsA) (.ref t_roundsA) t_folks t_pairs t_line t_rope t_lineTold t_ropeTold t_kindsA t_kindsN t_kinds t_kinA t_kinN t_kin t_lawA t_law_size (.ref t_law_waitingA) t_law_waits t_law_within t_law_brackets t_law_partIsDue t_law_codeA t_law_codeN t_law_code t_law_stackA t_law_stackN t_law_stack t_takenA t_takenN t_taken R39 hg39) kvX2_layTaken klX2_126 [0, 2, 3, 6, 7, 9, 10] [1, 4, 5, 8, 11, 12, 13, 14] rfl rfl (by decide) (by decide) (by decide) rfl rfl rfl rfl dX2_readNet_39 ⟨by decide, by decide, by decide, by decide⟩ (Nat.le_of_ble_eq_true rfl) (fun r w1 hq => ?_)
  obtain ⟨rfl, rfl⟩ := hq
  refine V.cells (ws' := (wX2_readNet cy tA t_folks t_pairs t_line t_rope t_lineTold t_ropeTold t_namesA t_namesN t_names t_kindsA t_kindsN t_kinds t_kinA t_kinN t_kin t_stopsA t_stopsN t_stops t_roundsA t_roundsN t_rounds t_lawA t_law_size t_law_waits t_law_within t_law_brackets t_law_partIsDue t_law_codeA t_law_codeN t_law_code t_law_waitingA t_law_waitingN t_law_waiting t_law_stackA t_law_stackN R39.1 t_takenA t_takenN R39.2 p1A p1_signsV p1_size p1_count p1_here p1_fault p1_tokensA p1_tokensN p1_tokens p1_startsA p1_startsN p1_starts p1_valuesA p1_valuesN p1_values)) [8, 0, 9, 10, 1, 2, 11, 12, 3, 13, 14, 4, 5, 6, 7] (by decide) rfl ?_
  show V l D cy MX2_readNet 6 0 0 _ _ _ 42 [(0, .ref tA)] [] (wX2_readNet cy tA t_folks t_pairs t_line t_rope t_lineTold t_ropeTold t_namesA t_namesN t_names t_kindsA t_kindsN t_kinds t_kinA t_kinN t_kin t_stopsA t_stopsN t_stops t_roundsA t_roundsN t_rounds t_lawA t_law_size t_law_waits t_law_within t_law_brackets t_law_partIsDue t_law_codeA t_law_codeN t_law_code t_law_waitingA t_law_waitingN t_law_waiting t_law_stackA t_law_stackN R39.1 t_takenA t_takenN R39.2 p1A p1_signsV p1_size p1_count p1_here p1_fault p1_tokensA p1_tokensN p1_tokens p1_startsA p1_startsN p1_starts p1_valuesA p1_valuesN p1_values) 0 0
  refine V.iconst (v := (1 : Int32)) dX2_readNet_42 (by decide) ?_
  have e9 := Option.some.inj h; subst e9
  exact V.iret (ty := .boolean) rfl rfl dX2_readNet_43 (Nat.le_refl _) (Nat.le_refl _) hQ
noncomputable def bX2_readNet_L6 (F : Nat) (t_namesN : Nat) (t_kindsN : Nat) (t_kinN : Nat) (t_stopsN : Nat) (t_roundsN : Nat) (t_law_codeN : Nat) (t_law_waitingN : Nat) (t_law_stackN : Nat) (t_takenN : Nat) (p1_size : Int32) (p1_count : Int32) (p1_tokensN : Nat) (p1_tokens : Nat → Int32) (p1_startsN : Nat) (p1_starts : Nat → Int32) (p1_valuesN : Nat) (p1_values : Nat → Int64) (k6 : Int32 → Int32 → Int32 → Int32 → Int32 → Int32 → Int32 → (Nat → Int64) → (Nat → Int32) → (Nat → Int32) → (Nat → Int32) → (Nat → Int32) → Int32 → Int32 → Int32 → Int32 → Int32 → (Nat → Int32) → (Nat → Int32) → (Nat → Int32) → (Nat → Int32) → Int32 → Int32 → Option (Int32 × (Int32) × (Int32) × (Int32) × (Int32) × (Int32) × (Int32) × (Nat → Int64) × (Nat → Int32) × (Nat → Int32) × (Nat → Int32) × (Nat → Int32) × (Int32) × (Int32) × (Int32) × (Int32) × (Int32) × (Nat → Int32) × (Nat → Int32) × (Nat → Int32) × (Nat → Int32) × (Int32) × (Int32))) (x2 : Int32) (t_folks : Int32) (t_pairs : Int32) (t_line : Int32) (t_rope : Int32) (t_lineTold : Int32) (t_ropeTold : Int32) (t_names : Nat → Int64) (t_kinds : Nat → Int32) (t_kin : Nat → Int32) (t_stops : Nat → Int32) (t_rounds : Nat → Int32) (t_law_size : Int32) (t_law_waits : Int32) (t_law_within : Int32) (t_law_brackets : Int32) (t_law_partIsDue : Int32) (t_law_code : Nat → Int32) (t_law_waiting : Nat → Int32) (t_law_stack : Nat → Int32) (t_taken : Nat → Int32) (p1_here : Int32) (p1_fault : Int32) : Option (Int32 × (Int32) × (Int32) × (Int32) × (Int32) × (Int32) × (Int32) × (Nat → Int64) × (Nat → Int32) × (Nat → Int32) × (Nat → Int32) × (Nat → Int32) × (Int32) × (Int32) × (Int32) × (Int32) × (Int32) × (Nat → Int32) × (Nat → Int32) × (Nat → Int32) × (Nat → Int32) × (Int32) × (Int32)) :=
  if (1000 : Int32) < x2 then (bX2_readNet_L38 F t_namesN t_kindsN t_kinN t_stopsN t_roundsN t_law_codeN t_law_waitingN t_law_stackN t_takenN p1_size p1_count p1_tokensN p1_tokens p1_startsN p1_starts p1_valuesN p1_values t_folks t_pairs t_line t_rope t_lineTold t_ropeTold t_names t_kinds t_kin t_stops t_rounds t_law_size t_law_waits t_law_within t_law_brackets t_law_partIsDue t_law_code t_law_waiting t_law_stack t_taken p1_here p1_fault) else ((fX9_token F p1_count p1_here p1_tokensN p1_tokens).bind fun R14 => (if R14 = (22 : Int32) then (bX2_readNet_L38 F t_namesN t_kindsN t_kinN t_stopsN t_roundsN t_law_codeN t_law_waitingN t_law_stackN t_takenN p1_size p1_count p1_tokensN p1_tokens p1_startsN p1_starts p1_valuesN p1_values t_folks t_pairs t_line t_rope t_lineTold t_ropeTold t_names t_kinds t_kin t_stops t_rounds t_law_size t_law_waits t_law_within t_law_brackets t_law_partIsDue t_law_code t_law_waiting t_law_stack t_taken p1_here p1_fault) else ((fX2_readClause F t_namesN t_kindsN t_kinN t_stopsN t_roundsN t_law_codeN t_law_waitingN p1_size p1_count p1_tokensN p1_tokens p1_startsN p1_starts p1_valuesN p1_values t_folks t_pairs t_line t_rope t_lineTold t_ropeTold t_names t_kinds t_kin t_stops t_rounds t_law_size t_law_waits t_law_within t_law_brackets t_law_partIsDue t_law_code t_law_waiting p1_here p1_fault).bind fun R24 => (if R24.1 = 0 then (some ((0 : Int32), R24.2.1, R24.2.2.1, R24.2.2.2.1, R24.2.2.2.2.1, R24.2.2.2.2.2.1, R24.2.2.2.2.2.2.1, R24.2.2.2.2.2.2.2.1, R24.2.2.2.2.2.2.2.2.1, R24.2.2.2.2.2.2.2.2.2.1, R24.2.2.2.2.2.2.2.2.2.2.1, R24.2.2.2.2.2.2.2.2.2.2.2.1, R24.2.2.2.2.2.2.2.2.2.2.2.2.1, R24.2.2.2.2.2.2.2.2.2.2.2.2.2.1, R24.2.2.2.2.2.2.2.2.2.2.2.2.2.2.1, R24.2.2.2.2.2.2.2.2.2.2.2.2.2.2.2.1, R24.2.2.2.2.2.2.2.2.2.2.2.2.2.2.2.2.1, R24.2.2.2.2.2.2.2.2.2.2.2.2.2.2.2.2.2.1, R24.2.2.2.2.2.2.2.2.2.2.2.2.2.2.2.2.2.2.1, t_law_stack, t_taken, R24.2.2.2.2.2.2.2.2.2.2.2.2.2.2.2.2.2.2.2.1, R24.2.2.2.2.2.2.2.2.2.2.2.2.2.2.2.2.2.2.2.2)) else (k6 (x2 + (1 : Int32)) R24.2.1 R24.2.2.1 R24.2.2.2.1 R24.2.2.2.2.1 R24.2.2.2.2.2.1 R24.2.2.2.2.2.2.1 R24.2.2.2.2.2.2.2.1 R24.2.2.2.2.2.2.2.2.1 R24.2.2.2.2.2.2.2.2.2.1 R24.2.2.2.2.2.2.2.2.2.2.1 R24.2.2.2.2.2.2.2.2.2.2.2.1 R24.2.2.2.2.2.2.2.2.2.2.2.2.1 R24.2.2.2.2.2.2.2.2.2.2.2.2.2.1 R24.2.2.2.2.2.2.2.2.2.2.2.2.2.2.1 R24.2.2.2.2.2.2.2.2.2.2.2.2.2.2.2.1 R24.2.2.2.2.2.2.2.2.2.2.2.2.2.2.2.2.1 R24.2.2.2.2.2.2.2.2.2.2.2.2.2.2.2.2.2.1 R24.2.2.2.2.2.2.2.2.2.2.2.2.2.2.2.2.2.2.1 t_law_stack t_taken R24.2.2.2.2.2.2.2.2.2.2.2.2.2.2.2.2.2.2.2.1 R24.2.2.2.2.2.2.2.2.2.2.2.2.2.2.2.2.2.2.2.2)))))
theorem vbX2_readNet_L6 {l : Launch} {D : va_G} {cy : Nat → ClassId} {av : List Value} {ws0 : va_W} {Q : Option Value → va_W → Prop} (F : Nat) (tA : Nat) (t_namesA : Nat) (t_namesN : Nat) (t_kindsA : Nat) (t_kindsN : Nat) (t_kinA : Nat) (t_kinN : Nat) (t_stopsA : Nat) (t_stopsN : Nat) (t_roundsA : Nat) (t_roundsN : Nat) (t_lawA : Nat) (t_law_codeA : Nat) (t_law_codeN : Nat) (t_law_waitingA : Nat) (t_law_waitingN : Nat) (t_law_stackA : Nat) (t_law_stackN : Nat) (t_takenA : Nat) (t_takenN : Nat) (p1A : Nat) (p1_signsV : Value) (p1_size : Int32) (p1_count : Int32) (p1_tokensA : Nat) (p1_tokensN : Nat) (p1_tokens : Nat → Int32) (p1_startsA : Nat) (p1_startsN : Nat) (p1_starts : Nat → Int32) (p1_valuesA : Nat) (p1_valuesN : Nat) (p1_values : Nat → Int64) (k6 : Int32 → Int32 → Int32 → Int32 → Int32 → Int32 → Int32 → (Nat → Int64) → (Nat → Int32) → (Nat → Int32) → (Nat → Int32) → (Nat → Int32) → Int32 → Int32 → Int32 → Int32 → Int32 → (Nat → Int32) → (Nat → Int32) → (Nat → Int32) → (Nat → Int32) → Int32 → Int32 → Option (Int32 × (Int32) × (Int32) × (Int32) × (Int32) × (Int32) × (Int32) × (Nat → Int64) × (Nat → Int32) × (Nat → Int32) × (Nat → Int32) × (Nat → Int32) × (Int32) × (Int32) × (Int32) × (Int32) × (Int32) × (Nat → Int32) × (Nat → Int32) × (Nat → Int32) × (Nat → Int32) × (Int32) × (Int32))) (hk6 : ∀ (x2 : Int32) (t_folks : Int32) (t_pairs : Int32) (t_line : Int32) (t_rope : Int32) (t_lineTold : Int32) (t_ropeTold : Int32) (t_names : Nat → Int64) (t_kinds : Nat → Int32) (t_kin : Nat → Int32) (t_stops : Nat → Int32) (t_rounds : Nat → Int32) (t_law_size : Int32) (t_law_waits : Int32) (t_law_within : Int32) (t_law_brackets : Int32) (t_law_partIsDue : Int32) (t_law_code : Nat → Int32) (t_law_waiting : Nat → Int32) (t_law_stack : Nat → Int32) (t_taken : Nat → Int32) (p1_here : Int32) (p1_fault : Int32) (R : Int32 × (Int32) × (Int32) × (Int32) × (Int32) × (Int32) × (Int32) × (Nat → Int64) × (Nat → Int32) × (Nat → Int32) × (Nat → Int32) × (Nat → Int32) × (Int32) × (Int32) × (Int32) × (Int32) × (Int32) × (Nat → Int32) × (Nat → Int32) × (Nat → Int32) × (Nat → Int32) × (Int32) × (Int32)), k6 x2 t_folks t_pairs t_line t_rope t_lineTold t_ropeTold t_names t_kinds t_kin t_stops t_rounds t_law_size t_law_waits t_law_within t_law_brackets t_law_partIsDue t_law_code t_law_waiting t_law_stack t_taken p1_here p1_fault = some R → Q (some (.int R.1)) (wX2_readNet cy tA R.2.1 R.2.2.1 R.2.2.2.1 R.2.2.2.2.1 R.2.2.2.2.2.1 R.2.2.2.2.2.2.1 t_namesA t_namesN R.2.2.2.2.2.2.2.1 t_kindsA t_kindsN R.2.2.2.2.2.2.2.2.1 t_kinA t_kinN R.2.2.2.2.2.2.2.2.2.1 t_stopsA t_stopsN R.2.2.2.2.2.2.2.2.2.2.1 t_roundsA t_roundsN R.2.2.2.2.2.2.2.2.2.2.2.1 t_lawA R.2.2.2.2.2.2.2.2.2.2.2.2.1 R.2.2.2.2.2.2.2.2.2.2.2.2.2.1 R.2.2.2.2.2.2.2.2.2.2.2.2.2.2.1 R.2.2.2.2.2.2.2.2.2.2.2.2.2.2.2.1 R.2.2.2.2.2.2.2.2.2.2.2.2.2.2.2.2.1 t_law_codeA t_law_codeN R.2.2.2.2.2.2.2.2.2.2.2.2.2.2.2.2.2.1 t_law_waitingA t_law_waitingN R.2.2.2.2.2.2.2.2.2.2.2.2.2.2.2.2.2.2.1 t_law_stackA t_law_stackN R.2.2.2.2.2.2.2.2.2.2.2.2.2.2.2.2.2.2.2.1 t_takenA t_takenN R.2.2.2.2.2.2.2.2.2.2.2.2.2.2.2.2.2.2.2.2.1 p1A p1_signsV p1_size p1_count R.2.2.2.2.2.2.2.2.2.2.2.2.2.2.2.2.2.2.2.2.2.1 R.2.2.2.2.2.2.2.2.2.2.2.2.2.2.2.2.2.2.2.2.2.2 p1_tokensA p1_tokensN p1_tokens p1_startsA p1_startsN p1_starts p1_valuesA p1_valuesN p1_values) → V l D cy MX2_readNet 6 0 0 av ws0 Q 6 [(0, .ref tA), (1, .ref p1A), (2, .int x2)] [] (wX2_readNet cy tA t_folks t_pairs t_line t_rope t_lineTold t_ropeTold t_namesA t_namesN t_names t_kindsA t_kindsN t_kinds t_kinA t_kinN t_kin t_stopsA t_stopsN t_stops t_roundsA t_roundsN t_rounds t_lawA t_law_size t_law_waits t_law_within t_law_brackets t_law_partIsDue t_law_codeA t_law_codeN t_law_code t_law_waitingA t_law_waitingN t_law_waiting t_law_stackA t_law_stackN t_law_stack t_takenA t_takenN t_taken p1A p1_signsV p1_size p1_count p1_here p1_fault p1_tokensA p1_tokensN p1_tokens p1_startsA p1_startsN p1_starts p1_valuesA p1_valuesN p1_values) 0 0) (x2 : Int32) (t_folks : Int32) (t_pairs : Int32) (t_line : Int32) (t_rope : Int32) (t_lineTold : Int32) (t_ropeTold : Int32) (t_names : Nat → Int64) (t_kinds : Nat → Int32) (t_kin : Nat → Int32) (t_stops : Nat → Int32) (t_rounds : Nat → Int32) (t_law_size : Int32) (t_law_waits : Int32) (t_law_within : Int32) (t_law_brackets : Int32) (t_law_partIsDue : Int32) (t_law_code : Nat → Int32) (t_law_waiting : Nat → Int32) (t_law_stack : Nat → Int32) (t_taken : Nat → Int32) (p1_here : Int32) (p1_fault : Int32) (R : Int32 × (Int32) × (Int32) × (Int32) × (Int32) × (Int32) × (Int32) × (Nat → Int64) × (Nat → Int32) × (Nat → Int32) × (Nat → Int32) × (Nat → Int32) × (Int32) × (Int32) × (Int32) × (Int32) × (Int32) × (Nat → Int32) × (Nat → Int32) × (Nat → Int32) × (Nat → Int32) × (Int32) × (Int32)) (h : bX2_readNet_L6 F t_namesN t_kindsN t_kinN t_stopsN t_roundsN t_law_codeN t_law_waitingN t_law_stackN t_takenN p1_size p1_count p1_tokensN p1_tokens p1_startsN p1_starts p1_valuesN p1_values k6 x2 t_folks t_pairs t_line t_rope t_lineTold t_ropeTold t_names t_kinds t_kin t_stops t_rounds t_law_size t_law_waits t_law_within t_law_brackets t_law_partIsDue t_law_code t_law_waiting t_law_stack t_taken p1_here p1_fault = some R) (hQ : Q (some (.int R.1)) (wX2_readNet cy tA R.2.1 R.2.2.1 R.2.2.2.1 R.2.2.2.2.1 R.2.2.2.2.2.1 R.2.2.2.2.2.2.1 t_namesA t_namesN R.2.2.2.2.2.2.2.1 t_kindsA t_kindsN R.2.2.2.2.2.2.2.2.1 t_kinA t_kinN R.2.2.2.2.2.2.2.2.2.1 t_stopsA t_stopsN R.2.2.2.2.2.2.2.2.2.2.1 t_roundsA t_roundsN R.2.2.2.2.2.2.2.2.2.2.2.1 t_lawA R.2.2.2.2.2.2.2.2.2.2.2.2.1 R.2.2.2.2.2.2.2.2.2.2.2.2.2.1 R.2.2.2.2.2.2.2.2.2.2.2.2.2.2.1 R.2.2.2.2.2.2.2.2.2.2.2.2.2.2.2.1 R.2.2.2.2.2.2.2.2.2.2.2.2.2.2.2.2.1 t_law_codeA t_law_codeN R.2.2.2.2.2.2.2.2.2.2.2.2.2.2.2.2.2.1 t_law_waitingA t_law_waitingN R.2.2.2.2.2.2.2.2.2.2.2.2.2.2.2.2.2.2.1 t_law_stackA t_law_stackN R.2.2.2.2.2.2.2.2.2.2.2.2.2.2.2.2.2.2.2.1 t_takenA t_takenN R.2.2.2.2.2.2.2.2.2.2.2.2.2.2.2.2.2.2.2.2.1 p1A p1_signsV p1_size p1_count R.2.2.2.2.2.2.2.2.2.2.2.2.2.2.2.2.2.2.2.2.2.1 R.2.2.2.2.2.2.2.2.2.2.2.2.2.2.2.2.2.2.2.2.2.2 p1_tokensA p1_tokensN p1_tokens p1_startsA p1_startsN p1_starts p1_valuesA p1_valuesN p1_values)) : V l D cy MX2_readNet 6 0 0 av ws0 Q 6 [(0, .ref tA), (1, .ref p1A), (2, .int x2)] [] (wX2_readNet cy tA t_folks t_pairs t_line t_rope t_lineTold t_ropeTold t_namesA t_namesN t_names t_kindsA t_kindsN t_kinds t_kinA t_kinN t_kin t_stopsA t_stopsN t_stops t_roundsA t_roundsN t_rounds t_lawA t_law_size t_law_waits t_law_within t_law_brackets t_law_partIsDue t_law_codeA t_law_codeN t_law_code t_law_waitingA t_law_waitingN t_law_waiting t_law_stackA t_law_stackN t_law_stack t_takenA t_takenN t_taken p1A p1_signsV p1_size p1_count p1_here p1_fault p1_tokensA p1_tokensN p1_tokens p1_startsA p1_startsN p1_starts p1_valuesA p1_valuesN p1_values) 0 0 := by
  unfold bX2_readNet_L6 at h
  refine V.iload_n dX2_readNet_6 rfl 2 rfl ?_
  refine V.sipush (v := (1000 : Int32)) dX2_readNet_7 (by decide) ?_
  refine V.icmp_gt (tgt := 38) dX2_readNet_10 (by decide) (fun hc10 => ?_) (fun hc10 => ?_)
  · replace h := (if_pos hc10).symm.trans h
    refine V.lvs [0] rfl ?_
    exact vX2_readNet_L38 _ _ _ _ _ _ _ _ _ _ _ _ _ _ _ _ _ _ _ _ _ _ _ _ _ _ _ _ _ _ _ _ _ _   _ _ _ _ _ _ _ _ _ _ _ _ _ _ _ _ _ _ _ _ _ _ R h hQ
  · replace h := (if_neg hc10).symm.trans h
    refine V.aload_n dX2_readNet_13 rfl 1 rfl ?_
    obtain ⟨R14, hg14, h⟩ := Option.bind_eq_some_iff.mp h
    refine V.callV (As := []) (rest := []) (wc := (wX9_token cy p1A p1_signsV p1_size (.ref p1_startsA) (.ref p1_valuesA) p1_count p1_here p1_fault p1_tokensA p1_tokensN p1_tokens)) (wr := [(tA, .inr (2, [.ref t_namesA, .ref t_kindsA, .ref t_kinA, .ref t_stopsA, .ref t_roundsA, .int t_folks, .int t_pairs, .int t_line, .int t_rope, .int t_lineTold, .int t_ropeTold, .ref t_lawA, .ref t_takenA])), (t_namesA, .inl (cy 2, t_namesN, .inr (.inl t_names))), (t_kindsA, .inl (cy 1, t_kindsN, .inl t_kinds)), (t_kinA, .inl (cy 1, t_kinN, .inl t_kin)), (t_stopsA, .inl (cy 1, t_stopsN, .inl t_stops)), (t_roundsA, .inl (cy 1, t_roundsN, .inl t_rounds)), (t_lawA, .inr (1, [.ref t_law_codeA, .int t_law_size, .ref t_law_waitingA, .int t_law_waits, .int t_law_within, .int t_law_brackets, .int t_law_partIsDue, .ref t_law_stackA])), (t_law_codeA, .inl (cy 1, t_law_codeN, .inl t_law_code)), (t_law_waitingA, .inl (cy 1, t_law_waitingN, .inl t_law_waiting)), (t_law_stackA, .inl (cy 1, t_law_stackN, .inl t_law_stack)), (t_takenA, .inl (cy 1, t_takenN, .inl t_taken)), (p1_startsA, .inl (cy 1, p1_startsN, .inl p1_starts)), (p1_valuesA, .inl (cy 2, p1_valuesN, .inr (.inl p1_values)))]) (q0 := 11) (CX9_token F p1A p1_signsV p1_size (.ref p1_startsA) (.ref p1_valuesA) p1_count p1_here p1_fault p1_tokensA p1_tokensN p1_tokens R14 hg14) kvX9_token klX2_118 [11, 12] [0, 1, 2, 3, 4, 5, 6, 7, 8, 9, 10, 13, 14] rfl rfl (by decide) (by decide) (by decide) rfl rfl rfl rfl dX2_readNet_14 ⟨by decide, by decide, by decide, by decide⟩ (Nat.le_of_ble_eq_true rfl) (fun r w1 hq => ?_)
    obtain ⟨rfl, rfl⟩ := hq
    refine V.cells (ws' := (wX2_readNet cy tA t_folks t_pairs t_line t_rope t_lineTold t_ropeTold t_namesA t_namesN t_names t_kindsA t_kindsN t_kinds t_kinA t_kinN t_kin t_stopsA t_stopsN t_stops t_roundsA t_roundsN t_rounds t_lawA t_law_size t_law_waits t_law_within t_law_brackets t_law_partIsDue t_law_codeA t_law_codeN t_law_code t_law_waitingA t_law_waitingN t_law_waiting t_law_stackA t_law_stackN t_law_stack t_takenA t_takenN t_taken p1A p1_signsV p1_size p1_count p1_here p1_fault p1_tokensA p1_tokensN p1_tokens p1_startsA p1_startsN p1_starts p1_valuesA p1_valuesN p1_values)) [0, 1, 2, 3, 4, 5, 6, 7, 8, 9, 10, 13, 14, 11, 12] (by decide) rfl ?_
    show V l D cy MX2_readNet 6 0 0 _ _ _ 17 [(0, .ref tA), (1, .ref p1A), (2, .int x2)] [.int R14] (wX2_readNet cy tA t_folks t_pairs t_line t_rope t_lineTold t_ropeTold t_namesA t_namesN t_names t_kindsA t_kindsN t_kinds t_kinA t_kinN t_kin t_stopsA t_stopsN t_stops t_roundsA t_roundsN t_rounds t_lawA t_law_size t_law_waits t_law_within t_law_brackets t_law_partIsDue t_law_codeA t_law_codeN t_law_code t_law_waitingA t_law_waitingN t_law_waiting t_law_stackA t_law_stackN t_law_stack t_takenA t_takenN t_taken p1A p1_signsV p1_size p1_count p1_here p1_fault p1_tokensA p1_tokensN p1_tokens p1_startsA p1_startsN p1_starts p1_valuesA p1_valuesN p1_values) 0 0
    refine V.bipush (v := (22 : Int32)) dX2_readNet_17 (by decide) ?_
    refine V.icmp_eq (tgt := 38) dX2_readNet_19 (by decide) (fun hc19 => ?_) (fun hc19 => ?_)
    · replace h := (if_pos hc19).symm.trans h
      refine V.lvs [0] rfl ?_
      exact vX2_readNet_L38 _ _ _ _ _ _ _ _ _ _ _ _ _ _ _ _ _ _ _ _ _ _ _ _ _ _ _ _ _ _ _ _ _ _   _ _ _ _ _ _ _ _ _ _ _ _ _ _ _ _ _ _ _ _ _ _ R h hQ
    · replace h := (if_neg hc19).symm.trans h
      refine V.aload_n dX2_readNet_22 rfl 0 rfl ?_
      refine V.aload_n dX2_readNet_23 rfl 1 rfl ?_
      obtain ⟨R24, hg24, h⟩ := Option.bind_eq_some_iff.mp h
      refine V.callV (As := [.ref p1A]) (rest := []) (wc := (wX2_readClause cy tA t_folks t_pairs t_line t_rope t_lineTold t_ropeTold (.ref t_takenA) t_namesA t_namesN t_names t_kindsA t_kindsN t_kinds t_kinA t_kinN t_kin t_stopsA t_stopsN t_stops t_roundsA t_roundsN t_rounds t_lawA t_law_size t_law_waits t_law_within t_law_brackets t_law_partIsDue (.ref t_law_stackA) t_law_codeA t_law_codeN t_law_code t_law_waitingA t_law_waitingN t_law_waiting p1A p1_signsV p1_size p1_count p1_here p1_fault p1_tokensA p1_tokensN p1_tokens p1_startsA p1_startsN p1_starts p1_valuesA p1_valuesN p1_values)) (wr := [(t_law_stackA, .inl (cy 1, t_law_stackN, .inl t_law_stack)), (t_takenA, .inl (cy 1, t_takenN, .inl t_taken))]) (q0 := 0) (CX2_readClause F tA t_folks t_pairs t_line t_rope t_lineTold t_ropeTold (.ref t_takenA) t_namesA t_namesN t_names t_kindsA t_kindsN t_kinds t_kinA t_kinN t_kin t_stopsA t_stopsN t_stops t_roundsA t_roundsN t_rounds t_lawA t_law_size t_law_waits t_law_within t_law_brackets t_law_partIsDue (.ref t_law_stackA) t_law_codeA t_law_codeN t_law_code t_law_waitingA t_law_waitingN t_law_waiting p1A p1_signsV p1_size p1_count p1_here p1_fault p1_tokensA p1_tokensN p1_tokens p1_startsA p1_startsN p1_starts p1_valuesA p1_valuesN p1_values R24 hg24) kvX2_readClause klX2_122 [0, 1, 2, 3, 4, 5, 6, 7, 8, 11, 12, 13, 14] [9, 10] rfl rfl (by decide) (by decide) (by decide) rfl rfl rfl rfl dX2_readNet_24 ⟨by decide, by decide, by decide, by decide⟩ (Nat.le_of_ble_eq_true rfl) (fun r w1 hq => ?_)
      obtain ⟨rfl, rfl⟩ := hq
      refine V.cells (ws' := (wX2_readNet cy tA R24.2.1 R24.2.2.1 R24.2.2.2.1 R24.2.2.2.2.1 R24.2.2.2.2.2.1 R24.2.2.2.2.2.2.1 t_namesA t_namesN R24.2.2.2.2.2.2.2.1 t_kindsA t_kindsN R24.2.2.2.2.2.2.2.2.1 t_kinA t_kinN R24.2.2.2.2.2.2.2.2.2.1 t_stopsA t_stopsN R24.2.2.2.2.2.2.2.2.2.2.1 t_roundsA t_roundsN R24.2.2.2.2.2.2.2.2.2.2.2.1 t_lawA R24.2.2.2.2.2.2.2.2.2.2.2.2.1 R24.2.2.2.2.2.2.2.2.2.2.2.2.2.1 R24.2.2.2.2.2.2.2.2.2.2.2.2.2.2.1 R24.2.2.2.2.2.2.2.2.2.2.2.2.2.2.2.1 R24.2.2.2.2.2.2.2.2.2.2.2.2.2.2.2.2.1 t_law_codeA t_law_codeN R24.2.2.2.2.2.2.2.2.2.2.2.2.2.2.2.2.2.1 t_law_waitingA t_law_waitingN R24.2.2.2.2.2.2.2.2.2.2.2.2.2.2.2.2.2.2.1 t_law_stackA t_law_stackN t_law_stack t_takenA t_takenN t_taken p1A p1_signsV p1_size p1_count R24.2.2.2.2.2.2.2.2.2.2.2.2.2.2.2.2.2.2.2.1 R24.2.2.2.2.2.2.2.2.2.2.2.2.2.2.2.2.2.2.2.2 p1_tokensA p1_tokensN p1_tokens p1_startsA p1_startsN p1_starts p1_valuesA p1_valuesN p1_values)) [2, 3, 4, 5, 6, 7, 8, 9, 10, 0, 1, 11, 12, 13, 14] (by decide) rfl ?_
      show V l D cy MX2_readNet 6 0 0 _ _ _ 27 [(0, .ref tA), (1, .ref p1A), (2, .int x2)] [.int R24.1] (wX2_readNet cy tA R24.2.1 R24.2.2.1 R24.2.2.2.1 R24.2.2.2.2.1 R24.2.2.2.2.2.1 R24.2.2.2.2.2.2.1 t_namesA t_namesN R24.2.2.2.2.2.2.2.1 t_kindsA t_kindsN R24.2.2.2.2.2.2.2.2.1 t_kinA t_kinN R24.2.2.2.2.2.2.2.2.2.1 t_stopsA t_stopsN R24.2.2.2.2.2.2.2.2.2.2.1 t_roundsA t_roundsN R24.2.2.2.2.2.2.2.2.2.2.2.1 t_lawA R24.2.2.2.2.2.2.2.2.2.2.2.2.1 R24.2.2.2.2.2.2.2.2.2.2.2.2.2.1 R24.2.2.2.2.2.2.2.2.2.2.2.2.2.2.1 R24.2.2.2.2.2.2.2.2.2.2.2.2.2.2.2.1 R24.2.2.2.2.2.2.2.2.2.2.2.2.2.2.2.2.1 t_law_codeA t_law_codeN R24.2.2.2.2.2.2.2.2.2.2.2.2.2.2.2.2.2.1 t_law_waitingA t_law_waitingN R24.2.2.2.2.2.2.2.2.2.2.2.2.2.2.2.2.2.2.1 t_law_stackA t_law_stackN t_law_stack t_takenA t_takenN t_taken p1A p1_signsV p1_size p1_count R24.2.2.2.2.2.2.2.2.2.2.2.2.2.2.2.2.2.2.2.1 R24.2.2.2.2.2.2.2.2.2.2.2.2.2.2.2.2.2.2.2.2 p1_tokensA p1_tokensN p1_tokens p1_startsA p1_startsN p1_starts p1_valuesA p1_valuesN p1_values) 0 0
      refine V.if_ne (tgt := 32) dX2_readNet_27 (by decide) (fun hc27 => ?_) (fun hc27 => ?_)
      · replace h := (if_neg hc27).symm.trans h
        refine V.iinc (v := x2 + (1 : Int32)) (lv' := [(2, .int (x2 + (1 : Int32))), (0, .ref tA), (1, .ref p1A)]) dX2_readNet_32 2 rfl rfl (by decide) rfl ?_
        refine V.goto (tgt := 6) dX2_readNet_35 (by decide) ?_
        refine V.lvs [1, 2, 0] rfl ?_
        exact hk6 _ _ _ _ _ _ _ _ _ _ _ _ _ _ _ _ _ _ _ _ _ _ _ R h hQ
      · replace h := (if_pos hc27).symm.trans h
        refine V.iconst (v := (0 : Int32)) dX2_readNet_30 (by decide) ?_
        have e9 := Option.some.inj h; subst e9
        exact V.iret (ty := .boolean) rfl rfl dX2_readNet_31 (Nat.le_refl _) (Nat.le_refl _) hQ
noncomputable def fX2_readNet_L6 (F : Nat) (t_namesN : Nat) (t_kindsN : Nat) (t_kinN : Nat) (t_stopsN : Nat) (t_roundsN : Nat) (t_law_codeN : Nat) (t_law_waitingN : Nat) (t_law_stackN : Nat) (t_takenN : Nat) (p1_size : Int32) (p1_count : Int32) (p1_tokensN : Nat) (p1_tokens : Nat → Int32) (p1_startsN : Nat) (p1_starts : Nat → Int32) (p1_valuesN : Nat) (p1_values : Nat → Int64)  : Nat → Int32 → Int32 → Int32 → Int32 → Int32 → Int32 → Int32 → (Nat → Int64) → (Nat → Int32) → (Nat → Int32) → (Nat → Int32) → (Nat → Int32) → Int32 → Int32 → Int32 → Int32 → Int32 → (Nat → Int32) → (Nat → Int32) → (Nat → Int32) → (Nat → Int32) → Int32 → Int32 → Option (Int32 × (Int32) × (Int32) × (Int32) × (Int32) × (Int32) × (Int32) × (Nat → Int64) × (Nat → Int32) × (Nat → Int32) × (Nat → Int32) × (Nat → Int32) × (Int32) × (Int32) × (Int32) × (Int32) × (Int32) × (Nat → Int32) × (Nat → Int32) × (Nat → Int32) × (Nat → Int32) × (Int32) × (Int32))
  | 0 => fun _ _ _ _ _ _ _ _ _ _ _ _ _ _ _ _ _ _ _ _ _ _ _ => none
  | n + 1 => bX2_readNet_L6 F t_namesN t_kindsN t_kinN t_stopsN t_roundsN t_law_codeN t_law_waitingN t_law_stackN t_takenN p1_size p1_count p1_tokensN p1_tokens p1_startsN p1_starts p1_valuesN p1_values (fX2_readNet_L6 F t_namesN t_kindsN t_kinN t_stopsN t_roundsN t_law_codeN t_law_waitingN t_law_stackN t_takenN p1_size p1_count p1_tokensN p1_tokens p1_startsN p1_starts p1_valuesN p1_values  n)
theorem vX2_readNet_L6 {l : Launch} {D : va_G} {cy : Nat → ClassId} {av : List Value} {ws0 : va_W} {Q : Option Value → va_W → Prop} (F : Nat) (tA : Nat) (t_namesA : Nat) (t_namesN : Nat) (t_kindsA : Nat) (t_kindsN : Nat) (t_kinA : Nat) (t_kinN : Nat) (t_stopsA : Nat) (t_stopsN : Nat) (t_roundsA : Nat) (t_roundsN : Nat) (t_lawA : Nat) (t_law_codeA : Nat) (t_law_codeN : Nat) (t_law_waitingA : Nat) (t_law_waitingN : Nat) (t_law_stackA : Nat) (t_law_stackN : Nat) (t_takenA : Nat) (t_takenN : Nat) (p1A : Nat) (p1_signsV : Value) (p1_size : Int32) (p1_count : Int32) (p1_tokensA : Nat) (p1_tokensN : Nat) (p1_tokens : Nat → Int32) (p1_startsA : Nat) (p1_startsN : Nat) (p1_starts : Nat → Int32) (p1_valuesA : Nat) (p1_valuesN : Nat) (p1_values : Nat → Int64)  : ∀ (n : Nat) (x2 : Int32) (t_folks : Int32) (t_pairs : Int32) (t_line : Int32) (t_rope : Int32) (t_lineTold : Int32) (t_ropeTold : Int32) (t_names : Nat → Int64) (t_kinds : Nat → Int32) (t_kin : Nat → Int32) (t_stops : Nat → Int32) (t_rounds : Nat → Int32) (t_law_size : Int32) (t_law_waits : Int32) (t_law_within : Int32) (t_law_brackets : Int32) (t_law_partIsDue : Int32) (t_law_code : Nat → Int32) (t_law_waiting : Nat → Int32) (t_law_stack : Nat → Int32) (t_taken : Nat → Int32) (p1_here : Int32) (p1_fault : Int32) (R : Int32 × (Int32) × (Int32) × (Int32) × (Int32) × (Int32) × (Int32) × (Nat → Int64) × (Nat → Int32) × (Nat → Int32) × (Nat → Int32) × (Nat → Int32) × (Int32) × (Int32) × (Int32) × (Int32) × (Int32) × (Nat → Int32) × (Nat → Int32) × (Nat → Int32) × (Nat → Int32) × (Int32) × (Int32)), fX2_readNet_L6 F t_namesN t_kindsN t_kinN t_stopsN t_roundsN t_law_codeN t_law_waitingN t_law_stackN t_takenN p1_size p1_count p1_tokensN p1_tokens p1_startsN p1_starts p1_valuesN p1_values  n x2 t_folks t_pairs t_line t_rope t_lineTold t_ropeTold t_names t_kinds t_kin t_stops t_rounds t_law_size t_law_waits t_law_within t_law_brackets t_law_partIsDue t_law_code t_law_waiting t_law_stack t_taken p1_here p1_fault = some R → Q (some (.int R.1)) (wX2_readNet cy tA R.2.1 R.2.2.1 R.2.2.2.1 R.2.2.2.2.1 R.2.2.2.2.2.1 R.2.2.2.2.2.2.1 t_namesA t_namesN R.2.2.2.2.2.2.2.1 t_kindsA t_kindsN R.2.2.2.2.2.2.2.2.1 t_kinA t_kinN R.2.2.2.2.2.2.2.2.2.1 t_stopsA t_stopsN R.2.2.2.2.2.2.2.2.2.2.1 t_roundsA t_roundsN R.2.2.2.2.2.2.2.2.2.2.2.1 t_lawA R.2.2.2.2.2.2.2.2.2.2.2.2.1 R.2.2.2.2.2.2.2.2.2.2.2.2.2.1 R.2.2.2.2.2.2.2.2.2.2.2.2.2.2.1 R.2.2.2.2.2.2.2.2.2.2.2.2.2.2.2.1 R.2.2.2.2.2.2.2.2.2.2.2.2.2.2.2.2.1 t_law_codeA t_law_codeN R.2.2.2.2.2.2.2.2.2.2.2.2.2.2.2.2.2.1 t_law_waitingA t_law_waitingN R.2.2.2.2.2.2.2.2.2.2.2.2.2.2.2.2.2.2.1 t_law_stackA t_law_stackN R.2.2.2.2.2.2.2.2.2.2.2.2.2.2.2.2.2.2.2.1 t_takenA t_takenN R.2.2.2.2.2.2.2.2.2.2.2.2.2.2.2.2.2.2.2.2.1 p1A p1_signsV p1_size p1_count R.2.2.2.2.2.2.2.2.2.2.2.2.2.2.2.2.2.2.2.2.2.1 R.2.2.2.2.2.2.2.2.2.2.2.2.2.2.2.2.2.2.2.2.2.2 p1_tokensA p1_tokensN p1_tokens p1_startsA p1_startsN p1_starts p1_valuesA p1_valuesN p1_values) → V l D cy MX2_readNet 6 0 0 av ws0 Q 6 [(0, .ref tA), (1, .ref p1A), (2, .int x2)] [] (wX2_readNet cy tA t_folks t_pairs t_line t_rope t_lineTold t_ropeTold t_namesA t_namesN t_names t_kindsA t_kindsN t_kinds t_kinA t_kinN t_kin t_stopsA t_stopsN t_stops t_roundsA t_roundsN t_rounds t_lawA t_law_size t_law_waits t_law_within t_law_brackets t_law_partIsDue t_law_codeA t_law_codeN t_law_code t_law_waitingA t_law_waitingN t_law_waiting t_law_stackA t_law_stackN t_law_stack t_takenA t_takenN t_taken p1A p1_signsV p1_size p1_count p1_here p1_fault p1_tokensA p1_tokensN p1_tokens p1_startsA p1_startsN p1_starts p1_valuesA p1_valuesN p1_values) 0 0 := by
  intro n
  induction n with
  | zero => intro x2 t_folks t_pairs t_line t_rope t_lineTold t_ropeTold t_names t_kinds t_kin t_stops t_rounds t_law_size t_law_waits t_law_within t_law_brackets t_law_partIsDue t_law_code t_law_waiting t_law_stack t_taken p1_here p1_fault R h; exact vNone h
  | succ n ih => intro x2 t_folks t_pairs t_line t_rope t_lineTold t_ropeTold t_names t_kinds t_kin t_stops t_rounds t_law_size t_law_waits t_law_within t_law_brackets t_law_partIsDue t_law_code t_law_waiting t_law_stack t_taken p1_here p1_fault R h hQ; exact vbX2_readNet_L6 F tA t_namesA t_namesN t_kindsA t_kindsN t_kinA t_kinN t_stopsA t_stopsN t_roundsA t_roundsN t_lawA t_law_codeA t_law_codeN t_law_waitingA t_law_waitingN t_law_stackA t_law_stackN t_takenA t_takenN p1A p1_signsV p1_size p1_count p1_tokensA p1_tokensN p1_tokens p1_startsA p1_startsN p1_starts p1_valuesA p1_valuesN p1_values _ ih x2 t_folks t_pairs t_line t_rope t_lineTold t_ropeTold t_names t_kinds t_kin t_stops t_rounds t_law_size t_law_waits t_law_within t_law_brackets t_law_partIsDue t_law_code t_law_waiting t_law_stack t_taken p1_here p1_fault R h hQ
noncomputable def fX2_readNet (F : Nat) (t_namesN : Nat) (t_kindsN : Nat) (t_kinN : Nat) (t_stopsN : Nat) (t_roundsN : Nat) (t_law_codeN : Nat) (t_law_waitingN : Nat) (t_law_stackN : Nat) (t_takenN : Nat) (p1_size : Int32) (p1_count : Int32) (p1_tokensN : Nat) (p1_tokens : Nat → Int32) (p1_startsN : Nat) (p1_starts : Nat → Int32) (p1_valuesN : Nat) (p1_values : Nat → Int64) (t_folks : Int32) (t_pairs : Int32) (t_line : Int32) (t_rope : Int32) (t_lineTold : Int32) (t_ropeTold : Int32) (t_names : Nat → Int64) (t_kinds : Nat → Int32) (t_kin : Nat → Int32) (t_stops : Nat → Int32) (t_rounds : Nat → Int32) (t_law_size : Int32) (t_law_waits : Int32) (t_law_within : Int32) (t_law_brackets : Int32) (t_law_partIsDue : Int32) (t_law_code : Nat → Int32) (t_law_waiting : Nat → Int32) (t_law_stack : Nat → Int32) (t_taken : Nat → Int32) (p1_here : Int32) (p1_fault : Int32) : Option (Int32 × (Int32) × (Int32) × (Int32) × (Int32) × (Int32) × (Int32) × (Nat → Int64) × (Nat → Int32) × (Nat → Int32) × (Nat → Int32) × (Nat → Int32) × (Int32) × (Int32) × (Int32) × (Int32) × (Int32) × (Nat → Int32) × (Nat → Int32) × (Nat → Int32) × (Nat → Int32) × (Int32) × (Int32)) :=
  (fX2_clear F t_kinN t_stopsN t_folks t_pairs t_line t_rope t_lineTold t_ropeTold t_kin t_stops t_law_size t_law_waits t_law_within t_law_brackets t_law_partIsDue).bind fun R1 => (fX2_readNet_L6 F t_namesN t_kindsN t_kinN t_stopsN t_roundsN t_law_codeN t_law_waitingN t_law_stackN t_takenN p1_size p1_count p1_tokensN p1_tokens p1_startsN p1_starts p1_valuesN p1_values F (0 : Int32) R1.1 R1.2.1 R1.2.2.1 R1.2.2.2.1 R1.2.2.2.2.1 R1.2.2.2.2.2.1 t_names t_kinds R1.2.2.2.2.2.2.1 R1.2.2.2.2.2.2.2.1 t_rounds R1.2.2.2.2.2.2.2.2.1 R1.2.2.2.2.2.2.2.2.2.1 R1.2.2.2.2.2.2.2.2.2.2.1 R1.2.2.2.2.2.2.2.2.2.2.2.1 R1.2.2.2.2.2.2.2.2.2.2.2.2 t_law_code t_law_waiting t_law_stack t_taken p1_here p1_fault)
theorem CX2_readNet {l : Launch} {D : va_G} {cy : Nat → ClassId} (F : Nat) (tA : Nat) (t_folks : Int32) (t_pairs : Int32) (t_line : Int32) (t_rope : Int32) (t_lineTold : Int32) (t_ropeTold : Int32) (t_namesA : Nat) (t_namesN : Nat) (t_names : Nat → Int64) (t_kindsA : Nat) (t_kindsN : Nat) (t_kinds : Nat → Int32) (t_kinA : Nat) (t_kinN : Nat) (t_kin : Nat → Int32) (t_stopsA : Nat) (t_stopsN : Nat) (t_stops : Nat → Int32) (t_roundsA : Nat) (t_roundsN : Nat) (t_rounds : Nat → Int32) (t_lawA : Nat) (t_law_size : Int32) (t_law_waits : Int32) (t_law_within : Int32) (t_law_brackets : Int32) (t_law_partIsDue : Int32) (t_law_codeA : Nat) (t_law_codeN : Nat) (t_law_code : Nat → Int32) (t_law_waitingA : Nat) (t_law_waitingN : Nat) (t_law_waiting : Nat → Int32) (t_law_stackA : Nat) (t_law_stackN : Nat) (t_law_stack : Nat → Int32) (t_takenA : Nat) (t_takenN : Nat) (t_taken : Nat → Int32) (p1A : Nat) (p1_signsV : Value) (p1_size : Int32) (p1_count : Int32) (p1_here : Int32) (p1_fault : Int32) (p1_tokensA : Nat) (p1_tokensN : Nat) (p1_tokens : Nat → Int32) (p1_startsA : Nat) (p1_startsN : Nat) (p1_starts : Nat → Int32) (p1_valuesA : Nat) (p1_valuesN : Nat) (p1_values : Nat → Int64) (R : Int32 × (Int32) × (Int32) × (Int32) × (Int32) × (Int32) × (Int32) × (Nat → Int64) × (Nat → Int32) × (Nat → Int32) × (Nat → Int32) × (Nat → Int32) × (Int32) × (Int32) × (Int32) × (Int32) × (Int32) × (Nat → Int32) × (Nat → Int32) × (Nat → Int32) × (Nat → Int32) × (Int32) × (Int32)) (h : fX2_readNet F t_namesN t_kindsN t_kinN t_stopsN t_roundsN t_law_codeN t_law_waitingN t_law_stackN t_takenN p1_size p1_count p1_tokensN p1_tokens p1_startsN p1_starts p1_valuesN p1_values t_folks t_pairs t_line t_rope t_lineTold t_ropeTold t_names t_kinds t_kin t_stops t_rounds t_law_size t_law_waits t_law_within t_law_brackets t_law_partIsDue t_law_code t_law_waiting t_law_stack t_taken p1_here p1_fault = some R) : vMet l D cy MX2_readNet 6 0 0 [.ref tA, .ref p1A] (wX2_readNet cy tA t_folks t_pairs t_line t_rope t_lineTold t_ropeTold t_namesA t_namesN t_names t_kindsA t_kindsN t_kinds t_kinA t_kinN t_kin t_stopsA t_stopsN t_stops t_roundsA t_roundsN t_rounds t_lawA t_law_size t_law_waits t_law_within t_law_brackets t_law_partIsDue t_law_codeA t_law_codeN t_law_code t_law_waitingA t_law_waitingN t_law_waiting t_law_stackA t_law_stackN t_law_stack t_takenA t_takenN t_taken p1A p1_signsV p1_size p1_count p1_here p1_fault p1_tokensA p1_tokensN p1_tokens p1_startsA p1_startsN p1_starts p1_valuesA p1_valuesN p1_values) (fun (r : Option Value) (w : va_W) => r = (some (.int R.1)) ∧ w = (wX2_readNet cy tA R.2.1 R.2.2.1 R.2.2.2.1 R.2.2.2.2.1 R.2.2.2.2.2.1 R.2.2.2.2.2.2.1 t_namesA t_namesN R.2.2.2.2.2.2.2.1 t_kindsA t_kindsN R.2.2.2.2.2.2.2.2.1 t_kinA t_kinN R.2.2.2.2.2.2.2.2.2.1 t_stopsA t_stopsN R.2.2.2.2.2.2.2.2.2.2.1 t_roundsA t_roundsN R.2.2.2.2.2.2.2.2.2.2.2.1 t_lawA R.2.2.2.2.2.2.2.2.2.2.2.2.1 R.2.2.2.2.2.2.2.2.2.2.2.2.2.1 R.2.2.2.2.2.2.2.2.2.2.2.2.2.2.1 R.2.2.2.2.2.2.2.2.2.2.2.2.2.2.2.1 R.2.2.2.2.2.2.2.2.2.2.2.2.2.2.2.2.1 t_law_codeA t_law_codeN R.2.2.2.2.2.2.2.2.2.2.2.2.2.2.2.2.2.1 t_law_waitingA t_law_waitingN R.2.2.2.2.2.2.2.2.2.2.2.2.2.2.2.2.2.2.1 t_law_stackA t_law_stackN R.2.2.2.2.2.2.2.2.2.2.2.2.2.2.2.2.2.2.2.1 t_takenA t_takenN R.2.2.2.2.2.2.2.2.2.2.2.2.2.2.2.2.2.2.2.2.1 p1A p1_signsV p1_size p1_count R.2.2.2.2.2.2.2.2.2.2.2.2.2.2.2.2.2.2.2.2.2.1 R.2.2.2.2.2.2.2.2.2.2.2.2.2.2.2.2.2.2.2.2.2.2 p1_tokensA p1_tokensN p1_tokens p1_startsA p1_startsN p1_starts p1_valuesA p1_valuesN p1_values)) := by
  refine vMet.start (by decide +kernel) (Nat.le_of_ble_eq_true rfl) ?_
  generalize hQe : (fun (r : Option Value) (w : va_W) => r = (some (.int R.1)) ∧ w = (wX2_readNet cy tA R.2.1 R.2.2.1 R.2.2.2.1 R.2.2.2.2.1 R.2.2.2.2.2.1 R.2.2.2.2.2.2.1 t_namesA t_namesN R.2.2.2.2.2.2.2.1 t_kindsA t_kindsN R.2.2.2.2.2.2.2.2.1 t_kinA t_kinN R.2.2.2.2.2.2.2.2.2.1 t_stopsA t_stopsN R.2.2.2.2.2.2.2.2.2.2.1 t_roundsA t_roundsN R.2.2.2.2.2.2.2.2.2.2.2.1 t_lawA R.2.2.2.2.2.2.2.2.2.2.2.2.1 R.2.2.2.2.2.2.2.2.2.2.2.2.2.1 R.2.2.2.2.2.2.2.2.2.2.2.2.2.2.1 R.2.2.2.2.2.2.2.2.2.2.2.2.2.2.2.1 R.2.2.2.2.2.2.2.2.2.2.2.2.2.2.2.2.1 t_law_codeA t_law_codeN R.2.2.2.2.2.2.2.2.2.2.2.2.2.2.2.2.2.1 t_law_waitingA t_law_waitingN R.2.2.2.2.2.2.2.2.2.2.2.2.2.2.2.2.2.2.1 t_law_stackA t_law_stackN R.2.2.2.2.2.2.2.2.2.2.2.2.2.2.2.2.2.2.2.1 t_takenA t_takenN R.2.2.2.2.2.2.2.2.2.2.2.2.2.2.2.2.2.2.2.2.1 p1A p1_signsV p1_size p1_count R.2.2.2.2.2.2.2.2.2.2.2.2.2.2.2.2.2.2.2.2.2.1 R.2.2.2.2.2.2.2.2.2.2.2.2.2.2.2.2.2.2.2.2.2.2 p1_tokensA p1_tokensN p1_tokens p1_startsA p1_startsN p1_starts p1_valuesA p1_valuesN p1_values)) = Q
  have hQ : Q (some (.int R.1)) (wX2_readNet cy tA R.2.1 R.2.2.1 R.2.2.2.1 R.2.2.2.2.1 R.2.2.2.2.2.1 R.2.2.2.2.2.2.1 t_namesA t_namesN R.2.2.2.2.2.2.2.1 t_kindsA t_kindsN R.2.2.2.2.2.2.2.2.1 t_kinA t_kinN R.2.2.2.2.2.2.2.2.2.1 t_stopsA t_stopsN R.2.2.2.2.2.2.2.2.2.2.1 t_roundsA t_roundsN R.2.2.2.2.2.2.2.2.2.2.2.1 t_lawA R.2.2.2.2.2.2.2.2.2.2.2.2.1 R.2.2.2.2.2.2.2.2.2.2.2.2.2.1 R.2.2.2.2.2.2.2.2.2.2.2.2.2.2.1 R.2.2.2.2.2.2.2.2.2.2.2.2.2.2.2.1 R.2.2.2.2.2.2.2.2.2.2.2.2.2.2.2.2.1 t_law_codeA t_law_codeN R.2.2.2.2.2.2.2.2.2.2.2.2.2.2.2.2.2.1 t_law_waitingA t_law_waitingN R.2.2.2.2.2.2.2.2.2.2.2.2.2.2.2.2.2.2.1 t_law_stackA t_law_stackN R.2.2.2.2.2.2.2.2.2.2.2.2.2.2.2.2.2.2.2.1 t_takenA t_takenN R.2.2.2.2.2.2.2.2.2.2.2.2.2.2.2.2.2.2.2.2.1 p1A p1_signsV p1_size p1_count R.2.2.2.2.2.2.2.2.2.2.2.2.2.2.2.2.2.2.2.2.2.1 R.2.2.2.2.2.2.2.2.2.2.2.2.2.2.2.2.2.2.2.2.2.2 p1_tokensA p1_tokensN p1_tokens p1_startsA p1_startsN p1_starts p1_valuesA p1_valuesN p1_values) := by rw [← hQe]; exact ⟨rfl, rfl⟩
  show V l D cy MX2_readNet 6 0 0 _ _ Q 0 [(0, .ref tA), (1, .ref p1A)] [] _ 0 0
  show V l D cy MX2_readNet 6 0 0 [.ref tA, .ref p1A] _ Q 0 [(0, .ref tA), (1, .ref p1A)] [] (wX2_readNet cy tA t_folks t_pairs t_line t_rope t_lineTold t_ropeTold t_namesA t_namesN t_names t_kindsA t_kindsN t_kinds t_kinA t_kinN t_kin t_stopsA t_stopsN t_stops t_roundsA t_roundsN t_rounds t_lawA t_law_size t_law_waits t_law_within t_law_brackets t_law_partIsDue t_law_codeA t_law_codeN t_law_code t_law_waitingA t_law_waitingN t_law_waiting t_law_stackA t_law_stackN t_law_stack t_takenA t_takenN t_taken p1A p1_signsV p1_size p1_count p1_here p1_fault p1_tokensA p1_tokensN p1_tokens p1_startsA p1_startsN p1_starts p1_valuesA p1_valuesN p1_values) 0 0
  unfold fX2_readNet at h
  refine V.aload_n dX2_readNet_0 rfl 0 rfl ?_
  obtain ⟨R1, hg1, h⟩ := Option.bind_eq_some_iff.mp h
  refine V.callV (As := []) (rest := []) (wc := (wX2_clear cy tA (.ref t_namesA) (.ref t_kindsA) (.ref t_roundsA) t_folks t_pairs t_line t_rope t_lineTold t_ropeTold (.ref t_takenA) t_kinA t_kinN t_kin t_stopsA t_stopsN t_stops t_lawA (.ref t_law_codeA) t_law_size (.ref t_law_waitingA) t_law_waits t_law_within t_law_brackets t_law_partIsDue (.ref t_law_stackA))) (wr := [(t_namesA, .inl (cy 2, t_namesN, .inr (.inl t_names))), (t_kindsA, .inl (cy 1, t_kindsN, .inl t_kinds)), (t_roundsA, .inl (cy 1, t_roundsN, .inl t_rounds)), (t_law_codeA, .inl (cy 1, t_law_codeN, .inl t_law_code)), (t_law_waitingA, .inl (cy 1, t_law_waitingN, .inl t_law_waiting)), (t_law_stackA, .inl (cy 1, t_law_stackN, .inl t_law_stack)), (t_takenA, .inl (cy 1, t_takenN, .inl t_taken)), (p1A, .inr (9, [p1_signsV, .int p1_size, .ref p1_tokensA, .ref p1_startsA, .ref p1_valuesA, .int p1_count, .int p1_here, .int p1_fault])), (p1_tokensA, .inl (cy 1, p1_tokensN, .inl p1_tokens)), (p1_startsA, .inl (cy 1, p1_startsN, .inl p1_starts)), (p1_valuesA, .inl (cy 2, p1_valuesN, .inr (.inl p1_values)))]) (q0 := 0) (CX2_clear F tA (.ref t_namesA) (.ref t_kindsA) (.ref t_roundsA) t_folks t_pairs t_line t_rope t_lineTold t_ropeTold (.ref t_takenA) t_kinA t_kinN t_kin t_stopsA t_stopsN t_stops t_lawA (.ref t_law_codeA) t_law_size (.ref t_law_waitingA) t_law_waits t_law_within t_law_brackets t_law_partIsDue (.ref t_law_stackA) R1 hg1) kvX2_clear klX2_38 [0, 3, 4, 6] [1, 2, 5, 7, 8, 9, 10, 11, 12, 13, 14] rfl rfl (by decide) (by decide) (by decide) rfl rfl rfl rfl dX2_readNet_1 ⟨by decide, by decide, by decide, by decide⟩ (Nat.le_of_ble_eq_true rfl) (fun r w1 hq => ?_)
  obtain ⟨rfl, rfl⟩ := hq
  refine V.cells (ws' := (wX2_readNet cy tA R1.1 R1.2.1 R1.2.2.1 R1.2.2.2.1 R1.2.2.2.2.1 R1.2.2.2.2.2.1 t_namesA t_namesN t_names t_kindsA t_kindsN t_kinds t_kinA t_kinN R1.2.2.2.2.2.2.1 t_stopsA t_stopsN R1.2.2.2.2.2.2.2.1 t_roundsA t_roundsN t_rounds t_lawA R1.2.2.2.2.2.2.2.2.1 R1.2.2.2.2.2.2.2.2.2.1 R1.2.2.2.2.2.2.2.2.2.2.1 R1.2.2.2.2.2.2.2.2.2.2.2.1 R1.2.2.2.2.2.2.2.2.2.2.2.2 t_law_codeA t_law_codeN t_law_code t_law_waitingA t_law_waitingN t_law_waiting t_law_stackA t_law_stackN t_law_stack t_takenA t_takenN t_taken p1A p1_signsV p1_size p1_count p1_here p1_fault p1_tokensA p1_tokensN p1_tokens p1_startsA p1_startsN p1_starts p1_valuesA p1_valuesN p1_values)) [11, 0, 1, 12, 13, 2, 14, 3, 4, 5, 6, 7, 8, 9, 10] (by decide) rfl ?_
  show V l D cy MX2_readNet 6 0 0 _ _ _ 4 [(0, .ref tA), (1, .ref p1A)] [] (wX2_readNet cy tA R1.1 R1.2.1 R1.2.2.1 R1.2.2.2.1 R1.2.2.2.2.1 R1.2.2.2.2.2.1 t_namesA t_namesN t_names t_kindsA t_kindsN t_kinds t_kinA t_kinN R1.2.2.2.2.2.2.1 t_stopsA t_stopsN R1.2.2.2.2.2.2.2.1 t_roundsA t_roundsN t_rounds t_lawA R1.2.2.2.2.2.2.2.2.1 R1.2.2.2.2.2.2.2.2.2.1 R1.2.2.2.2.2.2.2.2.2.2.1 R1.2.2.2.2.2.2.2.2.2.2.2.1 R1.2.2.2.2.2.2.2.2.2.2.2.2 t_law_codeA t_law_codeN t_law_code t_law_waitingA t_law_waitingN t_law_waiting t_law_stackA t_law_stackN t_law_stack t_takenA t_takenN t_taken p1A p1_signsV p1_size p1_count p1_here p1_fault p1_tokensA p1_tokensN p1_tokens p1_startsA p1_startsN p1_starts p1_valuesA p1_valuesN p1_values) 0 0
  refine V.iconst (v := (0 : Int32)) dX2_readNet_4 (by decide) ?_
  refine V.istore_n (lv' := [(2, .int (0 : Int32)), (0, .ref tA), (1, .ref p1A)]) dX2_readNet_5 rfl (by decide) rfl ?_
  refine V.lvs [1, 2, 0] rfl ?_
  exact vX2_readNet_L6 _ _ _ _ _ _ _ _ _ _ _ _ _ _ _ _ _ _ _ _ _ _ _ _ _ _ _ _ _ _ _ _ _ _  _ _ _ _ _ _ _ _ _ _ _ _ _ _ _ _ _ _ _ _ _ _ _ _ R h hQ
