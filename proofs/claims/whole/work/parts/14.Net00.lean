theorem dX2_hasFolk_0 : decode cX2_hasFolk 0 = .ok (.iload_n 1, 1) := by decide +kernel
theorem dX2_hasFolk_1 : decode cX2_hasFolk 1 = .ok (.ifCond .lt 15, 3) := by decide +kernel
theorem dX2_hasFolk_4 : decode cX2_hasFolk 4 = .ok (.iload_n 1, 1) := by decide +kernel
theorem dX2_hasFolk_5 : decode cX2_hasFolk 5 = .ok (.aload_n 0, 1) := by decide +kernel
theorem dX2_hasFolk_6 : decode cX2_hasFolk 6 = .ok (.getfield 47, 3) := by decide +kernel
theorem dX2_hasFolk_9 : decode cX2_hasFolk 9 = .ok (.if_icmp .ge 7, 3) := by decide +kernel
theorem dX2_hasFolk_12 : decode cX2_hasFolk 12 = .ok (.iconst 1, 1) := by decide +kernel
theorem dX2_hasFolk_13 : decode cX2_hasFolk 13 = .ok (.goto 4, 3) := by decide +kernel
theorem dX2_hasFolk_16 : decode cX2_hasFolk 16 = .ok (.iconst 0, 1) := by decide +kernel
theorem dX2_hasFolk_17 : decode cX2_hasFolk 17 = .ok (.ireturn, 1) := by decide +kernel
def wX2_hasFolk (cy : Nat → ClassId) (tA : Nat) (t_namesV : Value) (t_kindsV : Value) (t_kinV : Value) (t_stopsV : Value) (t_roundsV : Value) (t_folks : Int32) (t_pairs : Int32) (t_line : Int32) (t_rope : Int32) (t_lineTold : Int32) (t_ropeTold : Int32) (t_lawV : Value) (t_takenV : Value) : va_W :=
  [(tA, .inr (2, [t_namesV, t_kindsV, t_kinV, t_stopsV, t_roundsV, .int t_folks, .int t_pairs, .int t_line, .int t_rope, .int t_lineTold, .int t_ropeTold, t_lawV, t_takenV]))]
noncomputable def bX2_hasFolk_L17 (F : Nat) (t_folks : Int32)  (s0 : Int32) : Option (Int32) :=
  if s0 = 0 ∨ s0 = 1 then some s0 else none
theorem vX2_hasFolk_L17 {l : Launch} {D : va_G} {cy : Nat → ClassId} {av : List Value} {ws0 : va_W} {Q : Option Value → va_W → Prop} (F : Nat) (tA : Nat) (t_namesV : Value) (t_kindsV : Value) (t_kinV : Value) (t_stopsV : Value) (t_roundsV : Value) (t_folks : Int32) (t_pairs : Int32) (t_line : Int32) (t_rope : Int32) (t_lineTold : Int32) (t_ropeTold : Int32) (t_lawV : Value) (t_takenV : Value)  (s0 : Int32) (R : Int32) (h : bX2_hasFolk_L17 F t_folks  s0 = some R) (hQ : Q (some (.int R)) (wX2_hasFolk cy tA t_namesV t_kindsV t_kinV t_stopsV t_roundsV t_folks t_pairs t_line t_rope t_lineTold t_ropeTold t_lawV t_takenV)) : V l D cy MX2_hasFolk 0 0 0 av ws0 Q 17 [] [.int s0] (wX2_hasFolk cy tA t_namesV t_kindsV t_kinV t_stopsV t_roundsV t_folks t_pairs t_line t_rope t_lineTold t_ropeTold t_lawV t_takenV) 0 0 := by
  unfold bX2_hasFolk_L17 at h
  by_cases hz17 : s0 = 0 ∨ s0 = 1
  case neg => exact vNone ((if_neg hz17).symm.trans h)
  replace h := (if_pos hz17).symm.trans h
  have e9 := Option.some.inj h; subst e9
  exact V.iret (ty := .boolean) rfl (vBool hz17).1 dX2_hasFolk_17 (Nat.le_refl _) (Nat.le_refl _) hQ
noncomputable def bX2_hasFolk_L16 (F : Nat) (t_folks : Int32)   : Option (Int32) :=
  bX2_hasFolk_L17 F t_folks (0 : Int32)
theorem vX2_hasFolk_L16 {l : Launch} {D : va_G} {cy : Nat → ClassId} {av : List Value} {ws0 : va_W} {Q : Option Value → va_W → Prop} (F : Nat) (tA : Nat) (t_namesV : Value) (t_kindsV : Value) (t_kinV : Value) (t_stopsV : Value) (t_roundsV : Value) (t_folks : Int32) (t_pairs : Int32) (t_line : Int32) (t_rope : Int32) (t_lineTold : Int32) (t_ropeTold : Int32) (t_lawV : Value) (t_takenV : Value)   (R : Int32) (h : bX2_hasFolk_L16 F t_folks   = some R) (hQ : Q (some (.int R)) (wX2_hasFolk cy tA t_namesV t_kindsV t_kinV t_stopsV t_roundsV t_folks t_pairs t_line t_rope t_lineTold t_ropeTold t_lawV t_takenV)) : V l D cy MX2_hasFolk 0 0 0 av ws0 Q 16 [] [] (wX2_hasFolk cy tA t_namesV t_kindsV t_kinV t_stopsV t_roundsV t_folks t_pairs t_line t_rope t_lineTold t_ropeTold t_lawV t_takenV) 0 0 := by
  unfold bX2_hasFolk_L16 at h
  refine V.iconst (v := (0 : Int32)) dX2_hasFolk_16 (by decide) ?_
  exact vX2_hasFolk_L17 _ _ _ _ _ _ _ _ _ _ _ _ _ _ _   _ R h hQ
noncomputable def fX2_hasFolk (F : Nat) (t_folks : Int32) (a1 : Int32) : Option (Int32) :=
  if a1 < 0 then (bX2_hasFolk_L16 F t_folks) else (if t_folks ≤ a1 then (bX2_hasFolk_L16 F t_folks) else (bX2_hasFolk_L17 F t_folks (1 : Int32)))
theorem CX2_hasFolk {l : Launch} {D : va_G} {cy : Nat → ClassId} (F : Nat) (tA : Nat) (t_namesV : Value) (t_kindsV : Value) (t_kinV : Value) (t_stopsV : Value) (t_roundsV : Value) (t_folks : Int32) (t_pairs : Int32) (t_line : Int32) (t_rope : Int32) (t_lineTold : Int32) (t_ropeTold : Int32) (t_lawV : Value) (t_takenV : Value) (a1 : Int32) (R : Int32) (h : fX2_hasFolk F t_folks a1 = some R) : vMet l D cy MX2_hasFolk 0 0 0 [.ref tA, .int a1] (wX2_hasFolk cy tA t_namesV t_kindsV t_kinV t_stopsV t_roundsV t_folks t_pairs t_line t_rope t_lineTold t_ropeTold t_lawV t_takenV) (fun (r : Option Value) (w : va_W) => r = (some (.int R)) ∧ w = (wX2_hasFolk cy tA t_namesV t_kindsV t_kinV t_stopsV t_roundsV t_folks t_pairs t_line t_rope t_lineTold t_ropeTold t_lawV t_takenV)) := by
  refine vMet.start (by decide +kernel) (Nat.le_of_ble_eq_true rfl) ?_
  generalize hQe : (fun (r : Option Value) (w : va_W) => r = (some (.int R)) ∧ w = (wX2_hasFolk cy tA t_namesV t_kindsV t_kinV t_stopsV t_roundsV t_folks t_pairs t_line t_rope t_lineTold t_ropeTold t_lawV t_takenV)) = Q
  have hQ : Q (some (.int R)) (wX2_hasFolk cy tA t_namesV t_kindsV t_kinV t_stopsV t_roundsV t_folks t_pairs t_line t_rope t_lineTold t_ropeTold t_lawV t_takenV) := by rw [← hQe]; exact ⟨rfl, rfl⟩
  show V l D cy MX2_hasFolk 0 0 0 _ _ Q 0 [(0, .ref tA), (1, .int a1)] [] _ 0 0
  show V l D cy MX2_hasFolk 0 0 0 [.ref tA, .int a1] _ Q 0 [(0, .ref tA), (1, .int a1)] [] (wX2_hasFolk cy tA t_namesV t_kindsV t_kinV t_stopsV t_roundsV t_folks t_pairs t_line t_rope t_lineTold t_ropeTold t_lawV t_takenV) 0 0
  unfold fX2_hasFolk at h
  refine V.iload_n dX2_hasFolk_0 rfl 1 rfl ?_
  refine V.if_lt (tgt := 16) dX2_hasFolk_1 (by decide) (fun hc1 => ?_) (fun hc1 => ?_)
  · replace h := (if_pos hc1).symm.trans h
    refine V.lvs [] rfl ?_
    exact vX2_hasFolk_L16 _ _ _ _ _ _ _ _ _ _ _ _ _ _ _    R h hQ
  · replace h := (if_neg hc1).symm.trans h
    refine V.iload_n dX2_hasFolk_4 rfl 1 rfl ?_
    refine V.aload_n dX2_hasFolk_5 rfl 0 rfl ?_
    refine V.get kfX2 0 rfl rfl 5 (by decide) klX2_47 rfl dX2_hasFolk_6 ?_
    refine V.icmp_ge (tgt := 16) dX2_hasFolk_9 (by decide) (fun hc9 => ?_) (fun hc9 => ?_)
    · replace h := (if_pos hc9).symm.trans h
      refine V.lvs [] rfl ?_
      exact vX2_hasFolk_L16 _ _ _ _ _ _ _ _ _ _ _ _ _ _ _    R h hQ
    · replace h := (if_neg hc9).symm.trans h
      refine V.iconst (v := (1 : Int32)) dX2_hasFolk_12 (by decide) ?_
      refine V.goto (tgt := 17) dX2_hasFolk_13 (by decide) ?_
      refine V.lvs [] rfl ?_
      exact vX2_hasFolk_L17 _ _ _ _ _ _ _ _ _ _ _ _ _ _ _   _ R h hQ
theorem dX2_partyOf_0 : decode cX2_partyOf 0 = .ok (.iconst 1, 1) := by decide +kernel
theorem dX2_partyOf_1 : decode cX2_partyOf 1 = .ok (.iload_n 1, 1) := by decide +kernel
theorem dX2_partyOf_2 : decode cX2_partyOf 2 = .ok (.ishl, 1) := by decide +kernel
theorem dX2_partyOf_3 : decode cX2_partyOf 3 = .ok (.istore_n 3, 1) := by decide +kernel
theorem dX2_partyOf_4 : decode cX2_partyOf 4 = .ok (.iconst 0, 1) := by decide +kernel
theorem dX2_partyOf_5 : decode cX2_partyOf 5 = .ok (.istore 4, 2) := by decide +kernel
theorem dX2_partyOf_7 : decode cX2_partyOf 7 = .ok (.iload 4, 2) := by decide +kernel
theorem dX2_partyOf_9 : decode cX2_partyOf 9 = .ok (.bipush 6, 2) := by decide +kernel
theorem dX2_partyOf_11 : decode cX2_partyOf 11 = .ok (.if_icmp .ge 46, 3) := by decide +kernel
theorem dX2_partyOf_14 : decode cX2_partyOf 14 = .ok (.iconst 0, 1) := by decide +kernel
theorem dX2_partyOf_15 : decode cX2_partyOf 15 = .ok (.istore 5, 2) := by decide +kernel
theorem dX2_partyOf_17 : decode cX2_partyOf 17 = .ok (.iload 5, 2) := by decide +kernel
theorem dX2_partyOf_19 : decode cX2_partyOf 19 = .ok (.bipush 6, 2) := by decide +kernel
theorem dX2_partyOf_21 : decode cX2_partyOf 21 = .ok (.if_icmp .ge 30, 3) := by decide +kernel
theorem dX2_partyOf_24 : decode cX2_partyOf 24 = .ok (.iload_n 3, 1) := by decide +kernel
theorem dX2_partyOf_25 : decode cX2_partyOf 25 = .ok (.iload 5, 2) := by decide +kernel
theorem dX2_partyOf_27 : decode cX2_partyOf 27 = .ok (.ishr, 1) := by decide +kernel
theorem dX2_partyOf_28 : decode cX2_partyOf 28 = .ok (.iconst 1, 1) := by decide +kernel
theorem dX2_partyOf_29 : decode cX2_partyOf 29 = .ok (.iand, 1) := by decide +kernel
theorem dX2_partyOf_30 : decode cX2_partyOf 30 = .ok (.ifCond .eq 15, 3) := by decide +kernel
theorem dX2_partyOf_33 : decode cX2_partyOf 33 = .ok (.iload_n 3, 1) := by decide +kernel
theorem dX2_partyOf_34 : decode cX2_partyOf 34 = .ok (.aload_n 0, 1) := by decide +kernel
theorem dX2_partyOf_35 : decode cX2_partyOf 35 = .ok (.getfield 19, 3) := by decide +kernel
theorem dX2_partyOf_38 : decode cX2_partyOf 38 = .ok (.iload 5, 2) := by decide +kernel
theorem dX2_partyOf_40 : decode cX2_partyOf 40 = .ok (.iaload, 1) := by decide +kernel
theorem dX2_partyOf_41 : decode cX2_partyOf 41 = .ok (.iload_n 2, 1) := by decide +kernel
theorem dX2_partyOf_42 : decode cX2_partyOf 42 = .ok (.iand, 1) := by decide +kernel
theorem dX2_partyOf_43 : decode cX2_partyOf 43 = .ok (.ior, 1) := by decide +kernel
theorem dX2_partyOf_44 : decode cX2_partyOf 44 = .ok (.istore_n 3, 1) := by decide +kernel
theorem dX2_partyOf_45 : decode cX2_partyOf 45 = .ok (.iinc 5 1, 3) := by decide +kernel
theorem dX2_partyOf_48 : decode cX2_partyOf 48 = .ok (.goto (-31), 3) := by decide +kernel
theorem dX2_partyOf_51 : decode cX2_partyOf 51 = .ok (.iinc 4 1, 3) := by decide +kernel
theorem dX2_partyOf_54 : decode cX2_partyOf 54 = .ok (.goto (-47), 3) := by decide +kernel
theorem dX2_partyOf_57 : decode cX2_partyOf 57 = .ok (.iload_n 3, 1) := by decide +kernel
theorem dX2_partyOf_58 : decode cX2_partyOf 58 = .ok (.ireturn, 1) := by decide +kernel
def wX2_partyOf (cy : Nat → ClassId) (tA : Nat) (t_namesV : Value) (t_kindsV : Value) (t_stopsV : Value) (t_roundsV : Value) (t_folks : Int32) (t_pairs : Int32) (t_line : Int32) (t_rope : Int32) (t_lineTold : Int32) (t_ropeTold : Int32) (t_lawV : Value) (t_takenV : Value) (t_kinA : Nat) (t_kinN : Nat) (t_kin : Nat → Int32) : va_W :=
  [(tA, .inr (2, [t_namesV, t_kindsV, .ref t_kinA, t_stopsV, t_roundsV, .int t_folks, .int t_pairs, .int t_line, .int t_rope, .int t_lineTold, .int t_ropeTold, t_lawV, t_takenV])), (t_kinA, .inl (cy 1, t_kinN, .inl t_kin))]
noncomputable def bX2_partyOf_L45 (F : Nat) (t_kinN : Nat) (t_kin : Nat → Int32) (k17 : Int32 → Int32 → Int32 → Int32 → Option (Int32)) (x2 : Int32) (x3 : Int32) (x4 : Int32) (x5 : Int32) : Option (Int32) :=
  k17 x2 x3 x4 (x5 + (1 : Int32))
theorem vX2_partyOf_L45 {l : Launch} {D : va_G} {cy : Nat → ClassId} {av : List Value} {ws0 : va_W} {Q : Option Value → va_W → Prop} (F : Nat) (tA : Nat) (t_namesV : Value) (t_kindsV : Value) (t_stopsV : Value) (t_roundsV : Value) (t_folks : Int32) (t_pairs : Int32) (t_line : Int32) (t_rope : Int32) (t_lineTold : Int32) (t_ropeTold : Int32) (t_lawV : Value) (t_takenV : Value) (t_kinA : Nat) (t_kinN : Nat) (t_kin : Nat → Int32) (k17 : Int32 → Int32 → Int32 → Int32 → Option (Int32)) (hk17 : ∀ (x2 : Int32) (x3 : Int32) (x4 : Int32) (x5 : Int32) (R : Int32), k17 x2 x3 x4 x5 = some R → Q (some (.int R)) (wX2_partyOf cy tA t_namesV t_kindsV t_stopsV t_roundsV t_folks t_pairs t_line t_rope t_lineTold t_ropeTold t_lawV t_takenV t_kinA t_kinN t_kin) → V l D cy MX2_partyOf 0 0 0 av ws0 Q 17 [(0, .ref tA), (2, .int x2), (3, .int x3), (4, .int x4), (5, .int x5)] [] (wX2_partyOf cy tA t_namesV t_kindsV t_stopsV t_roundsV t_folks t_pairs t_line t_rope t_lineTold t_ropeTold t_lawV t_takenV t_kinA t_kinN t_kin) 0 0) (x2 : Int32) (x3 : Int32) (x4 : Int32) (x5 : Int32) (R : Int32) (h : bX2_partyOf_L45 F t_kinN t_kin k17 x2 x3 x4 x5 = some R) (hQ : Q (some (.int R)) (wX2_partyOf cy tA t_namesV t_kindsV t_stopsV t_roundsV t_folks t_pairs t_line t_rope t_lineTold t_ropeTold t_lawV t_takenV t_kinA t_kinN t_kin)) : V l D cy MX2_partyOf 0 0 0 av ws0 Q 45 [(0, .ref tA), (2, .int x2), (3, .int x3), (4, .int x4), (5, .int x5)] [] (wX2_partyOf cy tA t_namesV t_kindsV t_stopsV t_roundsV t_folks t_pairs t_line t_rope t_lineTold t_ropeTold t_lawV t_takenV t_kinA t_kinN t_kin) 0 0 := by
  unfold bX2_partyOf_L45 at h
  refine V.iinc (v := x5 + (1 : Int32)) (lv' := [(5, .int (x5 + (1 : Int32))), (0, .ref tA), (2, .int x2), (3, .int x3), (4, .int x4)]) dX2_partyOf_45 4 rfl rfl (by decide) rfl ?_
  refine V.goto (tgt := 17) dX2_partyOf_48 (by decide) ?_
  refine V.lvs [1, 2, 3, 4, 0] rfl ?_
  exact hk17 _ _ _ _ R h hQ
noncomputable def bX2_partyOf_L17 (F : Nat) (t_kinN : Nat) (t_kin : Nat → Int32) (k7 : Int32 → Int32 → Int32 → Option (Int32)) (k17 : Int32 → Int32 → Int32 → Int32 → Option (Int32)) (x2 : Int32) (x3 : Int32) (x4 : Int32) (x5 : Int32) : Option (Int32) :=
  if (6 : Int32) ≤ x5 then (k7 x2 x3 (x4 + (1 : Int32))) else (if ((x3 >>> (x5 &&& 31)) &&& (1 : Int32)) = 0 then (bX2_partyOf_L45 F t_kinN t_kin k17 x2 x3 x4 x5) else (if x5 < 0 ∨ t_kinN ≤ x5.toNatClampNeg then none else (bX2_partyOf_L45 F t_kinN t_kin k17 x2 (x3 ||| ((t_kin (x5).toNatClampNeg) &&& x2)) x4 x5)))
theorem vbX2_partyOf_L17 {l : Launch} {D : va_G} {cy : Nat → ClassId} {av : List Value} {ws0 : va_W} {Q : Option Value → va_W → Prop} (F : Nat) (tA : Nat) (t_namesV : Value) (t_kindsV : Value) (t_stopsV : Value) (t_roundsV : Value) (t_folks : Int32) (t_pairs : Int32) (t_line : Int32) (t_rope : Int32) (t_lineTold : Int32) (t_ropeTold : Int32) (t_lawV : Value) (t_takenV : Value) (t_kinA : Nat) (t_kinN : Nat) (t_kin : Nat → Int32) (k7 : Int32 → Int32 → Int32 → Option (Int32)) (hk7 : ∀ (x2 : Int32) (x3 : Int32) (x4 : Int32) (R : Int32), k7 x2 x3 x4 = some R → Q (some (.int R)) (wX2_partyOf cy tA t_namesV t_kindsV t_stopsV t_roundsV t_folks t_pairs t_line t_rope t_lineTold t_ropeTold t_lawV t_takenV t_kinA t_kinN t_kin) → V l D cy MX2_partyOf 0 0 0 av ws0 Q 7 [(0, .ref tA), (2, .int x2), (3, .int x3), (4, .int x4)] [] (wX2_partyOf cy tA t_namesV t_kindsV t_stopsV t_roundsV t_folks t_pairs t_line t_rope t_lineTold t_ropeTold t_lawV t_takenV t_kinA t_kinN t_kin) 0 0) (k17 : Int32 → Int32 → Int32 → Int32 → Option (Int32)) (hk17 : ∀ (x2 : Int32) (x3 : Int32) (x4 : Int32) (x5 : Int32) (R : Int32), k17 x2 x3 x4 x5 = some R → Q (some (.int R)) (wX2_partyOf cy tA t_namesV t_kindsV t_stopsV t_roundsV t_folks t_pairs t_line t_rope t_lineTold t_ropeTold t_lawV t_takenV t_kinA t_kinN t_kin) → V l D cy MX2_partyOf 0 0 0 av ws0 Q 17 [(0, .ref tA), (2, .int x2), (3, .int x3), (4, .int x4), (5, .int x5)] [] (wX2_partyOf cy tA t_namesV t_kindsV t_stopsV t_roundsV t_folks t_pairs t_line t_rope t_lineTold t_ropeTold t_lawV t_takenV t_kinA t_kinN t_kin) 0 0) (x2 : Int32) (x3 : Int32) (x4 : Int32) (x5 : Int32) (R : Int32) (h : bX2_partyOf_L17 F t_kinN t_kin k7 k17 x2 x3 x4 x5 = some R) (hQ : Q (some (.int R)) (wX2_partyOf cy tA t_namesV t_kindsV t_stopsV t_roundsV t_folks t_pairs t_line t_rope t_lineTold t_ropeTold t_lawV t_takenV t_kinA t_kinN t_kin)) : V l D cy MX2_partyOf 0 0 0 av ws0 Q 17 [(0, .ref tA), (2, .int x2), (3, .int x3), (4, .int x4), (5, .int x5)] [] (wX2_partyOf cy tA t_namesV t_kindsV t_stopsV t_roundsV t_folks t_pairs t_line t_rope t_lineTold t_ropeTold t_lawV t_takenV t_kinA t_kinN t_kin) 0 0 := by
  unfold bX2_partyOf_L17 at h
  refine V.iload dX2_partyOf_17 4 rfl ?_
  refine V.bipush (v := (6 : Int32)) dX2_partyOf_19 (by decide) ?_
  refine V.icmp_ge (tgt := 51) dX2_partyOf_21 (by decide) (fun hc21 => ?_) (fun hc21 => ?_)
  · replace h := (if_pos hc21).symm.trans h
    refine V.iinc (v := x4 + (1 : Int32)) (lv' := [(4, .int (x4 + (1 : Int32))), (0, .ref tA), (2, .int x2), (3, .int x3), (5, .int x5)]) dX2_partyOf_51 3 rfl rfl (by decide) rfl ?_
    refine V.goto (tgt := 7) dX2_partyOf_54 (by decide) ?_
    refine V.lvs [1, 2, 3, 0] rfl ?_
    exact hk7 _ _ _ R h hQ
  · replace h := (if_neg hc21).symm.trans h
    refine V.iload_n dX2_partyOf_24 rfl 2 rfl ?_
    refine V.iload dX2_partyOf_25 4 rfl ?_
    refine V.ishr dX2_partyOf_27 ?_
    refine V.iconst (v := (1 : Int32)) dX2_partyOf_28 (by decide) ?_
    refine V.iand dX2_partyOf_29 ?_
    refine V.if_eq (tgt := 45) dX2_partyOf_30 (by decide) (fun hc30 => ?_) (fun hc30 => ?_)
    · replace h := (if_pos hc30).symm.trans h
      exact vX2_partyOf_L45 _ _ _ _ _ _ _ _ _ _ _ _ _ _ _ _ _ _ hk17  _ _ _ _ R h hQ
    · replace h := (if_neg hc30).symm.trans h
      refine V.iload_n dX2_partyOf_33 rfl 2 rfl ?_
      refine V.aload_n dX2_partyOf_34 rfl 0 rfl ?_
      refine V.get kfX2 0 rfl rfl 2 (by decide) klX2_19 rfl dX2_partyOf_35 ?_
      refine V.iload dX2_partyOf_38 4 rfl ?_
      by_cases hb40 : x5 < 0 ∨ t_kinN ≤ x5.toNatClampNeg
      · exact vNone ((if_pos hb40).symm.trans h)
      replace h := (if_neg hb40).symm.trans h
      refine V.iald dX2_partyOf_40 1 rfl hb40 ?_
      refine V.iload_n dX2_partyOf_41 rfl 1 rfl ?_
      refine V.iand dX2_partyOf_42 ?_
      refine V.ior dX2_partyOf_43 ?_
      refine V.istore_n (lv' := [(3, .int (x3 ||| ((t_kin (x5).toNatClampNeg) &&& x2))), (0, .ref tA), (2, .int x2), (4, .int x4), (5, .int x5)]) dX2_partyOf_44 rfl (by decide) rfl ?_
      refine V.lvs [1, 2, 0, 3, 4] rfl ?_
      exact vX2_partyOf_L45 _ _ _ _ _ _ _ _ _ _ _ _ _ _ _ _ _ _ hk17  _ _ _ _ R h hQ
noncomputable def fX2_partyOf_L17 (F : Nat) (t_kinN : Nat) (t_kin : Nat → Int32) (k7 : Int32 → Int32 → Int32 → Option (Int32)) : Nat → Int32 → Int32 → Int32 → Int32 → Option (Int32)
  | 0 => fun _ _ _ _ => none
  | n + 1 => bX2_partyOf_L17 F t_kinN t_kin k7 (fX2_partyOf_L17 F t_kinN t_kin k7 n)
theorem vX2_partyOf_L17 {l : Launch} {D : va_G} {cy : Nat → ClassId} {av : List Value} {ws0 : va_W} {Q : Option Value → va_W → Prop} (F : Nat) (tA : Nat) (t_namesV : Value) (t_kindsV : Value) (t_stopsV : Value) (t_roundsV : Value) (t_folks : Int32) (t_pairs : Int32) (t_line : Int32) (t_rope : Int32) (t_lineTold : Int32) (t_ropeTold : Int32) (t_lawV : Value) (t_takenV : Value) (t_kinA : Nat) (t_kinN : Nat) (t_kin : Nat → Int32) (k7 : Int32 → Int32 → Int32 → Option (Int32)) (hk7 : ∀ (x2 : Int32) (x3 : Int32) (x4 : Int32) (R : Int32), k7 x2 x3 x4 = some R → Q (some (.int R)) (wX2_partyOf cy tA t_namesV t_kindsV t_stopsV t_roundsV t_folks t_pairs t_line t_rope t_lineTold t_ropeTold t_lawV t_takenV t_kinA t_kinN t_kin) → V l D cy MX2_partyOf 0 0 0 av ws0 Q 7 [(0, .ref tA), (2, .int x2), (3, .int x3), (4, .int x4)] [] (wX2_partyOf cy tA t_namesV t_kindsV t_stopsV t_roundsV t_folks t_pairs t_line t_rope t_lineTold t_ropeTold t_lawV t_takenV t_kinA t_kinN t_kin) 0 0) : ∀ (n : Nat) (x2 : Int32) (x3 : Int32) (x4 : Int32) (x5 : Int32) (R : Int32), fX2_partyOf_L17 F t_kinN t_kin k7 n x2 x3 x4 x5 = some R → Q (some (.int R)) (wX2_partyOf cy tA t_namesV t_kindsV t_stopsV t_roundsV t_folks t_pairs t_line t_rope t_lineTold t_ropeTold t_lawV t_takenV t_kinA t_kinN t_kin) → V l D cy MX2_partyOf 0 0 0 av ws0 Q 17 [(0, .ref tA), (2, .int x2), (3, .int x3), (4, .int x4), (5, .int x5)] [] (wX2_partyOf cy tA t_namesV t_kindsV t_stopsV t_roundsV t_folks t_pairs t_line t_rope t_lineTold t_ropeTold t_lawV t_takenV t_kinA t_kinN t_kin) 0 0 := by
  intro n
  induction n with
  | zero => intro x2 x3 x4 x5 R h; exact vNone h
  | succ n ih => intro x2 x3 x4 x5 R h hQ; exact vbX2_partyOf_L17 F tA t_namesV t_kindsV t_stopsV t_roundsV t_folks t_pairs t_line t_rope t_lineTold t_ropeTold t_lawV t_takenV t_kinA t_kinN t_kin _ hk7 _ ih x2 x3 x4 x5 R h hQ
noncomputable def bX2_partyOf_L7 (F : Nat) (t_kinN : Nat) (t_kin : Nat → Int32) (k7 : Int32 → Int32 → Int32 → Option (Int32)) (x2 : Int32) (x3 : Int32) (x4 : Int32) : Option (Int32) :=
  if (6 : Int32) ≤ x4 then (some x3) else (fX2_partyOf_L17 F t_kinN t_kin k7 F x2 x3 x4 (0 : Int32))
theorem vbX2_partyOf_L7 {l : Launch} {D : va_G} {cy : Nat → ClassId} {av : List Value} {ws0 : va_W} {Q : Option Value → va_W → Prop} (F : Nat) (tA : Nat) (t_namesV : Value) (t_kindsV : Value) (t_stopsV : Value) (t_roundsV : Value) (t_folks : Int32) (t_pairs : Int32) (t_line : Int32) (t_rope : Int32) (t_lineTold : Int32) (t_ropeTold : Int32) (t_lawV : Value) (t_takenV : Value) (t_kinA : Nat) (t_kinN : Nat) (t_kin : Nat → Int32) (k7 : Int32 → Int32 → Int32 → Option (Int32)) (hk7 : ∀ (x2 : Int32) (x3 : Int32) (x4 : Int32) (R : Int32), k7 x2 x3 x4 = some R → Q (some (.int R)) (wX2_partyOf cy tA t_namesV t_kindsV t_stopsV t_roundsV t_folks t_pairs t_line t_rope t_lineTold t_ropeTold t_lawV t_takenV t_kinA t_kinN t_kin) → V l D cy MX2_partyOf 0 0 0 av ws0 Q 7 [(0, .ref tA), (2, .int x2), (3, .int x3), (4, .int x4)] [] (wX2_partyOf cy tA t_namesV t_kindsV t_stopsV t_roundsV t_folks t_pairs t_line t_rope t_lineTold t_ropeTold t_lawV t_takenV t_kinA t_kinN t_kin) 0 0) (x2 : Int32) (x3 : Int32) (x4 : Int32) (R : Int32) (h : bX2_partyOf_L7 F t_kinN t_kin k7 x2 x3 x4 = some R) (hQ : Q (some (.int R)) (wX2_partyOf cy tA t_namesV t_kindsV t_stopsV t_roundsV t_folks t_pairs t_line t_rope t_lineTold t_ropeTold t_lawV t_takenV t_kinA t_kinN t_kin)) : V l D cy MX2_partyOf 0 0 0 av ws0 Q 7 [(0, .ref tA), (2, .int x2), (3, .int x3), (4, .int x4)] [] (wX2_partyOf cy tA t_namesV t_kindsV t_stopsV t_roundsV t_folks t_pairs t_line t_rope t_lineTold t_ropeTold t_lawV t_takenV t_kinA t_kinN t_kin) 0 0 := by
  unfold bX2_partyOf_L7 at h
  refine V.iload dX2_partyOf_7 3 rfl ?_
  refine V.bipush (v := (6 : Int32)) dX2_partyOf_9 (by decide) ?_
  refine V.icmp_ge (tgt := 57) dX2_partyOf_11 (by decide) (fun hc11 => ?_) (fun hc11 => ?_)
  · replace h := (if_pos hc11).symm.trans h
    refine V.iload_n dX2_partyOf_57 rfl 2 rfl ?_
    have e9 := Option.some.inj h; subst e9
    exact V.iret (ty := .int) rfl rfl dX2_partyOf_58 (Nat.le_refl _) (Nat.le_refl _) hQ
  · replace h := (if_neg hc11).symm.trans h
    refine V.iconst (v := (0 : Int32)) dX2_partyOf_14 (by decide) ?_
    refine V.istore (lv' := [(5, .int (0 : Int32)), (0, .ref tA), (2, .int x2), (3, .int x3), (4, .int x4)]) dX2_partyOf_15 (by decide) rfl ?_
    refine V.lvs [1, 2, 3, 4, 0] rfl ?_
    exact vX2_partyOf_L17 _ _ _ _ _ _ _ _ _ _ _ _ _ _ _ _ _ _ hk7 _ _ _ _ _ R h hQ
noncomputable def fX2_partyOf_L7 (F : Nat) (t_kinN : Nat) (t_kin : Nat → Int32)  : Nat → Int32 → Int32 → Int32 → Option (Int32)
  | 0 => fun _ _ _ => none
  | n + 1 => bX2_partyOf_L7 F t_kinN t_kin (fX2_partyOf_L7 F t_kinN t_kin  n)
theorem vX2_partyOf_L7 {l : Launch} {D : va_G} {cy : Nat → ClassId} {av : List Value} {ws0 : va_W} {Q : Option Value → va_W → Prop} (F : Nat) (tA : Nat) (t_namesV : Value) (t_kindsV : Value) (t_stopsV : Value) (t_roundsV : Value) (t_folks : Int32) (t_pairs : Int32) (t_line : Int32) (t_rope : Int32) (t_lineTold : Int32) (t_ropeTold : Int32) (t_lawV : Value) (t_takenV : Value) (t_kinA : Nat) (t_kinN : Nat) (t_kin : Nat → Int32)  : ∀ (n : Nat) (x2 : Int32) (x3 : Int32) (x4 : Int32) (R : Int32), fX2_partyOf_L7 F t_kinN t_kin  n x2 x3 x4 = some R → Q (some (.int R)) (wX2_partyOf cy tA t_namesV t_kindsV t_stopsV t_roundsV t_folks t_pairs t_line t_rope t_lineTold t_ropeTold t_lawV t_takenV t_kinA t_kinN t_kin) → V l D cy MX2_partyOf 0 0 0 av ws0 Q 7 [(0, .ref tA), (2, .int x2), (3, .int x3), (4, .int x4)] [] (wX2_partyOf cy tA t_namesV t_kindsV t_stopsV t_roundsV t_folks t_pairs t_line t_rope t_lineTold t_ropeTold t_lawV t_takenV t_kinA t_kinN t_kin) 0 0 := by
  intro n
  induction n with
  | zero => intro x2 x3 x4 R h; exact vNone h
  | succ n ih => intro x2 x3 x4 R h hQ; exact vbX2_partyOf_L7 F tA t_namesV t_kindsV t_stopsV t_roundsV t_folks t_pairs t_line t_rope t_lineTold t_ropeTold t_lawV t_takenV t_kinA t_kinN t_kin _ ih x2 x3 x4 R h hQ
noncomputable def fX2_partyOf (F : Nat) (t_kinN : Nat) (t_kin : Nat → Int32) (a1 : Int32) (a2 : Int32) : Option (Int32) :=
  fX2_partyOf_L7 F t_kinN t_kin F a2 ((1 : Int32) <<< (a1 &&& 31)) (0 : Int32)
theorem CX2_partyOf {l : Launch} {D : va_G} {cy : Nat → ClassId} (F : Nat) (tA : Nat) (t_namesV : Value) (t_kindsV : Value) (t_stopsV : Value) (t_roundsV : Value) (t_folks : Int32) (t_pairs : Int32) (t_line : Int32) (t_rope : Int32) (t_lineTold : Int32) (t_ropeTold : Int32) (t_lawV : Value) (t_takenV : Value) (t_kinA : Nat) (t_kinN : Nat) (t_kin : Nat → Int32) (a1 : Int32) (a2 : Int32) (R : Int32) (h : fX2_partyOf F t_kinN t_kin a1 a2 = some R) : vMet l D cy MX2_partyOf 0 0 0 [.ref tA, .int a1, .int a2] (wX2_partyOf cy tA t_namesV t_kindsV t_stopsV t_roundsV t_folks t_pairs t_line t_rope t_lineTold t_ropeTold t_lawV t_takenV t_kinA t_kinN t_kin) (fun (r : Option Value) (w : va_W) => r = (some (.int R)) ∧ w = (wX2_partyOf cy tA t_namesV t_kindsV t_stopsV t_roundsV t_folks t_pairs t_line t_rope t_lineTold t_ropeTold t_lawV t_takenV t_kinA t_kinN t_kin)) := by
  refine vMet.start (by decide +kernel) (Nat.le_of_ble_eq_true rfl) ?_
  generalize hQe : (fun (r : Option Value) (w : va_W) => r = (some (.int R)) ∧ w = (wX2_partyOf cy tA t_namesV t_kindsV t_stopsV t_roundsV t_folks t_pairs t_line t_rope t_lineTold t_ropeTold t_lawV t_takenV t_kinA t_kinN t_kin)) = Q
  have hQ : Q (some (.int R)) (wX2_partyOf cy tA t_namesV t_kindsV t_stopsV t_roundsV t_folks t_pairs t_line t_rope t_lineTold t_ropeTold t_lawV t_takenV t_kinA t_kinN t_kin) := by rw [← hQe]; exact ⟨rfl, rfl⟩
  show V l D cy MX2_partyOf 0 0 0 _ _ Q 0 [(0, .ref tA), (1, .int a1), (2, .int a2)] [] _ 0 0
  show V l D cy MX2_partyOf 0 0 0 [.ref tA, .int a1, .int a2] _ Q 0 [(0, .ref tA), (1, .int a1), (2, .int a2)] [] (wX2_partyOf cy tA t_namesV t_kindsV t_stopsV t_roundsV t_folks t_pairs t_line t_rope t_lineTold t_ropeTold t_lawV t_takenV t_kinA t_kinN t_kin) 0 0
  unfold fX2_partyOf at h
  refine V.iconst (v := (1 : Int32)) dX2_partyOf_0 (by decide) ?_
  refine V.iload_n dX2_partyOf_1 rfl 1 rfl ?_
  refine V.ishl dX2_partyOf_2 ?_
  refine V.istore_n (lv' := [(3, .int ((1 : Int32) <<< (a1 &&& 31))), (0, .ref tA), (1, .int a1), (2, .int a2)]) dX2_partyOf_3 rfl (by decide) rfl ?_
  refine V.iconst (v := (0 : Int32)) dX2_partyOf_4 (by decide) ?_
  refine V.istore (lv' := [(4, .int (0 : Int32)), (3, .int ((1 : Int32) <<< (a1 &&& 31))), (0, .ref tA), (1, .int a1), (2, .int a2)]) dX2_partyOf_5 (by decide) rfl ?_
  refine V.lvs [2, 4, 1, 0] rfl ?_
  exact vX2_partyOf_L7 _ _ _ _ _ _ _ _ _ _ _ _ _ _ _ _ _  _ _ _ _ R h hQ
theorem dX2_takenBy_0 : decode cX2_takenBy 0 = .ok (.iload_n 1, 1) := by decide +kernel
theorem dX2_takenBy_1 : decode cX2_takenBy 1 = .ok (.bipush 12, 2) := by decide +kernel
theorem dX2_takenBy_3 : decode cX2_takenBy 3 = .ok (.imul, 1) := by decide +kernel
theorem dX2_takenBy_4 : decode cX2_takenBy 4 = .ok (.iload_n 2, 1) := by decide +kernel
theorem dX2_takenBy_5 : decode cX2_takenBy 5 = .ok (.iadd, 1) := by decide +kernel
theorem dX2_takenBy_6 : decode cX2_takenBy 6 = .ok (.istore_n 3, 1) := by decide +kernel
theorem dX2_takenBy_7 : decode cX2_takenBy 7 = .ok (.iload_n 3, 1) := by decide +kernel
theorem dX2_takenBy_8 : decode cX2_takenBy 8 = .ok (.ifCond .lt 21, 3) := by decide +kernel
theorem dX2_takenBy_11 : decode cX2_takenBy 11 = .ok (.iload_n 3, 1) := by decide +kernel
theorem dX2_takenBy_12 : decode cX2_takenBy 12 = .ok (.aload_n 0, 1) := by decide +kernel
theorem dX2_takenBy_13 : decode cX2_takenBy 13 = .ok (.getfield 35, 3) := by decide +kernel
theorem dX2_takenBy_16 : decode cX2_takenBy 16 = .ok (.arraylength, 1) := by decide +kernel
theorem dX2_takenBy_17 : decode cX2_takenBy 17 = .ok (.if_icmp .ge 12, 3) := by decide +kernel
theorem dX2_takenBy_20 : decode cX2_takenBy 20 = .ok (.aload_n 0, 1) := by decide +kernel
theorem dX2_takenBy_21 : decode cX2_takenBy 21 = .ok (.getfield 35, 3) := by decide +kernel
theorem dX2_takenBy_24 : decode cX2_takenBy 24 = .ok (.iload_n 3, 1) := by decide +kernel
theorem dX2_takenBy_25 : decode cX2_takenBy 25 = .ok (.iaload, 1) := by decide +kernel
theorem dX2_takenBy_26 : decode cX2_takenBy 26 = .ok (.goto 4, 3) := by decide +kernel
theorem dX2_takenBy_29 : decode cX2_takenBy 29 = .ok (.iconst 0, 1) := by decide +kernel
theorem dX2_takenBy_30 : decode cX2_takenBy 30 = .ok (.ireturn, 1) := by decide +kernel
def wX2_takenBy (cy : Nat → ClassId) (tA : Nat) (t_namesV : Value) (t_kindsV : Value) (t_kinV : Value) (t_stopsV : Value) (t_roundsV : Value) (t_folks : Int32) (t_pairs : Int32) (t_line : Int32) (t_rope : Int32) (t_lineTold : Int32) (t_ropeTold : Int32) (t_lawV : Value) (t_takenA : Nat) (t_takenN : Nat) (t_taken : Nat → Int32) : va_W :=
  [(tA, .inr (2, [t_namesV, t_kindsV, t_kinV, t_stopsV, t_roundsV, .int t_folks, .int t_pairs, .int t_line, .int t_rope, .int t_lineTold, .int t_ropeTold, t_lawV, .ref t_takenA])), (t_takenA, .inl (cy 1, t_takenN, .inl t_taken))]
noncomputable def bX2_takenBy_L30 (F : Nat) (t_takenN : Nat) (t_taken : Nat → Int32)  (s0 : Int32) : Option (Int32) :=
  some s0
theorem vX2_takenBy_L30 {l : Launch} {D : va_G} {cy : Nat → ClassId} {av : List Value} {ws0 : va_W} {Q : Option Value → va_W → Prop} (F : Nat) (tA : Nat) (t_namesV : Value) (t_kindsV : Value) (t_kinV : Value) (t_stopsV : Value) (t_roundsV : Value) (t_folks : Int32) (t_pairs : Int32) (t_line : Int32) (t_rope : Int32) (t_lineTold : Int32) (t_ropeTold : Int32) (t_lawV : Value) (t_takenA : Nat) (t_takenN : Nat) (t_taken : Nat → Int32)  (s0 : Int32) (R : Int32) (h : bX2_takenBy_L30 F t_takenN t_taken  s0 = some R) (hQ : Q (some (.int R)) (wX2_takenBy cy tA t_namesV t_kindsV t_kinV t_stopsV t_roundsV t_folks t_pairs t_line t_rope t_lineTold t_ropeTold t_lawV t_takenA t_takenN t_taken)) : V l D cy MX2_takenBy 0 0 0 av ws0 Q 30 [] [.int s0] (wX2_takenBy cy tA t_namesV t_kindsV t_kinV t_stopsV t_roundsV t_folks t_pairs t_line t_rope t_lineTold t_ropeTold t_lawV t_takenA t_takenN t_taken) 0 0 := by
  unfold bX2_takenBy_L30 at h
  have e9 := Option.some.inj h; subst e9
  exact V.iret (ty := .int) rfl rfl dX2_takenBy_30 (Nat.le_refl _) (Nat.le_refl _) hQ
noncomputable def bX2_takenBy_L29 (F : Nat) (t_takenN : Nat) (t_taken : Nat → Int32)   : Option (Int32) :=
  bX2_takenBy_L30 F t_takenN t_taken (0 : Int32)
theorem vX2_takenBy_L29 {l : Launch} {D : va_G} {cy : Nat → ClassId} {av : List Value} {ws0 : va_W} {Q : Option Value → va_W → Prop} (F : Nat) (tA : Nat) (t_namesV : Value) (t_kindsV : Value) (t_kinV : Value) (t_stopsV : Value) (t_roundsV : Value) (t_folks : Int32) (t_pairs : Int32) (t_line : Int32) (t_rope : Int32) (t_lineTold : Int32) (t_ropeTold : Int32) (t_lawV : Value) (t_takenA : Nat) (t_takenN : Nat) (t_taken : Nat → Int32)   (R : Int32) (h : bX2_takenBy_L29 F t_takenN t_taken   = some R) (hQ : Q (some (.int R)) (wX2_takenBy cy tA t_namesV t_kindsV t_kinV t_stopsV t_roundsV t_folks t_pairs t_line t_rope t_lineTold t_ropeTold t_lawV t_takenA t_takenN t_taken)) : V l D cy MX2_takenBy 0 0 0 av ws0 Q 29 [] [] (wX2_takenBy cy tA t_namesV t_kindsV t_kinV t_stopsV t_roundsV t_folks t_pairs t_line t_rope t_lineTold t_ropeTold t_lawV t_takenA t_takenN t_taken) 0 0 := by
  unfold bX2_takenBy_L29 at h
  refine V.iconst (v := (0 : Int32)) dX2_takenBy_29 (by decide) ?_
  exact vX2_takenBy_L30 _ _ _ _ _ _ _ _ _ _ _ _ _ _ _ _ _   _ R h hQ
noncomputable def fX2_takenBy (F : Nat) (t_takenN : Nat) (t_taken : Nat → Int32) (a1 : Int32) (a2 : Int32) : Option (Int32) :=
  if ((a1 * (12 : Int32)) + a2) < 0 then (bX2_takenBy_L29 F t_takenN t_taken) else (if (Int32.ofNat t_takenN) ≤ ((a1 * (12 : Int32)) + a2) then (bX2_takenBy_L29 F t_takenN t_taken) else (if ((a1 * (12 : Int32)) + a2) < 0 ∨ t_takenN ≤ ((a1 * (12 : Int32)) + a2).toNatClampNeg then none else (bX2_takenBy_L30 F t_takenN t_taken (t_taken ((a1 * (12 : Int32)) + a2).toNatClampNeg))))
theorem CX2_takenBy {l : Launch} {D : va_G} {cy : Nat → ClassId} (F : Nat) (tA : Nat) (t_namesV : Value) (t_kindsV : Value) (t_kinV : Value) (t_stopsV : Value) (t_roundsV : Value) (t_folks : Int32) (t_pairs : Int32) (t_line : Int32) (t_rope : Int32) (t_lineTold : Int32) (t_ropeTold : Int32) (t_lawV : Value) (t_takenA : Nat) (t_takenN : Nat) (t_taken : Nat → Int32) (a1 : Int32) (a2 : Int32) (R : Int32) (h : fX2_takenBy F t_takenN t_taken a1 a2 = some R) : vMet l D cy MX2_takenBy 0 0 0 [.ref tA, .int a1, .int a2] (wX2_takenBy cy tA t_namesV t_kindsV t_kinV t_stopsV t_roundsV t_folks t_pairs t_line t_rope t_lineTold t_ropeTold t_lawV t_takenA t_takenN t_taken) (fun (r : Option Value) (w : va_W) => r = (some (.int R)) ∧ w = (wX2_takenBy cy tA t_namesV t_kindsV t_kinV t_stopsV t_roundsV t_folks t_pairs t_line t_rope t_lineTold t_ropeTold t_lawV t_takenA t_takenN t_taken)) := by
  refine vMet.start (by decide +kernel) (Nat.le_of_ble_eq_true rfl) ?_
  generalize hQe : (fun (r : Option Value) (w : va_W) => r = (some (.int R)) ∧ w = (wX2_takenBy cy tA t_namesV t_kindsV t_kinV t_stopsV t_roundsV t_folks t_pairs t_line t_rope t_lineTold t_ropeTold t_lawV t_takenA t_takenN t_taken)) = Q
  have hQ : Q (some (.int R)) (wX2_takenBy cy tA t_namesV t_kindsV t_kinV t_stopsV t_roundsV t_folks t_pairs t_line t_rope t_lineTold t_ropeTold t_lawV t_takenA t_takenN t_taken) := by rw [← hQe]; exact ⟨rfl, rfl⟩
  show V l D cy MX2_takenBy 0 0 0 _ _ Q 0 [(0, .ref tA), (1, .int a1), (2, .int a2)] [] _ 0 0
  show V l D cy MX2_takenBy 0 0 0 [.ref tA, .int a1, .int a2] _ Q 0 [(0, .ref tA), (1, .int a1), (2, .int a2)] [] (wX2_takenBy cy tA t_namesV t_kindsV t_kinV t_stopsV t_roundsV t_folks t_pairs t_line t_rope t_lineTold t_ropeTold t_lawV t_takenA t_takenN t_taken) 0 0
  unfold fX2_takenBy at h
  refine V.iload_n dX2_takenBy_0 rfl 1 rfl ?_
  refine V.bipush (v := (12 : Int32)) dX2_takenBy_1 (by decide) ?_
  refine V.imul dX2_takenBy_3 ?_
  refine V.iload_n dX2_takenBy_4 rfl 2 rfl ?_
  refine V.iadd dX2_takenBy_5 ?_
  refine V.istore_n (lv' := [(3, .int ((a1 * (12 : Int32)) + a2)), (0, .ref tA), (1, .int a1), (2, .int a2)]) dX2_takenBy_6 rfl (by decide) rfl ?_
  refine V.iload_n dX2_takenBy_7 rfl 0 rfl ?_
  refine V.if_lt (tgt := 29) dX2_takenBy_8 (by decide) (fun hc8 => ?_) (fun hc8 => ?_)
  · replace h := (if_pos hc8).symm.trans h
    refine V.lvs [] rfl ?_
    exact vX2_takenBy_L29 _ _ _ _ _ _ _ _ _ _ _ _ _ _ _ _ _    R h hQ
  · replace h := (if_neg hc8).symm.trans h
    refine V.iload_n dX2_takenBy_11 rfl 0 rfl ?_
    refine V.aload_n dX2_takenBy_12 rfl 1 rfl ?_
    refine V.get kfX2 0 rfl rfl 12 (by decide) klX2_35 rfl dX2_takenBy_13 ?_
    refine V.alen (v := Int32.ofNat t_takenN) (t0 := 1) dX2_takenBy_16 1 rfl rfl rfl ?_
    refine V.icmp_ge (tgt := 29) dX2_takenBy_17 (by decide) (fun hc17 => ?_) (fun hc17 => ?_)
    · replace h := (if_pos hc17).symm.trans h
      refine V.lvs [] rfl ?_
      exact vX2_takenBy_L29 _ _ _ _ _ _ _ _ _ _ _ _ _ _ _ _ _    R h hQ
    · replace h := (if_neg hc17).symm.trans h
      refine V.aload_n dX2_takenBy_20 rfl 1 rfl ?_
      refine V.get kfX2 0 rfl rfl 12 (by decide) klX2_35 rfl dX2_takenBy_21 ?_
      refine V.iload_n dX2_takenBy_24 rfl 0 rfl ?_
      by_cases hb25 : ((a1 * (12 : Int32)) + a2) < 0 ∨ t_takenN ≤ ((a1 * (12 : Int32)) + a2).toNatClampNeg
      · exact vNone ((if_pos hb25).symm.trans h)
      replace h := (if_neg hb25).symm.trans h
      refine V.iald dX2_takenBy_25 1 rfl hb25 ?_
      refine V.goto (tgt := 30) dX2_takenBy_26 (by decide) ?_
      refine V.lvs [] rfl ?_
      exact vX2_takenBy_L30 _ _ _ _ _ _ _ _ _ _ _ _ _ _ _ _ _   _ R h hQ
theorem dX2_folkNamed_0 : decode cX2_folkNamed 0 = .ok (.iconst 0, 1) := by decide +kernel
theorem dX2_folkNamed_1 : decode cX2_folkNamed 1 = .ok (.istore_n 3, 1) := by decide +kernel
theorem dX2_folkNamed_2 : decode cX2_folkNamed 2 = .ok (.iload_n 3, 1) := by decide +kernel
theorem dX2_folkNamed_3 : decode cX2_folkNamed 3 = .ok (.aload_n 0, 1) := by decide +kernel
theorem dX2_folkNamed_4 : decode cX2_folkNamed 4 = .ok (.getfield 47, 3) := by decide +kernel
theorem dX2_folkNamed_7 : decode cX2_folkNamed 7 = .ok (.if_icmp .ge 22, 3) := by decide +kernel
theorem dX2_folkNamed_10 : decode cX2_folkNamed 10 = .ok (.aload_n 0, 1) := by decide +kernel
theorem dX2_folkNamed_11 : decode cX2_folkNamed 11 = .ok (.getfield 9, 3) := by decide +kernel
theorem dX2_folkNamed_14 : decode cX2_folkNamed 14 = .ok (.iload_n 3, 1) := by decide +kernel
theorem dX2_folkNamed_15 : decode cX2_folkNamed 15 = .ok (.laload, 1) := by decide +kernel
theorem dX2_folkNamed_16 : decode cX2_folkNamed 16 = .ok (.lload_n 1, 1) := by decide +kernel
theorem dX2_folkNamed_17 : decode cX2_folkNamed 17 = .ok (.lcmp, 1) := by decide +kernel
theorem dX2_folkNamed_18 : decode cX2_folkNamed 18 = .ok (.ifCond .ne 5, 3) := by decide +kernel
theorem dX2_folkNamed_21 : decode cX2_folkNamed 21 = .ok (.iload_n 3, 1) := by decide +kernel
theorem dX2_folkNamed_22 : decode cX2_folkNamed 22 = .ok (.ireturn, 1) := by decide +kernel
theorem dX2_folkNamed_23 : decode cX2_folkNamed 23 = .ok (.iinc 3 1, 3) := by decide +kernel
theorem dX2_folkNamed_26 : decode cX2_folkNamed 26 = .ok (.goto (-24), 3) := by decide +kernel
theorem dX2_folkNamed_29 : decode cX2_folkNamed 29 = .ok (.iconst (-1), 1) := by decide +kernel
theorem dX2_folkNamed_30 : decode cX2_folkNamed 30 = .ok (.ireturn, 1) := by decide +kernel
def wX2_folkNamed (cy : Nat → ClassId) (tA : Nat) (t_kindsV : Value) (t_kinV : Value) (t_stopsV : Value) (t_roundsV : Value) (t_folks : Int32) (t_pairs : Int32) (t_line : Int32) (t_rope : Int32) (t_lineTold : Int32) (t_ropeTold : Int32) (t_lawV : Value) (t_takenV : Value) (t_namesA : Nat) (t_namesN : Nat) (t_names : Nat → Int64) : va_W :=
  [(tA, .inr (2, [.ref t_namesA, t_kindsV, t_kinV, t_stopsV, t_roundsV, .int t_folks, .int t_pairs, .int t_line, .int t_rope, .int t_lineTold, .int t_ropeTold, t_lawV, t_takenV])), (t_namesA, .inl (cy 2, t_namesN, .inr (.inl t_names)))]
noncomputable def bX2_folkNamed_L2 (F : Nat) (t_folks : Int32) (t_namesN : Nat) (t_names : Nat → Int64) (k2 : Int64 → Int32 → Option (Int32)) (x1 : Int64) (x3 : Int32) : Option (Int32) :=
  if t_folks ≤ x3 then (some (-1 : Int32)) else (if x3 < 0 ∨ t_namesN ≤ x3.toNatClampNeg then none else (if (lg_cmp (t_names (x3).toNatClampNeg) x1) = 0 then (some x3) else (k2 x1 (x3 + (1 : Int32)))))
theorem vbX2_folkNamed_L2 {l : Launch} {D : va_G} {cy : Nat → ClassId} {av : List Value} {ws0 : va_W} {Q : Option Value → va_W → Prop} (F : Nat) (tA : Nat) (t_kindsV : Value) (t_kinV : Value) (t_stopsV : Value) (t_roundsV : Value) (t_folks : Int32) (t_pairs : Int32) (t_line : Int32) (t_rope : Int32) (t_lineTold : Int32) (t_ropeTold : Int32) (t_lawV : Value) (t_takenV : Value) (t_namesA : Nat) (t_namesN : Nat) (t_names : Nat → Int64) (k2 : Int64 → Int32 → Option (Int32)) (hk2 : ∀ (x1 : Int64) (x3 : Int32) (R : Int32), k2 x1 x3 = some R → Q (some (.int R)) (wX2_folkNamed cy tA t_kindsV t_kinV t_stopsV t_roundsV t_folks t_pairs t_line t_rope t_lineTold t_ropeTold t_lawV t_takenV t_namesA t_namesN t_names) → V l D cy MX2_folkNamed 0 0 0 av ws0 Q 2 [(0, .ref tA), (1, .long x1), (3, .int x3)] [] (wX2_folkNamed cy tA t_kindsV t_kinV t_stopsV t_roundsV t_folks t_pairs t_line t_rope t_lineTold t_ropeTold t_lawV t_takenV t_namesA t_namesN t_names) 0 0) (x1 : Int64) (x3 : Int32) (R : Int32) (h : bX2_folkNamed_L2 F t_folks t_namesN t_names k2 x1 x3 = some R) (hQ : Q (some (.int R)) (wX2_folkNamed cy tA t_kindsV t_kinV t_stopsV t_roundsV t_folks t_pairs t_line t_rope t_lineTold t_ropeTold t_lawV t_takenV t_namesA t_namesN t_names)) : V l D cy MX2_folkNamed 0 0 0 av ws0 Q 2 [(0, .ref tA), (1, .long x1), (3, .int x3)] [] (wX2_folkNamed cy tA t_kindsV t_kinV t_stopsV t_roundsV t_folks t_pairs t_line t_rope t_lineTold t_ropeTold t_lawV t_takenV t_namesA t_namesN t_names) 0 0 := by
  unfold bX2_folkNamed_L2 at h
  refine V.iload_n dX2_folkNamed_2 rfl 2 rfl ?_
  refine V.aload_n dX2_folkNamed_3 rfl 0 rfl ?_
  refine V.get kfX2 0 rfl rfl 5 (by decide) klX2_47 rfl dX2_folkNamed_4 ?_
  refine V.icmp_ge (tgt := 29) dX2_folkNamed_7 (by decide) (fun hc7 => ?_) (fun hc7 => ?_)
  · replace h := (if_pos hc7).symm.trans h
    refine V.iconst (v := (-1 : Int32)) dX2_folkNamed_29 (by decide) ?_
    have e9 := Option.some.inj h; subst e9
    exact V.iret (ty := .int) rfl rfl dX2_folkNamed_30 (Nat.le_refl _) (Nat.le_refl _) hQ
  · replace h := (if_neg hc7).symm.trans h
    refine V.aload_n dX2_folkNamed_10 rfl 0 rfl ?_
    refine V.get kfX2 0 rfl rfl 0 (by decide) klX2_9 rfl dX2_folkNamed_11 ?_
    refine V.iload_n dX2_folkNamed_14 rfl 2 rfl ?_
    by_cases hb15 : x3 < 0 ∨ t_namesN ≤ x3.toNatClampNeg
    · exact vNone ((if_pos hb15).symm.trans h)
    replace h := (if_neg hb15).symm.trans h
    refine V.lald dX2_folkNamed_15 1 rfl hb15 ?_
    refine V.lload_n dX2_folkNamed_16 rfl 1 rfl ?_
    refine V.lcmp dX2_folkNamed_17 ?_
    refine V.if_ne (tgt := 23) dX2_folkNamed_18 (by decide) (fun hc18 => ?_) (fun hc18 => ?_)
    · replace h := (if_neg hc18).symm.trans h
      refine V.iinc (v := x3 + (1 : Int32)) (lv' := [(3, .int (x3 + (1 : Int32))), (0, .ref tA), (1, .long x1)]) dX2_folkNamed_23 2 rfl rfl (by decide) rfl ?_
      refine V.goto (tgt := 2) dX2_folkNamed_26 (by decide) ?_
      refine V.lvs [1, 2, 0] rfl ?_
      exact hk2 _ _ R h hQ
    · replace h := (if_pos hc18).symm.trans h
      refine V.iload_n dX2_folkNamed_21 rfl 2 rfl ?_
      have e9 := Option.some.inj h; subst e9
      exact V.iret (ty := .int) rfl rfl dX2_folkNamed_22 (Nat.le_refl _) (Nat.le_refl _) hQ
noncomputable def fX2_folkNamed_L2 (F : Nat) (t_folks : Int32) (t_namesN : Nat) (t_names : Nat → Int64)  : Nat → Int64 → Int32 → Option (Int32)
  | 0 => fun _ _ => none
  | n + 1 => bX2_folkNamed_L2 F t_folks t_namesN t_names (fX2_folkNamed_L2 F t_folks t_namesN t_names  n)
theorem vX2_folkNamed_L2 {l : Launch} {D : va_G} {cy : Nat → ClassId} {av : List Value} {ws0 : va_W} {Q : Option Value → va_W → Prop} (F : Nat) (tA : Nat) (t_kindsV : Value) (t_kinV : Value) (t_stopsV : Value) (t_roundsV : Value) (t_folks : Int32) (t_pairs : Int32) (t_line : Int32) (t_rope : Int32) (t_lineTold : Int32) (t_ropeTold : Int32) (t_lawV : Value) (t_takenV : Value) (t_namesA : Nat) (t_namesN : Nat) (t_names : Nat → Int64)  : ∀ (n : Nat) (x1 : Int64) (x3 : Int32) (R : Int32), fX2_folkNamed_L2 F t_folks t_namesN t_names  n x1 x3 = some R → Q (some (.int R)) (wX2_folkNamed cy tA t_kindsV t_kinV t_stopsV t_roundsV t_folks t_pairs t_line t_rope t_lineTold t_ropeTold t_lawV t_takenV t_namesA t_namesN t_names) → V l D cy MX2_folkNamed 0 0 0 av ws0 Q 2 [(0, .ref tA), (1, .long x1), (3, .int x3)] [] (wX2_folkNamed cy tA t_kindsV t_kinV t_stopsV t_roundsV t_folks t_pairs t_line t_rope t_lineTold t_ropeTold t_lawV t_takenV t_namesA t_namesN t_names) 0 0 := by
  intro n
  induction n with
  | zero => intro x1 x3 R h; exact vNone h
  | succ n ih => intro x1 x3 R h hQ; exact vbX2_folkNamed_L2 F tA t_kindsV t_kinV t_stopsV t_roundsV t_folks t_pairs t_line t_rope t_lineTold t_ropeTold t_lawV t_takenV t_namesA t_namesN t_names _ ih x1 x3 R h hQ
noncomputable def fX2_folkNamed (F : Nat) (t_folks : Int32) (t_namesN : Nat) (t_names : Nat → Int64) (a1 : Int64) : Option (Int32) :=
  fX2_folkNamed_L2 F t_folks t_namesN t_names F a1 (0 : Int32)
theorem CX2_folkNamed {l : Launch} {D : va_G} {cy : Nat → ClassId} (F : Nat) (tA : Nat) (t_kindsV : Value) (t_kinV : Value) (t_stopsV : Value) (t_roundsV : Value) (t_folks : Int32) (t_pairs : Int32) (t_line : Int32) (t_rope : Int32) (t_lineTold : Int32) (t_ropeTold : Int32) (t_lawV : Value) (t_takenV : Value) (t_namesA : Nat) (t_namesN : Nat) (t_names : Nat → Int64) (a1 : Int64) (R : Int32) (h : fX2_folkNamed F t_folks t_namesN t_names a1 = some R) : vMet l D cy MX2_folkNamed 0 0 0 [.ref tA, .long a1] (wX2_folkNamed cy tA t_kindsV t_kinV t_stopsV t_roundsV t_folks t_pairs t_line t_rope t_lineTold t_ropeTold t_lawV t_takenV t_namesA t_namesN t_names) (fun (r : Option Value) (w : va_W) => r = (some (.int R)) ∧ w = (wX2_folkNamed cy tA t_kindsV t_kinV t_stopsV t_roundsV t_folks t_pairs t_line t_rope t_lineTold t_ropeTold t_lawV t_takenV t_namesA t_namesN t_names)) := by
  refine vMet.start (by decide +kernel) (Nat.le_of_ble_eq_true rfl) ?_
  generalize hQe : (fun (r : Option Value) (w : va_W) => r = (some (.int R)) ∧ w = (wX2_folkNamed cy tA t_kindsV t_kinV t_stopsV t_roundsV t_folks t_pairs t_line t_rope t_lineTold t_ropeTold t_lawV t_takenV t_namesA t_namesN t_names)) = Q
  have hQ : Q (some (.int R)) (wX2_folkNamed cy tA t_kindsV t_kinV t_stopsV t_roundsV t_folks t_pairs t_line t_rope t_lineTold t_ropeTold t_lawV t_takenV t_namesA t_namesN t_names) := by rw [← hQe]; exact ⟨rfl, rfl⟩
  show V l D cy MX2_folkNamed 0 0 0 _ _ Q 0 [(0, .ref tA), (1, .long a1)] [] _ 0 0
  show V l D cy MX2_folkNamed 0 0 0 [.ref tA, .long a1] _ Q 0 [(0, .ref tA), (1, .long a1)] [] (wX2_folkNamed cy tA t_kindsV t_kinV t_stopsV t_roundsV t_folks t_pairs t_line t_rope t_lineTold t_ropeTold t_lawV t_takenV t_namesA t_namesN t_names) 0 0
  unfold fX2_folkNamed at h
  refine V.iconst (v := (0 : Int32)) dX2_folkNamed_0 (by decide) ?_
  refine V.istore_n (lv' := [(3, .int (0 : Int32)), (0, .ref tA), (1, .long a1)]) dX2_folkNamed_1 rfl (by decide) rfl ?_
  refine V.lvs [1, 2, 0] rfl ?_
  exact vX2_folkNamed_L2 _ _ _ _ _ _ _ _ _ _ _ _ _ _ _ _ _  _ _ _ R h hQ
theorem dX2_clear_0 : decode cX2_clear 0 = .ok (.aload_n 0, 1) := by decide +kernel
theorem dX2_clear_1 : decode cX2_clear 1 = .ok (.getfield 19, 3) := by decide +kernel
theorem dX2_clear_4 : decode cX2_clear 4 = .ok (.iconst 0, 1) := by decide +kernel
theorem dX2_clear_5 : decode cX2_clear 5 = .ok (.invokestatic 41, 3) := by decide +kernel
theorem dX2_clear_8 : decode cX2_clear 8 = .ok (.aload_n 0, 1) := by decide +kernel
theorem dX2_clear_9 : decode cX2_clear 9 = .ok (.getfield 22, 3) := by decide +kernel
theorem dX2_clear_12 : decode cX2_clear 12 = .ok (.iconst 0, 1) := by decide +kernel
theorem dX2_clear_13 : decode cX2_clear 13 = .ok (.invokestatic 41, 3) := by decide +kernel
theorem dX2_clear_16 : decode cX2_clear 16 = .ok (.aload_n 0, 1) := by decide +kernel
theorem dX2_clear_17 : decode cX2_clear 17 = .ok (.iconst 0, 1) := by decide +kernel
theorem dX2_clear_18 : decode cX2_clear 18 = .ok (.putfield 47, 3) := by decide +kernel
theorem dX2_clear_21 : decode cX2_clear 21 = .ok (.aload_n 0, 1) := by decide +kernel
theorem dX2_clear_22 : decode cX2_clear 22 = .ok (.iconst 0, 1) := by decide +kernel
theorem dX2_clear_23 : decode cX2_clear 23 = .ok (.putfield 51, 3) := by decide +kernel
theorem dX2_clear_26 : decode cX2_clear 26 = .ok (.aload_n 0, 1) := by decide +kernel
theorem dX2_clear_27 : decode cX2_clear 27 = .ok (.bipush 24, 2) := by decide +kernel
theorem dX2_clear_29 : decode cX2_clear 29 = .ok (.putfield 54, 3) := by decide +kernel
theorem dX2_clear_32 : decode cX2_clear 32 = .ok (.aload_n 0, 1) := by decide +kernel
theorem dX2_clear_33 : decode cX2_clear 33 = .ok (.sipush 200, 3) := by decide +kernel
theorem dX2_clear_36 : decode cX2_clear 36 = .ok (.putfield 57, 3) := by decide +kernel
theorem dX2_clear_39 : decode cX2_clear 39 = .ok (.aload_n 0, 1) := by decide +kernel
theorem dX2_clear_40 : decode cX2_clear 40 = .ok (.iconst 0, 1) := by decide +kernel
theorem dX2_clear_41 : decode cX2_clear 41 = .ok (.putfield 60, 3) := by decide +kernel
theorem dX2_clear_44 : decode cX2_clear 44 = .ok (.aload_n 0, 1) := by decide +kernel
theorem dX2_clear_45 : decode cX2_clear 45 = .ok (.iconst 0, 1) := by decide +kernel
theorem dX2_clear_46 : decode cX2_clear 46 = .ok (.putfield 64, 3) := by decide +kernel
theorem dX2_clear_49 : decode cX2_clear 49 = .ok (.aload_n 0, 1) := by decide +kernel
theorem dX2_clear_50 : decode cX2_clear 50 = .ok (.getfield 31, 3) := by decide +kernel
theorem dX2_clear_53 : decode cX2_clear 53 = .ok (.invokevirtual 67, 3) := by decide +kernel
theorem dX2_clear_56 : decode cX2_clear 56 = .ok (.return_, 1) := by decide +kernel
def wX2_clear (cy : Nat → ClassId) (tA : Nat) (t_namesV : Value) (t_kindsV : Value) (t_roundsV : Value) (t_folks : Int32) (t_pairs : Int32) (t_line : Int32) (t_rope : Int32) (t_lineTold : Int32) (t_ropeTold : Int32) (t_takenV : Value) (t_kinA : Nat) (t_kinN : Nat) (t_kin : Nat → Int32) (t_stopsA : Nat) (t_stopsN : Nat) (t_stops : Nat → Int32) (t_lawA : Nat) (t_law_codeV : Value) (t_law_size : Int32) (t_law_waitingV : Value) (t_law_waits : Int32) (t_law_within : Int32) (t_law_brackets : Int32) (t_law_partIsDue : Int32) (t_law_stackV : Value) : va_W :=
  [(tA, .inr (2, [t_namesV, t_kindsV, .ref t_kinA, .ref t_stopsA, t_roundsV, .int t_folks, .int t_pairs, .int t_line, .int t_rope, .int t_lineTold, .int t_ropeTold, .ref t_lawA, t_takenV])), (t_kinA, .inl (cy 1, t_kinN, .inl t_kin)), (t_stopsA, .inl (cy 1, t_stopsN, .inl t_stops)), (t_lawA, .inr (1, [t_law_codeV, .int t_law_size, t_law_waitingV, .int t_law_waits, .int t_law_within, .int t_law_brackets, .int t_law_partIsDue, t_law_stackV]))]
noncomputable def fX2_clear (F : Nat) (t_kinN : Nat) (t_stopsN : Nat) (t_folks : Int32) (t_pairs : Int32) (t_line : Int32) (t_rope : Int32) (t_lineTold : Int32) (t_ropeTold : Int32) (t_kin : Nat → Int32) (t_stops : Nat → Int32) (t_law_size : Int32) (t_law_waits : Int32) (t_law_within : Int32) (t_law_brackets : Int32) (t_law_partIsDue : Int32) : Option ((Int32) × (Int32) × (Int32) × (Int32) × (Int32) × (Int32) × (Nat → Int32) × (Nat → Int32) × (Int32) × (Int32) × (Int32) × (Int32) × (Int32)) :=
  (fJ7_fill_53178 F t_kinN (0 : Int32) t_kin).bind fun R5 => ((fJ7_fill_53178 F t_stopsN (0 : Int32) t_stops).bind fun R13 => ((fX1_clear F t_law_size t_law_waits t_law_within t_law_brackets t_law_partIsDue).bind fun R53 => (some ((0 : Int32), (0 : Int32), (24 : Int32), (200 : Int32), (0 : Int32), (0 : Int32), R5, R13, R53.1, R53.2.1, R53.2.2.1, R53.2.2.2.1, R53.2.2.2.2))))
theorem CX2_clear {l : Launch} {D : va_G} {cy : Nat → ClassId} (F : Nat) (tA : Nat) (t_namesV : Value) (t_kindsV : Value) (t_roundsV : Value) (t_folks : Int32) (t_pairs : Int32) (t_line : Int32) (t_rope : Int32) (t_lineTold : Int32) (t_ropeTold : Int32) (t_takenV : Value) (t_kinA : Nat) (t_kinN : Nat) (t_kin : Nat → Int32) (t_stopsA : Nat) (t_stopsN : Nat) (t_stops : Nat → Int32) (t_lawA : Nat) (t_law_codeV : Value) (t_law_size : Int32) (t_law_waitingV : Value) (t_law_waits : Int32) (t_law_within : Int32) (t_law_brackets : Int32) (t_law_partIsDue : Int32) (t_law_stackV : Value) (R : (Int32) × (Int32) × (Int32) × (Int32) × (Int32) × (Int32) × (Nat → Int32) × (Nat → Int32) × (Int32) × (Int32) × (Int32) × (Int32) × (Int32)) (h : fX2_clear F t_kinN t_stopsN t_folks t_pairs t_line t_rope t_lineTold t_ropeTold t_kin t_stops t_law_size t_law_waits t_law_within t_law_brackets t_law_partIsDue = some R) : vMet l D cy MX2_clear 1 0 0 [.ref tA] (wX2_clear cy tA t_namesV t_kindsV t_roundsV t_folks t_pairs t_line t_rope t_lineTold t_ropeTold t_takenV t_kinA t_kinN t_kin t_stopsA t_stopsN t_stops t_lawA t_law_codeV t_law_size t_law_waitingV t_law_waits t_law_within t_law_brackets t_law_partIsDue t_law_stackV) (fun (r : Option Value) (w : va_W) => r = none ∧ w = (wX2_clear cy tA t_namesV t_kindsV t_roundsV R.1 R.2.1 R.2.2.1 R.2.2.2.1 R.2.2.2.2.1 R.2.2.2.2.2.1 t_takenV t_kinA t_kinN R.2.2.2.2.2.2.1 t_stopsA t_stopsN R.2.2.2.2.2.2.2.1 t_lawA t_law_codeV R.2.2.2.2.2.2.2.2.1 t_law_waitingV R.2.2.2.2.2.2.2.2.2.1 R.2.2.2.2.2.2.2.2.2.2.1 R.2.2.2.2.2.2.2.2.2.2.2.1 R.2.2.2.2.2.2.2.2.2.2.2.2 t_law_stackV)) := by
  refine vMet.start (by decide +kernel) (Nat.le_of_ble_eq_true rfl) ?_
  generalize hQe : (fun (r : Option Value) (w : va_W) => r = none ∧ w = (wX2_clear cy tA t_namesV t_kindsV t_roundsV R.1 R.2.1 R.2.2.1 R.2.2.2.1 R.2.2.2.2.1 R.2.2.2.2.2.1 t_takenV t_kinA t_kinN R.2.2.2.2.2.2.1 t_stopsA t_stopsN R.2.2.2.2.2.2.2.1 t_lawA t_law_codeV R.2.2.2.2.2.2.2.2.1 t_law_waitingV R.2.2.2.2.2.2.2.2.2.1 R.2.2.2.2.2.2.2.2.2.2.1 R.2.2.2.2.2.2.2.2.2.2.2.1 R.2.2.2.2.2.2.2.2.2.2.2.2 t_law_stackV)) = Q
  have hQ : Q none (wX2_clear cy tA t_namesV t_kindsV t_roundsV R.1 R.2.1 R.2.2.1 R.2.2.2.1 R.2.2.2.2.1 R.2.2.2.2.2.1 t_takenV t_kinA t_kinN R.2.2.2.2.2.2.1 t_stopsA t_stopsN R.2.2.2.2.2.2.2.1 t_lawA t_law_codeV R.2.2.2.2.2.2.2.2.1 t_law_waitingV R.2.2.2.2.2.2.2.2.2.1 R.2.2.2.2.2.2.2.2.2.2.1 R.2.2.2.2.2.2.2.2.2.2.2.1 R.2.2.2.2.2.2.2.2.2.2.2.2 t_law_stackV) := by rw [← hQe]; exact ⟨rfl, rfl⟩
  show V l D cy MX2_clear 1 0 0 _ _ Q 0 [(0, .ref tA)] [] _ 0 0
  show V l D cy MX2_clear 1 0 0 [.ref tA] _ Q 0 [(0, .ref tA)] [] (wX2_clear cy tA t_namesV t_kindsV t_roundsV t_folks t_pairs t_line t_rope t_lineTold t_ropeTold t_takenV t_kinA t_kinN t_kin t_stopsA t_stopsN t_stops t_lawA t_law_codeV t_law_size t_law_waitingV t_law_waits t_law_within t_law_brackets t_law_partIsDue t_law_stackV) 0 0
  unfold fX2_clear at h
  refine V.aload_n dX2_clear_0 rfl 0 rfl ?_
  refine V.get kfX2 0 rfl rfl 2 (by decide) klX2_19 rfl dX2_clear_1 ?_
  refine V.iconst (v := (0 : Int32)) dX2_clear_4 (by decide) ?_
  obtain ⟨R5, hg5, h⟩ := Option.bind_eq_some_iff.mp h
  refine V.callS (As := [.ref t_kinA, .int (0 : Int32)]) (rest := []) (wc := (wJ7_fill_53178 cy t_kinA t_kinN t_kin)) (wr := [(tA, .inr (2, [t_namesV, t_kindsV, .ref t_kinA, .ref t_stopsA, t_roundsV, .int t_folks, .int t_pairs, .int t_line, .int t_rope, .int t_lineTold, .int t_ropeTold, .ref t_lawA, t_takenV])), (t_stopsA, .inl (cy 1, t_stopsN, .inl t_stops)), (t_lawA, .inr (1, [t_law_codeV, .int t_law_size, t_law_waitingV, .int t_law_waits, .int t_law_within, .int t_law_brackets, .int t_law_partIsDue, t_law_stackV]))]) (CJ7_fill_53178 F t_kinA t_kinN t_kin (0 : Int32) R5 hg5) kvJ7_fill_53178 klX2_41 [1] [0, 2, 3] rfl rfl (by decide) (by decide) (by decide) rfl dX2_clear_5 ⟨by decide, by decide, by decide, by decide⟩ (Nat.le_of_ble_eq_true rfl) (fun r w1 hq => ?_)
  obtain ⟨rfl, rfl⟩ := hq
  refine V.cells (ws' := (wX2_clear cy tA t_namesV t_kindsV t_roundsV t_folks t_pairs t_line t_rope t_lineTold t_ropeTold t_takenV t_kinA t_kinN R5 t_stopsA t_stopsN t_stops t_lawA t_law_codeV t_law_size t_law_waitingV t_law_waits t_law_within t_law_brackets t_law_partIsDue t_law_stackV)) [0, 3, 1, 2] (by decide) rfl ?_
  show V l D cy MX2_clear 1 0 0 _ _ _ 8 [(0, .ref tA)] [] (wX2_clear cy tA t_namesV t_kindsV t_roundsV t_folks t_pairs t_line t_rope t_lineTold t_ropeTold t_takenV t_kinA t_kinN R5 t_stopsA t_stopsN t_stops t_lawA t_law_codeV t_law_size t_law_waitingV t_law_waits t_law_within t_law_brackets t_law_partIsDue t_law_stackV) 0 0
  refine V.aload_n dX2_clear_8 rfl 0 rfl ?_
  refine V.get kfX2 0 rfl rfl 3 (by decide) klX2_22 rfl dX2_clear_9 ?_
  refine V.iconst (v := (0 : Int32)) dX2_clear_12 (by decide) ?_
  obtain ⟨R13, hg13, h⟩ := Option.bind_eq_some_iff.mp h
  refine V.callS (As := [.ref t_stopsA, .int (0 : Int32)]) (rest := []) (wc := (wJ7_fill_53178 cy t_stopsA t_stopsN t_stops)) (wr := [(tA, .inr (2, [t_namesV, t_kindsV, .ref t_kinA, .ref t_stopsA, t_roundsV, .int t_folks, .int t_pairs, .int t_line, .int t_rope, .int t_lineTold, .int t_ropeTold, .ref t_lawA, t_takenV])), (t_kinA, .inl (cy 1, t_kinN, .inl R5)), (t_lawA, .inr (1, [t_law_codeV, .int t_law_size, t_law_waitingV, .int t_law_waits, .int t_law_within, .int t_law_brackets, .int t_law_partIsDue, t_law_stackV]))]) (CJ7_fill_53178 F t_stopsA t_stopsN t_stops (0 : Int32) R13 hg13) kvJ7_fill_53178 klX2_41 [2] [0, 1, 3] rfl rfl (by decide) (by decide) (by decide) rfl dX2_clear_13 ⟨by decide, by decide, by decide, by decide⟩ (Nat.le_of_ble_eq_true rfl) (fun r w1 hq => ?_)
  obtain ⟨rfl, rfl⟩ := hq
  refine V.cells (ws' := (wX2_clear cy tA t_namesV t_kindsV t_roundsV t_folks t_pairs t_line t_rope t_lineTold t_ropeTold t_takenV t_kinA t_kinN R5 t_stopsA t_stopsN R13 t_lawA t_law_codeV t_law_size t_law_waitingV t_law_waits t_law_within t_law_brackets t_law_partIsDue t_law_stackV)) [0, 1, 3, 2] (by decide) rfl ?_
  show V l D cy MX2_clear 1 0 0 _ _ _ 16 [(0, .ref tA)] [] (wX2_clear cy tA t_namesV t_kindsV t_roundsV t_folks t_pairs t_line t_rope t_lineTold t_ropeTold t_takenV t_kinA t_kinN R5 t_stopsA t_stopsN R13 t_lawA t_law_codeV t_law_size t_law_waitingV t_law_waits t_law_within t_law_brackets t_law_partIsDue t_law_stackV) 0 0
  refine V.aload_n dX2_clear_16 rfl 0 rfl ?_
  refine V.iconst (v := (0 : Int32)) dX2_clear_17 (by decide) ?_
  refine V.put (ws' := (wX2_clear cy tA t_namesV t_kindsV t_roundsV (0 : Int32) t_pairs t_line t_rope t_lineTold t_ropeTold t_takenV t_kinA t_kinN R5 t_stopsA t_stopsN R13 t_lawA t_law_codeV t_law_size t_law_waitingV t_law_waits t_law_within t_law_brackets t_law_partIsDue t_law_stackV)) kfX2 tyX2 tyX2_ok nmX2 0 rfl rfl 5 (by decide) klX2_47 rfl (tyX2_ok 5 (by decide)) rfl rfl (Nat.le_of_ble_eq_true rfl) dX2_clear_18 rfl ?_
  refine V.aload_n dX2_clear_21 rfl 0 rfl ?_
  refine V.iconst (v := (0 : Int32)) dX2_clear_22 (by decide) ?_
  refine V.put (ws' := (wX2_clear cy tA t_namesV t_kindsV t_roundsV (0 : Int32) (0 : Int32) t_line t_rope t_lineTold t_ropeTold t_takenV t_kinA t_kinN R5 t_stopsA t_stopsN R13 t_lawA t_law_codeV t_law_size t_law_waitingV t_law_waits t_law_within t_law_brackets t_law_partIsDue t_law_stackV)) kfX2 tyX2 tyX2_ok nmX2 0 rfl rfl 6 (by decide) klX2_51 rfl (tyX2_ok 6 (by decide)) rfl rfl (Nat.le_of_ble_eq_true rfl) dX2_clear_23 rfl ?_
  refine V.aload_n dX2_clear_26 rfl 0 rfl ?_
  refine V.bipush (v := (24 : Int32)) dX2_clear_27 (by decide) ?_
  refine V.put (ws' := (wX2_clear cy tA t_namesV t_kindsV t_roundsV (0 : Int32) (0 : Int32) (24 : Int32) t_rope t_lineTold t_ropeTold t_takenV t_kinA t_kinN R5 t_stopsA t_stopsN R13 t_lawA t_law_codeV t_law_size t_law_waitingV t_law_waits t_law_within t_law_brackets t_law_partIsDue t_law_stackV)) kfX2 tyX2 tyX2_ok nmX2 0 rfl rfl 7 (by decide) klX2_54 rfl (tyX2_ok 7 (by decide)) rfl rfl (Nat.le_of_ble_eq_true rfl) dX2_clear_29 rfl ?_
  refine V.aload_n dX2_clear_32 rfl 0 rfl ?_
  refine V.sipush (v := (200 : Int32)) dX2_clear_33 (by decide) ?_
  refine V.put (ws' := (wX2_clear cy tA t_namesV t_kindsV t_roundsV (0 : Int32) (0 : Int32) (24 : Int32) (200 : Int32) t_lineTold t_ropeTold t_takenV t_kinA t_kinN R5 t_stopsA t_stopsN R13 t_lawA t_law_codeV t_law_size t_law_waitingV t_law_waits t_law_within t_law_brackets t_law_partIsDue t_law_stackV)) kfX2 tyX2 tyX2_ok nmX2 0 rfl rfl 8 (by decide) klX2_57 rfl (tyX2_ok 8 (by decide)) rfl rfl (Nat.le_of_ble_eq_true rfl) dX2_clear_36 rfl ?_
  refine V.aload_n dX2_clear_39 rfl 0 rfl ?_
  refine V.iconst (v := (0 : Int32)) dX2_clear_40 (by decide) ?_
  refine V.put (ws' := (wX2_clear cy tA t_namesV t_kindsV t_roundsV (0 : Int32) (0 : Int32) (24 : Int32) (200 : Int32) (0 : Int32) t_ropeTold t_takenV t_kinA t_kinN R5 t_stopsA t_stopsN R13 t_lawA t_law_codeV t_law_size t_law_waitingV t_law_waits t_law_within t_law_brackets t_law_partIsDue t_law_stackV)) kfX2 tyX2 tyX2_ok nmX2 0 rfl rfl 9 (by decide) klX2_60 rfl (tyX2_ok 9 (by decide)) rfl rfl (Nat.le_of_ble_eq_true rfl) dX2_clear_41 rfl ?_
  refine V.aload_n dX2_clear_44 rfl 0 rfl ?_
  refine V.iconst (v := (0 : Int32)) dX2_clear_45 (by decide) ?_
  refine V.put (ws' := (wX2_clear cy tA t_namesV t_kindsV t_roundsV (0 : Int32) (0 : Int32) (24 : Int32) (200 : Int32) (0 : Int32) (0 : Int32) t_takenV t_kinA t_kinN R5 t_stopsA t_stopsN R13 t_lawA t_law_codeV t_law_size t_law_waitingV t_law_waits t_law_within t_law_brackets t_law_partIsDue t_law_stackV)) kfX2 tyX2 tyX2_ok nmX2 0 rfl rfl 10 (by decide) klX2_64 rfl (tyX2_ok 10 (by decide)) rfl rfl (Nat.le_of_ble_eq_true rfl) dX2_clear_46 rfl ?_
  refine V.aload_n dX2_clear_49 rfl 0 rfl ?_
  refine V.get kfX2 0 rfl rfl 11 (by decide) klX2_31 rfl dX2_clear_50 ?_
  obtain ⟨R53, hg53, h⟩ := Option.bind_eq_some_iff.mp h
  refine V.callV (As := []) (rest := []) (wc := (wX1_clear cy t_lawA t_law_codeV t_law_size t_law_waitingV t_law_waits t_law_within t_law_brackets t_law_partIsDue t_law_stackV)) (wr := [(tA, .inr (2, [t_namesV, t_kindsV, .ref t_kinA, .ref t_stopsA, t_roundsV, .int (0 : Int32), .int (0 : Int32), .int (24 : Int32), .int (200 : Int32), .int (0 : Int32), .int (0 : Int32), .ref t_lawA, t_takenV])), (t_kinA, .inl (cy 1, t_kinN, .inl R5)), (t_stopsA, .inl (cy 1, t_stopsN, .inl R13))]) (q0 := 3) (CX1_clear F t_lawA t_law_codeV t_law_size t_law_waitingV t_law_waits t_law_within t_law_brackets t_law_partIsDue t_law_stackV R53 hg53) kvX1_clear klX2_67 [3] [0, 1, 2] rfl rfl (by decide) (by decide) (by decide) rfl rfl rfl rfl dX2_clear_53 ⟨by decide, by decide, by decide, by decide⟩ (Nat.le_of_ble_eq_true rfl) (fun r w1 hq => ?_)
  obtain ⟨rfl, rfl⟩ := hq
  refine V.cells (ws' := (wX2_clear cy tA t_namesV t_kindsV t_roundsV (0 : Int32) (0 : Int32) (24 : Int32) (200 : Int32) (0 : Int32) (0 : Int32) t_takenV t_kinA t_kinN R5 t_stopsA t_stopsN R13 t_lawA t_law_codeV R53.1 t_law_waitingV R53.2.1 R53.2.2.1 R53.2.2.2.1 R53.2.2.2.2 t_law_stackV)) [0, 1, 2, 3] (by decide) rfl ?_
  show V l D cy MX2_clear 1 0 0 _ _ _ 56 [(0, .ref tA)] [] (wX2_clear cy tA t_namesV t_kindsV t_roundsV (0 : Int32) (0 : Int32) (24 : Int32) (200 : Int32) (0 : Int32) (0 : Int32) t_takenV t_kinA t_kinN R5 t_stopsA t_stopsN R13 t_lawA t_law_codeV R53.1 t_law_waitingV R53.2.1 R53.2.2.1 R53.2.2.2.1 R53.2.2.2.2 t_law_stackV) 0 0
  have e9 := Option.some.inj h; subst e9
  exact V.vret rfl dX2_clear_56 (Nat.le_refl _) (Nat.le_refl _) hQ
theorem dX2_rounded_0 : decode cX2_rounded 0 = .ok (.aload_n 0, 1) := by decide +kernel
theorem dX2_rounded_1 : decode cX2_rounded 1 = .ok (.iload_n 1, 1) := by decide +kernel
theorem dX2_rounded_2 : decode cX2_rounded 2 = .ok (.invokevirtual 68, 3) := by decide +kernel
theorem dX2_rounded_5 : decode cX2_rounded 5 = .ok (.ifCond .eq 12, 3) := by decide +kernel
theorem dX2_rounded_8 : decode cX2_rounded 8 = .ok (.aload_n 0, 1) := by decide +kernel
theorem dX2_rounded_9 : decode cX2_rounded 9 = .ok (.getfield 25, 3) := by decide +kernel
theorem dX2_rounded_12 : decode cX2_rounded 12 = .ok (.iload_n 1, 1) := by decide +kernel
theorem dX2_rounded_13 : decode cX2_rounded 13 = .ok (.iaload, 1) := by decide +kernel
theorem dX2_rounded_14 : decode cX2_rounded 14 = .ok (.goto 4, 3) := by decide +kernel
theorem dX2_rounded_17 : decode cX2_rounded 17 = .ok (.iconst 0, 1) := by decide +kernel
theorem dX2_rounded_18 : decode cX2_rounded 18 = .ok (.istore_n 3, 1) := by decide +kernel
theorem dX2_rounded_19 : decode cX2_rounded 19 = .ok (.iload_n 3, 1) := by decide +kernel
theorem dX2_rounded_20 : decode cX2_rounded 20 = .ok (.ifCond .le 11, 3) := by decide +kernel
theorem dX2_rounded_23 : decode cX2_rounded 23 = .ok (.iload_n 2, 1) := by decide +kernel
theorem dX2_rounded_24 : decode cX2_rounded 24 = .ok (.iload_n 3, 1) := by decide +kernel
theorem dX2_rounded_25 : decode cX2_rounded 25 = .ok (.invokestatic 72, 3) := by decide +kernel
theorem dX2_rounded_28 : decode cX2_rounded 28 = .ok (.goto 4, 3) := by decide +kernel
theorem dX2_rounded_31 : decode cX2_rounded 31 = .ok (.iload_n 2, 1) := by decide +kernel
theorem dX2_rounded_32 : decode cX2_rounded 32 = .ok (.ireturn, 1) := by decide +kernel
def wX2_rounded (cy : Nat → ClassId) (tA : Nat) (t_namesV : Value) (t_kindsV : Value) (t_kinV : Value) (t_stopsV : Value) (t_folks : Int32) (t_pairs : Int32) (t_line : Int32) (t_rope : Int32) (t_lineTold : Int32) (t_ropeTold : Int32) (t_lawV : Value) (t_takenV : Value) (t_roundsA : Nat) (t_roundsN : Nat) (t_rounds : Nat → Int32) : va_W :=
  [(tA, .inr (2, [t_namesV, t_kindsV, t_kinV, t_stopsV, .ref t_roundsA, .int t_folks, .int t_pairs, .int t_line, .int t_rope, .int t_lineTold, .int t_ropeTold, t_lawV, t_takenV])), (t_roundsA, .inl (cy 1, t_roundsN, .inl t_rounds))]
noncomputable def bX2_rounded_L32 (F : Nat) (t_folks : Int32) (t_roundsN : Nat) (t_rounds : Nat → Int32)  (s0 : Int32) : Option (Int32) :=
  some s0
theorem vX2_rounded_L32 {l : Launch} {D : va_G} {cy : Nat → ClassId} {av : List Value} {ws0 : va_W} {Q : Option Value → va_W → Prop} (F : Nat) (tA : Nat) (t_namesV : Value) (t_kindsV : Value) (t_kinV : Value) (t_stopsV : Value) (t_folks : Int32) (t_pairs : Int32) (t_line : Int32) (t_rope : Int32) (t_lineTold : Int32) (t_ropeTold : Int32) (t_lawV : Value) (t_takenV : Value) (t_roundsA : Nat) (t_roundsN : Nat) (t_rounds : Nat → Int32)  (s0 : Int32) (R : Int32) (h : bX2_rounded_L32 F t_folks t_roundsN t_rounds  s0 = some R) (hQ : Q (some (.int R)) (wX2_rounded cy tA t_namesV t_kindsV t_kinV t_stopsV t_folks t_pairs t_line t_rope t_lineTold t_ropeTold t_lawV t_takenV t_roundsA t_roundsN t_rounds)) : V l D cy MX2_rounded 1 0 0 av ws0 Q 32 [] [.int s0] (wX2_rounded cy tA t_namesV t_kindsV t_kinV t_stopsV t_folks t_pairs t_line t_rope t_lineTold t_ropeTold t_lawV t_takenV t_roundsA t_roundsN t_rounds) 0 0 := by
  unfold bX2_rounded_L32 at h
  have e9 := Option.some.inj h; subst e9
  exact V.iret (ty := .int) rfl rfl dX2_rounded_32 (Nat.le_refl _) (Nat.le_refl _) hQ
noncomputable def bX2_rounded_L18 (F : Nat) (t_folks : Int32) (t_roundsN : Nat) (t_rounds : Nat → Int32)  (x2 : Int32) (s0 : Int32) : Option (Int32) :=
  if s0 ≤ 0 then (bX2_rounded_L32 F t_folks t_roundsN t_rounds x2) else ((fJ9_floorMod_7cf53 F x2 s0).bind fun R25 => (bX2_rounded_L32 F t_folks t_roundsN t_rounds R25))
theorem vX2_rounded_L18 {l : Launch} {D : va_G} {cy : Nat → ClassId} {av : List Value} {ws0 : va_W} {Q : Option Value → va_W → Prop} (F : Nat) (tA : Nat) (t_namesV : Value) (t_kindsV : Value) (t_kinV : Value) (t_stopsV : Value) (t_folks : Int32) (t_pairs : Int32) (t_line : Int32) (t_rope : Int32) (t_lineTold : Int32) (t_ropeTold : Int32) (t_lawV : Value) (t_takenV : Value) (t_roundsA : Nat) (t_roundsN : Nat) (t_rounds : Nat → Int32)  (x2 : Int32) (s0 : Int32) (R : Int32) (h : bX2_rounded_L18 F t_folks t_roundsN t_rounds  x2 s0 = some R) (hQ : Q (some (.int R)) (wX2_rounded cy tA t_namesV t_kindsV t_kinV t_stopsV t_folks t_pairs t_line t_rope t_lineTold t_ropeTold t_lawV t_takenV t_roundsA t_roundsN t_rounds)) : V l D cy MX2_rounded 1 0 0 av ws0 Q 18 [(2, .int x2)] [.int s0] (wX2_rounded cy tA t_namesV t_kindsV t_kinV t_stopsV t_folks t_pairs t_line t_rope t_lineTold t_ropeTold t_lawV t_takenV t_roundsA t_roundsN t_rounds) 0 0 := by
  unfold bX2_rounded_L18 at h
  refine V.istore_n (lv' := [(3, .int s0), (2, .int x2)]) dX2_rounded_18 rfl (by decide) rfl ?_
  refine V.iload_n dX2_rounded_19 rfl 0 rfl ?_
  refine V.if_le (tgt := 31) dX2_rounded_20 (by decide) (fun hc20 => ?_) (fun hc20 => ?_)
  · replace h := (if_pos hc20).symm.trans h
    refine V.iload_n dX2_rounded_31 rfl 1 rfl ?_
    refine V.lvs [] rfl ?_
    exact vX2_rounded_L32 _ _ _ _ _ _ _ _ _ _ _ _ _ _ _ _ _   _ R h hQ
  · replace h := (if_neg hc20).symm.trans h
    refine V.iload_n dX2_rounded_23 rfl 1 rfl ?_
    refine V.iload_n dX2_rounded_24 rfl 0 rfl ?_
    obtain ⟨R25, hg25, h⟩ := Option.bind_eq_some_iff.mp h
    refine V.callS (As := [.int x2, .int s0]) (rest := []) (wc := (wJ9_floorMod_7cf53 cy )) (wr := [(tA, .inr (2, [t_namesV, t_kindsV, t_kinV, t_stopsV, .ref t_roundsA, .int t_folks, .int t_pairs, .int t_line, .int t_rope, .int t_lineTold, .int t_ropeTold, t_lawV, t_takenV])), (t_roundsA, .inl (cy 1, t_roundsN, .inl t_rounds))]) (CJ9_floorMod_7cf53 F x2 s0 R25 hg25) kvJ9_floorMod_7cf53 klX2_72 [] [0, 1] rfl rfl (by decide) (by decide) (by decide) rfl dX2_rounded_25 ⟨by decide, by decide, by decide, by decide⟩ (Nat.le_of_ble_eq_true rfl) (fun r w1 hq => ?_)
    obtain ⟨rfl, rfl⟩ := hq
    refine V.cells (ws' := (wX2_rounded cy tA t_namesV t_kindsV t_kinV t_stopsV t_folks t_pairs t_line t_rope t_lineTold t_ropeTold t_lawV t_takenV t_roundsA t_roundsN t_rounds)) [0, 1] (by decide) rfl ?_
    show V l D cy MX2_rounded 1 0 0 _ _ _ 28 [(3, .int s0), (2, .int x2)] [.int R25] (wX2_rounded cy tA t_namesV t_kindsV t_kinV t_stopsV t_folks t_pairs t_line t_rope t_lineTold t_ropeTold t_lawV t_takenV t_roundsA t_roundsN t_rounds) 0 0
    refine V.goto (tgt := 32) dX2_rounded_28 (by decide) ?_
    refine V.lvs [] rfl ?_
    exact vX2_rounded_L32 _ _ _ _ _ _ _ _ _ _ _ _ _ _ _ _ _   _ R h hQ
noncomputable def fX2_rounded (F : Nat) (t_folks : Int32) (t_roundsN : Nat) (t_rounds : Nat → Int32) (a1 : Int32) (a2 : Int32) : Option (Int32) :=
  (fX2_hasFolk F t_folks a1).bind fun R2 => (if R2 = 0 then (bX2_rounded_L18 F t_folks t_roundsN t_rounds a2 (0 : Int32)) else (if a1 < 0 ∨ t_roundsN ≤ a1.toNatClampNeg then none else (bX2_rounded_L18 F t_folks t_roundsN t_rounds a2 (t_rounds (a1).toNatClampNeg))))
theorem CX2_rounded {l : Launch} {D : va_G} {cy : Nat → ClassId} (F : Nat) (tA : Nat) (t_namesV : Value) (t_kindsV : Value) (t_kinV : Value) (t_stopsV : Value) (t_folks : Int32) (t_pairs : Int32) (t_line : Int32) (t_rope : Int32) (t_lineTold : Int32) (t_ropeTold : Int32) (t_lawV : Value) (t_takenV : Value) (t_roundsA : Nat) (t_roundsN : Nat) (t_rounds : Nat → Int32) (a1 : Int32) (a2 : Int32) (R : Int32) (h : fX2_rounded F t_folks t_roundsN t_rounds a1 a2 = some R) : vMet l D cy MX2_rounded 1 0 0 [.ref tA, .int a1, .int a2] (wX2_rounded cy tA t_namesV t_kindsV t_kinV t_stopsV t_folks t_pairs t_line t_rope t_lineTold t_ropeTold t_lawV t_takenV t_roundsA t_roundsN t_rounds) (fun (r : Option Value) (w : va_W) => r = (some (.int R)) ∧ w = (wX2_rounded cy tA t_namesV t_kindsV t_kinV t_stopsV t_folks t_pairs t_line t_rope t_lineTold t_ropeTold t_lawV t_takenV t_roundsA t_roundsN t_rounds)) := by
  refine vMet.start (by decide +kernel) (Nat.le_of_ble_eq_true rfl) ?_
  generalize hQe : (fun (r : Option Value) (w : va_W) => r = (some (.int R)) ∧ w = (wX2_rounded cy tA t_namesV t_kindsV t_kinV t_stopsV t_folks t_pairs t_line t_rope t_lineTold t_ropeTold t_lawV t_takenV t_roundsA t_roundsN t_rounds)) = Q
  have hQ : Q (some (.int R)) (wX2_rounded cy tA t_namesV t_kindsV t_kinV t_stopsV t_folks t_pairs t_line t_rope t_lineTold t_ropeTold t_lawV t_takenV t_roundsA t_roundsN t_rounds) := by rw [← hQe]; exact ⟨rfl, rfl⟩
  show V l D cy MX2_rounded 1 0 0 _ _ Q 0 [(0, .ref tA), (1, .int a1), (2, .int a2)] [] _ 0 0
  show V l D cy MX2_rounded 1 0 0 [.ref tA, .int a1, .int a2] _ Q 0 [(0, .ref tA), (1, .int a1), (2, .int a2)] [] (wX2_rounded cy tA t_namesV t_kindsV t_kinV t_stopsV t_folks t_pairs t_line t_rope t_lineTold t_ropeTold t_lawV t_takenV t_roundsA t_roundsN t_rounds) 0 0
  unfold fX2_rounded at h
  refine V.aload_n dX2_rounded_0 rfl 0 rfl ?_
  refine V.iload_n dX2_rounded_1 rfl 1 rfl ?_
  obtain ⟨R2, hg2, h⟩ := Option.bind_eq_some_iff.mp h
  refine V.callV (As := [.int a1]) (rest := []) (wc := (wX2_hasFolk cy tA t_namesV t_kindsV t_kinV t_stopsV (.ref t_roundsA) t_folks t_pairs t_line t_rope t_lineTold t_ropeTold t_lawV t_takenV)) (wr := [(t_roundsA, .inl (cy 1, t_roundsN, .inl t_rounds))]) (q0 := 0) (CX2_hasFolk F tA t_namesV t_kindsV t_kinV t_stopsV (.ref t_roundsA) t_folks t_pairs t_line t_rope t_lineTold t_ropeTold t_lawV t_takenV a1 R2 hg2) kvX2_hasFolk klX2_68 [0] [1] rfl rfl (by decide) (by decide) (by decide) rfl rfl rfl rfl dX2_rounded_2 ⟨by decide, by decide, by decide, by decide⟩ (Nat.le_of_ble_eq_true rfl) (fun r w1 hq => ?_)
  obtain ⟨rfl, rfl⟩ := hq
  refine V.cells (ws' := (wX2_rounded cy tA t_namesV t_kindsV t_kinV t_stopsV t_folks t_pairs t_line t_rope t_lineTold t_ropeTold t_lawV t_takenV t_roundsA t_roundsN t_rounds)) [1, 0] (by decide) rfl ?_
  show V l D cy MX2_rounded 1 0 0 _ _ _ 5 [(0, .ref tA), (1, .int a1), (2, .int a2)] [.int R2] (wX2_rounded cy tA t_namesV t_kindsV t_kinV t_stopsV t_folks t_pairs t_line t_rope t_lineTold t_ropeTold t_lawV t_takenV t_roundsA t_roundsN t_rounds) 0 0
  refine V.if_eq (tgt := 17) dX2_rounded_5 (by decide) (fun hc5 => ?_) (fun hc5 => ?_)
  · replace h := (if_pos hc5).symm.trans h
    refine V.iconst (v := (0 : Int32)) dX2_rounded_17 (by decide) ?_
    refine V.lvs [2] rfl ?_
    exact vX2_rounded_L18 _ _ _ _ _ _ _ _ _ _ _ _ _ _ _ _ _   _ _ R h hQ
  · replace h := (if_neg hc5).symm.trans h
    refine V.aload_n dX2_rounded_8 rfl 0 rfl ?_
    refine V.get kfX2 0 rfl rfl 4 (by decide) klX2_25 rfl dX2_rounded_9 ?_
    refine V.iload_n dX2_rounded_12 rfl 1 rfl ?_
    by_cases hb13 : a1 < 0 ∨ t_roundsN ≤ a1.toNatClampNeg
    · exact vNone ((if_pos hb13).symm.trans h)
    replace h := (if_neg hb13).symm.trans h
    refine V.iald dX2_rounded_13 1 rfl hb13 ?_
    refine V.goto (tgt := 18) dX2_rounded_14 (by decide) ?_
    refine V.lvs [2] rfl ?_
    exact vX2_rounded_L18 _ _ _ _ _ _ _ _ _ _ _ _ _ _ _ _ _   _ _ R h hQ
theorem dX2_usedBy_0 : decode cX2_usedBy 0 = .ok (.iconst 0, 1) := by decide +kernel
theorem dX2_usedBy_1 : decode cX2_usedBy 1 = .ok (.istore_n 2, 1) := by decide +kernel
theorem dX2_usedBy_2 : decode cX2_usedBy 2 = .ok (.iconst 0, 1) := by decide +kernel
theorem dX2_usedBy_3 : decode cX2_usedBy 3 = .ok (.istore_n 3, 1) := by decide +kernel
theorem dX2_usedBy_4 : decode cX2_usedBy 4 = .ok (.iload_n 3, 1) := by decide +kernel
theorem dX2_usedBy_5 : decode cX2_usedBy 5 = .ok (.aload_n 1, 1) := by decide +kernel
theorem dX2_usedBy_6 : decode cX2_usedBy 6 = .ok (.getfield 78, 3) := by decide +kernel
theorem dX2_usedBy_9 : decode cX2_usedBy 9 = .ok (.if_icmp .ge 23, 3) := by decide +kernel
theorem dX2_usedBy_12 : decode cX2_usedBy 12 = .ok (.iload_n 2, 1) := by decide +kernel
theorem dX2_usedBy_13 : decode cX2_usedBy 13 = .ok (.aload_n 0, 1) := by decide +kernel
theorem dX2_usedBy_14 : decode cX2_usedBy 14 = .ok (.iload_n 3, 1) := by decide +kernel
theorem dX2_usedBy_15 : decode cX2_usedBy 15 = .ok (.aload_n 1, 1) := by decide +kernel
theorem dX2_usedBy_16 : decode cX2_usedBy 16 = .ok (.getfield 90, 3) := by decide +kernel
theorem dX2_usedBy_19 : decode cX2_usedBy 19 = .ok (.iload_n 3, 1) := by decide +kernel
theorem dX2_usedBy_20 : decode cX2_usedBy 20 = .ok (.iaload, 1) := by decide +kernel
theorem dX2_usedBy_21 : decode cX2_usedBy 21 = .ok (.invokevirtual 87, 3) := by decide +kernel
theorem dX2_usedBy_24 : decode cX2_usedBy 24 = .ok (.iadd, 1) := by decide +kernel
theorem dX2_usedBy_25 : decode cX2_usedBy 25 = .ok (.istore_n 2, 1) := by decide +kernel
theorem dX2_usedBy_26 : decode cX2_usedBy 26 = .ok (.iinc 3 1, 3) := by decide +kernel
theorem dX2_usedBy_29 : decode cX2_usedBy 29 = .ok (.goto (-25), 3) := by decide +kernel
theorem dX2_usedBy_32 : decode cX2_usedBy 32 = .ok (.iload_n 2, 1) := by decide +kernel
theorem dX2_usedBy_33 : decode cX2_usedBy 33 = .ok (.ireturn, 1) := by decide +kernel
def wX2_usedBy (cy : Nat → ClassId) (tA : Nat) (t_namesV : Value) (t_kindsV : Value) (t_kinV : Value) (t_stopsV : Value) (t_roundsV : Value) (t_folks : Int32) (t_pairs : Int32) (t_line : Int32) (t_rope : Int32) (t_lineTold : Int32) (t_ropeTold : Int32) (t_lawV : Value) (t_takenA : Nat) (t_takenN : Nat) (t_taken : Nat → Int32) (p1A : Nat) (p1_size : Int32) (p1_tiesA : Nat) (p1_tiesN : Nat) (p1_ties : Nat → Int32) : va_W :=
  [(tA, .inr (2, [t_namesV, t_kindsV, t_kinV, t_stopsV, t_roundsV, .int t_folks, .int t_pairs, .int t_line, .int t_rope, .int t_lineTold, .int t_ropeTold, t_lawV, .ref t_takenA])), (t_takenA, .inl (cy 1, t_takenN, .inl t_taken)), (p1A, .inr (7, [.ref p1_tiesA, .int p1_size])), (p1_tiesA, .inl (cy 1, p1_tiesN, .inl p1_ties))]
noncomputable def bX2_usedBy_L4 (F : Nat) (t_takenN : Nat) (t_taken : Nat → Int32) (p1_size : Int32) (p1_tiesN : Nat) (p1_ties : Nat → Int32) (k4 : Int32 → Int32 → Option (Int32)) (x2 : Int32) (x3 : Int32) : Option (Int32) :=
  if p1_size ≤ x3 then (some x2) else (if x3 < 0 ∨ p1_tiesN ≤ x3.toNatClampNeg then none else ((fX2_takenBy F t_takenN t_taken x3 (p1_ties (x3).toNatClampNeg)).bind fun R21 => (k4 (x2 + R21) (x3 + (1 : Int32)))))
theorem vbX2_usedBy_L4 {l : Launch} {D : va_G} {cy : Nat → ClassId} {av : List Value} {ws0 : va_W} {Q : Option Value → va_W → Prop} (F : Nat) (tA : Nat) (t_namesV : Value) (t_kindsV : Value) (t_kinV : Value) (t_stopsV : Value) (t_roundsV : Value) (t_folks : Int32) (t_pairs : Int32) (t_line : Int32) (t_rope : Int32) (t_lineTold : Int32) (t_ropeTold : Int32) (t_lawV : Value) (t_takenA : Nat) (t_takenN : Nat) (t_taken : Nat → Int32) (p1A : Nat) (p1_size : Int32) (p1_tiesA : Nat) (p1_tiesN : Nat) (p1_ties : Nat → Int32) (k4 : Int32 → Int32 → Option (Int32)) (hk4 : ∀ (x2 : Int32) (x3 : Int32) (R : Int32), k4 x2 x3 = some R → Q (some (.int R)) (wX2_usedBy cy tA t_namesV t_kindsV t_kinV t_stopsV t_roundsV t_folks t_pairs t_line t_rope t_lineTold t_ropeTold t_lawV t_takenA t_takenN t_taken p1A p1_size p1_tiesA p1_tiesN p1_ties) → V l D cy MX2_usedBy 1 0 0 av ws0 Q 4 [(0, .ref tA), (1, .ref p1A), (2, .int x2), (3, .int x3)] [] (wX2_usedBy cy tA t_namesV t_kindsV t_kinV t_stopsV t_roundsV t_folks t_pairs t_line t_rope t_lineTold t_ropeTold t_lawV t_takenA t_takenN t_taken p1A p1_size p1_tiesA p1_tiesN p1_ties) 0 0) (x2 : Int32) (x3 : Int32) (R : Int32) (h : bX2_usedBy_L4 F t_takenN t_taken p1_size p1_tiesN p1_ties k4 x2 x3 = some R) (hQ : Q (some (.int R)) (wX2_usedBy cy tA t_namesV t_kindsV t_kinV t_stopsV t_roundsV t_folks t_pairs t_line t_rope t_lineTold t_ropeTold t_lawV t_takenA t_takenN t_taken p1A p1_size p1_tiesA p1_tiesN p1_ties)) : V l D cy MX2_usedBy 1 0 0 av ws0 Q 4 [(0, .ref tA), (1, .ref p1A), (2, .int x2), (3, .int x3)] [] (wX2_usedBy cy tA t_namesV t_kindsV t_kinV t_stopsV t_roundsV t_folks t_pairs t_line t_rope t_lineTold t_ropeTold t_lawV t_takenA t_takenN t_taken p1A p1_size p1_tiesA p1_tiesN p1_ties) 0 0 := by
  unfold bX2_usedBy_L4 at h
  refine V.iload_n dX2_usedBy_4 rfl 3 rfl ?_
  refine V.aload_n dX2_usedBy_5 rfl 1 rfl ?_
  refine V.get kfX7 2 rfl rfl 1 (by decide) klX2_78 rfl dX2_usedBy_6 ?_
  refine V.icmp_ge (tgt := 32) dX2_usedBy_9 (by decide) (fun hc9 => ?_) (fun hc9 => ?_)
  · replace h := (if_pos hc9).symm.trans h
    refine V.iload_n dX2_usedBy_32 rfl 2 rfl ?_
    have e9 := Option.some.inj h; subst e9
    exact V.iret (ty := .int) rfl rfl dX2_usedBy_33 (Nat.le_refl _) (Nat.le_refl _) hQ
  · replace h := (if_neg hc9).symm.trans h
    refine V.iload_n dX2_usedBy_12 rfl 2 rfl ?_
    refine V.aload_n dX2_usedBy_13 rfl 0 rfl ?_
    refine V.iload_n dX2_usedBy_14 rfl 3 rfl ?_
    refine V.aload_n dX2_usedBy_15 rfl 1 rfl ?_
    refine V.get kfX7 2 rfl rfl 0 (by decide) klX2_90 rfl dX2_usedBy_16 ?_
    refine V.iload_n dX2_usedBy_19 rfl 3 rfl ?_
    by_cases hb20 : x3 < 0 ∨ p1_tiesN ≤ x3.toNatClampNeg
    · exact vNone ((if_pos hb20).symm.trans h)
    replace h := (if_neg hb20).symm.trans h
    refine V.iald dX2_usedBy_20 3 rfl hb20 ?_
    obtain ⟨R21, hg21, h⟩ := Option.bind_eq_some_iff.mp h
    refine V.callV (As := [.int x3, .int (p1_ties (x3).toNatClampNeg)]) (rest := [.int x2]) (wc := (wX2_takenBy cy tA t_namesV t_kindsV t_kinV t_stopsV t_roundsV t_folks t_pairs t_line t_rope t_lineTold t_ropeTold t_lawV t_takenA t_takenN t_taken)) (wr := [(p1A, .inr (7, [.ref p1_tiesA, .int p1_size])), (p1_tiesA, .inl (cy 1, p1_tiesN, .inl p1_ties))]) (q0 := 0) (CX2_takenBy F tA t_namesV t_kindsV t_kinV t_stopsV t_roundsV t_folks t_pairs t_line t_rope t_lineTold t_ropeTold t_lawV t_takenA t_takenN t_taken x3 (p1_ties (x3).toNatClampNeg) R21 hg21) kvX2_takenBy klX2_87 [0, 1] [2, 3] rfl rfl (by decide) (by decide) (by decide) rfl rfl rfl rfl dX2_usedBy_21 ⟨by decide, by decide, by decide, by decide⟩ (Nat.le_of_ble_eq_true rfl) (fun r w1 hq => ?_)
    obtain ⟨rfl, rfl⟩ := hq
    refine V.cells (ws' := (wX2_usedBy cy tA t_namesV t_kindsV t_kinV t_stopsV t_roundsV t_folks t_pairs t_line t_rope t_lineTold t_ropeTold t_lawV t_takenA t_takenN t_taken p1A p1_size p1_tiesA p1_tiesN p1_ties)) [2, 3, 0, 1] (by decide) rfl ?_
    show V l D cy MX2_usedBy 1 0 0 _ _ _ 24 [(0, .ref tA), (1, .ref p1A), (2, .int x2), (3, .int x3)] [.int R21, .int x2] (wX2_usedBy cy tA t_namesV t_kindsV t_kinV t_stopsV t_roundsV t_folks t_pairs t_line t_rope t_lineTold t_ropeTold t_lawV t_takenA t_takenN t_taken p1A p1_size p1_tiesA p1_tiesN p1_ties) 0 0
    refine V.iadd dX2_usedBy_24 ?_
    refine V.istore_n (lv' := [(2, .int (x2 + R21)), (0, .ref tA), (1, .ref p1A), (3, .int x3)]) dX2_usedBy_25 rfl (by decide) rfl ?_
    refine V.iinc (v := x3 + (1 : Int32)) (lv' := [(3, .int (x3 + (1 : Int32))), (2, .int (x2 + R21)), (0, .ref tA), (1, .ref p1A)]) dX2_usedBy_26 3 rfl rfl (by decide) rfl ?_
    refine V.goto (tgt := 4) dX2_usedBy_29 (by decide) ?_
    refine V.lvs [2, 3, 1, 0] rfl ?_
    exact hk4 _ _ R h hQ
noncomputable def fX2_usedBy_L4 (F : Nat) (t_takenN : Nat) (t_taken : Nat → Int32) (p1_size : Int32) (p1_tiesN : Nat) (p1_ties : Nat → Int32)  : Nat → Int32 → Int32 → Option (Int32)
  | 0 => fun _ _ => none
  | n + 1 => bX2_usedBy_L4 F t_takenN t_taken p1_size p1_tiesN p1_ties (fX2_usedBy_L4 F t_takenN t_taken p1_size p1_tiesN p1_ties  n)
theorem vX2_usedBy_L4 {l : Launch} {D : va_G} {cy : Nat → ClassId} {av : List Value} {ws0 : va_W} {Q : Option Value → va_W → Prop} (F : Nat) (tA : Nat) (t_namesV : Value) (t_kindsV : Value) (t_kinV : Value) (t_stopsV : Value) (t_roundsV : Value) (t_folks : Int32) (t_pairs : Int32) (t_line : Int32) (t_rope : Int32) (t_lineTold : Int32) (t_ropeTold : Int32) (t_lawV : Value) (t_takenA : Nat) (t_takenN : Nat) (t_taken : Nat → Int32) (p1A : Nat) (p1_size : Int32) (p1_tiesA : Nat) (p1_tiesN : Nat) (p1_ties : Nat → Int32)  : ∀ (n : Nat) (x2 : Int32) (x3 : Int32) (R : Int32), fX2_usedBy_L4 F t_takenN t_taken p1_size p1_tiesN p1_ties  n x2 x3 = some R → Q (some (.int R)) (wX2_usedBy cy tA t_namesV t_kindsV t_kinV t_stopsV t_roundsV t_folks t_pairs t_line t_rope t_lineTold t_ropeTold t_lawV t_takenA t_takenN t_taken p1A p1_size p1_tiesA p1_tiesN p1_ties) → V l D cy MX2_usedBy 1 0 0 av ws0 Q 4 [(0, .ref tA), (1, .ref p1A), (2, .int x2), (3, .int x3)] [] (wX2_usedBy cy tA t_namesV t_kindsV t_kinV t_stopsV t_roundsV t_folks t_pairs t_line t_rope t_lineTold t_ropeTold t_lawV t_takenA t_takenN t_taken p1A p1_size p1_tiesA p1_tiesN p1_ties) 0 0 := by
  intro n
  induction n with
  | zero => intro x2 x3 R h; exact vNone h
  | succ n ih => intro x2 x3 R h hQ; exact vbX2_usedBy_L4 F tA t_namesV t_kindsV t_kinV t_stopsV t_roundsV t_folks t_pairs t_line t_rope t_lineTold t_ropeTold t_lawV t_takenA t_takenN t_taken p1A p1_size p1_tiesA p1_tiesN p1_ties _ ih x2 x3 R h hQ
noncomputable def fX2_usedBy (F : Nat) (t_takenN : Nat) (t_taken : Nat → Int32) (p1_size : Int32) (p1_tiesN : Nat) (p1_ties : Nat → Int32) : Option (Int32) :=
  fX2_usedBy_L4 F t_takenN t_taken p1_size p1_tiesN p1_ties F (0 : Int32) (0 : Int32)
theorem CX2_usedBy {l : Launch} {D : va_G} {cy : Nat → ClassId} (F : Nat) (tA : Nat) (t_namesV : Value) (t_kindsV : Value) (t_kinV : Value) (t_stopsV : Value) (t_roundsV : Value) (t_folks : Int32) (t_pairs : Int32) (t_line : Int32) (t_rope : Int32) (t_lineTold : Int32) (t_ropeTold : Int32) (t_lawV : Value) (t_takenA : Nat) (t_takenN : Nat) (t_taken : Nat → Int32) (p1A : Nat) (p1_size : Int32) (p1_tiesA : Nat) (p1_tiesN : Nat) (p1_ties : Nat → Int32) (R : Int32) (h : fX2_usedBy F t_takenN t_taken p1_size p1_tiesN p1_ties = some R) : vMet l D cy MX2_usedBy 1 0 0 [.ref tA, .ref p1A] (wX2_usedBy cy tA t_namesV t_kindsV t_kinV t_stopsV t_roundsV t_folks t_pairs t_line t_rope t_lineTold t_ropeTold t_lawV t_takenA t_takenN t_taken p1A p1_size p1_tiesA p1_tiesN p1_ties) (fun (r : Option Value) (w : va_W) => r = (some (.int R)) ∧ w = (wX2_usedBy cy tA t_namesV t_kindsV t_kinV t_stopsV t_roundsV t_folks t_pairs t_line t_rope t_lineTold t_ropeTold t_lawV t_takenA t_takenN t_taken p1A p1_size p1_tiesA p1_tiesN p1_ties)) := by
  refine vMet.start (by decide +kernel) (Nat.le_of_ble_eq_true rfl) ?_
  generalize hQe : (fun (r : Option Value) (w : va_W) => r = (some (.int R)) ∧ w = (wX2_usedBy cy tA t_namesV t_kindsV t_kinV t_stopsV t_roundsV t_folks t_pairs t_line t_rope t_lineTold t_ropeTold t_lawV t_takenA t_takenN t_taken p1A p1_size p1_tiesA p1_tiesN p1_ties)) = Q
  have hQ : Q (some (.int R)) (wX2_usedBy cy tA t_namesV t_kindsV t_kinV t_stopsV t_roundsV t_folks t_pairs t_line t_rope t_lineTold t_ropeTold t_lawV t_takenA t_takenN t_taken p1A p1_size p1_tiesA p1_tiesN p1_ties) := by rw [← hQe]; exact ⟨rfl, rfl⟩
  show V l D cy MX2_usedBy 1 0 0 _ _ Q 0 [(0, .ref tA), (1, .ref p1A)] [] _ 0 0
  show V l D cy MX2_usedBy 1 0 0 [.ref tA, .ref p1A] _ Q 0 [(0, .ref tA), (1, .ref p1A)] [] (wX2_usedBy cy tA t_namesV t_kindsV t_kinV t_stopsV t_roundsV t_folks t_pairs t_line t_rope t_lineTold t_ropeTold t_lawV t_takenA t_takenN t_taken p1A p1_size p1_tiesA p1_tiesN p1_ties) 0 0
  unfold fX2_usedBy at h
  refine V.iconst (v := (0 : Int32)) dX2_usedBy_0 (by decide) ?_
  refine V.istore_n (lv' := [(2, .int (0 : Int32)), (0, .ref tA), (1, .ref p1A)]) dX2_usedBy_1 rfl (by decide) rfl ?_
  refine V.iconst (v := (0 : Int32)) dX2_usedBy_2 (by decide) ?_
  refine V.istore_n (lv' := [(3, .int (0 : Int32)), (2, .int (0 : Int32)), (0, .ref tA), (1, .ref p1A)]) dX2_usedBy_3 rfl (by decide) rfl ?_
  refine V.lvs [2, 3, 1, 0] rfl ?_
  exact vX2_usedBy_L4 _ _ _ _ _ _ _ _ _ _ _ _ _ _ _ _ _ _ _ _ _ _  _ _ _ R h hQ
theorem dX2_layTaken_0 : decode cX2_layTaken 0 = .ok (.iconst 0, 1) := by decide +kernel
theorem dX2_layTaken_1 : decode cX2_layTaken 1 = .ok (.istore_n 1, 1) := by decide +kernel
theorem dX2_layTaken_2 : decode cX2_layTaken 2 = .ok (.iload_n 1, 1) := by decide +kernel
theorem dX2_layTaken_3 : decode cX2_layTaken 3 = .ok (.aload_n 0, 1) := by decide +kernel
theorem dX2_layTaken_4 : decode cX2_layTaken 4 = .ok (.getfield 54, 3) := by decide +kernel
theorem dX2_layTaken_7 : decode cX2_layTaken 7 = .ok (.if_icmp .ge 102, 3) := by decide +kernel
theorem dX2_layTaken_10 : decode cX2_layTaken 10 = .ok (.iconst 0, 1) := by decide +kernel
theorem dX2_layTaken_11 : decode cX2_layTaken 11 = .ok (.istore_n 2, 1) := by decide +kernel
theorem dX2_layTaken_12 : decode cX2_layTaken 12 = .ok (.iload_n 2, 1) := by decide +kernel
theorem dX2_layTaken_13 : decode cX2_layTaken 13 = .ok (.iconst 2, 1) := by decide +kernel
theorem dX2_layTaken_14 : decode cX2_layTaken 14 = .ok (.aload_n 0, 1) := by decide +kernel
theorem dX2_layTaken_15 : decode cX2_layTaken 15 = .ok (.getfield 47, 3) := by decide +kernel
theorem dX2_layTaken_18 : decode cX2_layTaken 18 = .ok (.imul, 1) := by decide +kernel
theorem dX2_layTaken_19 : decode cX2_layTaken 19 = .ok (.if_icmp .ge 84, 3) := by decide +kernel
theorem dX2_layTaken_22 : decode cX2_layTaken 22 = .ok (.iload_n 2, 1) := by decide +kernel
theorem dX2_layTaken_23 : decode cX2_layTaken 23 = .ok (.invokestatic 93, 3) := by decide +kernel
theorem dX2_layTaken_26 : decode cX2_layTaken 26 = .ok (.istore_n 3, 1) := by decide +kernel
theorem dX2_layTaken_27 : decode cX2_layTaken 27 = .ok (.aload_n 0, 1) := by decide +kernel
theorem dX2_layTaken_28 : decode cX2_layTaken 28 = .ok (.getfield 15, 3) := by decide +kernel
theorem dX2_layTaken_31 : decode cX2_layTaken 31 = .ok (.iload_n 3, 1) := by decide +kernel
theorem dX2_layTaken_32 : decode cX2_layTaken 32 = .ok (.iaload, 1) := by decide +kernel
theorem dX2_layTaken_33 : decode cX2_layTaken 33 = .ok (.istore 4, 2) := by decide +kernel
theorem dX2_layTaken_35 : decode cX2_layTaken 35 = .ok (.iconst 1, 1) := by decide +kernel
theorem dX2_layTaken_36 : decode cX2_layTaken 36 = .ok (.iload 4, 2) := by decide +kernel
theorem dX2_layTaken_38 : decode cX2_layTaken 38 = .ok (.iadd, 1) := by decide +kernel
theorem dX2_layTaken_39 : decode cX2_layTaken 39 = .ok (.istore 5, 2) := by decide +kernel
theorem dX2_layTaken_41 : decode cX2_layTaken 41 = .ok (.aload_n 0, 1) := by decide +kernel
theorem dX2_layTaken_42 : decode cX2_layTaken 42 = .ok (.getfield 31, 3) := by decide +kernel
theorem dX2_layTaken_45 : decode cX2_layTaken 45 = .ok (.invokevirtual 97, 3) := by decide +kernel
theorem dX2_layTaken_48 : decode cX2_layTaken 48 = .ok (.ifCond .eq 27, 3) := by decide +kernel
theorem dX2_layTaken_51 : decode cX2_layTaken 51 = .ok (.aload_n 0, 1) := by decide +kernel
theorem dX2_layTaken_52 : decode cX2_layTaken 52 = .ok (.getfield 31, 3) := by decide +kernel
theorem dX2_layTaken_55 : decode cX2_layTaken 55 = .ok (.iload_n 1, 1) := by decide +kernel
theorem dX2_layTaken_56 : decode cX2_layTaken 56 = .ok (.iload 4, 2) := by decide +kernel
theorem dX2_layTaken_58 : decode cX2_layTaken 58 = .ok (.aload_n 0, 1) := by decide +kernel
theorem dX2_layTaken_59 : decode cX2_layTaken 59 = .ok (.getfield 19, 3) := by decide +kernel
theorem dX2_layTaken_62 : decode cX2_layTaken 62 = .ok (.iload_n 3, 1) := by decide +kernel
theorem dX2_layTaken_63 : decode cX2_layTaken 63 = .ok (.iaload, 1) := by decide +kernel
theorem dX2_layTaken_64 : decode cX2_layTaken 64 = .ok (.invokestatic 101, 3) := by decide +kernel
theorem dX2_layTaken_67 : decode cX2_layTaken 67 = .ok (.iload_n 2, 1) := by decide +kernel
theorem dX2_layTaken_68 : decode cX2_layTaken 68 = .ok (.iconst 1, 1) := by decide +kernel
theorem dX2_layTaken_69 : decode cX2_layTaken 69 = .ok (.iand, 1) := by decide +kernel
theorem dX2_layTaken_70 : decode cX2_layTaken 70 = .ok (.invokevirtual 106, 3) := by decide +kernel
theorem dX2_layTaken_73 : decode cX2_layTaken 73 = .ok (.istore 5, 2) := by decide +kernel
theorem dX2_layTaken_75 : decode cX2_layTaken 75 = .ok (.aload_n 0, 1) := by decide +kernel
theorem dX2_layTaken_76 : decode cX2_layTaken 76 = .ok (.getfield 35, 3) := by decide +kernel
theorem dX2_layTaken_79 : decode cX2_layTaken 79 = .ok (.iload_n 1, 1) := by decide +kernel
theorem dX2_layTaken_80 : decode cX2_layTaken 80 = .ok (.bipush 12, 2) := by decide +kernel
theorem dX2_layTaken_82 : decode cX2_layTaken 82 = .ok (.imul, 1) := by decide +kernel
theorem dX2_layTaken_83 : decode cX2_layTaken 83 = .ok (.iload_n 2, 1) := by decide +kernel
theorem dX2_layTaken_84 : decode cX2_layTaken 84 = .ok (.iadd, 1) := by decide +kernel
theorem dX2_layTaken_85 : decode cX2_layTaken 85 = .ok (.iconst 0, 1) := by decide +kernel
theorem dX2_layTaken_86 : decode cX2_layTaken 86 = .ok (.bipush 99, 2) := by decide +kernel
theorem dX2_layTaken_88 : decode cX2_layTaken 88 = .ok (.iload 5, 2) := by decide +kernel
theorem dX2_layTaken_90 : decode cX2_layTaken 90 = .ok (.invokestatic 110, 3) := by decide +kernel
theorem dX2_layTaken_93 : decode cX2_layTaken 93 = .ok (.invokestatic 113, 3) := by decide +kernel
theorem dX2_layTaken_96 : decode cX2_layTaken 96 = .ok (.iastore, 1) := by decide +kernel
theorem dX2_layTaken_97 : decode cX2_layTaken 97 = .ok (.iinc 2 1, 3) := by decide +kernel
theorem dX2_layTaken_100 : decode cX2_layTaken 100 = .ok (.goto (-88), 3) := by decide +kernel
theorem dX2_layTaken_103 : decode cX2_layTaken 103 = .ok (.iinc 1 1, 3) := by decide +kernel
theorem dX2_layTaken_106 : decode cX2_layTaken 106 = .ok (.goto (-104), 3) := by decide +kernel
theorem dX2_layTaken_109 : decode cX2_layTaken 109 = .ok (.return_, 1) := by decide +kernel
def wX2_layTaken (cy : Nat → ClassId) (tA : Nat) (t_namesV : Value) (t_stopsV : Value) (t_roundsV : Value) (t_folks : Int32) (t_pairs : Int32) (t_line : Int32) (t_rope : Int32) (t_lineTold : Int32) (t_ropeTold : Int32) (t_kindsA : Nat) (t_kindsN : Nat) (t_kinds : Nat → Int32) (t_kinA : Nat) (t_kinN : Nat) (t_kin : Nat → Int32) (t_lawA : Nat) (t_law_size : Int32) (t_law_waitingV : Value) (t_law_waits : Int32) (t_law_within : Int32) (t_law_brackets : Int32) (t_law_partIsDue : Int32) (t_law_codeA : Nat) (t_law_codeN : Nat) (t_law_code : Nat → Int32) (t_law_stackA : Nat) (t_law_stackN : Nat) (t_law_stack : Nat → Int32) (t_takenA : Nat) (t_takenN : Nat) (t_taken : Nat → Int32) : va_W :=
  [(tA, .inr (2, [t_namesV, .ref t_kindsA, .ref t_kinA, t_stopsV, t_roundsV, .int t_folks, .int t_pairs, .int t_line, .int t_rope, .int t_lineTold, .int t_ropeTold, .ref t_lawA, .ref t_takenA])), (t_kindsA, .inl (cy 1, t_kindsN, .inl t_kinds)), (t_kinA, .inl (cy 1, t_kinN, .inl t_kin)), (t_lawA, .inr (1, [.ref t_law_codeA, .int t_law_size, t_law_waitingV, .int t_law_waits, .int t_law_within, .int t_law_brackets, .int t_law_partIsDue, .ref t_law_stackA])), (t_law_codeA, .inl (cy 1, t_law_codeN, .inl t_law_code)), (t_law_stackA, .inl (cy 1, t_law_stackN, .inl t_law_stack)), (t_takenA, .inl (cy 1, t_takenN, .inl t_taken))]
noncomputable def bX2_layTaken_L75 (F : Nat) (t_folks : Int32) (t_line : Int32) (t_kindsN : Nat) (t_kinds : Nat → Int32) (t_kinN : Nat) (t_kin : Nat → Int32) (t_law_size : Int32) (t_law_codeN : Nat) (t_law_code : Nat → Int32) (t_law_stackN : Nat) (t_takenN : Nat) (k12 : Int32 → Int32 → (Nat → Int32) → (Nat → Int32) → Option ((Nat → Int32) × (Nat → Int32))) (x1 : Int32) (x2 : Int32) (x5 : Int32) (t_law_stack : Nat → Int32) (t_taken : Nat → Int32) : Option ((Nat → Int32) × (Nat → Int32)) :=
  if ((x1 * (12 : Int32)) + x2) < 0 ∨ t_takenN ≤ ((x1 * (12 : Int32)) + x2).toNatClampNeg then none else (k12 x1 (x2 + (1 : Int32)) t_law_stack (upd t_taken ((x1 * (12 : Int32)) + x2).toNatClampNeg (if (0 : Int32) < (if x5 < (99 : Int32) then x5 else (99 : Int32)) then (if x5 < (99 : Int32) then x5 else (99 : Int32)) else (0 : Int32))))
theorem vX2_layTaken_L75 {l : Launch} {D : va_G} {cy : Nat → ClassId} {av : List Value} {ws0 : va_W} {Q : Option Value → va_W → Prop} (F : Nat) (tA : Nat) (t_namesV : Value) (t_stopsV : Value) (t_roundsV : Value) (t_folks : Int32) (t_pairs : Int32) (t_line : Int32) (t_rope : Int32) (t_lineTold : Int32) (t_ropeTold : Int32) (t_kindsA : Nat) (t_kindsN : Nat) (t_kinds : Nat → Int32) (t_kinA : Nat) (t_kinN : Nat) (t_kin : Nat → Int32) (t_lawA : Nat) (t_law_size : Int32) (t_law_waitingV : Value) (t_law_waits : Int32) (t_law_within : Int32) (t_law_brackets : Int32) (t_law_partIsDue : Int32) (t_law_codeA : Nat) (t_law_codeN : Nat) (t_law_code : Nat → Int32) (t_law_stackA : Nat) (t_law_stackN : Nat) (t_takenA : Nat) (t_takenN : Nat) (k12 : Int32 → Int32 → (Nat → Int32) → (Nat → Int32) → Option ((Nat → Int32) × (Nat → Int32))) (hk12 : ∀ (x1 : Int32) (x2 : Int32) (t_law_stack : Nat → Int32) (t_taken : Nat → Int32) (R : (Nat → Int32) × (Nat → Int32)), k12 x1 x2 t_law_stack t_taken = some R → Q none (wX2_layTaken cy tA t_namesV t_stopsV t_roundsV t_folks t_pairs t_line t_rope t_lineTold t_ropeTold t_kindsA t_kindsN t_kinds t_kinA t_kinN t_kin t_lawA t_law_size t_law_waitingV t_law_waits t_law_within t_law_brackets t_law_partIsDue t_law_codeA t_law_codeN t_law_code t_law_stackA t_law_stackN R.1 t_takenA t_takenN R.2) → V l D cy MX2_layTaken 2 0 0 av ws0 Q 12 [(0, .ref tA), (1, .int x1), (2, .int x2)] [] (wX2_layTaken cy tA t_namesV t_stopsV t_roundsV t_folks t_pairs t_line t_rope t_lineTold t_ropeTold t_kindsA t_kindsN t_kinds t_kinA t_kinN t_kin t_lawA t_law_size t_law_waitingV t_law_waits t_law_within t_law_brackets t_law_partIsDue t_law_codeA t_law_codeN t_law_code t_law_stackA t_law_stackN t_law_stack t_takenA t_takenN t_taken) 0 0) (x1 : Int32) (x2 : Int32) (x5 : Int32) (t_law_stack : Nat → Int32) (t_taken : Nat → Int32) (R : (Nat → Int32) × (Nat → Int32)) (h : bX2_layTaken_L75 F t_folks t_line t_kindsN t_kinds t_kinN t_kin t_law_size t_law_codeN t_law_code t_law_stackN t_takenN k12 x1 x2 x5 t_law_stack t_taken = some R) (hQ : Q none (wX2_layTaken cy tA t_namesV t_stopsV t_roundsV t_folks t_pairs t_line t_rope t_lineTold t_ropeTold t_kindsA t_kindsN t_kinds t_kinA t_kinN t_kin t_lawA t_law_size t_law_waitingV t_law_waits t_law_within t_law_brackets t_law_partIsDue t_law_codeA t_law_codeN t_law_code t_law_stackA t_law_stackN R.1 t_takenA t_takenN R.2)) : V l D cy MX2_layTaken 2 0 0 av ws0 Q 75 [(0, .ref tA), (1, .int x1), (2, .int x2), (5, .int x5)] [] (wX2_layTaken cy tA t_namesV t_stopsV t_roundsV t_folks t_pairs t_line t_rope t_lineTold t_ropeTold t_kindsA t_kindsN t_kinds t_kinA t_kinN t_kin t_lawA t_law_size t_law_waitingV t_law_waits t_law_within t_law_brackets t_law_partIsDue t_law_codeA t_law_codeN t_law_code t_law_stackA t_law_stackN t_law_stack t_takenA t_takenN t_taken) 0 0 := by
  unfold bX2_layTaken_L75 at h
  refine V.aload_n dX2_layTaken_75 rfl 0 rfl ?_
  refine V.get kfX2 0 rfl rfl 12 (by decide) klX2_35 rfl dX2_layTaken_76 ?_
  refine V.iload_n dX2_layTaken_79 rfl 1 rfl ?_
  refine V.bipush (v := (12 : Int32)) dX2_layTaken_80 (by decide) ?_
  refine V.imul dX2_layTaken_82 ?_
  refine V.iload_n dX2_layTaken_83 rfl 2 rfl ?_
  refine V.iadd dX2_layTaken_84 ?_
  refine V.iconst (v := (0 : Int32)) dX2_layTaken_85 (by decide) ?_
  refine V.bipush (v := (99 : Int32)) dX2_layTaken_86 (by decide) ?_
  refine V.iload dX2_layTaken_88 3 rfl ?_
  refine V.mmin klX2_110 dX2_layTaken_90 (Nat.le_of_ble_eq_true rfl) ⟨Nat.le_refl _, Nat.le_refl _⟩ ?_
  refine V.mmax klX2_113 dX2_layTaken_93 (Nat.le_of_ble_eq_true rfl) ⟨Nat.le_refl _, Nat.le_refl _⟩ ?_
  by_cases hb96 : ((x1 * (12 : Int32)) + x2) < 0 ∨ t_takenN ≤ ((x1 * (12 : Int32)) + x2).toNatClampNeg
  · exact vNone ((if_pos hb96).symm.trans h)
  replace h := (if_neg hb96).symm.trans h
  refine V.iast (ws' := (wX2_layTaken cy tA t_namesV t_stopsV t_roundsV t_folks t_pairs t_line t_rope t_lineTold t_ropeTold t_kindsA t_kindsN t_kinds t_kinA t_kinN t_kin t_lawA t_law_size t_law_waitingV t_law_waits t_law_within t_law_brackets t_law_partIsDue t_law_codeA t_law_codeN t_law_code t_law_stackA t_law_stackN t_law_stack t_takenA t_takenN (upd t_taken ((x1 * (12 : Int32)) + x2).toNatClampNeg (if (0 : Int32) < (if x5 < (99 : Int32) then x5 else (99 : Int32)) then (if x5 < (99 : Int32) then x5 else (99 : Int32)) else (0 : Int32))))) dX2_layTaken_96 6 rfl hb96 rfl ?_
  refine V.iinc (v := x2 + (1 : Int32)) (lv' := [(2, .int (x2 + (1 : Int32))), (0, .ref tA), (1, .int x1), (5, .int x5)]) dX2_layTaken_97 2 rfl rfl (by decide) rfl ?_
  refine V.goto (tgt := 12) dX2_layTaken_100 (by decide) ?_
  refine V.lvs [1, 2, 0] rfl ?_
  exact hk12 _ _ _ _ R h hQ
noncomputable def bX2_layTaken_L12 (F : Nat) (t_folks : Int32) (t_line : Int32) (t_kindsN : Nat) (t_kinds : Nat → Int32) (t_kinN : Nat) (t_kin : Nat → Int32) (t_law_size : Int32) (t_law_codeN : Nat) (t_law_code : Nat → Int32) (t_law_stackN : Nat) (t_takenN : Nat) (k2 : Int32 → (Nat → Int32) → (Nat → Int32) → Option ((Nat → Int32) × (Nat → Int32))) (k12 : Int32 → Int32 → (Nat → Int32) → (Nat → Int32) → Option ((Nat → Int32) × (Nat → Int32))) (x1 : Int32) (x2 : Int32) (t_law_stack : Nat → Int32) (t_taken : Nat → Int32) : Option ((Nat → Int32) × (Nat → Int32)) :=
  if ((2 : Int32) * t_folks) ≤ x2 then (k2 (x1 + (1 : Int32)) t_law_stack t_taken) else ((fX7_folkOf F x2).bind fun R23 => (if R23 < 0 ∨ t_kindsN ≤ R23.toNatClampNeg then none else ((fX1_isTold F t_law_size).bind fun R45 => (if R45 = 0 then (bX2_layTaken_L75 F t_folks t_line t_kindsN t_kinds t_kinN t_kin t_law_size t_law_codeN t_law_code t_law_stackN t_takenN k12 x1 x2 ((1 : Int32) + (t_kinds (R23).toNatClampNeg)) t_law_stack t_taken) else (if R23 < 0 ∨ t_kinN ≤ R23.toNatClampNeg then none else ((fJ6_bitCount_0f7a4 F (t_kin (R23).toNatClampNeg)).bind fun R64 => ((fX1_worth F t_law_size t_law_codeN t_law_code t_law_stackN x1 (t_kinds (R23).toNatClampNeg) R64 (x2 &&& (1 : Int32)) t_law_stack).bind fun R70 => (bX2_layTaken_L75 F t_folks t_line t_kindsN t_kinds t_kinN t_kin t_law_size t_law_codeN t_law_code t_law_stackN t_takenN k12 x1 x2 R70.1 R70.2 t_taken))))))))
theorem vbX2_layTaken_L12 {l : Launch} {D : va_G} {cy : Nat → ClassId} {av : List Value} {ws0 : va_W} {Q : Option Value → va_W → Prop} (F : Nat) (tA : Nat) (t_namesV : Value) (t_stopsV : Value) (t_roundsV : Value) (t_folks : Int32) (t_pairs : Int32) (t_line : Int32) (t_rope : Int32) (t_lineTold : Int32) (t_ropeTold : Int32) (t_kindsA : Nat) (t_kindsN : Nat) (t_kinds : Nat → Int32) (t_kinA : Nat) (t_kinN : Nat) (t_kin : Nat → Int32) (t_lawA : Nat) (t_law_size : Int32) (t_law_waitingV : Value) (t_law_waits : Int32) (t_law_within : Int32) (t_law_brackets : Int32) (t_law_partIsDue : Int32) (t_law_codeA : Nat) (t_law_codeN : Nat) (t_law_code : Nat → Int32) (t_law_stackA : Nat) (t_law_stackN : Nat) (t_takenA : Nat) (t_takenN : Nat) (k2 : Int32 → (Nat → Int32) → (Nat → Int32) → Option ((Nat → Int32) × (Nat → Int32))) (hk2 : ∀ (x1 : Int32) (t_law_stack : Nat → Int32) (t_taken : Nat → Int32) (R : (Nat → Int32) × (Nat → Int32)), k2 x1 t_law_stack t_taken = some R → Q none (wX2_layTaken cy tA t_namesV t_stopsV t_roundsV t_folks t_pairs t_line t_rope t_lineTold t_ropeTold t_kindsA t_kindsN t_kinds t_kinA t_kinN t_kin t_lawA t_law_size t_law_waitingV t_law_waits t_law_within t_law_brackets t_law_partIsDue t_law_codeA t_law_codeN t_law_code t_law_stackA t_law_stackN R.1 t_takenA t_takenN R.2) → V l D cy MX2_layTaken 2 0 0 av ws0 Q 2 [(0, .ref tA), (1, .int x1)] [] (wX2_layTaken cy tA t_namesV t_stopsV t_roundsV t_folks t_pairs t_line t_rope t_lineTold t_ropeTold t_kindsA t_kindsN t_kinds t_kinA t_kinN t_kin t_lawA t_law_size t_law_waitingV t_law_waits t_law_within t_law_brackets t_law_partIsDue t_law_codeA t_law_codeN t_law_code t_law_stackA t_law_stackN t_law_stack t_takenA t_takenN t_taken) 0 0) (k12 : Int32 → Int32 → (Nat → Int32) → (Nat → Int32) → Option ((Nat → Int32) × (Nat → Int32))) (hk12 : ∀ (x1 : Int32) (x2 : Int32) (t_law_stack : Nat → Int32) (t_taken : Nat → Int32) (R : (Nat → Int32) × (Nat → Int32)), k12 x1 x2 t_law_stack t_taken = some R → Q none (wX2_layTaken cy tA t_namesV t_stopsV t_roundsV t_folks t_pairs t_line t_rope t_lineTold t_ropeTold t_kindsA t_kindsN t_kinds t_kinA t_kinN t_kin t_lawA t_law_size t_law_waitingV t_law_waits t_law_within t_law_brackets t_law_partIsDue t_law_codeA t_law_codeN t_law_code t_law_stackA t_law_stackN R.1 t_takenA t_takenN R.2) → V l D cy MX2_layTaken 2 0 0 av ws0 Q 12 [(0, .ref tA), (1, .int x1), (2, .int x2)] [] (wX2_layTaken cy tA t_namesV t_stopsV t_roundsV t_folks t_pairs t_line t_rope t_lineTold t_ropeTold t_kindsA t_kindsN t_kinds t_kinA t_kinN t_kin t_lawA t_law_size t_law_waitingV t_law_waits t_law_within t_law_brackets t_law_partIsDue t_law_codeA t_law_codeN t_law_code t_law_stackA t_law_stackN t_law_stack t_takenA t_takenN t_taken) 0 0) (x1 : Int32) (x2 : Int32) (t_law_stack : Nat → Int32) (t_taken : Nat → Int32) (R : (Nat → Int32) × (Nat → Int32)) (h : bX2_layTaken_L12 F t_folks t_line t_kindsN t_kinds t_kinN t_kin t_law_size t_law_codeN t_law_code t_law_stackN t_takenN k2 k12 x1 x2 t_law_stack t_taken = some R) (hQ : Q none (wX2_layTaken cy tA t_namesV t_stopsV t_roundsV t_folks t_pairs t_line t_rope t_lineTold t_ropeTold t_kindsA t_kindsN t_kinds t_kinA t_kinN t_kin t_lawA t_law_size t_law_waitingV t_law_waits t_law_within t_law_brackets t_law_partIsDue t_law_codeA t_law_codeN t_law_code t_law_stackA t_law_stackN R.1 t_takenA t_takenN R.2)) : V l D cy MX2_layTaken 2 0 0 av ws0 Q 12 [(0, .ref tA), (1, .int x1), (2, .int x2)] [] (wX2_layTaken cy tA t_namesV t_stopsV t_roundsV t_folks t_pairs t_line t_rope t_lineTold t_ropeTold t_kindsA t_kindsN t_kinds t_kinA t_kinN t_kin t_lawA t_law_size t_law_waitingV t_law_waits t_law_within t_law_brackets t_law_partIsDue t_law_codeA t_law_codeN t_law_code t_law_stackA t_law_stackN t_law_stack t_takenA t_takenN t_taken) 0 0 := by
  unfold bX2_layTaken_L12 at h
  refine V.iload_n dX2_layTaken_12 rfl 2 rfl ?_
  refine V.iconst (v := (2 : Int32)) dX2_layTaken_13 (by decide) ?_
  refine V.aload_n dX2_layTaken_14 rfl 0 rfl ?_
  refine V.get kfX2 0 rfl rfl 5 (by decide) klX2_47 rfl dX2_layTaken_15 ?_
  refine V.imul dX2_layTaken_18 ?_
  refine V.icmp_ge (tgt := 103) dX2_layTaken_19 (by decide) (fun hc19 => ?_) (fun hc19 => ?_)
  · replace h := (if_pos hc19).symm.trans h
    refine V.iinc (v := x1 + (1 : Int32)) (lv' := [(1, .int (x1 + (1 : Int32))), (0, .ref tA), (2, .int x2)]) dX2_layTaken_103 1 rfl rfl (by decide) rfl ?_
    refine V.goto (tgt := 2) dX2_layTaken_106 (by decide) ?_
    refine V.lvs [1, 0] rfl ?_
    exact hk2 _ _ _ R h hQ
  · replace h := (if_neg hc19).symm.trans h
    refine V.iload_n dX2_layTaken_22 rfl 2 rfl ?_
    obtain ⟨R23, hg23, h⟩ := Option.bind_eq_some_iff.mp h
    refine V.callS (As := [.int x2]) (rest := []) (wc := (wX7_folkOf cy )) (wr := [(tA, .inr (2, [t_namesV, .ref t_kindsA, .ref t_kinA, t_stopsV, t_roundsV, .int t_folks, .int t_pairs, .int t_line, .int t_rope, .int t_lineTold, .int t_ropeTold, .ref t_lawA, .ref t_takenA])), (t_kindsA, .inl (cy 1, t_kindsN, .inl t_kinds)), (t_kinA, .inl (cy 1, t_kinN, .inl t_kin)), (t_lawA, .inr (1, [.ref t_law_codeA, .int t_law_size, t_law_waitingV, .int t_law_waits, .int t_law_within, .int t_law_brackets, .int t_law_partIsDue, .ref t_law_stackA])), (t_law_codeA, .inl (cy 1, t_law_codeN, .inl t_law_code)), (t_law_stackA, .inl (cy 1, t_law_stackN, .inl t_law_stack)), (t_takenA, .inl (cy 1, t_takenN, .inl t_taken))]) (CX7_folkOf F x2 R23 hg23) kvX7_folkOf klX2_93 [] [0, 1, 2, 3, 4, 5, 6] rfl rfl (by decide) (by decide) (by decide) rfl dX2_layTaken_23 ⟨by decide, by decide, by decide, by decide⟩ (Nat.le_of_ble_eq_true rfl) (fun r w1 hq => ?_)
    obtain ⟨rfl, rfl⟩ := hq
    refine V.cells (ws' := (wX2_layTaken cy tA t_namesV t_stopsV t_roundsV t_folks t_pairs t_line t_rope t_lineTold t_ropeTold t_kindsA t_kindsN t_kinds t_kinA t_kinN t_kin t_lawA t_law_size t_law_waitingV t_law_waits t_law_within t_law_brackets t_law_partIsDue t_law_codeA t_law_codeN t_law_code t_law_stackA t_law_stackN t_law_stack t_takenA t_takenN t_taken)) [0, 1, 2, 3, 4, 5, 6] (by decide) rfl ?_
    show V l D cy MX2_layTaken 2 0 0 _ _ _ 26 [(0, .ref tA), (1, .int x1), (2, .int x2)] [.int R23] (wX2_layTaken cy tA t_namesV t_stopsV t_roundsV t_folks t_pairs t_line t_rope t_lineTold t_ropeTold t_kindsA t_kindsN t_kinds t_kinA t_kinN t_kin t_lawA t_law_size t_law_waitingV t_law_waits t_law_within t_law_brackets t_law_partIsDue t_law_codeA t_law_codeN t_law_code t_law_stackA t_law_stackN t_law_stack t_takenA t_takenN t_taken) 0 0
    refine V.istore_n (lv' := [(3, .int R23), (0, .ref tA), (1, .int x1), (2, .int x2)]) dX2_layTaken_26 rfl (by decide) rfl ?_
    refine V.aload_n dX2_layTaken_27 rfl 1 rfl ?_
    refine V.get kfX2 0 rfl rfl 1 (by decide) klX2_15 rfl dX2_layTaken_28 ?_
    refine V.iload_n dX2_layTaken_31 rfl 0 rfl ?_
    by_cases hb32 : R23 < 0 ∨ t_kindsN ≤ R23.toNatClampNeg
    · exact vNone ((if_pos hb32).symm.trans h)
    replace h := (if_neg hb32).symm.trans h
    refine V.iald dX2_layTaken_32 1 rfl hb32 ?_
    refine V.istore (lv' := [(4, .int (t_kinds (R23).toNatClampNeg)), (3, .int R23), (0, .ref tA), (1, .int x1), (2, .int x2)]) dX2_layTaken_33 (by decide) rfl ?_
    refine V.iconst (v := (1 : Int32)) dX2_layTaken_35 (by decide) ?_
    refine V.iload dX2_layTaken_36 0 rfl ?_
    refine V.iadd dX2_layTaken_38 ?_
    refine V.istore (lv' := [(5, .int ((1 : Int32) + (t_kinds (R23).toNatClampNeg))), (4, .int (t_kinds (R23).toNatClampNeg)), (3, .int R23), (0, .ref tA), (1, .int x1), (2, .int x2)]) dX2_layTaken_39 (by decide) rfl ?_
    refine V.aload_n dX2_layTaken_41 rfl 3 rfl ?_
    refine V.get kfX2 0 rfl rfl 11 (by decide) klX2_31 rfl dX2_layTaken_42 ?_
    obtain ⟨R45, hg45, h⟩ := Option.bind_eq_some_iff.mp h
    refine V.callV (As := []) (rest := []) (wc := (wX1_isTold cy t_lawA (.ref t_law_codeA) t_law_size t_law_waitingV t_law_waits t_law_within t_law_brackets t_law_partIsDue (.ref t_law_stackA))) (wr := [(tA, .inr (2, [t_namesV, .ref t_kindsA, .ref t_kinA, t_stopsV, t_roundsV, .int t_folks, .int t_pairs, .int t_line, .int t_rope, .int t_lineTold, .int t_ropeTold, .ref t_lawA, .ref t_takenA])), (t_kindsA, .inl (cy 1, t_kindsN, .inl t_kinds)), (t_kinA, .inl (cy 1, t_kinN, .inl t_kin)), (t_law_codeA, .inl (cy 1, t_law_codeN, .inl t_law_code)), (t_law_stackA, .inl (cy 1, t_law_stackN, .inl t_law_stack)), (t_takenA, .inl (cy 1, t_takenN, .inl t_taken))]) (q0 := 3) (CX1_isTold F t_lawA (.ref t_law_codeA) t_law_size t_law_waitingV t_law_waits t_law_within t_law_brackets t_law_partIsDue (.ref t_law_stackA) R45 hg45) kvX1_isTold klX2_97 [3] [0, 1, 2, 4, 5, 6] rfl rfl (by decide) (by decide) (by decide) rfl rfl rfl rfl dX2_layTaken_45 ⟨by decide, by decide, by decide, by decide⟩ (Nat.le_of_ble_eq_true rfl) (fun r w1 hq => ?_)
    obtain ⟨rfl, rfl⟩ := hq
    refine V.cells (ws' := (wX2_layTaken cy tA t_namesV t_stopsV t_roundsV t_folks t_pairs t_line t_rope t_lineTold t_ropeTold t_kindsA t_kindsN t_kinds t_kinA t_kinN t_kin t_lawA t_law_size t_law_waitingV t_law_waits t_law_within t_law_brackets t_law_partIsDue t_law_codeA t_law_codeN t_law_code t_law_stackA t_law_stackN t_law_stack t_takenA t_takenN t_taken)) [0, 1, 2, 6, 3, 4, 5] (by decide) rfl ?_
    show V l D cy MX2_layTaken 2 0 0 _ _ _ 48 [(5, .int ((1 : Int32) + (t_kinds (R23).toNatClampNeg))), (4, .int (t_kinds (R23).toNatClampNeg)), (3, .int R23), (0, .ref tA), (1, .int x1), (2, .int x2)] [.int R45] (wX2_layTaken cy tA t_namesV t_stopsV t_roundsV t_folks t_pairs t_line t_rope t_lineTold t_ropeTold t_kindsA t_kindsN t_kinds t_kinA t_kinN t_kin t_lawA t_law_size t_law_waitingV t_law_waits t_law_within t_law_brackets t_law_partIsDue t_law_codeA t_law_codeN t_law_code t_law_stackA t_law_stackN t_law_stack t_takenA t_takenN t_taken) 0 0
    refine V.if_eq (tgt := 75) dX2_layTaken_48 (by decide) (fun hc48 => ?_) (fun hc48 => ?_)
    · replace h := (if_pos hc48).symm.trans h
      refine V.lvs [3, 4, 5, 0] rfl ?_
      exact vX2_layTaken_L75 _ _ _ _ _ _ _ _ _ _ _ _ _ _ _ _ _ _ _ _ _ _ _ _ _ _ _ _ _ _ _ _ hk12  _ _ _ _ _ R h hQ
    · replace h := (if_neg hc48).symm.trans h
      refine V.aload_n dX2_layTaken_51 rfl 3 rfl ?_
      refine V.get kfX2 0 rfl rfl 11 (by decide) klX2_31 rfl dX2_layTaken_52 ?_
      refine V.iload_n dX2_layTaken_55 rfl 4 rfl ?_
      refine V.iload dX2_layTaken_56 1 rfl ?_
      refine V.aload_n dX2_layTaken_58 rfl 3 rfl ?_
      refine V.get kfX2 0 rfl rfl 2 (by decide) klX2_19 rfl dX2_layTaken_59 ?_
      refine V.iload_n dX2_layTaken_62 rfl 2 rfl ?_
      by_cases hb63 : R23 < 0 ∨ t_kinN ≤ R23.toNatClampNeg
      · exact vNone ((if_pos hb63).symm.trans h)
      replace h := (if_neg hb63).symm.trans h
      refine V.iald dX2_layTaken_63 2 rfl hb63 ?_
      obtain ⟨R64, hg64, h⟩ := Option.bind_eq_some_iff.mp h
      refine V.callS (As := [.int (t_kin (R23).toNatClampNeg)]) (rest := [.int (t_kinds (R23).toNatClampNeg), .int x1, .ref t_lawA]) (wc := (wJ6_bitCount_0f7a4 cy )) (wr := [(tA, .inr (2, [t_namesV, .ref t_kindsA, .ref t_kinA, t_stopsV, t_roundsV, .int t_folks, .int t_pairs, .int t_line, .int t_rope, .int t_lineTold, .int t_ropeTold, .ref t_lawA, .ref t_takenA])), (t_kindsA, .inl (cy 1, t_kindsN, .inl t_kinds)), (t_kinA, .inl (cy 1, t_kinN, .inl t_kin)), (t_lawA, .inr (1, [.ref t_law_codeA, .int t_law_size, t_law_waitingV, .int t_law_waits, .int t_law_within, .int t_law_brackets, .int t_law_partIsDue, .ref t_law_stackA])), (t_law_codeA, .inl (cy 1, t_law_codeN, .inl t_law_code)), (t_law_stackA, .inl (cy 1, t_law_stackN, .inl t_law_stack)), (t_takenA, .inl (cy 1, t_takenN, .inl t_taken))]) (CJ6_bitCount_0f7a4 F (t_kin (R23).toNatClampNeg) R64 hg64) kvJ6_bitCount_0f7a4 klX2_101 [] [0, 1, 2, 3, 4, 5, 6] rfl rfl (by decide) (by decide) (by decide) rfl dX2_layTaken_64 ⟨by decide, by decide, by decide, by decide⟩ (Nat.le_of_ble_eq_true rfl) (fun r w1 hq => ?_)
      obtain ⟨rfl, rfl⟩ := hq
      refine V.cells (ws' := (wX2_layTaken cy tA t_namesV t_stopsV t_roundsV t_folks t_pairs t_line t_rope t_lineTold t_ropeTold t_kindsA t_kindsN t_kinds t_kinA t_kinN t_kin t_lawA t_law_size t_law_waitingV t_law_waits t_law_within t_law_brackets t_law_partIsDue t_law_codeA t_law_codeN t_law_code t_law_stackA t_law_stackN t_law_stack t_takenA t_takenN t_taken)) [0, 1, 2, 3, 4, 5, 6] (by decide) rfl ?_
      show V l D cy MX2_layTaken 2 0 0 _ _ _ 67 [(5, .int ((1 : Int32) + (t_kinds (R23).toNatClampNeg))), (4, .int (t_kinds (R23).toNatClampNeg)), (3, .int R23), (0, .ref tA), (1, .int x1), (2, .int x2)] [.int R64, .int (t_kinds (R23).toNatClampNeg), .int x1, .ref t_lawA] (wX2_layTaken cy tA t_namesV t_stopsV t_roundsV t_folks t_pairs t_line t_rope t_lineTold t_ropeTold t_kindsA t_kindsN t_kinds t_kinA t_kinN t_kin t_lawA t_law_size t_law_waitingV t_law_waits t_law_within t_law_brackets t_law_partIsDue t_law_codeA t_law_codeN t_law_code t_law_stackA t_law_stackN t_law_stack t_takenA t_takenN t_taken) 0 0
      refine V.iload_n dX2_layTaken_67 rfl 5 rfl ?_
      refine V.iconst (v := (1 : Int32)) dX2_layTaken_68 (by decide) ?_
      refine V.iand dX2_layTaken_69 ?_
      obtain ⟨R70, hg70, h⟩ := Option.bind_eq_some_iff.mp h
      refine V.callV (As := [.int x1, .int (t_kinds (R23).toNatClampNeg), .int R64, .int (x2 &&& (1 : Int32))]) (rest := []) (wc := (wX1_worth cy t_lawA t_law_size t_law_waitingV t_law_waits t_law_within t_law_brackets t_law_partIsDue t_law_codeA t_law_codeN t_law_code t_law_stackA t_law_stackN t_law_stack)) (wr := [(tA, .inr (2, [t_namesV, .ref t_kindsA, .ref t_kinA, t_stopsV, t_roundsV, .int t_folks, .int t_pairs, .int t_line, .int t_rope, .int t_lineTold, .int t_ropeTold, .ref t_lawA, .ref t_takenA])), (t_kindsA, .inl (cy 1, t_kindsN, .inl t_kinds)), (t_kinA, .inl (cy 1, t_kinN, .inl t_kin)), (t_takenA, .inl (cy 1, t_takenN, .inl t_taken))]) (q0 := 3) (CX1_worth F t_lawA t_law_size t_law_waitingV t_law_waits t_law_within t_law_brackets t_law_partIsDue t_law_codeA t_law_codeN t_law_code t_law_stackA t_law_stackN t_law_stack x1 (t_kinds (R23).toNatClampNeg) R64 (x2 &&& (1 : Int32)) R70 hg70) kvX1_worth klX2_106 [3, 4, 5] [0, 1, 2, 6] rfl rfl (by decide) (by decide) (by decide) rfl rfl rfl rfl dX2_layTaken_70 ⟨by decide, by decide, by decide, by decide⟩ (Nat.le_of_ble_eq_true rfl) (fun r w1 hq => ?_)
      obtain ⟨rfl, rfl⟩ := hq
      refine V.cells (ws' := (wX2_layTaken cy tA t_namesV t_stopsV t_roundsV t_folks t_pairs t_line t_rope t_lineTold t_ropeTold t_kindsA t_kindsN t_kinds t_kinA t_kinN t_kin t_lawA t_law_size t_law_waitingV t_law_waits t_law_within t_law_brackets t_law_partIsDue t_law_codeA t_law_codeN t_law_code t_law_stackA t_law_stackN R70.2 t_takenA t_takenN t_taken)) [0, 1, 2, 4, 5, 6, 3] (by decide) rfl ?_
      show V l D cy MX2_layTaken 2 0 0 _ _ _ 73 [(5, .int ((1 : Int32) + (t_kinds (R23).toNatClampNeg))), (4, .int (t_kinds (R23).toNatClampNeg)), (3, .int R23), (0, .ref tA), (1, .int x1), (2, .int x2)] [.int R70.1] (wX2_layTaken cy tA t_namesV t_stopsV t_roundsV t_folks t_pairs t_line t_rope t_lineTold t_ropeTold t_kindsA t_kindsN t_kinds t_kinA t_kinN t_kin t_lawA t_law_size t_law_waitingV t_law_waits t_law_within t_law_brackets t_law_partIsDue t_law_codeA t_law_codeN t_law_code t_law_stackA t_law_stackN R70.2 t_takenA t_takenN t_taken) 0 0
      refine V.istore (lv' := [(5, .int R70.1), (4, .int (t_kinds (R23).toNatClampNeg)), (3, .int R23), (0, .ref tA), (1, .int x1), (2, .int x2)]) dX2_layTaken_73 (by decide) rfl ?_
      refine V.lvs [3, 4, 5, 0] rfl ?_
      exact vX2_layTaken_L75 _ _ _ _ _ _ _ _ _ _ _ _ _ _ _ _ _ _ _ _ _ _ _ _ _ _ _ _ _ _ _ _ hk12  _ _ _ _ _ R h hQ
noncomputable def fX2_layTaken_L12 (F : Nat) (t_folks : Int32) (t_line : Int32) (t_kindsN : Nat) (t_kinds : Nat → Int32) (t_kinN : Nat) (t_kin : Nat → Int32) (t_law_size : Int32) (t_law_codeN : Nat) (t_law_code : Nat → Int32) (t_law_stackN : Nat) (t_takenN : Nat) (k2 : Int32 → (Nat → Int32) → (Nat → Int32) → Option ((Nat → Int32) × (Nat → Int32))) : Nat → Int32 → Int32 → (Nat → Int32) → (Nat → Int32) → Option ((Nat → Int32) × (Nat → Int32))
  | 0 => fun _ _ _ _ => none
  | n + 1 => bX2_layTaken_L12 F t_folks t_line t_kindsN t_kinds t_kinN t_kin t_law_size t_law_codeN t_law_code t_law_stackN t_takenN k2 (fX2_layTaken_L12 F t_folks t_line t_kindsN t_kinds t_kinN t_kin t_law_size t_law_codeN t_law_code t_law_stackN t_takenN k2 n)
theorem vX2_layTaken_L12 {l : Launch} {D : va_G} {cy : Nat → ClassId} {av : List Value} {ws0 : va_W} {Q : Option Value → va_W → Prop} (F : Nat) (tA : Nat) (t_namesV : Value) (t_stopsV : Value) (t_roundsV : Value) (t_folks : Int32) (t_pairs : Int32) (t_line : Int32) (t_rope : Int32) (t_lineTold : Int32) (t_ropeTold : Int32) (t_kindsA : Nat) (t_kindsN : Nat) (t_kinds : Nat → Int32) (t_kinA : Nat) (t_kinN : Nat) (t_kin : Nat → Int32) (t_lawA : Nat) (t_law_size : Int32) (t_law_waitingV : Value) (t_law_waits : Int32) (t_law_within : Int32) (t_law_brackets : Int32) (t_law_partIsDue : Int32) (t_law_codeA : Nat) (t_law_codeN : Nat) (t_law_code : Nat → Int32) (t_law_stackA : Nat) (t_law_stackN : Nat) (t_takenA : Nat) (t_takenN : Nat) (k2 : Int32 → (Nat → Int32) → (Nat → Int32) → Option ((Nat → Int32) × (Nat → Int32))) (hk2 : ∀ (x1 : Int32) (t_law_stack : Nat → Int32) (t_taken : Nat → Int32) (R : (Nat → Int32) × (Nat → Int32)), k2 x1 t_law_stack t_taken = some R → Q none (wX2_layTaken cy tA t_namesV t_stopsV t_roundsV t_folks t_pairs t_line t_rope t_lineTold t_ropeTold t_kindsA t_kindsN t_kinds t_kinA t_kinN t_kin t_lawA t_law_size t_law_waitingV t_law_waits t_law_within t_law_brackets t_law_partIsDue t_law_codeA t_law_codeN t_law_code t_law_stackA t_law_stackN R.1 t_takenA t_takenN R.2) → V l D cy MX2_layTaken 2 0 0 av ws0 Q 2 [(0, .ref tA), (1, .int x1)] [] (wX2_layTaken cy tA t_namesV t_stopsV t_roundsV t_folks t_pairs t_line t_rope t_lineTold t_ropeTold t_kindsA t_kindsN t_kinds t_kinA t_kinN t_kin t_lawA t_law_size t_law_waitingV t_law_waits t_law_within t_law_brackets t_law_partIsDue t_law_codeA t_law_codeN t_law_code t_law_stackA t_law_stackN t_law_stack t_takenA t_takenN t_taken) 0 0) : ∀ (n : Nat) (x1 : Int32) (x2 : Int32) (t_law_stack : Nat → Int32) (t_taken : Nat → Int32) (R : (Nat → Int32) × (Nat → Int32)), fX2_layTaken_L12 F t_folks t_line t_kindsN t_kinds t_kinN t_kin t_law_size t_law_codeN t_law_code t_law_stackN t_takenN k2 n x1 x2 t_law_stack t_taken = some R → Q none (wX2_layTaken cy tA t_namesV t_stopsV t_roundsV t_folks t_pairs t_line t_rope t_lineTold t_ropeTold t_kindsA t_kindsN t_kinds t_kinA t_kinN t_kin t_lawA t_law_size t_law_waitingV t_law_waits t_law_within t_law_brackets t_law_partIsDue t_law_codeA t_law_codeN t_law_code t_law_stackA t_law_stackN R.1 t_takenA t_takenN R.2) → V l D cy MX2_layTaken 2 0 0 av ws0 Q 12 [(0, .ref tA), (1, .int x1), (2, .int x2)] [] (wX2_layTaken cy tA t_namesV t_stopsV t_roundsV t_folks t_pairs t_line t_rope t_lineTold t_ropeTold t_kindsA t_kindsN t_kinds t_kinA t_kinN t_kin t_lawA t_law_size t_law_waitingV t_law_waits t_law_within t_law_brackets t_law_partIsDue t_law_codeA t_law_codeN t_law_code t_law_stackA t_law_stackN t_law_stack t_takenA t_takenN t_taken) 0 0 := by
  intro n
  induction n with
  | zero => intro x1 x2 t_law_stack t_taken R h; exact vNone h
  | succ n ih => intro x1 x2 t_law_stack t_taken R h hQ; exact vbX2_layTaken_L12 F tA t_namesV t_stopsV t_roundsV t_folks t_pairs t_line t_rope t_lineTold t_ropeTold t_kindsA t_kindsN t_kinds t_kinA t_kinN t_kin t_lawA t_law_size t_law_waitingV t_law_waits t_law_within t_law_brackets t_law_partIsDue t_law_codeA t_law_codeN t_law_code t_law_stackA t_law_stackN t_takenA t_takenN _ hk2 _ ih x1 x2 t_law_stack t_taken R h hQ
noncomputable def bX2_layTaken_L2 (F : Nat) (t_folks : Int32) (t_line : Int32) (t_kindsN : Nat) (t_kinds : Nat → Int32) (t_kinN : Nat) (t_kin : Nat → Int32) (t_law_size : Int32) (t_law_codeN : Nat) (t_law_code : Nat → Int32) (t_law_stackN : Nat) (t_takenN : Nat) (k2 : Int32 → (Nat → Int32) → (Nat → Int32) → Option ((Nat → Int32) × (Nat → Int32))) (x1 : Int32) (t_law_stack : Nat → Int32) (t_taken : Nat → Int32) : Option ((Nat → Int32) × (Nat → Int32)) :=
  if t_line ≤ x1 then (some (t_law_stack, t_taken)) else (fX2_layTaken_L12 F t_folks t_line t_kindsN t_kinds t_kinN t_kin t_law_size t_law_codeN t_law_code t_law_stackN t_takenN k2 F x1 (0 : Int32) t_law_stack t_taken)
theorem vbX2_layTaken_L2 {l : Launch} {D : va_G} {cy : Nat → ClassId} {av : List Value} {ws0 : va_W} {Q : Option Value → va_W → Prop} (F : Nat) (tA : Nat) (t_namesV : Value) (t_stopsV : Value) (t_roundsV : Value) (t_folks : Int32) (t_pairs : Int32) (t_line : Int32) (t_rope : Int32) (t_lineTold : Int32) (t_ropeTold : Int32) (t_kindsA : Nat) (t_kindsN : Nat) (t_kinds : Nat → Int32) (t_kinA : Nat) (t_kinN : Nat) (t_kin : Nat → Int32) (t_lawA : Nat) (t_law_size : Int32) (t_law_waitingV : Value) (t_law_waits : Int32) (t_law_within : Int32) (t_law_brackets : Int32) (t_law_partIsDue : Int32) (t_law_codeA : Nat) (t_law_codeN : Nat) (t_law_code : Nat → Int32) (t_law_stackA : Nat) (t_law_stackN : Nat) (t_takenA : Nat) (t_takenN : Nat) (k2 : Int32 → (Nat → Int32) → (Nat → Int32) → Option ((Nat → Int32) × (Nat → Int32))) (hk2 : ∀ (x1 : Int32) (t_law_stack : Nat → Int32) (t_taken : Nat → Int32) (R : (Nat → Int32) × (Nat → Int32)), k2 x1 t_law_stack t_taken = some R → Q none (wX2_layTaken cy tA t_namesV t_stopsV t_roundsV t_folks t_pairs t_line t_rope t_lineTold t_ropeTold t_kindsA t_kindsN t_kinds t_kinA t_kinN t_kin t_lawA t_law_size t_law_waitingV t_law_waits t_law_within t_law_brackets t_law_partIsDue t_law_codeA t_law_codeN t_law_code t_law_stackA t_law_stackN R.1 t_takenA t_takenN R.2) → V l D cy MX2_layTaken 2 0 0 av ws0 Q 2 [(0, .ref tA), (1, .int x1)] [] (wX2_layTaken cy tA t_namesV t_stopsV t_roundsV t_folks t_pairs t_line t_rope t_lineTold t_ropeTold t_kindsA t_kindsN t_kinds t_kinA t_kinN t_kin t_lawA t_law_size t_law_waitingV t_law_waits t_law_within t_law_brackets t_law_partIsDue t_law_codeA t_law_codeN t_law_code t_law_stackA t_law_stackN t_law_stack t_takenA t_takenN t_taken) 0 0) (x1 : Int32) (t_law_stack : Nat → Int32) (t_taken : Nat → Int32) (R : (Nat → Int32) × (Nat → Int32)) (h : bX2_layTaken_L2 F t_folks t_line t_kindsN t_kinds t_kinN t_kin t_law_size t_law_codeN t_law_code t_law_stackN t_takenN k2 x1 t_law_stack t_taken = some R) (hQ : Q none (wX2_layTaken cy tA t_namesV t_stopsV t_roundsV t_folks t_pairs t_line t_rope t_lineTold t_ropeTold t_kindsA t_kindsN t_kinds t_kinA t_kinN t_kin t_lawA t_law_size t_law_waitingV t_law_waits t_law_within t_law_brackets t_law_partIsDue t_law_codeA t_law_codeN t_law_code t_law_stackA t_law_stackN R.1 t_takenA t_takenN R.2)) : V l D cy MX2_layTaken 2 0 0 av ws0 Q 2 [(0, .ref tA), (1, .int x1)] [] (wX2_layTaken cy tA t_namesV t_stopsV t_roundsV t_folks t_pairs t_line t_rope t_lineTold t_ropeTold t_kindsA t_kindsN t_kinds t_kinA t_kinN t_kin t_lawA t_law_size t_law_waitingV t_law_waits t_law_within t_law_brackets t_law_partIsDue t_law_codeA t_law_codeN t_law_code t_law_stackA t_law_stackN t_law_stack t_takenA t_takenN t_taken) 0 0 := by
  unfold bX2_layTaken_L2 at h
  refine V.iload_n dX2_layTaken_2 rfl 1 rfl ?_
  refine V.aload_n dX2_layTaken_3 rfl 0 rfl ?_
  refine V.get kfX2 0 rfl rfl 7 (by decide) klX2_54 rfl dX2_layTaken_4 ?_
  refine V.icmp_ge (tgt := 109) dX2_layTaken_7 (by decide) (fun hc7 => ?_) (fun hc7 => ?_)
  · replace h := (if_pos hc7).symm.trans h
    have e9 := Option.some.inj h; subst e9
    exact V.vret rfl dX2_layTaken_109 (Nat.le_refl _) (Nat.le_refl _) hQ
  · replace h := (if_neg hc7).symm.trans h
    refine V.iconst (v := (0 : Int32)) dX2_layTaken_10 (by decide) ?_
    refine V.istore_n (lv' := [(2, .int (0 : Int32)), (0, .ref tA), (1, .int x1)]) dX2_layTaken_11 rfl (by decide) rfl ?_
    refine V.lvs [1, 2, 0] rfl ?_
    exact vX2_layTaken_L12 _ _ _ _ _ _ _ _ _ _ _ _ _ _ _ _ _ _ _ _ _ _ _ _ _ _ _ _ _ _ _ _ hk2 _ _ _ _ _ R h hQ
noncomputable def fX2_layTaken_L2 (F : Nat) (t_folks : Int32) (t_line : Int32) (t_kindsN : Nat) (t_kinds : Nat → Int32) (t_kinN : Nat) (t_kin : Nat → Int32) (t_law_size : Int32) (t_law_codeN : Nat) (t_law_code : Nat → Int32) (t_law_stackN : Nat) (t_takenN : Nat)  : Nat → Int32 → (Nat → Int32) → (Nat → Int32) → Option ((Nat → Int32) × (Nat → Int32))
  | 0 => fun _ _ _ => none
  | n + 1 => bX2_layTaken_L2 F t_folks t_line t_kindsN t_kinds t_kinN t_kin t_law_size t_law_codeN t_law_code t_law_stackN t_takenN (fX2_layTaken_L2 F t_folks t_line t_kindsN t_kinds t_kinN t_kin t_law_size t_law_codeN t_law_code t_law_stackN t_takenN  n)
theorem vX2_layTaken_L2 {l : Launch} {D : va_G} {cy : Nat → ClassId} {av : List Value} {ws0 : va_W} {Q : Option Value → va_W → Prop} (F : Nat) (tA : Nat) (t_namesV : Value) (t_stopsV : Value) (t_roundsV : Value) (t_folks : Int32) (t_pairs : Int32) (t_line : Int32) (t_rope : Int32) (t_lineTold : Int32) (t_ropeTold : Int32) (t_kindsA : Nat) (t_kindsN : Nat) (t_kinds : Nat → Int32) (t_kinA : Nat) (t_kinN : Nat) (t_kin : Nat → Int32) (t_lawA : Nat) (t_law_size : Int32) (t_law_waitingV : Value) (t_law_waits : Int32) (t_law_within : Int32) (t_law_brackets : Int32) (t_law_partIsDue : Int32) (t_law_codeA : Nat) (t_law_codeN : Nat) (t_law_code : Nat → Int32) (t_law_stackA : Nat) (t_law_stackN : Nat) (t_takenA : Nat) (t_takenN : Nat)  : ∀ (n : Nat) (x1 : Int32) (t_law_stack : Nat → Int32) (t_taken : Nat → Int32) (R : (Nat → Int32) × (Nat → Int32)), fX2_layTaken_L2 F t_folks t_line t_kindsN t_kinds t_kinN t_kin t_law_size t_law_codeN t_law_code t_law_stackN t_takenN  n x1 t_law_stack t_taken = some R → Q none (wX2_layTaken cy tA t_namesV t_stopsV t_roundsV t_folks t_pairs t_line t_rope t_lineTold t_ropeTold t_kindsA t_kindsN t_kinds t_kinA t_kinN t_kin t_lawA t_law_size t_law_waitingV t_law_waits t_law_within t_law_brackets t_law_partIsDue t_law_codeA t_law_codeN t_law_code t_law_stackA t_law_stackN R.1 t_takenA t_takenN R.2) → V l D cy MX2_layTaken 2 0 0 av ws0 Q 2 [(0, .ref tA), (1, .int x1)] [] (wX2_layTaken cy tA t_namesV t_stopsV t_roundsV t_folks t_pairs t_line t_rope t_lineTold t_ropeTold t_kindsA t_kindsN t_kinds t_kinA t_kinN t_kin t_lawA t_law_size t_law_waitingV t_law_waits t_law_within t_law_brackets t_law_partIsDue t_law_codeA t_law_codeN t_law_code t_law_stackA t_law_stackN t_law_stack t_takenA t_takenN t_taken) 0 0 := by
  intro n
  induction n with
  | zero => intro x1 t_law_stack t_taken R h; exact vNone h
  | succ n ih => intro x1 t_law_stack t_taken R h hQ; exact vbX2_layTaken_L2 F tA t_namesV t_stopsV t_roundsV t_folks t_pairs t_line t_rope t_lineTold t_ropeTold t_kindsA t_kindsN t_kinds t_kinA t_kinN t_kin t_lawA t_law_size t_law_waitingV t_law_waits t_law_within t_law_brackets t_law_partIsDue t_law_codeA t_law_codeN t_law_code t_law_stackA t_law_stackN t_takenA t_takenN _ ih x1 t_law_stack t_taken R h hQ
noncomputable def fX2_layTaken (F : Nat) (t_folks : Int32) (t_line : Int32) (t_kindsN : Nat) (t_kinds : Nat → Int32) (t_kinN : Nat) (t_kin : Nat → Int32) (t_law_size : Int32) (t_law_codeN : Nat) (t_law_code : Nat → Int32) (t_law_stackN : Nat) (t_takenN : Nat) (t_law_stack : Nat → Int32) (t_taken : Nat → Int32) : Option ((Nat → Int32) × (Nat → Int32)) :=
  fX2_layTaken_L2 F t_folks t_line t_kindsN t_kinds t_kinN t_kin t_law_size t_law_codeN t_law_code t_law_stackN t_takenN F (0 : Int32) t_law_stack t_taken
theorem CX2_layTaken {l : Launch} {D : va_G} {cy : Nat → ClassId} (F : Nat) (tA : Nat) (t_namesV : Value) (t_stopsV : Value) (t_roundsV : Value) (t_folks : Int32) (t_pairs : Int32) (t_line : Int32) (t_rope : Int32) (t_lineTold : Int32) (t_ropeTold : Int32) (t_kindsA : Nat) (t_kindsN : Nat) (t_kinds : Nat → Int32) (t_kinA : Nat) (t_kinN : Nat) (t_kin : Nat → Int32) (t_lawA : Nat) (t_law_size : Int32) (t_law_waitingV : Value) (t_law_waits : Int32) (t_law_within : Int32) (t_law_brackets : Int32) (t_law_partIsDue : Int32) (t_law_codeA : Nat) (t_law_codeN : Nat) (t_law_code : Nat → Int32) (t_law_stackA : Nat) (t_law_stackN : Nat) (t_law_stack : Nat → Int32) (t_takenA : Nat) (t_takenN : Nat) (t_taken : Nat → Int32) (R : (Nat → Int32) × (Nat → Int32)) (h : fX2_layTaken F t_folks t_line t_kindsN t_kinds t_kinN t_kin t_law_size t_law_codeN t_law_code t_law_stackN t_takenN t_law_stack t_taken = some R) : vMet l D cy MX2_layTaken 2 0 0 [.ref tA] (wX2_layTaken cy tA t_namesV t_stopsV t_roundsV t_folks t_pairs t_line t_rope t_lineTold t_ropeTold t_kindsA t_kindsN t_kinds t_kinA t_kinN t_kin t_lawA t_law_size t_law_waitingV t_law_waits t_law_within t_law_brackets t_law_partIsDue t_law_codeA t_law_codeN t_law_code t_law_stackA t_law_stackN t_law_stack t_takenA t_takenN t_taken) (fun (r : Option Value) (w : va_W) => r = none ∧ w = (wX2_layTaken cy tA t_namesV t_stopsV t_roundsV t_folks t_pairs t_line t_rope t_lineTold t_ropeTold t_kindsA t_kindsN t_kinds t_kinA t_kinN t_kin t_lawA t_law_size t_law_waitingV t_law_waits t_law_within t_law_brackets t_law_partIsDue t_law_codeA t_law_codeN t_law_code t_law_stackA t_law_stackN R.1 t_takenA t_takenN R.2)) := by
  refine vMet.start (by decide +kernel) (Nat.le_of_ble_eq_true rfl) ?_
  generalize hQe : (fun (r : Option Value) (w : va_W) => r = none ∧ w = (wX2_layTaken cy tA t_namesV t_stopsV t_roundsV t_folks t_pairs t_line t_rope t_lineTold t_ropeTold t_kindsA t_kindsN t_kinds t_kinA t_kinN t_kin t_lawA t_law_size t_law_waitingV t_law_waits t_law_within t_law_brackets t_law_partIsDue t_law_codeA t_law_codeN t_law_code t_law_stackA t_law_stackN R.1 t_takenA t_takenN R.2)) = Q
  have hQ : Q none (wX2_layTaken cy tA t_namesV t_stopsV t_roundsV t_folks t_pairs t_line t_rope t_lineTold t_ropeTold t_kindsA t_kindsN t_kinds t_kinA t_kinN t_kin t_lawA t_law_size t_law_waitingV t_law_waits t_law_within t_law_brackets t_law_partIsDue t_law_codeA t_law_codeN t_law_code t_law_stackA t_law_stackN R.1 t_takenA t_takenN R.2) := by rw [← hQe]; exact ⟨rfl, rfl⟩
  show V l D cy MX2_layTaken 2 0 0 _ _ Q 0 [(0, .ref tA)] [] _ 0 0
  show V l D cy MX2_layTaken 2 0 0 [.ref tA] _ Q 0 [(0, .ref tA)] [] (wX2_layTaken cy tA t_namesV t_stopsV t_roundsV t_folks t_pairs t_line t_rope t_lineTold t_ropeTold t_kindsA t_kindsN t_kinds t_kinA t_kinN t_kin t_lawA t_law_size t_law_waitingV t_law_waits t_law_within t_law_brackets t_law_partIsDue t_law_codeA t_law_codeN t_law_code t_law_stackA t_law_stackN t_law_stack t_takenA t_takenN t_taken) 0 0
  unfold fX2_layTaken at h
  refine V.iconst (v := (0 : Int32)) dX2_layTaken_0 (by decide) ?_
  refine V.istore_n (lv' := [(1, .int (0 : Int32)), (0, .ref tA)]) dX2_layTaken_1 rfl (by decide) rfl ?_
  refine V.lvs [1, 0] rfl ?_
  exact vX2_layTaken_L2 _ _ _ _ _ _ _ _ _ _ _ _ _ _ _ _ _ _ _ _ _ _ _ _ _ _ _ _ _ _ _  _ _ _ _ R h hQ
theorem dX2_readSide_0 : decode cX2_readSide 0 = .ok (.aload_n 0, 1) := by decide +kernel
theorem dX2_readSide_1 : decode cX2_readSide 1 = .ok (.invokevirtual 118, 3) := by decide +kernel
theorem dX2_readSide_4 : decode cX2_readSide 4 = .ok (.iconst 5, 1) := by decide +kernel
theorem dX2_readSide_5 : decode cX2_readSide 5 = .ok (.if_icmp .ne 7, 3) := by decide +kernel
theorem dX2_readSide_8 : decode cX2_readSide 8 = .ok (.iconst 1, 1) := by decide +kernel
theorem dX2_readSide_9 : decode cX2_readSide 9 = .ok (.goto 4, 3) := by decide +kernel
theorem dX2_readSide_12 : decode cX2_readSide 12 = .ok (.iconst 0, 1) := by decide +kernel
theorem dX2_readSide_13 : decode cX2_readSide 13 = .ok (.istore_n 2, 1) := by decide +kernel
theorem dX2_readSide_14 : decode cX2_readSide 14 = .ok (.iload_n 2, 1) := by decide +kernel
theorem dX2_readSide_15 : decode cX2_readSide 15 = .ok (.ifCond .ne 20, 3) := by decide +kernel
theorem dX2_readSide_18 : decode cX2_readSide 18 = .ok (.aload_n 0, 1) := by decide +kernel
theorem dX2_readSide_19 : decode cX2_readSide 19 = .ok (.invokevirtual 118, 3) := by decide +kernel
theorem dX2_readSide_22 : decode cX2_readSide 22 = .ok (.bipush 6, 2) := by decide +kernel
theorem dX2_readSide_24 : decode cX2_readSide 24 = .ok (.if_icmp .eq 11, 3) := by decide +kernel
theorem dX2_readSide_27 : decode cX2_readSide 27 = .ok (.aload_n 0, 1) := by decide +kernel
theorem dX2_readSide_28 : decode cX2_readSide 28 = .ok (.iconst 1, 1) := by decide +kernel
theorem dX2_readSide_29 : decode cX2_readSide 29 = .ok (.invokevirtual 144, 3) := by decide +kernel
theorem dX2_readSide_32 : decode cX2_readSide 32 = .ok (.pop, 1) := by decide +kernel
theorem dX2_readSide_33 : decode cX2_readSide 33 = .ok (.iconst (-1), 1) := by decide +kernel
theorem dX2_readSide_34 : decode cX2_readSide 34 = .ok (.ireturn, 1) := by decide +kernel
theorem dX2_readSide_35 : decode cX2_readSide 35 = .ok (.aload_n 0, 1) := by decide +kernel
theorem dX2_readSide_36 : decode cX2_readSide 36 = .ok (.invokevirtual 147, 3) := by decide +kernel
theorem dX2_readSide_39 : decode cX2_readSide 39 = .ok (.iconst 2, 1) := by decide +kernel
theorem dX2_readSide_40 : decode cX2_readSide 40 = .ok (.iload_n 1, 1) := by decide +kernel
theorem dX2_readSide_41 : decode cX2_readSide 41 = .ok (.imul, 1) := by decide +kernel
theorem dX2_readSide_42 : decode cX2_readSide 42 = .ok (.iload_n 2, 1) := by decide +kernel
theorem dX2_readSide_43 : decode cX2_readSide 43 = .ok (.ifCond .eq 7, 3) := by decide +kernel
theorem dX2_readSide_46 : decode cX2_readSide 46 = .ok (.iconst 0, 1) := by decide +kernel
theorem dX2_readSide_47 : decode cX2_readSide 47 = .ok (.goto 4, 3) := by decide +kernel
theorem dX2_readSide_50 : decode cX2_readSide 50 = .ok (.iconst 1, 1) := by decide +kernel
theorem dX2_readSide_51 : decode cX2_readSide 51 = .ok (.iadd, 1) := by decide +kernel
theorem dX2_readSide_52 : decode cX2_readSide 52 = .ok (.ireturn, 1) := by decide +kernel
def wX2_readSide (cy : Nat → ClassId) (p0A : Nat) (p0_signsV : Value) (p0_size : Int32) (p0_valuesV : Value) (p0_count : Int32) (p0_here : Int32) (p0_fault : Int32) (p0_tokensA : Nat) (p0_tokensN : Nat) (p0_tokens : Nat → Int32) (p0_startsA : Nat) (p0_startsN : Nat) (p0_starts : Nat → Int32) : va_W :=
  [(p0A, .inr (9, [p0_signsV, .int p0_size, .ref p0_tokensA, .ref p0_startsA, p0_valuesV, .int p0_count, .int p0_here, .int p0_fault])), (p0_tokensA, .inl (cy 1, p0_tokensN, .inl p0_tokens)), (p0_startsA, .inl (cy 1, p0_startsN, .inl p0_starts))]
noncomputable def bX2_readSide_L51 (F : Nat) (p0_size : Int32) (p0_count : Int32) (p0_tokensN : Nat) (p0_tokens : Nat → Int32) (p0_startsN : Nat) (p0_starts : Nat → Int32)  (s0 : Int32) (s1 : Int32) (p0_here : Int32) (p0_fault : Int32) : Option (Int32 × (Int32) × (Int32)) :=
  some (s0 + s1, p0_here, p0_fault)
theorem vX2_readSide_L51 {l : Launch} {D : va_G} {cy : Nat → ClassId} {av : List Value} {ws0 : va_W} {Q : Option Value → va_W → Prop} (F : Nat) (p0A : Nat) (p0_signsV : Value) (p0_size : Int32) (p0_valuesV : Value) (p0_count : Int32) (p0_tokensA : Nat) (p0_tokensN : Nat) (p0_tokens : Nat → Int32) (p0_startsA : Nat) (p0_startsN : Nat) (p0_starts : Nat → Int32)  (s0 : Int32) (s1 : Int32) (p0_here : Int32) (p0_fault : Int32) (R : Int32 × (Int32) × (Int32)) (h : bX2_readSide_L51 F p0_size p0_count p0_tokensN p0_tokens p0_startsN p0_starts  s0 s1 p0_here p0_fault = some R) (hQ : Q (some (.int R.1)) (wX2_readSide cy p0A p0_signsV p0_size p0_valuesV p0_count R.2.1 R.2.2 p0_tokensA p0_tokensN p0_tokens p0_startsA p0_startsN p0_starts)) : V l D cy MX2_readSide 1 0 0 av ws0 Q 51 [] [.int s1, .int s0] (wX2_readSide cy p0A p0_signsV p0_size p0_valuesV p0_count p0_here p0_fault p0_tokensA p0_tokensN p0_tokens p0_startsA p0_startsN p0_starts) 0 0 := by
  unfold bX2_readSide_L51 at h
  refine V.iadd dX2_readSide_51 ?_
  have e9 := Option.some.inj h; subst e9
  exact V.iret (ty := .int) rfl rfl dX2_readSide_52 (Nat.le_refl _) (Nat.le_refl _) hQ
noncomputable def bX2_readSide_L35 (F : Nat) (p0_size : Int32) (p0_count : Int32) (p0_tokensN : Nat) (p0_tokens : Nat → Int32) (p0_startsN : Nat) (p0_starts : Nat → Int32)  (x1 : Int32) (x2 : Int32) (p0_here : Int32) (p0_fault : Int32) : Option (Int32 × (Int32) × (Int32)) :=
  (fX9_step F p0_count p0_here).bind fun R36 => (if x2 = 0 then (bX2_readSide_L51 F p0_size p0_count p0_tokensN p0_tokens p0_startsN p0_starts ((2 : Int32) * x1) (1 : Int32) R36 p0_fault) else (bX2_readSide_L51 F p0_size p0_count p0_tokensN p0_tokens p0_startsN p0_starts ((2 : Int32) * x1) (0 : Int32) R36 p0_fault))
theorem vX2_readSide_L35 {l : Launch} {D : va_G} {cy : Nat → ClassId} {av : List Value} {ws0 : va_W} {Q : Option Value → va_W → Prop} (F : Nat) (p0A : Nat) (p0_signsV : Value) (p0_size : Int32) (p0_valuesV : Value) (p0_count : Int32) (p0_tokensA : Nat) (p0_tokensN : Nat) (p0_tokens : Nat → Int32) (p0_startsA : Nat) (p0_startsN : Nat) (p0_starts : Nat → Int32)  (x1 : Int32) (x2 : Int32) (p0_here : Int32) (p0_fault : Int32) (R : Int32 × (Int32) × (Int32)) (h : bX2_readSide_L35 F p0_size p0_count p0_tokensN p0_tokens p0_startsN p0_starts  x1 x2 p0_here p0_fault = some R) (hQ : Q (some (.int R.1)) (wX2_readSide cy p0A p0_signsV p0_size p0_valuesV p0_count R.2.1 R.2.2 p0_tokensA p0_tokensN p0_tokens p0_startsA p0_startsN p0_starts)) : V l D cy MX2_readSide 1 0 0 av ws0 Q 35 [(0, .ref p0A), (1, .int x1), (2, .int x2)] [] (wX2_readSide cy p0A p0_signsV p0_size p0_valuesV p0_count p0_here p0_fault p0_tokensA p0_tokensN p0_tokens p0_startsA p0_startsN p0_starts) 0 0 := by
  unfold bX2_readSide_L35 at h
  refine V.aload_n dX2_readSide_35 rfl 0 rfl ?_
  obtain ⟨R36, hg36, h⟩ := Option.bind_eq_some_iff.mp h
  refine V.callV (As := []) (rest := []) (wc := (wX9_step cy p0A p0_signsV p0_size (.ref p0_tokensA) (.ref p0_startsA) p0_valuesV p0_count p0_here p0_fault)) (wr := [(p0_tokensA, .inl (cy 1, p0_tokensN, .inl p0_tokens)), (p0_startsA, .inl (cy 1, p0_startsN, .inl p0_starts))]) (q0 := 0) (CX9_step F p0A p0_signsV p0_size (.ref p0_tokensA) (.ref p0_startsA) p0_valuesV p0_count p0_here p0_fault R36 hg36) kvX9_step klX2_147 [0] [1, 2] rfl rfl (by decide) (by decide) (by decide) rfl rfl rfl rfl dX2_readSide_36 ⟨by decide, by decide, by decide, by decide⟩ (Nat.le_of_ble_eq_true rfl) (fun r w1 hq => ?_)
  obtain ⟨rfl, rfl⟩ := hq
  refine V.cells (ws' := (wX2_readSide cy p0A p0_signsV p0_size p0_valuesV p0_count R36 p0_fault p0_tokensA p0_tokensN p0_tokens p0_startsA p0_startsN p0_starts)) [2, 0, 1] (by decide) rfl ?_
  show V l D cy MX2_readSide 1 0 0 _ _ _ 39 [(0, .ref p0A), (1, .int x1), (2, .int x2)] [] (wX2_readSide cy p0A p0_signsV p0_size p0_valuesV p0_count R36 p0_fault p0_tokensA p0_tokensN p0_tokens p0_startsA p0_startsN p0_starts) 0 0
  refine V.iconst (v := (2 : Int32)) dX2_readSide_39 (by decide) ?_
  refine V.iload_n dX2_readSide_40 rfl 1 rfl ?_
  refine V.imul dX2_readSide_41 ?_
  refine V.iload_n dX2_readSide_42 rfl 2 rfl ?_
  refine V.if_eq (tgt := 50) dX2_readSide_43 (by decide) (fun hc43 => ?_) (fun hc43 => ?_)
  · replace h := (if_pos hc43).symm.trans h
    refine V.iconst (v := (1 : Int32)) dX2_readSide_50 (by decide) ?_
    refine V.lvs [] rfl ?_
    exact vX2_readSide_L51 _ _ _ _ _ _ _ _ _ _ _ _   _ _ _ _ R h hQ
  · replace h := (if_neg hc43).symm.trans h
    refine V.iconst (v := (0 : Int32)) dX2_readSide_46 (by decide) ?_
    refine V.goto (tgt := 51) dX2_readSide_47 (by decide) ?_
    refine V.lvs [] rfl ?_
    exact vX2_readSide_L51 _ _ _ _ _ _ _ _ _ _ _ _   _ _ _ _ R h hQ
noncomputable def bX2_readSide_L13 (F : Nat) (p0_size : Int32) (p0_count : Int32) (p0_tokensN : Nat) (p0_tokens : Nat → Int32) (p0_startsN : Nat) (p0_starts : Nat → Int32)  (x1 : Int32) (s0 : Int32) (p0_here : Int32) (p0_fault : Int32) : Option (Int32 × (Int32) × (Int32)) :=
  if s0 = 0 then ((fX9_token F p0_count p0_here p0_tokensN p0_tokens).bind fun R19 => (if R19 = (6 : Int32) then (bX2_readSide_L35 F p0_size p0_count p0_tokensN p0_tokens p0_startsN p0_starts x1 s0 p0_here p0_fault) else ((fX9_wrong F p0_size p0_count p0_here p0_startsN p0_starts (1 : Int32) p0_fault).bind fun R29 => (some ((-1 : Int32), p0_here, R29.2))))) else (bX2_readSide_L35 F p0_size p0_count p0_tokensN p0_tokens p0_startsN p0_starts x1 s0 p0_here p0_fault)
theorem vX2_readSide_L13 {l : Launch} {D : va_G} {cy : Nat → ClassId} {av : List Value} {ws0 : va_W} {Q : Option Value → va_W → Prop} (F : Nat) (p0A : Nat) (p0_signsV : Value) (p0_size : Int32) (p0_valuesV : Value) (p0_count : Int32) (p0_tokensA : Nat) (p0_tokensN : Nat) (p0_tokens : Nat → Int32) (p0_startsA : Nat) (p0_startsN : Nat) (p0_starts : Nat → Int32)  (x1 : Int32) (s0 : Int32) (p0_here : Int32) (p0_fault : Int32) (R : Int32 × (Int32) × (Int32)) (h : bX2_readSide_L13 F p0_size p0_count p0_tokensN p0_tokens p0_startsN p0_starts  x1 s0 p0_here p0_fault = some R) (hQ : Q (some (.int R.1)) (wX2_readSide cy p0A p0_signsV p0_size p0_valuesV p0_count R.2.1 R.2.2 p0_tokensA p0_tokensN p0_tokens p0_startsA p0_startsN p0_starts)) : V l D cy MX2_readSide 1 0 0 av ws0 Q 13 [(0, .ref p0A), (1, .int x1)] [.int s0] (wX2_readSide cy p0A p0_signsV p0_size p0_valuesV p0_count p0_here p0_fault p0_tokensA p0_tokensN p0_tokens p0_startsA p0_startsN p0_starts) 0 0 := by
  unfold bX2_readSide_L13 at h
  refine V.istore_n (lv' := [(2, .int s0), (0, .ref p0A), (1, .int x1)]) dX2_readSide_13 rfl (by decide) rfl ?_
  refine V.iload_n dX2_readSide_14 rfl 0 rfl ?_
  refine V.if_ne (tgt := 35) dX2_readSide_15 (by decide) (fun hc15 => ?_) (fun hc15 => ?_)
  · replace h := (if_neg hc15).symm.trans h
    refine V.lvs [1, 2, 0] rfl ?_
    exact vX2_readSide_L35 _ _ _ _ _ _ _ _ _ _ _ _   _ _ _ _ R h hQ
  · replace h := (if_pos hc15).symm.trans h
    refine V.aload_n dX2_readSide_18 rfl 1 rfl ?_
    obtain ⟨R19, hg19, h⟩ := Option.bind_eq_some_iff.mp h
    refine V.callV (As := []) (rest := []) (wc := (wX9_token cy p0A p0_signsV p0_size (.ref p0_startsA) p0_valuesV p0_count p0_here p0_fault p0_tokensA p0_tokensN p0_tokens)) (wr := [(p0_startsA, .inl (cy 1, p0_startsN, .inl p0_starts))]) (q0 := 0) (CX9_token F p0A p0_signsV p0_size (.ref p0_startsA) p0_valuesV p0_count p0_here p0_fault p0_tokensA p0_tokensN p0_tokens R19 hg19) kvX9_token klX2_118 [0, 1] [2] rfl rfl (by decide) (by decide) (by decide) rfl rfl rfl rfl dX2_readSide_19 ⟨by decide, by decide, by decide, by decide⟩ (Nat.le_of_ble_eq_true rfl) (fun r w1 hq => ?_)
    obtain ⟨rfl, rfl⟩ := hq
    refine V.cells (ws' := (wX2_readSide cy p0A p0_signsV p0_size p0_valuesV p0_count p0_here p0_fault p0_tokensA p0_tokensN p0_tokens p0_startsA p0_startsN p0_starts)) [1, 2, 0] (by decide) rfl ?_
    show V l D cy MX2_readSide 1 0 0 _ _ _ 22 [(2, .int s0), (0, .ref p0A), (1, .int x1)] [.int R19] (wX2_readSide cy p0A p0_signsV p0_size p0_valuesV p0_count p0_here p0_fault p0_tokensA p0_tokensN p0_tokens p0_startsA p0_startsN p0_starts) 0 0
    refine V.bipush (v := (6 : Int32)) dX2_readSide_22 (by decide) ?_
    refine V.icmp_eq (tgt := 35) dX2_readSide_24 (by decide) (fun hc24 => ?_) (fun hc24 => ?_)
    · replace h := (if_pos hc24).symm.trans h
      refine V.lvs [1, 2, 0] rfl ?_
      exact vX2_readSide_L35 _ _ _ _ _ _ _ _ _ _ _ _   _ _ _ _ R h hQ
    · replace h := (if_neg hc24).symm.trans h
      refine V.aload_n dX2_readSide_27 rfl 1 rfl ?_
      refine V.iconst (v := (1 : Int32)) dX2_readSide_28 (by decide) ?_
      obtain ⟨R29, hg29, h⟩ := Option.bind_eq_some_iff.mp h
      refine V.callV (As := [.int (1 : Int32)]) (rest := []) (wc := (wX9_wrong cy p0A p0_signsV p0_size (.ref p0_tokensA) p0_valuesV p0_count p0_here p0_fault p0_startsA p0_startsN p0_starts)) (wr := [(p0_tokensA, .inl (cy 1, p0_tokensN, .inl p0_tokens))]) (q0 := 0) (CX9_wrong F p0A p0_signsV p0_size (.ref p0_tokensA) p0_valuesV p0_count p0_here p0_fault p0_startsA p0_startsN p0_starts (1 : Int32) R29 hg29) kvX9_wrong klX2_144 [0, 2] [1] rfl rfl (by decide) (by decide) (by decide) rfl rfl rfl rfl dX2_readSide_29 ⟨by decide, by decide, by decide, by decide⟩ (Nat.le_of_ble_eq_true rfl) (fun r w1 hq => ?_)
      obtain ⟨rfl, rfl⟩ := hq
      refine V.cells (ws' := (wX2_readSide cy p0A p0_signsV p0_size p0_valuesV p0_count p0_here R29.2 p0_tokensA p0_tokensN p0_tokens p0_startsA p0_startsN p0_starts)) [1, 0, 2] (by decide) rfl ?_
      show V l D cy MX2_readSide 1 0 0 _ _ _ 32 [(2, .int s0), (0, .ref p0A), (1, .int x1)] [.int R29.1] (wX2_readSide cy p0A p0_signsV p0_size p0_valuesV p0_count p0_here R29.2 p0_tokensA p0_tokensN p0_tokens p0_startsA p0_startsN p0_starts) 0 0
      refine V.pop dX2_readSide_32 rfl ?_
      refine V.iconst (v := (-1 : Int32)) dX2_readSide_33 (by decide) ?_
      have e9 := Option.some.inj h; subst e9
      exact V.iret (ty := .int) rfl rfl dX2_readSide_34 (Nat.le_refl _) (Nat.le_refl _) hQ
noncomputable def fX2_readSide (F : Nat) (p0_size : Int32) (p0_count : Int32) (p0_tokensN : Nat) (p0_tokens : Nat → Int32) (p0_startsN : Nat) (p0_starts : Nat → Int32) (a1 : Int32) (p0_here : Int32) (p0_fault : Int32) : Option (Int32 × (Int32) × (Int32)) :=
  (fX9_token F p0_count p0_here p0_tokensN p0_tokens).bind fun R1 => (if R1 = (5 : Int32) then (bX2_readSide_L13 F p0_size p0_count p0_tokensN p0_tokens p0_startsN p0_starts a1 (1 : Int32) p0_here p0_fault) else (bX2_readSide_L13 F p0_size p0_count p0_tokensN p0_tokens p0_startsN p0_starts a1 (0 : Int32) p0_here p0_fault))
theorem CX2_readSide {l : Launch} {D : va_G} {cy : Nat → ClassId} (F : Nat) (p0A : Nat) (p0_signsV : Value) (p0_size : Int32) (p0_valuesV : Value) (p0_count : Int32) (p0_here : Int32) (p0_fault : Int32) (p0_tokensA : Nat) (p0_tokensN : Nat) (p0_tokens : Nat → Int32) (p0_startsA : Nat) (p0_startsN : Nat) (p0_starts : Nat → Int32) (a1 : Int32) (R : Int32 × (Int32) × (Int32)) (h : fX2_readSide F p0_size p0_count p0_tokensN p0_tokens p0_startsN p0_starts a1 p0_here p0_fault = some R) : vMet l D cy MX2_readSide 1 0 0 [.ref p0A, .int a1] (wX2_readSide cy p0A p0_signsV p0_size p0_valuesV p0_count p0_here p0_fault p0_tokensA p0_tokensN p0_tokens p0_startsA p0_startsN p0_starts) (fun (r : Option Value) (w : va_W) => r = (some (.int R.1)) ∧ w = (wX2_readSide cy p0A p0_signsV p0_size p0_valuesV p0_count R.2.1 R.2.2 p0_tokensA p0_tokensN p0_tokens p0_startsA p0_startsN p0_starts)) := by
  refine vMet.start (by decide +kernel) (Nat.le_of_ble_eq_true rfl) ?_
  generalize hQe : (fun (r : Option Value) (w : va_W) => r = (some (.int R.1)) ∧ w = (wX2_readSide cy p0A p0_signsV p0_size p0_valuesV p0_count R.2.1 R.2.2 p0_tokensA p0_tokensN p0_tokens p0_startsA p0_startsN p0_starts)) = Q
  have hQ : Q (some (.int R.1)) (wX2_readSide cy p0A p0_signsV p0_size p0_valuesV p0_count R.2.1 R.2.2 p0_tokensA p0_tokensN p0_tokens p0_startsA p0_startsN p0_starts) := by rw [← hQe]; exact ⟨rfl, rfl⟩
  show V l D cy MX2_readSide 1 0 0 _ _ Q 0 [(0, .ref p0A), (1, .int a1)] [] _ 0 0
  show V l D cy MX2_readSide 1 0 0 [.ref p0A, .int a1] _ Q 0 [(0, .ref p0A), (1, .int a1)] [] (wX2_readSide cy p0A p0_signsV p0_size p0_valuesV p0_count p0_here p0_fault p0_tokensA p0_tokensN p0_tokens p0_startsA p0_startsN p0_starts) 0 0
  unfold fX2_readSide at h
  refine V.aload_n dX2_readSide_0 rfl 0 rfl ?_
  obtain ⟨R1, hg1, h⟩ := Option.bind_eq_some_iff.mp h
  refine V.callV (As := []) (rest := []) (wc := (wX9_token cy p0A p0_signsV p0_size (.ref p0_startsA) p0_valuesV p0_count p0_here p0_fault p0_tokensA p0_tokensN p0_tokens)) (wr := [(p0_startsA, .inl (cy 1, p0_startsN, .inl p0_starts))]) (q0 := 0) (CX9_token F p0A p0_signsV p0_size (.ref p0_startsA) p0_valuesV p0_count p0_here p0_fault p0_tokensA p0_tokensN p0_tokens R1 hg1) kvX9_token klX2_118 [0, 1] [2] rfl rfl (by decide) (by decide) (by decide) rfl rfl rfl rfl dX2_readSide_1 ⟨by decide, by decide, by decide, by decide⟩ (Nat.le_of_ble_eq_true rfl) (fun r w1 hq => ?_)
  obtain ⟨rfl, rfl⟩ := hq
  refine V.cells (ws' := (wX2_readSide cy p0A p0_signsV p0_size p0_valuesV p0_count p0_here p0_fault p0_tokensA p0_tokensN p0_tokens p0_startsA p0_startsN p0_starts)) [1, 2, 0] (by decide) rfl ?_
  show V l D cy MX2_readSide 1 0 0 _ _ _ 4 [(0, .ref p0A), (1, .int a1)] [.int R1] (wX2_readSide cy p0A p0_signsV p0_size p0_valuesV p0_count p0_here p0_fault p0_tokensA p0_tokensN p0_tokens p0_startsA p0_startsN p0_starts) 0 0
  refine V.iconst (v := (5 : Int32)) dX2_readSide_4 (by decide) ?_
  refine V.icmp_ne (tgt := 12) dX2_readSide_5 (by decide) (fun hc5 => ?_) (fun hc5 => ?_)
  · replace h := (if_neg hc5).symm.trans h
    refine V.iconst (v := (0 : Int32)) dX2_readSide_12 (by decide) ?_
    exact vX2_readSide_L13 _ _ _ _ _ _ _ _ _ _ _ _   _ _ _ _ R h hQ
  · replace h := (if_pos hc5).symm.trans h
    refine V.iconst (v := (1 : Int32)) dX2_readSide_8 (by decide) ?_
    refine V.goto (tgt := 13) dX2_readSide_9 (by decide) ?_
    exact vX2_readSide_L13 _ _ _ _ _ _ _ _ _ _ _ _   _ _ _ _ R h hQ
theorem dX2_nameHere_0 : decode cX2_nameHere 0 = .ok (.aload_n 1, 1) := by decide +kernel
theorem dX2_nameHere_1 : decode cX2_nameHere 1 = .ok (.invokevirtual 150, 3) := by decide +kernel
theorem dX2_nameHere_4 : decode cX2_nameHere 4 = .ok (.ifCond .ne 11, 3) := by decide +kernel
theorem dX2_nameHere_7 : decode cX2_nameHere 7 = .ok (.aload_n 1, 1) := by decide +kernel
theorem dX2_nameHere_8 : decode cX2_nameHere 8 = .ok (.iconst 1, 1) := by decide +kernel
theorem dX2_nameHere_9 : decode cX2_nameHere 9 = .ok (.invokevirtual 144, 3) := by decide +kernel
theorem dX2_nameHere_12 : decode cX2_nameHere 12 = .ok (.pop, 1) := by decide +kernel
theorem dX2_nameHere_13 : decode cX2_nameHere 13 = .ok (.iconst (-1), 1) := by decide +kernel
theorem dX2_nameHere_14 : decode cX2_nameHere 14 = .ok (.ireturn, 1) := by decide +kernel
theorem dX2_nameHere_15 : decode cX2_nameHere 15 = .ok (.aload_n 0, 1) := by decide +kernel
theorem dX2_nameHere_16 : decode cX2_nameHere 16 = .ok (.aload_n 1, 1) := by decide +kernel
theorem dX2_nameHere_17 : decode cX2_nameHere 17 = .ok (.invokevirtual 153, 3) := by decide +kernel
theorem dX2_nameHere_20 : decode cX2_nameHere 20 = .ok (.invokevirtual 157, 3) := by decide +kernel
theorem dX2_nameHere_23 : decode cX2_nameHere 23 = .ok (.istore_n 2, 1) := by decide +kernel
theorem dX2_nameHere_24 : decode cX2_nameHere 24 = .ok (.iload_n 2, 1) := by decide +kernel
theorem dX2_nameHere_25 : decode cX2_nameHere 25 = .ok (.iconst (-1), 1) := by decide +kernel
theorem dX2_nameHere_26 : decode cX2_nameHere 26 = .ok (.if_icmp .ne 9, 3) := by decide +kernel
theorem dX2_nameHere_29 : decode cX2_nameHere 29 = .ok (.aload_n 1, 1) := by decide +kernel
theorem dX2_nameHere_30 : decode cX2_nameHere 30 = .ok (.iconst 2, 1) := by decide +kernel
theorem dX2_nameHere_31 : decode cX2_nameHere 31 = .ok (.invokevirtual 144, 3) := by decide +kernel
theorem dX2_nameHere_34 : decode cX2_nameHere 34 = .ok (.pop, 1) := by decide +kernel
theorem dX2_nameHere_35 : decode cX2_nameHere 35 = .ok (.iload_n 2, 1) := by decide +kernel
theorem dX2_nameHere_36 : decode cX2_nameHere 36 = .ok (.ireturn, 1) := by decide +kernel
def wX2_nameHere (cy : Nat → ClassId) (tA : Nat) (t_kindsV : Value) (t_kinV : Value) (t_stopsV : Value) (t_roundsV : Value) (t_folks : Int32) (t_pairs : Int32) (t_line : Int32) (t_rope : Int32) (t_lineTold : Int32) (t_ropeTold : Int32) (t_lawV : Value) (t_takenV : Value) (t_namesA : Nat) (t_namesN : Nat) (t_names : Nat → Int64) (p1A : Nat) (p1_signsV : Value) (p1_size : Int32) (p1_count : Int32) (p1_here : Int32) (p1_fault : Int32) (p1_tokensA : Nat) (p1_tokensN : Nat) (p1_tokens : Nat → Int32) (p1_startsA : Nat) (p1_startsN : Nat) (p1_starts : Nat → Int32) (p1_valuesA : Nat) (p1_valuesN : Nat) (p1_values : Nat → Int64) : va_W :=
  [(tA, .inr (2, [.ref t_namesA, t_kindsV, t_kinV, t_stopsV, t_roundsV, .int t_folks, .int t_pairs, .int t_line, .int t_rope, .int t_lineTold, .int t_ropeTold, t_lawV, t_takenV])), (t_namesA, .inl (cy 2, t_namesN, .inr (.inl t_names))), (p1A, .inr (9, [p1_signsV, .int p1_size, .ref p1_tokensA, .ref p1_startsA, .ref p1_valuesA, .int p1_count, .int p1_here, .int p1_fault])), (p1_tokensA, .inl (cy 1, p1_tokensN, .inl p1_tokens)), (p1_startsA, .inl (cy 1, p1_startsN, .inl p1_starts)), (p1_valuesA, .inl (cy 2, p1_valuesN, .inr (.inl p1_values)))]
noncomputable def bX2_nameHere_L35 (F : Nat) (t_folks : Int32) (t_namesN : Nat) (t_names : Nat → Int64) (p1_size : Int32) (p1_count : Int32) (p1_here : Int32) (p1_tokensN : Nat) (p1_tokens : Nat → Int32) (p1_startsN : Nat) (p1_starts : Nat → Int32) (p1_valuesN : Nat) (p1_values : Nat → Int64)  (x2 : Int32) (p1_fault : Int32) : Option (Int32 × (Int32)) :=
  some (x2, p1_fault)
theorem vX2_nameHere_L35 {l : Launch} {D : va_G} {cy : Nat → ClassId} {av : List Value} {ws0 : va_W} {Q : Option Value → va_W → Prop} (F : Nat) (tA : Nat) (t_kindsV : Value) (t_kinV : Value) (t_stopsV : Value) (t_roundsV : Value) (t_folks : Int32) (t_pairs : Int32) (t_line : Int32) (t_rope : Int32) (t_lineTold : Int32) (t_ropeTold : Int32) (t_lawV : Value) (t_takenV : Value) (t_namesA : Nat) (t_namesN : Nat) (t_names : Nat → Int64) (p1A : Nat) (p1_signsV : Value) (p1_size : Int32) (p1_count : Int32) (p1_here : Int32) (p1_tokensA : Nat) (p1_tokensN : Nat) (p1_tokens : Nat → Int32) (p1_startsA : Nat) (p1_startsN : Nat) (p1_starts : Nat → Int32) (p1_valuesA : Nat) (p1_valuesN : Nat) (p1_values : Nat → Int64)  (x2 : Int32) (p1_fault : Int32) (R : Int32 × (Int32)) (h : bX2_nameHere_L35 F t_folks t_namesN t_names p1_size p1_count p1_here p1_tokensN p1_tokens p1_startsN p1_starts p1_valuesN p1_values  x2 p1_fault = some R) (hQ : Q (some (.int R.1)) (wX2_nameHere cy tA t_kindsV t_kinV t_stopsV t_roundsV t_folks t_pairs t_line t_rope t_lineTold t_ropeTold t_lawV t_takenV t_namesA t_namesN t_names p1A p1_signsV p1_size p1_count p1_here R.2 p1_tokensA p1_tokensN p1_tokens p1_startsA p1_startsN p1_starts p1_valuesA p1_valuesN p1_values)) : V l D cy MX2_nameHere 2 0 0 av ws0 Q 35 [(2, .int x2)] [] (wX2_nameHere cy tA t_kindsV t_kinV t_stopsV t_roundsV t_folks t_pairs t_line t_rope t_lineTold t_ropeTold t_lawV t_takenV t_namesA t_namesN t_names p1A p1_signsV p1_size p1_count p1_here p1_fault p1_tokensA p1_tokensN p1_tokens p1_startsA p1_startsN p1_starts p1_valuesA p1_valuesN p1_values) 0 0 := by
  unfold bX2_nameHere_L35 at h
  refine V.iload_n dX2_nameHere_35 rfl 0 rfl ?_
  have e9 := Option.some.inj h; subst e9
  exact V.iret (ty := .int) rfl rfl dX2_nameHere_36 (Nat.le_refl _) (Nat.le_refl _) hQ
noncomputable def fX2_nameHere (F : Nat) (t_folks : Int32) (t_namesN : Nat) (t_names : Nat → Int64) (p1_size : Int32) (p1_count : Int32) (p1_here : Int32) (p1_tokensN : Nat) (p1_tokens : Nat → Int32) (p1_startsN : Nat) (p1_starts : Nat → Int32) (p1_valuesN : Nat) (p1_values : Nat → Int64) (p1_fault : Int32) : Option (Int32 × (Int32)) :=
  (fX9_isName F p1_count p1_here p1_tokensN p1_tokens).bind fun R1 => (if R1 = 0 then ((fX9_wrong F p1_size p1_count p1_here p1_startsN p1_starts (1 : Int32) p1_fault).bind fun R9 => (some ((-1 : Int32), R9.2))) else ((fX9_name F p1_count p1_here p1_valuesN p1_values).bind fun R17 => ((fX2_folkNamed F t_folks t_namesN t_names R17).bind fun R20 => (if R20 = (-1 : Int32) then ((fX9_wrong F p1_size p1_count p1_here p1_startsN p1_starts (2 : Int32) p1_fault).bind fun R31 => (bX2_nameHere_L35 F t_folks t_namesN t_names p1_size p1_count p1_here p1_tokensN p1_tokens p1_startsN p1_starts p1_valuesN p1_values R20 R31.2)) else (bX2_nameHere_L35 F t_folks t_namesN t_names p1_size p1_count p1_here p1_tokensN p1_tokens p1_startsN p1_starts p1_valuesN p1_values R20 p1_fault)))))
theorem CX2_nameHere {l : Launch} {D : va_G} {cy : Nat → ClassId} (F : Nat) (tA : Nat) (t_kindsV : Value) (t_kinV : Value) (t_stopsV : Value) (t_roundsV : Value) (t_folks : Int32) (t_pairs : Int32) (t_line : Int32) (t_rope : Int32) (t_lineTold : Int32) (t_ropeTold : Int32) (t_lawV : Value) (t_takenV : Value) (t_namesA : Nat) (t_namesN : Nat) (t_names : Nat → Int64) (p1A : Nat) (p1_signsV : Value) (p1_size : Int32) (p1_count : Int32) (p1_here : Int32) (p1_fault : Int32) (p1_tokensA : Nat) (p1_tokensN : Nat) (p1_tokens : Nat → Int32) (p1_startsA : Nat) (p1_startsN : Nat) (p1_starts : Nat → Int32) (p1_valuesA : Nat) (p1_valuesN : Nat) (p1_values : Nat → Int64) (R : Int32 × (Int32)) (h : fX2_nameHere F t_folks t_namesN t_names p1_size p1_count p1_here p1_tokensN p1_tokens p1_startsN p1_starts p1_valuesN p1_values p1_fault = some R) : vMet l D cy MX2_nameHere 2 0 0 [.ref tA, .ref p1A] (wX2_nameHere cy tA t_kindsV t_kinV t_stopsV t_roundsV t_folks t_pairs t_line t_rope t_lineTold t_ropeTold t_lawV t_takenV t_namesA t_namesN t_names p1A p1_signsV p1_size p1_count p1_here p1_fault p1_tokensA p1_tokensN p1_tokens p1_startsA p1_startsN p1_starts p1_valuesA p1_valuesN p1_values) (fun (r : Option Value) (w : va_W) => r = (some (.int R.1)) ∧ w = (wX2_nameHere cy tA t_kindsV t_kinV t_stopsV t_roundsV t_folks t_pairs t_line t_rope t_lineTold t_ropeTold t_lawV t_takenV t_namesA t_namesN t_names p1A p1_signsV p1_size p1_count p1_here R.2 p1_tokensA p1_tokensN p1_tokens p1_startsA p1_startsN p1_starts p1_valuesA p1_valuesN p1_values)) := by
  refine vMet.start (by decide +kernel) (Nat.le_of_ble_eq_true rfl) ?_
  generalize hQe : (fun (r : Option Value) (w : va_W) => r = (some (.int R.1)) ∧ w = (wX2_nameHere cy tA t_kindsV t_kinV t_stopsV t_roundsV t_folks t_pairs t_line t_rope t_lineTold t_ropeTold t_lawV t_takenV t_namesA t_namesN t_names p1A p1_signsV p1_size p1_count p1_here R.2 p1_tokensA p1_tokensN p1_tokens p1_startsA p1_startsN p1_starts p1_valuesA p1_valuesN p1_values)) = Q
  have hQ : Q (some (.int R.1)) (wX2_nameHere cy tA t_kindsV t_kinV t_stopsV t_roundsV t_folks t_pairs t_line t_rope t_lineTold t_ropeTold t_lawV t_takenV t_namesA t_namesN t_names p1A p1_signsV p1_size p1_count p1_here R.2 p1_tokensA p1_tokensN p1_tokens p1_startsA p1_startsN p1_starts p1_valuesA p1_valuesN p1_values) := by rw [← hQe]; exact ⟨rfl, rfl⟩
  show V l D cy MX2_nameHere 2 0 0 _ _ Q 0 [(0, .ref tA), (1, .ref p1A)] [] _ 0 0
  show V l D cy MX2_nameHere 2 0 0 [.ref tA, .ref p1A] _ Q 0 [(0, .ref tA), (1, .ref p1A)] [] (wX2_nameHere cy tA t_kindsV t_kinV t_stopsV t_roundsV t_folks t_pairs t_line t_rope t_lineTold t_ropeTold t_lawV t_takenV t_namesA t_namesN t_names p1A p1_signsV p1_size p1_count p1_here p1_fault p1_tokensA p1_tokensN p1_tokens p1_startsA p1_startsN p1_starts p1_valuesA p1_valuesN p1_values) 0 0
  unfold fX2_nameHere at h
  refine V.aload_n dX2_nameHere_0 rfl 1 rfl ?_
  obtain ⟨R1, hg1, h⟩ := Option.bind_eq_some_iff.mp h
  refine V.callV (As := []) (rest := []) (wc := (wX9_isName cy p1A p1_signsV p1_size (.ref p1_startsA) (.ref p1_valuesA) p1_count p1_here p1_fault p1_tokensA p1_tokensN p1_tokens)) (wr := [(tA, .inr (2, [.ref t_namesA, t_kindsV, t_kinV, t_stopsV, t_roundsV, .int t_folks, .int t_pairs, .int t_line, .int t_rope, .int t_lineTold, .int t_ropeTold, t_lawV, t_takenV])), (t_namesA, .inl (cy 2, t_namesN, .inr (.inl t_names))), (p1_startsA, .inl (cy 1, p1_startsN, .inl p1_starts)), (p1_valuesA, .inl (cy 2, p1_valuesN, .inr (.inl p1_values)))]) (q0 := 2) (CX9_isName F p1A p1_signsV p1_size (.ref p1_startsA) (.ref p1_valuesA) p1_count p1_here p1_fault p1_tokensA p1_tokensN p1_tokens R1 hg1) kvX9_isName klX2_150 [2, 3] [0, 1, 4, 5] rfl rfl (by decide) (by decide) (by decide) rfl rfl rfl rfl dX2_nameHere_1 ⟨by decide, by decide, by decide, by decide⟩ (Nat.le_of_ble_eq_true rfl) (fun r w1 hq => ?_)
  obtain ⟨rfl, rfl⟩ := hq
  refine V.cells (ws' := (wX2_nameHere cy tA t_kindsV t_kinV t_stopsV t_roundsV t_folks t_pairs t_line t_rope t_lineTold t_ropeTold t_lawV t_takenV t_namesA t_namesN t_names p1A p1_signsV p1_size p1_count p1_here p1_fault p1_tokensA p1_tokensN p1_tokens p1_startsA p1_startsN p1_starts p1_valuesA p1_valuesN p1_values)) [0, 1, 4, 5, 2, 3] (by decide) rfl ?_
  show V l D cy MX2_nameHere 2 0 0 _ _ _ 4 [(0, .ref tA), (1, .ref p1A)] [.int R1] (wX2_nameHere cy tA t_kindsV t_kinV t_stopsV t_roundsV t_folks t_pairs t_line t_rope t_lineTold t_ropeTold t_lawV t_takenV t_namesA t_namesN t_names p1A p1_signsV p1_size p1_count p1_here p1_fault p1_tokensA p1_tokensN p1_tokens p1_startsA p1_startsN p1_starts p1_valuesA p1_valuesN p1_values) 0 0
  refine V.if_ne (tgt := 15) dX2_nameHere_4 (by decide) (fun hc4 => ?_) (fun hc4 => ?_)
  · replace h := (if_neg hc4).symm.trans h
    refine V.aload_n dX2_nameHere_15 rfl 0 rfl ?_
    refine V.aload_n dX2_nameHere_16 rfl 1 rfl ?_
    obtain ⟨R17, hg17, h⟩ := Option.bind_eq_some_iff.mp h
    refine V.callV (As := []) (rest := [.ref tA]) (wc := (wX9_name cy p1A p1_signsV p1_size (.ref p1_tokensA) (.ref p1_startsA) p1_count p1_here p1_fault p1_valuesA p1_valuesN p1_values)) (wr := [(tA, .inr (2, [.ref t_namesA, t_kindsV, t_kinV, t_stopsV, t_roundsV, .int t_folks, .int t_pairs, .int t_line, .int t_rope, .int t_lineTold, .int t_ropeTold, t_lawV, t_takenV])), (t_namesA, .inl (cy 2, t_namesN, .inr (.inl t_names))), (p1_tokensA, .inl (cy 1, p1_tokensN, .inl p1_tokens)), (p1_startsA, .inl (cy 1, p1_startsN, .inl p1_starts))]) (q0 := 2) (CX9_name F p1A p1_signsV p1_size (.ref p1_tokensA) (.ref p1_startsA) p1_count p1_here p1_fault p1_valuesA p1_valuesN p1_values R17 hg17) kvX9_name klX2_153 [2, 5] [0, 1, 3, 4] rfl rfl (by decide) (by decide) (by decide) rfl rfl rfl rfl dX2_nameHere_17 ⟨by decide, by decide, by decide, by decide⟩ (Nat.le_of_ble_eq_true rfl) (fun r w1 hq => ?_)
    obtain ⟨rfl, rfl⟩ := hq
    refine V.cells (ws' := (wX2_nameHere cy tA t_kindsV t_kinV t_stopsV t_roundsV t_folks t_pairs t_line t_rope t_lineTold t_ropeTold t_lawV t_takenV t_namesA t_namesN t_names p1A p1_signsV p1_size p1_count p1_here p1_fault p1_tokensA p1_tokensN p1_tokens p1_startsA p1_startsN p1_starts p1_valuesA p1_valuesN p1_values)) [0, 1, 4, 2, 3, 5] (by decide) rfl ?_
    show V l D cy MX2_nameHere 2 0 0 _ _ _ 20 [(0, .ref tA), (1, .ref p1A)] [.long R17, .ref tA] (wX2_nameHere cy tA t_kindsV t_kinV t_stopsV t_roundsV t_folks t_pairs t_line t_rope t_lineTold t_ropeTold t_lawV t_takenV t_namesA t_namesN t_names p1A p1_signsV p1_size p1_count p1_here p1_fault p1_tokensA p1_tokensN p1_tokens p1_startsA p1_startsN p1_starts p1_valuesA p1_valuesN p1_values) 0 0
    obtain ⟨R20, hg20, h⟩ := Option.bind_eq_some_iff.mp h
    refine V.callV (As := [.long R17]) (rest := []) (wc := (wX2_folkNamed cy tA t_kindsV t_kinV t_stopsV t_roundsV t_folks t_pairs t_line t_rope t_lineTold t_ropeTold t_lawV t_takenV t_namesA t_namesN t_names)) (wr := [(p1A, .inr (9, [p1_signsV, .int p1_size, .ref p1_tokensA, .ref p1_startsA, .ref p1_valuesA, .int p1_count, .int p1_here, .int p1_fault])), (p1_tokensA, .inl (cy 1, p1_tokensN, .inl p1_tokens)), (p1_startsA, .inl (cy 1, p1_startsN, .inl p1_starts)), (p1_valuesA, .inl (cy 2, p1_valuesN, .inr (.inl p1_values)))]) (q0 := 0) (CX2_folkNamed F tA t_kindsV t_kinV t_stopsV t_roundsV t_folks t_pairs t_line t_rope t_lineTold t_ropeTold t_lawV t_takenV t_namesA t_namesN t_names R17 R20 hg20) kvX2_folkNamed klX2_157 [0, 1] [2, 3, 4, 5] rfl rfl (by decide) (by decide) (by decide) rfl rfl rfl rfl dX2_nameHere_20 ⟨by decide, by decide, by decide, by decide⟩ (Nat.le_of_ble_eq_true rfl) (fun r w1 hq => ?_)
    obtain ⟨rfl, rfl⟩ := hq
    refine V.cells (ws' := (wX2_nameHere cy tA t_kindsV t_kinV t_stopsV t_roundsV t_folks t_pairs t_line t_rope t_lineTold t_ropeTold t_lawV t_takenV t_namesA t_namesN t_names p1A p1_signsV p1_size p1_count p1_here p1_fault p1_tokensA p1_tokensN p1_tokens p1_startsA p1_startsN p1_starts p1_valuesA p1_valuesN p1_values)) [4, 5, 0, 1, 2, 3] (by decide) rfl ?_
    show V l D cy MX2_nameHere 2 0 0 _ _ _ 23 [(0, .ref tA), (1, .ref p1A)] [.int R20] (wX2_nameHere cy tA t_kindsV t_kinV t_stopsV t_roundsV t_folks t_pairs t_line t_rope t_lineTold t_ropeTold t_lawV t_takenV t_namesA t_namesN t_names p1A p1_signsV p1_size p1_count p1_here p1_fault p1_tokensA p1_tokensN p1_tokens p1_startsA p1_startsN p1_starts p1_valuesA p1_valuesN p1_values) 0 0
    refine V.istore_n (lv' := [(2, .int R20), (0, .ref tA), (1, .ref p1A)]) dX2_nameHere_23 rfl (by decide) rfl ?_
    refine V.iload_n dX2_nameHere_24 rfl 0 rfl ?_
    refine V.iconst (v := (-1 : Int32)) dX2_nameHere_25 (by decide) ?_
    refine V.icmp_ne (tgt := 35) dX2_nameHere_26 (by decide) (fun hc26 => ?_) (fun hc26 => ?_)
    · replace h := (if_neg hc26).symm.trans h
      refine V.lvs [0] rfl ?_
      exact vX2_nameHere_L35 _ _ _ _ _ _ _ _ _ _ _ _ _ _ _ _ _ _ _ _ _ _ _ _ _ _ _ _ _ _ _   _ _ R h hQ
    · replace h := (if_pos hc26).symm.trans h
      refine V.aload_n dX2_nameHere_29 rfl 2 rfl ?_
      refine V.iconst (v := (2 : Int32)) dX2_nameHere_30 (by decide) ?_
      obtain ⟨R31, hg31, h⟩ := Option.bind_eq_some_iff.mp h
      refine V.callV (As := [.int (2 : Int32)]) (rest := []) (wc := (wX9_wrong cy p1A p1_signsV p1_size (.ref p1_tokensA) (.ref p1_valuesA) p1_count p1_here p1_fault p1_startsA p1_startsN p1_starts)) (wr := [(tA, .inr (2, [.ref t_namesA, t_kindsV, t_kinV, t_stopsV, t_roundsV, .int t_folks, .int t_pairs, .int t_line, .int t_rope, .int t_lineTold, .int t_ropeTold, t_lawV, t_takenV])), (t_namesA, .inl (cy 2, t_namesN, .inr (.inl t_names))), (p1_tokensA, .inl (cy 1, p1_tokensN, .inl p1_tokens)), (p1_valuesA, .inl (cy 2, p1_valuesN, .inr (.inl p1_values)))]) (q0 := 2) (CX9_wrong F p1A p1_signsV p1_size (.ref p1_tokensA) (.ref p1_valuesA) p1_count p1_here p1_fault p1_startsA p1_startsN p1_starts (2 : Int32) R31 hg31) kvX9_wrong klX2_144 [2, 4] [0, 1, 3, 5] rfl rfl (by decide) (by decide) (by decide) rfl rfl rfl rfl dX2_nameHere_31 ⟨by decide, by decide, by decide, by decide⟩ (Nat.le_of_ble_eq_true rfl) (fun r w1 hq => ?_)
      obtain ⟨rfl, rfl⟩ := hq
      refine V.cells (ws' := (wX2_nameHere cy tA t_kindsV t_kinV t_stopsV t_roundsV t_folks t_pairs t_line t_rope t_lineTold t_ropeTold t_lawV t_takenV t_namesA t_namesN t_names p1A p1_signsV p1_size p1_count p1_here R31.2 p1_tokensA p1_tokensN p1_tokens p1_startsA p1_startsN p1_starts p1_valuesA p1_valuesN p1_values)) [0, 1, 4, 2, 5, 3] (by decide) rfl ?_
      show V l D cy MX2_nameHere 2 0 0 _ _ _ 34 [(2, .int R20), (0, .ref tA), (1, .ref p1A)] [.int R31.1] (wX2_nameHere cy tA t_kindsV t_kinV t_stopsV t_roundsV t_folks t_pairs t_line t_rope t_lineTold t_ropeTold t_lawV t_takenV t_namesA t_namesN t_names p1A p1_signsV p1_size p1_count p1_here R31.2 p1_tokensA p1_tokensN p1_tokens p1_startsA p1_startsN p1_starts p1_valuesA p1_valuesN p1_values) 0 0
      refine V.pop dX2_nameHere_34 rfl ?_
      refine V.lvs [0] rfl ?_
      exact vX2_nameHere_L35 _ _ _ _ _ _ _ _ _ _ _ _ _ _ _ _ _ _ _ _ _ _ _ _ _ _ _ _ _ _ _   _ _ R h hQ
  · replace h := (if_pos hc4).symm.trans h
    refine V.aload_n dX2_nameHere_7 rfl 1 rfl ?_
    refine V.iconst (v := (1 : Int32)) dX2_nameHere_8 (by decide) ?_
    obtain ⟨R9, hg9, h⟩ := Option.bind_eq_some_iff.mp h
    refine V.callV (As := [.int (1 : Int32)]) (rest := []) (wc := (wX9_wrong cy p1A p1_signsV p1_size (.ref p1_tokensA) (.ref p1_valuesA) p1_count p1_here p1_fault p1_startsA p1_startsN p1_starts)) (wr := [(tA, .inr (2, [.ref t_namesA, t_kindsV, t_kinV, t_stopsV, t_roundsV, .int t_folks, .int t_pairs, .int t_line, .int t_rope, .int t_lineTold, .int t_ropeTold, t_lawV, t_takenV])), (t_namesA, .inl (cy 2, t_namesN, .inr (.inl t_names))), (p1_tokensA, .inl (cy 1, p1_tokensN, .inl p1_tokens)), (p1_valuesA, .inl (cy 2, p1_valuesN, .inr (.inl p1_values)))]) (q0 := 2) (CX9_wrong F p1A p1_signsV p1_size (.ref p1_tokensA) (.ref p1_valuesA) p1_count p1_here p1_fault p1_startsA p1_startsN p1_starts (1 : Int32) R9 hg9) kvX9_wrong klX2_144 [2, 4] [0, 1, 3, 5] rfl rfl (by decide) (by decide) (by decide) rfl rfl rfl rfl dX2_nameHere_9 ⟨by decide, by decide, by decide, by decide⟩ (Nat.le_of_ble_eq_true rfl) (fun r w1 hq => ?_)
    obtain ⟨rfl, rfl⟩ := hq
    refine V.cells (ws' := (wX2_nameHere cy tA t_kindsV t_kinV t_stopsV t_roundsV t_folks t_pairs t_line t_rope t_lineTold t_ropeTold t_lawV t_takenV t_namesA t_namesN t_names p1A p1_signsV p1_size p1_count p1_here R9.2 p1_tokensA p1_tokensN p1_tokens p1_startsA p1_startsN p1_starts p1_valuesA p1_valuesN p1_values)) [0, 1, 4, 2, 5, 3] (by decide) rfl ?_
    show V l D cy MX2_nameHere 2 0 0 _ _ _ 12 [(0, .ref tA), (1, .ref p1A)] [.int R9.1] (wX2_nameHere cy tA t_kindsV t_kinV t_stopsV t_roundsV t_folks t_pairs t_line t_rope t_lineTold t_ropeTold t_lawV t_takenV t_namesA t_namesN t_names p1A p1_signsV p1_size p1_count p1_here R9.2 p1_tokensA p1_tokensN p1_tokens p1_startsA p1_startsN p1_starts p1_valuesA p1_valuesN p1_values) 0 0
    refine V.pop dX2_nameHere_12 rfl ?_
    refine V.iconst (v := (-1 : Int32)) dX2_nameHere_13 (by decide) ?_
    have e9 := Option.some.inj h; subst e9
    exact V.iret (ty := .int) rfl rfl dX2_nameHere_14 (Nat.le_refl _) (Nat.le_refl _) hQ
theorem dX2_canTie_0 : decode cX2_canTie 0 = .ok (.aload_n 1, 1) := by decide +kernel
theorem dX2_canTie_1 : decode cX2_canTie 1 = .ok (.getfield 78, 3) := by decide +kernel
theorem dX2_canTie_4 : decode cX2_canTie 4 = .ok (.aload_n 0, 1) := by decide +kernel
theorem dX2_canTie_5 : decode cX2_canTie 5 = .ok (.getfield 54, 3) := by decide +kernel
theorem dX2_canTie_8 : decode cX2_canTie 8 = .ok (.if_icmp .ge 29, 3) := by decide +kernel
theorem dX2_canTie_11 : decode cX2_canTie 11 = .ok (.aload_n 0, 1) := by decide +kernel
theorem dX2_canTie_12 : decode cX2_canTie 12 = .ok (.aload_n 1, 1) := by decide +kernel
theorem dX2_canTie_13 : decode cX2_canTie 13 = .ok (.invokevirtual 83, 3) := by decide +kernel
theorem dX2_canTie_16 : decode cX2_canTie 16 = .ok (.aload_n 0, 1) := by decide +kernel
theorem dX2_canTie_17 : decode cX2_canTie 17 = .ok (.aload_n 1, 1) := by decide +kernel
theorem dX2_canTie_18 : decode cX2_canTie 18 = .ok (.getfield 78, 3) := by decide +kernel
theorem dX2_canTie_21 : decode cX2_canTie 21 = .ok (.iload_n 2, 1) := by decide +kernel
theorem dX2_canTie_22 : decode cX2_canTie 22 = .ok (.invokevirtual 87, 3) := by decide +kernel
theorem dX2_canTie_25 : decode cX2_canTie 25 = .ok (.iadd, 1) := by decide +kernel
theorem dX2_canTie_26 : decode cX2_canTie 26 = .ok (.aload_n 0, 1) := by decide +kernel
theorem dX2_canTie_27 : decode cX2_canTie 27 = .ok (.getfield 57, 3) := by decide +kernel
theorem dX2_canTie_30 : decode cX2_canTie 30 = .ok (.if_icmp .gt 7, 3) := by decide +kernel
theorem dX2_canTie_33 : decode cX2_canTie 33 = .ok (.iconst 1, 1) := by decide +kernel
theorem dX2_canTie_34 : decode cX2_canTie 34 = .ok (.goto 4, 3) := by decide +kernel
theorem dX2_canTie_37 : decode cX2_canTie 37 = .ok (.iconst 0, 1) := by decide +kernel
theorem dX2_canTie_38 : decode cX2_canTie 38 = .ok (.ireturn, 1) := by decide +kernel
def wX2_canTie (cy : Nat → ClassId) (tA : Nat) (t_namesV : Value) (t_kindsV : Value) (t_kinV : Value) (t_stopsV : Value) (t_roundsV : Value) (t_folks : Int32) (t_pairs : Int32) (t_line : Int32) (t_rope : Int32) (t_lineTold : Int32) (t_ropeTold : Int32) (t_lawV : Value) (t_takenA : Nat) (t_takenN : Nat) (t_taken : Nat → Int32) (p1A : Nat) (p1_size : Int32) (p1_tiesA : Nat) (p1_tiesN : Nat) (p1_ties : Nat → Int32) : va_W :=
  [(tA, .inr (2, [t_namesV, t_kindsV, t_kinV, t_stopsV, t_roundsV, .int t_folks, .int t_pairs, .int t_line, .int t_rope, .int t_lineTold, .int t_ropeTold, t_lawV, .ref t_takenA])), (t_takenA, .inl (cy 1, t_takenN, .inl t_taken)), (p1A, .inr (7, [.ref p1_tiesA, .int p1_size])), (p1_tiesA, .inl (cy 1, p1_tiesN, .inl p1_ties))]
noncomputable def bX2_canTie_L38 (F : Nat) (t_line : Int32) (t_rope : Int32) (t_takenN : Nat) (t_taken : Nat → Int32) (p1_size : Int32) (p1_tiesN : Nat) (p1_ties : Nat → Int32)  (s0 : Int32) : Option (Int32) :=
  if s0 = 0 ∨ s0 = 1 then some s0 else none
theorem vX2_canTie_L38 {l : Launch} {D : va_G} {cy : Nat → ClassId} {av : List Value} {ws0 : va_W} {Q : Option Value → va_W → Prop} (F : Nat) (tA : Nat) (t_namesV : Value) (t_kindsV : Value) (t_kinV : Value) (t_stopsV : Value) (t_roundsV : Value) (t_folks : Int32) (t_pairs : Int32) (t_line : Int32) (t_rope : Int32) (t_lineTold : Int32) (t_ropeTold : Int32) (t_lawV : Value) (t_takenA : Nat) (t_takenN : Nat) (t_taken : Nat → Int32) (p1A : Nat) (p1_size : Int32) (p1_tiesA : Nat) (p1_tiesN : Nat) (p1_ties : Nat → Int32)  (s0 : Int32) (R : Int32) (h : bX2_canTie_L38 F t_line t_rope t_takenN t_taken p1_size p1_tiesN p1_ties  s0 = some R) (hQ : Q (some (.int R)) (wX2_canTie cy tA t_namesV t_kindsV t_kinV t_stopsV t_roundsV t_folks t_pairs t_line t_rope t_lineTold t_ropeTold t_lawV t_takenA t_takenN t_taken p1A p1_size p1_tiesA p1_tiesN p1_ties)) : V l D cy MX2_canTie 2 0 0 av ws0 Q 38 [] [.int s0] (wX2_canTie cy tA t_namesV t_kindsV t_kinV t_stopsV t_roundsV t_folks t_pairs t_line t_rope t_lineTold t_ropeTold t_lawV t_takenA t_takenN t_taken p1A p1_size p1_tiesA p1_tiesN p1_ties) 0 0 := by
  unfold bX2_canTie_L38 at h
  by_cases hz38 : s0 = 0 ∨ s0 = 1
  case neg => exact vNone ((if_neg hz38).symm.trans h)
  replace h := (if_pos hz38).symm.trans h
  have e9 := Option.some.inj h; subst e9
  exact V.iret (ty := .boolean) rfl (vBool hz38).1 dX2_canTie_38 (Nat.le_refl _) (Nat.le_refl _) hQ
noncomputable def bX2_canTie_L37 (F : Nat) (t_line : Int32) (t_rope : Int32) (t_takenN : Nat) (t_taken : Nat → Int32) (p1_size : Int32) (p1_tiesN : Nat) (p1_ties : Nat → Int32)   : Option (Int32) :=
  bX2_canTie_L38 F t_line t_rope t_takenN t_taken p1_size p1_tiesN p1_ties (0 : Int32)
theorem vX2_canTie_L37 {l : Launch} {D : va_G} {cy : Nat → ClassId} {av : List Value} {ws0 : va_W} {Q : Option Value → va_W → Prop} (F : Nat) (tA : Nat) (t_namesV : Value) (t_kindsV : Value) (t_kinV : Value) (t_stopsV : Value) (t_roundsV : Value) (t_folks : Int32) (t_pairs : Int32) (t_line : Int32) (t_rope : Int32) (t_lineTold : Int32) (t_ropeTold : Int32) (t_lawV : Value) (t_takenA : Nat) (t_takenN : Nat) (t_taken : Nat → Int32) (p1A : Nat) (p1_size : Int32) (p1_tiesA : Nat) (p1_tiesN : Nat) (p1_ties : Nat → Int32)   (R : Int32) (h : bX2_canTie_L37 F t_line t_rope t_takenN t_taken p1_size p1_tiesN p1_ties   = some R) (hQ : Q (some (.int R)) (wX2_canTie cy tA t_namesV t_kindsV t_kinV t_stopsV t_roundsV t_folks t_pairs t_line t_rope t_lineTold t_ropeTold t_lawV t_takenA t_takenN t_taken p1A p1_size p1_tiesA p1_tiesN p1_ties)) : V l D cy MX2_canTie 2 0 0 av ws0 Q 37 [] [] (wX2_canTie cy tA t_namesV t_kindsV t_kinV t_stopsV t_roundsV t_folks t_pairs t_line t_rope t_lineTold t_ropeTold t_lawV t_takenA t_takenN t_taken p1A p1_size p1_tiesA p1_tiesN p1_ties) 0 0 := by
  unfold bX2_canTie_L37 at h
  refine V.iconst (v := (0 : Int32)) dX2_canTie_37 (by decide) ?_
  exact vX2_canTie_L38 _ _ _ _ _ _ _ _ _ _ _ _ _ _ _ _ _ _ _ _ _ _   _ R h hQ
noncomputable def fX2_canTie (F : Nat) (t_line : Int32) (t_rope : Int32) (t_takenN : Nat) (t_taken : Nat → Int32) (p1_size : Int32) (p1_tiesN : Nat) (p1_ties : Nat → Int32) (a2 : Int32) : Option (Int32) :=
  if t_line ≤ p1_size then (bX2_canTie_L37 F t_line t_rope t_takenN t_taken p1_size p1_tiesN p1_ties) else ((fX2_usedBy F t_takenN t_taken p1_size p1_tiesN p1_ties).bind fun R13 => ((fX2_takenBy F t_takenN t_taken p1_size a2).bind fun R22 => (if t_rope < (R13 + R22) then (bX2_canTie_L37 F t_line t_rope t_takenN t_taken p1_size p1_tiesN p1_ties) else (bX2_canTie_L38 F t_line t_rope t_takenN t_taken p1_size p1_tiesN p1_ties (1 : Int32)))))
theorem CX2_canTie {l : Launch} {D : va_G} {cy : Nat → ClassId} (F : Nat) (tA : Nat) (t_namesV : Value) (t_kindsV : Value) (t_kinV : Value) (t_stopsV : Value) (t_roundsV : Value) (t_folks : Int32) (t_pairs : Int32) (t_line : Int32) (t_rope : Int32) (t_lineTold : Int32) (t_ropeTold : Int32) (t_lawV : Value) (t_takenA : Nat) (t_takenN : Nat) (t_taken : Nat → Int32) (p1A : Nat) (p1_size : Int32) (p1_tiesA : Nat) (p1_tiesN : Nat) (p1_ties : Nat → Int32) (a2 : Int32) (R : Int32) (h : fX2_canTie F t_line t_rope t_takenN t_taken p1_size p1_tiesN p1_ties a2 = some R) : vMet l D cy MX2_canTie 2 0 0 [.ref tA, .ref p1A, .int a2] (wX2_canTie cy tA t_namesV t_kindsV t_kinV t_stopsV t_roundsV t_folks t_pairs t_line t_rope t_lineTold t_ropeTold t_lawV t_takenA t_takenN t_taken p1A p1_size p1_tiesA p1_tiesN p1_ties) (fun (r : Option Value) (w : va_W) => r = (some (.int R)) ∧ w = (wX2_canTie cy tA t_namesV t_kindsV t_kinV t_stopsV t_roundsV t_folks t_pairs t_line t_rope t_lineTold t_ropeTold t_lawV t_takenA t_takenN t_taken p1A p1_size p1_tiesA p1_tiesN p1_ties)) := by
  refine vMet.start (by decide +kernel) (Nat.le_of_ble_eq_true rfl) ?_
  generalize hQe : (fun (r : Option Value) (w : va_W) => r = (some (.int R)) ∧ w = (wX2_canTie cy tA t_namesV t_kindsV t_kinV t_stopsV t_roundsV t_folks t_pairs t_line t_rope t_lineTold t_ropeTold t_lawV t_takenA t_takenN t_taken p1A p1_size p1_tiesA p1_tiesN p1_ties)) = Q
  have hQ : Q (some (.int R)) (wX2_canTie cy tA t_namesV t_kindsV t_kinV t_stopsV t_roundsV t_folks t_pairs t_line t_rope t_lineTold t_ropeTold t_lawV t_takenA t_takenN t_taken p1A p1_size p1_tiesA p1_tiesN p1_ties) := by rw [← hQe]; exact ⟨rfl, rfl⟩
  show V l D cy MX2_canTie 2 0 0 _ _ Q 0 [(0, .ref tA), (1, .ref p1A), (2, .int a2)] [] _ 0 0
  show V l D cy MX2_canTie 2 0 0 [.ref tA, .ref p1A, .int a2] _ Q 0 [(0, .ref tA), (1, .ref p1A), (2, .int a2)] [] (wX2_canTie cy tA t_namesV t_kindsV t_kinV t_stopsV t_roundsV t_folks t_pairs t_line t_rope t_lineTold t_ropeTold t_lawV t_takenA t_takenN t_taken p1A p1_size p1_tiesA p1_tiesN p1_ties) 0 0
  unfold fX2_canTie at h
  refine V.aload_n dX2_canTie_0 rfl 1 rfl ?_
  refine V.get kfX7 2 rfl rfl 1 (by decide) klX2_78 rfl dX2_canTie_1 ?_
  refine V.aload_n dX2_canTie_4 rfl 0 rfl ?_
  refine V.get kfX2 0 rfl rfl 7 (by decide) klX2_54 rfl dX2_canTie_5 ?_
  refine V.icmp_ge (tgt := 37) dX2_canTie_8 (by decide) (fun hc8 => ?_) (fun hc8 => ?_)
  · replace h := (if_pos hc8).symm.trans h
    refine V.lvs [] rfl ?_
    exact vX2_canTie_L37 _ _ _ _ _ _ _ _ _ _ _ _ _ _ _ _ _ _ _ _ _ _    R h hQ
  · replace h := (if_neg hc8).symm.trans h
    refine V.aload_n dX2_canTie_11 rfl 0 rfl ?_
    refine V.aload_n dX2_canTie_12 rfl 1 rfl ?_
    obtain ⟨R13, hg13, h⟩ := Option.bind_eq_some_iff.mp h
    refine V.callV (As := [.ref p1A]) (rest := []) (wc := (wX2_usedBy cy tA t_namesV t_kindsV t_kinV t_stopsV t_roundsV t_folks t_pairs t_line t_rope t_lineTold t_ropeTold t_lawV t_takenA t_takenN t_taken p1A p1_size p1_tiesA p1_tiesN p1_ties)) (wr := []) (q0 := 0) (CX2_usedBy F tA t_namesV t_kindsV t_kinV t_stopsV t_roundsV t_folks t_pairs t_line t_rope t_lineTold t_ropeTold t_lawV t_takenA t_takenN t_taken p1A p1_size p1_tiesA p1_tiesN p1_ties R13 hg13) kvX2_usedBy klX2_83 [0, 1, 2, 3] [] rfl rfl (by decide) (by decide) (by decide) rfl rfl rfl rfl dX2_canTie_13 ⟨by decide, by decide, by decide, by decide⟩ (Nat.le_of_ble_eq_true rfl) (fun r w1 hq => ?_)
    obtain ⟨rfl, rfl⟩ := hq
    refine V.cells (ws' := (wX2_canTie cy tA t_namesV t_kindsV t_kinV t_stopsV t_roundsV t_folks t_pairs t_line t_rope t_lineTold t_ropeTold t_lawV t_takenA t_takenN t_taken p1A p1_size p1_tiesA p1_tiesN p1_ties)) [0, 1, 2, 3] (by decide) rfl ?_
    show V l D cy MX2_canTie 2 0 0 _ _ _ 16 [(0, .ref tA), (1, .ref p1A), (2, .int a2)] [.int R13] (wX2_canTie cy tA t_namesV t_kindsV t_kinV t_stopsV t_roundsV t_folks t_pairs t_line t_rope t_lineTold t_ropeTold t_lawV t_takenA t_takenN t_taken p1A p1_size p1_tiesA p1_tiesN p1_ties) 0 0
    refine V.aload_n dX2_canTie_16 rfl 0 rfl ?_
    refine V.aload_n dX2_canTie_17 rfl 1 rfl ?_
    refine V.get kfX7 2 rfl rfl 1 (by decide) klX2_78 rfl dX2_canTie_18 ?_
    refine V.iload_n dX2_canTie_21 rfl 2 rfl ?_
    obtain ⟨R22, hg22, h⟩ := Option.bind_eq_some_iff.mp h
    refine V.callV (As := [.int p1_size, .int a2]) (rest := [.int R13]) (wc := (wX2_takenBy cy tA t_namesV t_kindsV t_kinV t_stopsV t_roundsV t_folks t_pairs t_line t_rope t_lineTold t_ropeTold t_lawV t_takenA t_takenN t_taken)) (wr := [(p1A, .inr (7, [.ref p1_tiesA, .int p1_size])), (p1_tiesA, .inl (cy 1, p1_tiesN, .inl p1_ties))]) (q0 := 0) (CX2_takenBy F tA t_namesV t_kindsV t_kinV t_stopsV t_roundsV t_folks t_pairs t_line t_rope t_lineTold t_ropeTold t_lawV t_takenA t_takenN t_taken p1_size a2 R22 hg22) kvX2_takenBy klX2_87 [0, 1] [2, 3] rfl rfl (by decide) (by decide) (by decide) rfl rfl rfl rfl dX2_canTie_22 ⟨by decide, by decide, by decide, by decide⟩ (Nat.le_of_ble_eq_true rfl) (fun r w1 hq => ?_)
    obtain ⟨rfl, rfl⟩ := hq
    refine V.cells (ws' := (wX2_canTie cy tA t_namesV t_kindsV t_kinV t_stopsV t_roundsV t_folks t_pairs t_line t_rope t_lineTold t_ropeTold t_lawV t_takenA t_takenN t_taken p1A p1_size p1_tiesA p1_tiesN p1_ties)) [2, 3, 0, 1] (by decide) rfl ?_
    show V l D cy MX2_canTie 2 0 0 _ _ _ 25 [(0, .ref tA), (1, .ref p1A), (2, .int a2)] [.int R22, .int R13] (wX2_canTie cy tA t_namesV t_kindsV t_kinV t_stopsV t_roundsV t_folks t_pairs t_line t_rope t_lineTold t_ropeTold t_lawV t_takenA t_takenN t_taken p1A p1_size p1_tiesA p1_tiesN p1_ties) 0 0
    refine V.iadd dX2_canTie_25 ?_
    refine V.aload_n dX2_canTie_26 rfl 0 rfl ?_
    refine V.get kfX2 0 rfl rfl 8 (by decide) klX2_57 rfl dX2_canTie_27 ?_
    refine V.icmp_gt (tgt := 37) dX2_canTie_30 (by decide) (fun hc30 => ?_) (fun hc30 => ?_)
    · replace h := (if_pos hc30).symm.trans h
      refine V.lvs [] rfl ?_
      exact vX2_canTie_L37 _ _ _ _ _ _ _ _ _ _ _ _ _ _ _ _ _ _ _ _ _ _    R h hQ
    · replace h := (if_neg hc30).symm.trans h
      refine V.iconst (v := (1 : Int32)) dX2_canTie_33 (by decide) ?_
      refine V.goto (tgt := 38) dX2_canTie_34 (by decide) ?_
      refine V.lvs [] rfl ?_
      exact vX2_canTie_L38 _ _ _ _ _ _ _ _ _ _ _ _ _ _ _ _ _ _ _ _ _ _   _ R h hQ
theorem dX2_readKin_0 : decode cX2_readKin 0 = .ok (.aload_n 1, 1) := by decide +kernel
theorem dX2_readKin_1 : decode cX2_readKin 1 = .ok (.invokevirtual 147, 3) := by decide +kernel
theorem dX2_readKin_4 : decode cX2_readKin 4 = .ok (.aload_n 0, 1) := by decide +kernel
theorem dX2_readKin_5 : decode cX2_readKin 5 = .ok (.aload_n 1, 1) := by decide +kernel
theorem dX2_readKin_6 : decode cX2_readKin 6 = .ok (.invokevirtual 167, 3) := by decide +kernel
theorem dX2_readKin_9 : decode cX2_readKin 9 = .ok (.istore_n 2, 1) := by decide +kernel
theorem dX2_readKin_10 : decode cX2_readKin 10 = .ok (.iload_n 2, 1) := by decide +kernel
theorem dX2_readKin_11 : decode cX2_readKin 11 = .ok (.iconst (-1), 1) := by decide +kernel
theorem dX2_readKin_12 : decode cX2_readKin 12 = .ok (.if_icmp .ne 5, 3) := by decide +kernel
theorem dX2_readKin_15 : decode cX2_readKin 15 = .ok (.iconst 0, 1) := by decide +kernel
theorem dX2_readKin_16 : decode cX2_readKin 16 = .ok (.ireturn, 1) := by decide +kernel
theorem dX2_readKin_17 : decode cX2_readKin 17 = .ok (.aload_n 1, 1) := by decide +kernel
theorem dX2_readKin_18 : decode cX2_readKin 18 = .ok (.invokevirtual 147, 3) := by decide +kernel
theorem dX2_readKin_21 : decode cX2_readKin 21 = .ok (.aload_n 0, 1) := by decide +kernel
theorem dX2_readKin_22 : decode cX2_readKin 22 = .ok (.aload_n 1, 1) := by decide +kernel
theorem dX2_readKin_23 : decode cX2_readKin 23 = .ok (.invokevirtual 167, 3) := by decide +kernel
theorem dX2_readKin_26 : decode cX2_readKin 26 = .ok (.istore_n 3, 1) := by decide +kernel
theorem dX2_readKin_27 : decode cX2_readKin 27 = .ok (.iload_n 3, 1) := by decide +kernel
theorem dX2_readKin_28 : decode cX2_readKin 28 = .ok (.iconst (-1), 1) := by decide +kernel
theorem dX2_readKin_29 : decode cX2_readKin 29 = .ok (.if_icmp .ne 5, 3) := by decide +kernel
theorem dX2_readKin_32 : decode cX2_readKin 32 = .ok (.iconst 0, 1) := by decide +kernel
theorem dX2_readKin_33 : decode cX2_readKin 33 = .ok (.ireturn, 1) := by decide +kernel
theorem dX2_readKin_34 : decode cX2_readKin 34 = .ok (.aload_n 0, 1) := by decide +kernel
theorem dX2_readKin_35 : decode cX2_readKin 35 = .ok (.getfield 22, 3) := by decide +kernel
theorem dX2_readKin_38 : decode cX2_readKin 38 = .ok (.iload_n 2, 1) := by decide +kernel
theorem dX2_readKin_39 : decode cX2_readKin 39 = .ok (.iaload, 1) := by decide +kernel
theorem dX2_readKin_40 : decode cX2_readKin 40 = .ok (.iload_n 3, 1) := by decide +kernel
theorem dX2_readKin_41 : decode cX2_readKin 41 = .ok (.ishr, 1) := by decide +kernel
theorem dX2_readKin_42 : decode cX2_readKin 42 = .ok (.iconst 1, 1) := by decide +kernel
theorem dX2_readKin_43 : decode cX2_readKin 43 = .ok (.iand, 1) := by decide +kernel
theorem dX2_readKin_44 : decode cX2_readKin 44 = .ok (.ifCond .eq 9, 3) := by decide +kernel
theorem dX2_readKin_47 : decode cX2_readKin 47 = .ok (.aload_n 1, 1) := by decide +kernel
theorem dX2_readKin_48 : decode cX2_readKin 48 = .ok (.iconst 3, 1) := by decide +kernel
theorem dX2_readKin_49 : decode cX2_readKin 49 = .ok (.invokevirtual 144, 3) := by decide +kernel
theorem dX2_readKin_52 : decode cX2_readKin 52 = .ok (.ireturn, 1) := by decide +kernel
theorem dX2_readKin_53 : decode cX2_readKin 53 = .ok (.aload_n 0, 1) := by decide +kernel
theorem dX2_readKin_54 : decode cX2_readKin 54 = .ok (.getfield 19, 3) := by decide +kernel
theorem dX2_readKin_57 : decode cX2_readKin 57 = .ok (.iload_n 2, 1) := by decide +kernel
theorem dX2_readKin_58 : decode cX2_readKin 58 = .ok (.dup2, 1) := by decide +kernel
theorem dX2_readKin_59 : decode cX2_readKin 59 = .ok (.iaload, 1) := by decide +kernel
theorem dX2_readKin_60 : decode cX2_readKin 60 = .ok (.iconst 1, 1) := by decide +kernel
theorem dX2_readKin_61 : decode cX2_readKin 61 = .ok (.iload_n 3, 1) := by decide +kernel
theorem dX2_readKin_62 : decode cX2_readKin 62 = .ok (.ishl, 1) := by decide +kernel
theorem dX2_readKin_63 : decode cX2_readKin 63 = .ok (.ior, 1) := by decide +kernel
theorem dX2_readKin_64 : decode cX2_readKin 64 = .ok (.iastore, 1) := by decide +kernel
theorem dX2_readKin_65 : decode cX2_readKin 65 = .ok (.aload_n 0, 1) := by decide +kernel
theorem dX2_readKin_66 : decode cX2_readKin 66 = .ok (.getfield 19, 3) := by decide +kernel
theorem dX2_readKin_69 : decode cX2_readKin 69 = .ok (.iload_n 3, 1) := by decide +kernel
theorem dX2_readKin_70 : decode cX2_readKin 70 = .ok (.dup2, 1) := by decide +kernel
theorem dX2_readKin_71 : decode cX2_readKin 71 = .ok (.iaload, 1) := by decide +kernel
theorem dX2_readKin_72 : decode cX2_readKin 72 = .ok (.iconst 1, 1) := by decide +kernel
theorem dX2_readKin_73 : decode cX2_readKin 73 = .ok (.iload_n 2, 1) := by decide +kernel
theorem dX2_readKin_74 : decode cX2_readKin 74 = .ok (.ishl, 1) := by decide +kernel
theorem dX2_readKin_75 : decode cX2_readKin 75 = .ok (.ior, 1) := by decide +kernel
theorem dX2_readKin_76 : decode cX2_readKin 76 = .ok (.iastore, 1) := by decide +kernel
theorem dX2_readKin_77 : decode cX2_readKin 77 = .ok (.aload_n 0, 1) := by decide +kernel
theorem dX2_readKin_78 : decode cX2_readKin 78 = .ok (.getfield 22, 3) := by decide +kernel
theorem dX2_readKin_81 : decode cX2_readKin 81 = .ok (.iload_n 2, 1) := by decide +kernel
theorem dX2_readKin_82 : decode cX2_readKin 82 = .ok (.dup2, 1) := by decide +kernel
theorem dX2_readKin_83 : decode cX2_readKin 83 = .ok (.iaload, 1) := by decide +kernel
theorem dX2_readKin_84 : decode cX2_readKin 84 = .ok (.iconst 1, 1) := by decide +kernel
theorem dX2_readKin_85 : decode cX2_readKin 85 = .ok (.iload_n 3, 1) := by decide +kernel
theorem dX2_readKin_86 : decode cX2_readKin 86 = .ok (.ishl, 1) := by decide +kernel
theorem dX2_readKin_87 : decode cX2_readKin 87 = .ok (.ior, 1) := by decide +kernel
theorem dX2_readKin_88 : decode cX2_readKin 88 = .ok (.iastore, 1) := by decide +kernel
theorem dX2_readKin_89 : decode cX2_readKin 89 = .ok (.aload_n 0, 1) := by decide +kernel
theorem dX2_readKin_90 : decode cX2_readKin 90 = .ok (.getfield 22, 3) := by decide +kernel
theorem dX2_readKin_93 : decode cX2_readKin 93 = .ok (.iload_n 3, 1) := by decide +kernel
theorem dX2_readKin_94 : decode cX2_readKin 94 = .ok (.dup2, 1) := by decide +kernel
theorem dX2_readKin_95 : decode cX2_readKin 95 = .ok (.iaload, 1) := by decide +kernel
theorem dX2_readKin_96 : decode cX2_readKin 96 = .ok (.iconst 1, 1) := by decide +kernel
theorem dX2_readKin_97 : decode cX2_readKin 97 = .ok (.iload_n 2, 1) := by decide +kernel
theorem dX2_readKin_98 : decode cX2_readKin 98 = .ok (.ishl, 1) := by decide +kernel
theorem dX2_readKin_99 : decode cX2_readKin 99 = .ok (.ior, 1) := by decide +kernel
theorem dX2_readKin_100 : decode cX2_readKin 100 = .ok (.iastore, 1) := by decide +kernel
theorem dX2_readKin_101 : decode cX2_readKin 101 = .ok (.aload_n 0, 1) := by decide +kernel
theorem dX2_readKin_102 : decode cX2_readKin 102 = .ok (.dup, 1) := by decide +kernel
theorem dX2_readKin_103 : decode cX2_readKin 103 = .ok (.getfield 51, 3) := by decide +kernel
theorem dX2_readKin_106 : decode cX2_readKin 106 = .ok (.iconst 1, 1) := by decide +kernel
theorem dX2_readKin_107 : decode cX2_readKin 107 = .ok (.iadd, 1) := by decide +kernel
theorem dX2_readKin_108 : decode cX2_readKin 108 = .ok (.putfield 51, 3) := by decide +kernel
theorem dX2_readKin_111 : decode cX2_readKin 111 = .ok (.aload_n 1, 1) := by decide +kernel
theorem dX2_readKin_112 : decode cX2_readKin 112 = .ok (.invokevirtual 147, 3) := by decide +kernel
theorem dX2_readKin_115 : decode cX2_readKin 115 = .ok (.aload_n 1, 1) := by decide +kernel
theorem dX2_readKin_116 : decode cX2_readKin 116 = .ok (.bipush 59, 2) := by decide +kernel
theorem dX2_readKin_118 : decode cX2_readKin 118 = .ok (.invokevirtual 164, 3) := by decide +kernel
theorem dX2_readKin_121 : decode cX2_readKin 121 = .ok (.ireturn, 1) := by decide +kernel
def wX2_readKin (cy : Nat → ClassId) (tA : Nat) (t_kindsV : Value) (t_roundsV : Value) (t_folks : Int32) (t_pairs : Int32) (t_line : Int32) (t_rope : Int32) (t_lineTold : Int32) (t_ropeTold : Int32) (t_lawV : Value) (t_takenV : Value) (t_namesA : Nat) (t_namesN : Nat) (t_names : Nat → Int64) (t_kinA : Nat) (t_kinN : Nat) (t_kin : Nat → Int32) (t_stopsA : Nat) (t_stopsN : Nat) (t_stops : Nat → Int32) (p1A : Nat) (p1_signsV : Value) (p1_size : Int32) (p1_count : Int32) (p1_here : Int32) (p1_fault : Int32) (p1_tokensA : Nat) (p1_tokensN : Nat) (p1_tokens : Nat → Int32) (p1_startsA : Nat) (p1_startsN : Nat) (p1_starts : Nat → Int32) (p1_valuesA : Nat) (p1_valuesN : Nat) (p1_values : Nat → Int64) : va_W :=
  [(tA, .inr (2, [.ref t_namesA, t_kindsV, .ref t_kinA, .ref t_stopsA, t_roundsV, .int t_folks, .int t_pairs, .int t_line, .int t_rope, .int t_lineTold, .int t_ropeTold, t_lawV, t_takenV])), (t_namesA, .inl (cy 2, t_namesN, .inr (.inl t_names))), (t_kinA, .inl (cy 1, t_kinN, .inl t_kin)), (t_stopsA, .inl (cy 1, t_stopsN, .inl t_stops)), (p1A, .inr (9, [p1_signsV, .int p1_size, .ref p1_tokensA, .ref p1_startsA, .ref p1_valuesA, .int p1_count, .int p1_here, .int p1_fault])), (p1_tokensA, .inl (cy 1, p1_tokensN, .inl p1_tokens)), (p1_startsA, .inl (cy 1, p1_startsN, .inl p1_starts)), (p1_valuesA, .inl (cy 2, p1_valuesN, .inr (.inl p1_values)))]
noncomputable def fX2_readKin (F : Nat) (t_folks : Int32) (t_namesN : Nat) (t_names : Nat → Int64) (t_kinN : Nat) (t_stopsN : Nat) (p1_size : Int32) (p1_count : Int32) (p1_tokensN : Nat) (p1_tokens : Nat → Int32) (p1_startsN : Nat) (p1_starts : Nat → Int32) (p1_valuesN : Nat) (p1_values : Nat → Int64) (t_pairs : Int32) (t_kin : Nat → Int32) (t_stops : Nat → Int32) (p1_here : Int32) (p1_fault : Int32) : Option (Int32 × (Int32) × (Nat → Int32) × (Nat → Int32) × (Int32) × (Int32)) :=
  (fX9_step F p1_count p1_here).bind fun R1 => ((fX2_nameHere F t_folks t_namesN t_names p1_size p1_count R1 p1_tokensN p1_tokens p1_startsN p1_starts p1_valuesN p1_values p1_fault).bind fun R6 => (if R6.1 = (-1 : Int32) then (some ((0 : Int32), t_pairs, t_kin, t_stops, R1, R6.2)) else ((fX9_step F p1_count R1).bind fun R18 => ((fX2_nameHere F t_folks t_namesN t_names p1_size p1_count R18 p1_tokensN p1_tokens p1_startsN p1_starts p1_valuesN p1_values R6.2).bind fun R23 => (if R23.1 = (-1 : Int32) then (some ((0 : Int32), t_pairs, t_kin, t_stops, R18, R23.2)) else (if R6.1 < 0 ∨ t_stopsN ≤ R6.1.toNatClampNeg then none else (if (((t_stops (R6.1).toNatClampNeg) >>> (R23.1 &&& 31)) &&& (1 : Int32)) = 0 then (if R6.1 < 0 ∨ t_kinN ≤ R6.1.toNatClampNeg then none else (if R6.1 < 0 ∨ t_kinN ≤ R6.1.toNatClampNeg then none else (if R23.1 < 0 ∨ t_kinN ≤ R23.1.toNatClampNeg then none else (if R23.1 < 0 ∨ t_kinN ≤ R23.1.toNatClampNeg then none else (if R6.1 < 0 ∨ t_stopsN ≤ R6.1.toNatClampNeg then none else (if R6.1 < 0 ∨ t_stopsN ≤ R6.1.toNatClampNeg then none else (if R23.1 < 0 ∨ t_stopsN ≤ R23.1.toNatClampNeg then none else (if R23.1 < 0 ∨ t_stopsN ≤ R23.1.toNatClampNeg then none else ((fX9_step F p1_count R18).bind fun R112 => ((fX9_expect F p1_size p1_count p1_tokensN p1_tokens p1_startsN p1_starts (59 : Int32) R112 R23.2).bind fun R118 => (if R118.1 = 0 ∨ R118.1 = 1 then some (R118.1, t_pairs + (1 : Int32), upd (upd t_kin R6.1.toNatClampNeg ((t_kin (R6.1).toNatClampNeg) ||| ((1 : Int32) <<< (R23.1 &&& 31)))) R23.1.toNatClampNeg (((upd t_kin R6.1.toNatClampNeg ((t_kin (R6.1).toNatClampNeg) ||| ((1 : Int32) <<< (R23.1 &&& 31)))) (R23.1).toNatClampNeg) ||| ((1 : Int32) <<< (R6.1 &&& 31))), upd (upd t_stops R6.1.toNatClampNeg ((t_stops (R6.1).toNatClampNeg) ||| ((1 : Int32) <<< (R23.1 &&& 31)))) R23.1.toNatClampNeg (((upd t_stops R6.1.toNatClampNeg ((t_stops (R6.1).toNatClampNeg) ||| ((1 : Int32) <<< (R23.1 &&& 31)))) (R23.1).toNatClampNeg) ||| ((1 : Int32) <<< (R6.1 &&& 31))), R118.2.1, R118.2.2) else none))))))))))) else ((fX9_wrong F p1_size p1_count R18 p1_startsN p1_starts (3 : Int32) R23.2).bind fun R49 => (if R49.1 = 0 ∨ R49.1 = 1 then some (R49.1, t_pairs, t_kin, t_stops, R18, R49.2) else none)))))))))
theorem CX2_readKin {l : Launch} {D : va_G} {cy : Nat → ClassId} (F : Nat) (tA : Nat) (t_kindsV : Value) (t_roundsV : Value) (t_folks : Int32) (t_pairs : Int32) (t_line : Int32) (t_rope : Int32) (t_lineTold : Int32) (t_ropeTold : Int32) (t_lawV : Value) (t_takenV : Value) (t_namesA : Nat) (t_namesN : Nat) (t_names : Nat → Int64) (t_kinA : Nat) (t_kinN : Nat) (t_kin : Nat → Int32) (t_stopsA : Nat) (t_stopsN : Nat) (t_stops : Nat → Int32) (p1A : Nat) (p1_signsV : Value) (p1_size : Int32) (p1_count : Int32) (p1_here : Int32) (p1_fault : Int32) (p1_tokensA : Nat) (p1_tokensN : Nat) (p1_tokens : Nat → Int32) (p1_startsA : Nat) (p1_startsN : Nat) (p1_starts : Nat → Int32) (p1_valuesA : Nat) (p1_valuesN : Nat) (p1_values : Nat → Int64) (R : Int32 × (Int32) × (Nat → Int32) × (Nat → Int32) × (Int32) × (Int32)) (h : fX2_readKin F t_folks t_namesN t_names t_kinN t_stopsN p1_size p1_count p1_tokensN p1_tokens p1_startsN p1_starts p1_valuesN p1_values t_pairs t_kin t_stops p1_here p1_fault = some R) : vMet l D cy MX2_readKin 3 0 0 [.ref tA, .ref p1A] (wX2_readKin cy tA t_kindsV t_roundsV t_folks t_pairs t_line t_rope t_lineTold t_ropeTold t_lawV t_takenV t_namesA t_namesN t_names t_kinA t_kinN t_kin t_stopsA t_stopsN t_stops p1A p1_signsV p1_size p1_count p1_here p1_fault p1_tokensA p1_tokensN p1_tokens p1_startsA p1_startsN p1_starts p1_valuesA p1_valuesN p1_values) (fun (r : Option Value) (w : va_W) => r = (some (.int R.1)) ∧ w = (wX2_readKin cy tA t_kindsV t_roundsV t_folks R.2.1 t_line t_rope t_lineTold t_ropeTold t_lawV t_takenV t_namesA t_namesN t_names t_kinA t_kinN R.2.2.1 t_stopsA t_stopsN R.2.2.2.1 p1A p1_signsV p1_size p1_count R.2.2.2.2.1 R.2.2.2.2.2 p1_tokensA p1_tokensN p1_tokens p1_startsA p1_startsN p1_starts p1_valuesA p1_valuesN p1_values)) := by
  refine vMet.start (by decide +kernel) (Nat.le_of_ble_eq_true rfl) ?_
  generalize hQe : (fun (r : Option Value) (w : va_W) => r = (some (.int R.1)) ∧ w = (wX2_readKin cy tA t_kindsV t_roundsV t_folks R.2.1 t_line t_rope t_lineTold t_ropeTold t_lawV t_takenV t_namesA t_namesN t_names t_kinA t_kinN R.2.2.1 t_stopsA t_stopsN R.2.2.2.1 p1A p1_signsV p1_size p1_count R.2.2.2.2.1 R.2.2.2.2.2 p1_tokensA p1_tokensN p1_tokens p1_startsA p1_startsN p1_starts p1_valuesA p1_valuesN p1_values)) = Q
  have hQ : Q (some (.int R.1)) (wX2_readKin cy tA t_kindsV t_roundsV t_folks R.2.1 t_line t_rope t_lineTold t_ropeTold t_lawV t_takenV t_namesA t_namesN t_names t_kinA t_kinN R.2.2.1 t_stopsA t_stopsN R.2.2.2.1 p1A p1_signsV p1_size p1_count R.2.2.2.2.1 R.2.2.2.2.2 p1_tokensA p1_tokensN p1_tokens p1_startsA p1_startsN p1_starts p1_valuesA p1_valuesN p1_values) := by rw [← hQe]; exact ⟨rfl, rfl⟩
  show V l D cy MX2_readKin 3 0 0 _ _ Q 0 [(0, .ref tA), (1, .ref p1A)] [] _ 0 0
  show V l D cy MX2_readKin 3 0 0 [.ref tA, .ref p1A] _ Q 0 [(0, .ref tA), (1, .ref p1A)] [] (wX2_readKin cy tA t_kindsV t_roundsV t_folks t_pairs t_line t_rope t_lineTold t_ropeTold t_lawV t_takenV t_namesA t_namesN t_names t_kinA t_kinN t_kin t_stopsA t_stopsN t_stops p1A p1_signsV p1_size p1_count p1_here p1_fault p1_tokensA p1_tokensN p1_tokens p1_startsA p1_startsN p1_starts p1_valuesA p1_valuesN p1_values) 0 0
  unfold fX2_readKin at h
  refine V.aload_n dX2_readKin_0 rfl 1 rfl ?_
  obtain ⟨R1, hg1, h⟩ := Option.bind_eq_some_iff.mp h
  refine V.callV (As := []) (rest := []) (wc := (wX9_step cy p1A p1_signsV p1_size (.ref p1_tokensA) (.ref p1_startsA) (.ref p1_valuesA) p1_count p1_here p1_fault)) (wr := [(tA, .inr (2, [.ref t_namesA, t_kindsV, .ref t_kinA, .ref t_stopsA, t_roundsV, .int t_folks, .int t_pairs, .int t_line, .int t_rope, .int t_lineTold, .int t_ropeTold, t_lawV, t_takenV])), (t_namesA, .inl (cy 2, t_namesN, .inr (.inl t_names))), (t_kinA, .inl (cy 1, t_kinN, .inl t_kin)), (t_stopsA, .inl (cy 1, t_stopsN, .inl t_stops)), (p1_tokensA, .inl (cy 1, p1_tokensN, .inl p1_tokens)), (p1_startsA, .inl (cy 1, p1_startsN, .inl p1_starts)), (p1_valuesA, .inl (cy 2, p1_valuesN, .inr (.inl p1_values)))]) (q0 := 4) (CX9_step F p1A p1_signsV p1_size (.ref p1_tokensA) (.ref p1_startsA) (.ref p1_valuesA) p1_count p1_here p1_fault R1 hg1) kvX9_step klX2_147 [4] [0, 1, 2, 3, 5, 6, 7] rfl rfl (by decide) (by decide) (by decide) rfl rfl rfl rfl dX2_readKin_1 ⟨by decide, by decide, by decide, by decide⟩ (Nat.le_of_ble_eq_true rfl) (fun r w1 hq => ?_)
  obtain ⟨rfl, rfl⟩ := hq
  refine V.cells (ws' := (wX2_readKin cy tA t_kindsV t_roundsV t_folks t_pairs t_line t_rope t_lineTold t_ropeTold t_lawV t_takenV t_namesA t_namesN t_names t_kinA t_kinN t_kin t_stopsA t_stopsN t_stops p1A p1_signsV p1_size p1_count R1 p1_fault p1_tokensA p1_tokensN p1_tokens p1_startsA p1_startsN p1_starts p1_valuesA p1_valuesN p1_values)) [0, 1, 2, 3, 7, 4, 5, 6] (by decide) rfl ?_
  show V l D cy MX2_readKin 3 0 0 _ _ _ 4 [(0, .ref tA), (1, .ref p1A)] [] (wX2_readKin cy tA t_kindsV t_roundsV t_folks t_pairs t_line t_rope t_lineTold t_ropeTold t_lawV t_takenV t_namesA t_namesN t_names t_kinA t_kinN t_kin t_stopsA t_stopsN t_stops p1A p1_signsV p1_size p1_count R1 p1_fault p1_tokensA p1_tokensN p1_tokens p1_startsA p1_startsN p1_starts p1_valuesA p1_valuesN p1_values) 0 0
  refine V.aload_n dX2_readKin_4 rfl 0 rfl ?_
  refine V.aload_n dX2_readKin_5 rfl 1 rfl ?_
  obtain ⟨R6, hg6, h⟩ := Option.bind_eq_some_iff.mp h
  refine V.callV (As := [.ref p1A]) (rest := []) (wc := (wX2_nameHere cy tA t_kindsV (.ref t_kinA) (.ref t_stopsA) t_roundsV t_folks t_pairs t_line t_rope t_lineTold t_ropeTold t_lawV t_takenV t_namesA t_namesN t_names p1A p1_signsV p1_size p1_count R1 p1_fault p1_tokensA p1_tokensN p1_tokens p1_startsA p1_startsN p1_starts p1_valuesA p1_valuesN p1_values)) (wr := [(t_kinA, .inl (cy 1, t_kinN, .inl t_kin)), (t_stopsA, .inl (cy 1, t_stopsN, .inl t_stops))]) (q0 := 0) (CX2_nameHere F tA t_kindsV (.ref t_kinA) (.ref t_stopsA) t_roundsV t_folks t_pairs t_line t_rope t_lineTold t_ropeTold t_lawV t_takenV t_namesA t_namesN t_names p1A p1_signsV p1_size p1_count R1 p1_fault p1_tokensA p1_tokensN p1_tokens p1_startsA p1_startsN p1_starts p1_valuesA p1_valuesN p1_values R6 hg6) kvX2_nameHere klX2_167 [0, 1, 4, 5, 6, 7] [2, 3] rfl rfl (by decide) (by decide) (by decide) rfl rfl rfl rfl dX2_readKin_6 ⟨by decide, by decide, by decide, by decide⟩ (Nat.le_of_ble_eq_true rfl) (fun r w1 hq => ?_)
  obtain ⟨rfl, rfl⟩ := hq
  refine V.cells (ws' := (wX2_readKin cy tA t_kindsV t_roundsV t_folks t_pairs t_line t_rope t_lineTold t_ropeTold t_lawV t_takenV t_namesA t_namesN t_names t_kinA t_kinN t_kin t_stopsA t_stopsN t_stops p1A p1_signsV p1_size p1_count R1 R6.2 p1_tokensA p1_tokensN p1_tokens p1_startsA p1_startsN p1_starts p1_valuesA p1_valuesN p1_values)) [2, 3, 0, 1, 4, 5, 6, 7] (by decide) rfl ?_
  show V l D cy MX2_readKin 3 0 0 _ _ _ 9 [(0, .ref tA), (1, .ref p1A)] [.int R6.1] (wX2_readKin cy tA t_kindsV t_roundsV t_folks t_pairs t_line t_rope t_lineTold t_ropeTold t_lawV t_takenV t_namesA t_namesN t_names t_kinA t_kinN t_kin t_stopsA t_stopsN t_stops p1A p1_signsV p1_size p1_count R1 R6.2 p1_tokensA p1_tokensN p1_tokens p1_startsA p1_startsN p1_starts p1_valuesA p1_valuesN p1_values) 0 0
  refine V.istore_n (lv' := [(2, .int R6.1), (0, .ref tA), (1, .ref p1A)]) dX2_readKin_9 rfl (by decide) rfl ?_
  refine V.iload_n dX2_readKin_10 rfl 0 rfl ?_
  refine V.iconst (v := (-1 : Int32)) dX2_readKin_11 (by decide) ?_
  refine V.icmp_ne (tgt := 17) dX2_readKin_12 (by decide) (fun hc12 => ?_) (fun hc12 => ?_)
  · replace h := (if_neg hc12).symm.trans h
    refine V.aload_n dX2_readKin_17 rfl 2 rfl ?_
    obtain ⟨R18, hg18, h⟩ := Option.bind_eq_some_iff.mp h
    refine V.callV (As := []) (rest := []) (wc := (wX9_step cy p1A p1_signsV p1_size (.ref p1_tokensA) (.ref p1_startsA) (.ref p1_valuesA) p1_count R1 R6.2)) (wr := [(tA, .inr (2, [.ref t_namesA, t_kindsV, .ref t_kinA, .ref t_stopsA, t_roundsV, .int t_folks, .int t_pairs, .int t_line, .int t_rope, .int t_lineTold, .int t_ropeTold, t_lawV, t_takenV])), (t_namesA, .inl (cy 2, t_namesN, .inr (.inl t_names))), (t_kinA, .inl (cy 1, t_kinN, .inl t_kin)), (t_stopsA, .inl (cy 1, t_stopsN, .inl t_stops)), (p1_tokensA, .inl (cy 1, p1_tokensN, .inl p1_tokens)), (p1_startsA, .inl (cy 1, p1_startsN, .inl p1_starts)), (p1_valuesA, .inl (cy 2, p1_valuesN, .inr (.inl p1_values)))]) (q0 := 4) (CX9_step F p1A p1_signsV p1_size (.ref p1_tokensA) (.ref p1_startsA) (.ref p1_valuesA) p1_count R1 R6.2 R18 hg18) kvX9_step klX2_147 [4] [0, 1, 2, 3, 5, 6, 7] rfl rfl (by decide) (by decide) (by decide) rfl rfl rfl rfl dX2_readKin_18 ⟨by decide, by decide, by decide, by decide⟩ (Nat.le_of_ble_eq_true rfl) (fun r w1 hq => ?_)
    obtain ⟨rfl, rfl⟩ := hq
    refine V.cells (ws' := (wX2_readKin cy tA t_kindsV t_roundsV t_folks t_pairs t_line t_rope t_lineTold t_ropeTold t_lawV t_takenV t_namesA t_namesN t_names t_kinA t_kinN t_kin t_stopsA t_stopsN t_stops p1A p1_signsV p1_size p1_count R18 R6.2 p1_tokensA p1_tokensN p1_tokens p1_startsA p1_startsN p1_starts p1_valuesA p1_valuesN p1_values)) [0, 1, 2, 3, 7, 4, 5, 6] (by decide) rfl ?_
    show V l D cy MX2_readKin 3 0 0 _ _ _ 21 [(2, .int R6.1), (0, .ref tA), (1, .ref p1A)] [] (wX2_readKin cy tA t_kindsV t_roundsV t_folks t_pairs t_line t_rope t_lineTold t_ropeTold t_lawV t_takenV t_namesA t_namesN t_names t_kinA t_kinN t_kin t_stopsA t_stopsN t_stops p1A p1_signsV p1_size p1_count R18 R6.2 p1_tokensA p1_tokensN p1_tokens p1_startsA p1_startsN p1_starts p1_valuesA p1_valuesN p1_values) 0 0
    refine V.aload_n dX2_readKin_21 rfl 1 rfl ?_
    refine V.aload_n dX2_readKin_22 rfl 2 rfl ?_
    obtain ⟨R23, hg23, h⟩ := Option.bind_eq_some_iff.mp h
    refine V.callV (As := [.ref p1A]) (rest := []) (wc := (wX2_nameHere cy tA t_kindsV (.ref t_kinA) (.ref t_stopsA) t_roundsV t_folks t_pairs t_line t_rope t_lineTold t_ropeTold t_lawV t_takenV t_namesA t_namesN t_names p1A p1_signsV p1_size p1_count R18 R6.2 p1_tokensA p1_tokensN p1_tokens p1_startsA p1_startsN p1_starts p1_valuesA p1_valuesN p1_values)) (wr := [(t_kinA, .inl (cy 1, t_kinN, .inl t_kin)), (t_stopsA, .inl (cy 1, t_stopsN, .inl t_stops))]) (q0 := 0) (CX2_nameHere F tA t_kindsV (.ref t_kinA) (.ref t_stopsA) t_roundsV t_folks t_pairs t_line t_rope t_lineTold t_ropeTold t_lawV t_takenV t_namesA t_namesN t_names p1A p1_signsV p1_size p1_count R18 R6.2 p1_tokensA p1_tokensN p1_tokens p1_startsA p1_startsN p1_starts p1_valuesA p1_valuesN p1_values R23 hg23) kvX2_nameHere klX2_167 [0, 1, 4, 5, 6, 7] [2, 3] rfl rfl (by decide) (by decide) (by decide) rfl rfl rfl rfl dX2_readKin_23 ⟨by decide, by decide, by decide, by decide⟩ (Nat.le_of_ble_eq_true rfl) (fun r w1 hq => ?_)
    obtain ⟨rfl, rfl⟩ := hq
    refine V.cells (ws' := (wX2_readKin cy tA t_kindsV t_roundsV t_folks t_pairs t_line t_rope t_lineTold t_ropeTold t_lawV t_takenV t_namesA t_namesN t_names t_kinA t_kinN t_kin t_stopsA t_stopsN t_stops p1A p1_signsV p1_size p1_count R18 R23.2 p1_tokensA p1_tokensN p1_tokens p1_startsA p1_startsN p1_starts p1_valuesA p1_valuesN p1_values)) [2, 3, 0, 1, 4, 5, 6, 7] (by decide) rfl ?_
    show V l D cy MX2_readKin 3 0 0 _ _ _ 26 [(2, .int R6.1), (0, .ref tA), (1, .ref p1A)] [.int R23.1] (wX2_readKin cy tA t_kindsV t_roundsV t_folks t_pairs t_line t_rope t_lineTold t_ropeTold t_lawV t_takenV t_namesA t_namesN t_names t_kinA t_kinN t_kin t_stopsA t_stopsN t_stops p1A p1_signsV p1_size p1_count R18 R23.2 p1_tokensA p1_tokensN p1_tokens p1_startsA p1_startsN p1_starts p1_valuesA p1_valuesN p1_values) 0 0
    refine V.istore_n (lv' := [(3, .int R23.1), (2, .int R6.1), (0, .ref tA), (1, .ref p1A)]) dX2_readKin_26 rfl (by decide) rfl ?_
    refine V.iload_n dX2_readKin_27 rfl 0 rfl ?_
    refine V.iconst (v := (-1 : Int32)) dX2_readKin_28 (by decide) ?_
    refine V.icmp_ne (tgt := 34) dX2_readKin_29 (by decide) (fun hc29 => ?_) (fun hc29 => ?_)
    · replace h := (if_neg hc29).symm.trans h
      refine V.aload_n dX2_readKin_34 rfl 2 rfl ?_
      refine V.get kfX2 0 rfl rfl 3 (by decide) klX2_22 rfl dX2_readKin_35 ?_
      refine V.iload_n dX2_readKin_38 rfl 1 rfl ?_
      by_cases hb39 : R6.1 < 0 ∨ t_stopsN ≤ R6.1.toNatClampNeg
      · exact vNone ((if_pos hb39).symm.trans h)
      replace h := (if_neg hb39).symm.trans h
      refine V.iald dX2_readKin_39 3 rfl hb39 ?_
      refine V.iload_n dX2_readKin_40 rfl 0 rfl ?_
      refine V.ishr dX2_readKin_41 ?_
      refine V.iconst (v := (1 : Int32)) dX2_readKin_42 (by decide) ?_
      refine V.iand dX2_readKin_43 ?_
      refine V.if_eq (tgt := 53) dX2_readKin_44 (by decide) (fun hc44 => ?_) (fun hc44 => ?_)
      · replace h := (if_pos hc44).symm.trans h
        refine V.aload_n dX2_readKin_53 rfl 2 rfl ?_
        refine V.get kfX2 0 rfl rfl 2 (by decide) klX2_19 rfl dX2_readKin_54 ?_
        refine V.iload_n dX2_readKin_57 rfl 1 rfl ?_
        refine V.dup2 dX2_readKin_58 rfl rfl ?_
        by_cases hb59 : R6.1 < 0 ∨ t_kinN ≤ R6.1.toNatClampNeg
        · exact vNone ((if_pos hb59).symm.trans h)
        replace h := (if_neg hb59).symm.trans h
        refine V.iald dX2_readKin_59 2 rfl hb59 ?_
        refine V.iconst (v := (1 : Int32)) dX2_readKin_60 (by decide) ?_
        refine V.iload_n dX2_readKin_61 rfl 0 rfl ?_
        refine V.ishl dX2_readKin_62 ?_
        refine V.ior dX2_readKin_63 ?_
        by_cases hb64 : R6.1 < 0 ∨ t_kinN ≤ R6.1.toNatClampNeg
        · exact vNone ((if_pos hb64).symm.trans h)
        replace h := (if_neg hb64).symm.trans h
        refine V.iast (ws' := (wX2_readKin cy tA t_kindsV t_roundsV t_folks t_pairs t_line t_rope t_lineTold t_ropeTold t_lawV t_takenV t_namesA t_namesN t_names t_kinA t_kinN (upd t_kin R6.1.toNatClampNeg ((t_kin (R6.1).toNatClampNeg) ||| ((1 : Int32) <<< (R23.1 &&& 31)))) t_stopsA t_stopsN t_stops p1A p1_signsV p1_size p1_count R18 R23.2 p1_tokensA p1_tokensN p1_tokens p1_startsA p1_startsN p1_starts p1_valuesA p1_valuesN p1_values)) dX2_readKin_64 2 rfl hb64 rfl ?_
        refine V.aload_n dX2_readKin_65 rfl 2 rfl ?_
        refine V.get kfX2 0 rfl rfl 2 (by decide) klX2_19 rfl dX2_readKin_66 ?_
        refine V.iload_n dX2_readKin_69 rfl 0 rfl ?_
        refine V.dup2 dX2_readKin_70 rfl rfl ?_
        by_cases hb71 : R23.1 < 0 ∨ t_kinN ≤ R23.1.toNatClampNeg
        · exact vNone ((if_pos hb71).symm.trans h)
        replace h := (if_neg hb71).symm.trans h
        refine V.iald dX2_readKin_71 2 rfl hb71 ?_
        refine V.iconst (v := (1 : Int32)) dX2_readKin_72 (by decide) ?_
        refine V.iload_n dX2_readKin_73 rfl 1 rfl ?_
        refine V.ishl dX2_readKin_74 ?_
        refine V.ior dX2_readKin_75 ?_
        by_cases hb76 : R23.1 < 0 ∨ t_kinN ≤ R23.1.toNatClampNeg
        · exact vNone ((if_pos hb76).symm.trans h)
        replace h := (if_neg hb76).symm.trans h
        refine V.iast (ws' := (wX2_readKin cy tA t_kindsV t_roundsV t_folks t_pairs t_line t_rope t_lineTold t_ropeTold t_lawV t_takenV t_namesA t_namesN t_names t_kinA t_kinN (upd (upd t_kin R6.1.toNatClampNeg ((t_kin (R6.1).toNatClampNeg) ||| ((1 : Int32) <<< (R23.1 &&& 31)))) R23.1.toNatClampNeg (((upd t_kin R6.1.toNatClampNeg ((t_kin (R6.1).toNatClampNeg) ||| ((1 : Int32) <<< (R23.1 &&& 31)))) (R23.1).toNatClampNeg) ||| ((1 : Int32) <<< (R6.1 &&& 31)))) t_stopsA t_stopsN t_stops p1A p1_signsV p1_size p1_count R18 R23.2 p1_tokensA p1_tokensN p1_tokens p1_startsA p1_startsN p1_starts p1_valuesA p1_valuesN p1_values)) dX2_readKin_76 2 rfl hb76 rfl ?_
        refine V.aload_n dX2_readKin_77 rfl 2 rfl ?_
        refine V.get kfX2 0 rfl rfl 3 (by decide) klX2_22 rfl dX2_readKin_78 ?_
        refine V.iload_n dX2_readKin_81 rfl 1 rfl ?_
        refine V.dup2 dX2_readKin_82 rfl rfl ?_
        by_cases hb83 : R6.1 < 0 ∨ t_stopsN ≤ R6.1.toNatClampNeg
        · exact vNone ((if_pos hb83).symm.trans h)
        replace h := (if_neg hb83).symm.trans h
        refine V.iald dX2_readKin_83 3 rfl hb83 ?_
        refine V.iconst (v := (1 : Int32)) dX2_readKin_84 (by decide) ?_
        refine V.iload_n dX2_readKin_85 rfl 0 rfl ?_
        refine V.ishl dX2_readKin_86 ?_
        refine V.ior dX2_readKin_87 ?_
        by_cases hb88 : R6.1 < 0 ∨ t_stopsN ≤ R6.1.toNatClampNeg
        · exact vNone ((if_pos hb88).symm.trans h)
        replace h := (if_neg hb88).symm.trans h
        refine V.iast (ws' := (wX2_readKin cy tA t_kindsV t_roundsV t_folks t_pairs t_line t_rope t_lineTold t_ropeTold t_lawV t_takenV t_namesA t_namesN t_names t_kinA t_kinN (upd (upd t_kin R6.1.toNatClampNeg ((t_kin (R6.1).toNatClampNeg) ||| ((1 : Int32) <<< (R23.1 &&& 31)))) R23.1.toNatClampNeg (((upd t_kin R6.1.toNatClampNeg ((t_kin (R6.1).toNatClampNeg) ||| ((1 : Int32) <<< (R23.1 &&& 31)))) (R23.1).toNatClampNeg) ||| ((1 : Int32) <<< (R6.1 &&& 31)))) t_stopsA t_stopsN (upd t_stops R6.1.toNatClampNeg ((t_stops (R6.1).toNatClampNeg) ||| ((1 : Int32) <<< (R23.1 &&& 31)))) p1A p1_signsV p1_size p1_count R18 R23.2 p1_tokensA p1_tokensN p1_tokens p1_startsA p1_startsN p1_starts p1_valuesA p1_valuesN p1_values)) dX2_readKin_88 3 rfl hb88 rfl ?_
        refine V.aload_n dX2_readKin_89 rfl 2 rfl ?_
        refine V.get kfX2 0 rfl rfl 3 (by decide) klX2_22 rfl dX2_readKin_90 ?_
        refine V.iload_n dX2_readKin_93 rfl 0 rfl ?_
        refine V.dup2 dX2_readKin_94 rfl rfl ?_
        by_cases hb95 : R23.1 < 0 ∨ t_stopsN ≤ R23.1.toNatClampNeg
        · exact vNone ((if_pos hb95).symm.trans h)
        replace h := (if_neg hb95).symm.trans h
        refine V.iald dX2_readKin_95 3 rfl hb95 ?_
        refine V.iconst (v := (1 : Int32)) dX2_readKin_96 (by decide) ?_
        refine V.iload_n dX2_readKin_97 rfl 1 rfl ?_
        refine V.ishl dX2_readKin_98 ?_
        refine V.ior dX2_readKin_99 ?_
        by_cases hb100 : R23.1 < 0 ∨ t_stopsN ≤ R23.1.toNatClampNeg
        · exact vNone ((if_pos hb100).symm.trans h)
        replace h := (if_neg hb100).symm.trans h
        refine V.iast (ws' := (wX2_readKin cy tA t_kindsV t_roundsV t_folks t_pairs t_line t_rope t_lineTold t_ropeTold t_lawV t_takenV t_namesA t_namesN t_names t_kinA t_kinN (upd (upd t_kin R6.1.toNatClampNeg ((t_kin (R6.1).toNatClampNeg) ||| ((1 : Int32) <<< (R23.1 &&& 31)))) R23.1.toNatClampNeg (((upd t_kin R6.1.toNatClampNeg ((t_kin (R6.1).toNatClampNeg) ||| ((1 : Int32) <<< (R23.1 &&& 31)))) (R23.1).toNatClampNeg) ||| ((1 : Int32) <<< (R6.1 &&& 31)))) t_stopsA t_stopsN (upd (upd t_stops R6.1.toNatClampNeg ((t_stops (R6.1).toNatClampNeg) ||| ((1 : Int32) <<< (R23.1 &&& 31)))) R23.1.toNatClampNeg (((upd t_stops R6.1.toNatClampNeg ((t_stops (R6.1).toNatClampNeg) ||| ((1 : Int32) <<< (R23.1 &&& 31)))) (R23.1).toNatClampNeg) ||| ((1 : Int32) <<< (R6.1 &&& 31)))) p1A p1_signsV p1_size p1_count R18 R23.2 p1_tokensA p1_tokensN p1_tokens p1_startsA p1_startsN p1_starts p1_valuesA p1_valuesN p1_values)) dX2_readKin_100 3 rfl hb100 rfl ?_
        refine V.aload_n dX2_readKin_101 rfl 2 rfl ?_
        refine V.dup dX2_readKin_102 rfl ?_
        refine V.get kfX2 0 rfl rfl 6 (by decide) klX2_51 rfl dX2_readKin_103 ?_
        refine V.iconst (v := (1 : Int32)) dX2_readKin_106 (by decide) ?_
        refine V.iadd dX2_readKin_107 ?_
        refine V.put (ws' := (wX2_readKin cy tA t_kindsV t_roundsV t_folks (t_pairs + (1 : Int32)) t_line t_rope t_lineTold t_ropeTold t_lawV t_takenV t_namesA t_namesN t_names t_kinA t_kinN (upd (upd t_kin R6.1.toNatClampNeg ((t_kin (R6.1).toNatClampNeg) ||| ((1 : Int32) <<< (R23.1 &&& 31)))) R23.1.toNatClampNeg (((upd t_kin R6.1.toNatClampNeg ((t_kin (R6.1).toNatClampNeg) ||| ((1 : Int32) <<< (R23.1 &&& 31)))) (R23.1).toNatClampNeg) ||| ((1 : Int32) <<< (R6.1 &&& 31)))) t_stopsA t_stopsN (upd (upd t_stops R6.1.toNatClampNeg ((t_stops (R6.1).toNatClampNeg) ||| ((1 : Int32) <<< (R23.1 &&& 31)))) R23.1.toNatClampNeg (((upd t_stops R6.1.toNatClampNeg ((t_stops (R6.1).toNatClampNeg) ||| ((1 : Int32) <<< (R23.1 &&& 31)))) (R23.1).toNatClampNeg) ||| ((1 : Int32) <<< (R6.1 &&& 31)))) p1A p1_signsV p1_size p1_count R18 R23.2 p1_tokensA p1_tokensN p1_tokens p1_startsA p1_startsN p1_starts p1_valuesA p1_valuesN p1_values)) kfX2 tyX2 tyX2_ok nmX2 0 rfl rfl 6 (by decide) klX2_51 rfl (tyX2_ok 6 (by decide)) rfl rfl (Nat.le_of_ble_eq_true rfl) dX2_readKin_108 rfl ?_
        refine V.aload_n dX2_readKin_111 rfl 3 rfl ?_
        obtain ⟨R112, hg112, h⟩ := Option.bind_eq_some_iff.mp h
        refine V.callV (As := []) (rest := []) (wc := (wX9_step cy p1A p1_signsV p1_size (.ref p1_tokensA) (.ref p1_startsA) (.ref p1_valuesA) p1_count R18 R23.2)) (wr := [(tA, .inr (2, [.ref t_namesA, t_kindsV, .ref t_kinA, .ref t_stopsA, t_roundsV, .int t_folks, .int (t_pairs + (1 : Int32)), .int t_line, .int t_rope, .int t_lineTold, .int t_ropeTold, t_lawV, t_takenV])), (t_namesA, .inl (cy 2, t_namesN, .inr (.inl t_names))), (t_kinA, .inl (cy 1, t_kinN, .inl (upd (upd t_kin R6.1.toNatClampNeg ((t_kin (R6.1).toNatClampNeg) ||| ((1 : Int32) <<< (R23.1 &&& 31)))) R23.1.toNatClampNeg (((upd t_kin R6.1.toNatClampNeg ((t_kin (R6.1).toNatClampNeg) ||| ((1 : Int32) <<< (R23.1 &&& 31)))) (R23.1).toNatClampNeg) ||| ((1 : Int32) <<< (R6.1 &&& 31)))))), (t_stopsA, .inl (cy 1, t_stopsN, .inl (upd (upd t_stops R6.1.toNatClampNeg ((t_stops (R6.1).toNatClampNeg) ||| ((1 : Int32) <<< (R23.1 &&& 31)))) R23.1.toNatClampNeg (((upd t_stops R6.1.toNatClampNeg ((t_stops (R6.1).toNatClampNeg) ||| ((1 : Int32) <<< (R23.1 &&& 31)))) (R23.1).toNatClampNeg) ||| ((1 : Int32) <<< (R6.1 &&& 31)))))), (p1_tokensA, .inl (cy 1, p1_tokensN, .inl p1_tokens)), (p1_startsA, .inl (cy 1, p1_startsN, .inl p1_starts)), (p1_valuesA, .inl (cy 2, p1_valuesN, .inr (.inl p1_values)))]) (q0 := 4) (CX9_step F p1A p1_signsV p1_size (.ref p1_tokensA) (.ref p1_startsA) (.ref p1_valuesA) p1_count R18 R23.2 R112 hg112) kvX9_step klX2_147 [4] [0, 1, 2, 3, 5, 6, 7] rfl rfl (by decide) (by decide) (by decide) rfl rfl rfl rfl dX2_readKin_112 ⟨by decide, by decide, by decide, by decide⟩ (Nat.le_of_ble_eq_true rfl) (fun r w1 hq => ?_)
        obtain ⟨rfl, rfl⟩ := hq
        refine V.cells (ws' := (wX2_readKin cy tA t_kindsV t_roundsV t_folks (t_pairs + (1 : Int32)) t_line t_rope t_lineTold t_ropeTold t_lawV t_takenV t_namesA t_namesN t_names t_kinA t_kinN (upd (upd t_kin R6.1.toNatClampNeg ((t_kin (R6.1).toNatClampNeg) ||| ((1 : Int32) <<< (R23.1 &&& 31)))) R23.1.toNatClampNeg (((upd t_kin R6.1.toNatClampNeg ((t_kin (R6.1).toNatClampNeg) ||| ((1 : Int32) <<< (R23.1 &&& 31)))) (R23.1).toNatClampNeg) ||| ((1 : Int32) <<< (R6.1 &&& 31)))) t_stopsA t_stopsN (upd (upd t_stops R6.1.toNatClampNeg ((t_stops (R6.1).toNatClampNeg) ||| ((1 : Int32) <<< (R23.1 &&& 31)))) R23.1.toNatClampNeg (((upd t_stops R6.1.toNatClampNeg ((t_stops (R6.1).toNatClampNeg) ||| ((1 : Int32) <<< (R23.1 &&& 31)))) (R23.1).toNatClampNeg) ||| ((1 : Int32) <<< (R6.1 &&& 31)))) p1A p1_signsV p1_size p1_count R112 R23.2 p1_tokensA p1_tokensN p1_tokens p1_startsA p1_startsN p1_starts p1_valuesA p1_valuesN p1_values)) [0, 1, 2, 3, 7, 4, 5, 6] (by decide) rfl ?_
        show V l D cy MX2_readKin 3 0 0 _ _ _ 115 [(3, .int R23.1), (2, .int R6.1), (0, .ref tA), (1, .ref p1A)] [] (wX2_readKin cy tA t_kindsV t_roundsV t_folks (t_pairs + (1 : Int32)) t_line t_rope t_lineTold t_ropeTold t_lawV t_takenV t_namesA t_namesN t_names t_kinA t_kinN (upd (upd t_kin R6.1.toNatClampNeg ((t_kin (R6.1).toNatClampNeg) ||| ((1 : Int32) <<< (R23.1 &&& 31)))) R23.1.toNatClampNeg (((upd t_kin R6.1.toNatClampNeg ((t_kin (R6.1).toNatClampNeg) ||| ((1 : Int32) <<< (R23.1 &&& 31)))) (R23.1).toNatClampNeg) ||| ((1 : Int32) <<< (R6.1 &&& 31)))) t_stopsA t_stopsN (upd (upd t_stops R6.1.toNatClampNeg ((t_stops (R6.1).toNatClampNeg) ||| ((1 : Int32) <<< (R23.1 &&& 31)))) R23.1.toNatClampNeg (((upd t_stops R6.1.toNatClampNeg ((t_stops (R6.1).toNatClampNeg) ||| ((1 : Int32) <<< (R23.1 &&& 31)))) (R23.1).toNatClampNeg) ||| ((1 : Int32) <<< (R6.1 &&& 31)))) p1A p1_signsV p1_size p1_count R112 R23.2 p1_tokensA p1_tokensN p1_tokens p1_startsA p1_startsN p1_starts p1_valuesA p1_valuesN p1_values) 0 0
        refine V.aload_n dX2_readKin_115 rfl 3 rfl ?_
        refine V.bipush (v := (59 : Int32)) dX2_readKin_116 (by decide) ?_
        obtain ⟨R118, hg118, h⟩ := Option.bind_eq_some_iff.mp h
        refine V.callV (As := [.int (59 : Int32)]) (rest := []) (wc := (wX9_expect cy p1A p1_signsV p1_size (.ref p1_valuesA) p1_count R112 R23.2 p1_tokensA p1_tokensN p1_tokens p1_startsA p1_startsN p1_starts)) (wr := [(tA, .inr (2, [.ref t_namesA, t_kindsV, .ref t_kinA, .ref t_stopsA, t_roundsV, .int t_folks, .int (t_pairs + (1 : Int32)), .int t_line, .int t_rope, .int t_lineTold, .int t_ropeTold, t_lawV, t_takenV])), (t_namesA, .inl (cy 2, t_namesN, .inr (.inl t_names))), (t_kinA, .inl (cy 1, t_kinN, .inl (upd (upd t_kin R6.1.toNatClampNeg ((t_kin (R6.1).toNatClampNeg) ||| ((1 : Int32) <<< (R23.1 &&& 31)))) R23.1.toNatClampNeg (((upd t_kin R6.1.toNatClampNeg ((t_kin (R6.1).toNatClampNeg) ||| ((1 : Int32) <<< (R23.1 &&& 31)))) (R23.1).toNatClampNeg) ||| ((1 : Int32) <<< (R6.1 &&& 31)))))), (t_stopsA, .inl (cy 1, t_stopsN, .inl (upd (upd t_stops R6.1.toNatClampNeg ((t_stops (R6.1).toNatClampNeg) ||| ((1 : Int32) <<< (R23.1 &&& 31)))) R23.1.toNatClampNeg (((upd t_stops R6.1.toNatClampNeg ((t_stops (R6.1).toNatClampNeg) ||| ((1 : Int32) <<< (R23.1 &&& 31)))) (R23.1).toNatClampNeg) ||| ((1 : Int32) <<< (R6.1 &&& 31)))))), (p1_valuesA, .inl (cy 2, p1_valuesN, .inr (.inl p1_values)))]) (q0 := 4) (CX9_expect F p1A p1_signsV p1_size (.ref p1_valuesA) p1_count R112 R23.2 p1_tokensA p1_tokensN p1_tokens p1_startsA p1_startsN p1_starts (59 : Int32) R118 hg118) kvX9_expect klX2_164 [4, 5, 6] [0, 1, 2, 3, 7] rfl rfl (by decide) (by decide) (by decide) rfl rfl rfl rfl dX2_readKin_118 ⟨by decide, by decide, by decide, by decide⟩ (Nat.le_of_ble_eq_true rfl) (fun r w1 hq => ?_)
        obtain ⟨rfl, rfl⟩ := hq
        refine V.cells (ws' := (wX2_readKin cy tA t_kindsV t_roundsV t_folks (t_pairs + (1 : Int32)) t_line t_rope t_lineTold t_ropeTold t_lawV t_takenV t_namesA t_namesN t_names t_kinA t_kinN (upd (upd t_kin R6.1.toNatClampNeg ((t_kin (R6.1).toNatClampNeg) ||| ((1 : Int32) <<< (R23.1 &&& 31)))) R23.1.toNatClampNeg (((upd t_kin R6.1.toNatClampNeg ((t_kin (R6.1).toNatClampNeg) ||| ((1 : Int32) <<< (R23.1 &&& 31)))) (R23.1).toNatClampNeg) ||| ((1 : Int32) <<< (R6.1 &&& 31)))) t_stopsA t_stopsN (upd (upd t_stops R6.1.toNatClampNeg ((t_stops (R6.1).toNatClampNeg) ||| ((1 : Int32) <<< (R23.1 &&& 31)))) R23.1.toNatClampNeg (((upd t_stops R6.1.toNatClampNeg ((t_stops (R6.1).toNatClampNeg) ||| ((1 : Int32) <<< (R23.1 &&& 31)))) (R23.1).toNatClampNeg) ||| ((1 : Int32) <<< (R6.1 &&& 31)))) p1A p1_signsV p1_size p1_count R118.2.1 R118.2.2 p1_tokensA p1_tokensN p1_tokens p1_startsA p1_startsN p1_starts p1_valuesA p1_valuesN p1_values)) [0, 1, 2, 3, 5, 6, 7, 4] (by decide) rfl ?_
        show V l D cy MX2_readKin 3 0 0 _ _ _ 121 [(3, .int R23.1), (2, .int R6.1), (0, .ref tA), (1, .ref p1A)] [.int R118.1] (wX2_readKin cy tA t_kindsV t_roundsV t_folks (t_pairs + (1 : Int32)) t_line t_rope t_lineTold t_ropeTold t_lawV t_takenV t_namesA t_namesN t_names t_kinA t_kinN (upd (upd t_kin R6.1.toNatClampNeg ((t_kin (R6.1).toNatClampNeg) ||| ((1 : Int32) <<< (R23.1 &&& 31)))) R23.1.toNatClampNeg (((upd t_kin R6.1.toNatClampNeg ((t_kin (R6.1).toNatClampNeg) ||| ((1 : Int32) <<< (R23.1 &&& 31)))) (R23.1).toNatClampNeg) ||| ((1 : Int32) <<< (R6.1 &&& 31)))) t_stopsA t_stopsN (upd (upd t_stops R6.1.toNatClampNeg ((t_stops (R6.1).toNatClampNeg) ||| ((1 : Int32) <<< (R23.1 &&& 31)))) R23.1.toNatClampNeg (((upd t_stops R6.1.toNatClampNeg ((t_stops (R6.1).toNatClampNeg) ||| ((1 : Int32) <<< (R23.1 &&& 31)))) (R23.1).toNatClampNeg) ||| ((1 : Int32) <<< (R6.1 &&& 31)))) p1A p1_signsV p1_size p1_count R118.2.1 R118.2.2 p1_tokensA p1_tokensN p1_tokens p1_startsA p1_startsN p1_starts p1_valuesA p1_valuesN p1_values) 0 0
        by_cases hz121 : R118.1 = 0 ∨ R118.1 = 1
        case neg => exact vNone ((if_neg hz121).symm.trans h)
        replace h := (if_pos hz121).symm.trans h
        have e9 := Option.some.inj h; subst e9
        exact V.iret (ty := .boolean) rfl (vBool hz121).1 dX2_readKin_121 (Nat.le_refl _) (Nat.le_refl _) hQ
      · replace h := (if_neg hc44).symm.trans h
        refine V.aload_n dX2_readKin_47 rfl 3 rfl ?_
        refine V.iconst (v := (3 : Int32)) dX2_readKin_48 (by decide) ?_
        obtain ⟨R49, hg49, h⟩ := Option.bind_eq_some_iff.mp h
        refine V.callV (As := [.int (3 : Int32)]) (rest := []) (wc := (wX9_wrong cy p1A p1_signsV p1_size (.ref p1_tokensA) (.ref p1_valuesA) p1_count R18 R23.2 p1_startsA p1_startsN p1_starts)) (wr := [(tA, .inr (2, [.ref t_namesA, t_kindsV, .ref t_kinA, .ref t_stopsA, t_roundsV, .int t_folks, .int t_pairs, .int t_line, .int t_rope, .int t_lineTold, .int t_ropeTold, t_lawV, t_takenV])), (t_namesA, .inl (cy 2, t_namesN, .inr (.inl t_names))), (t_kinA, .inl (cy 1, t_kinN, .inl t_kin)), (t_stopsA, .inl (cy 1, t_stopsN, .inl t_stops)), (p1_tokensA, .inl (cy 1, p1_tokensN, .inl p1_tokens)), (p1_valuesA, .inl (cy 2, p1_valuesN, .inr (.inl p1_values)))]) (q0 := 4) (CX9_wrong F p1A p1_signsV p1_size (.ref p1_tokensA) (.ref p1_valuesA) p1_count R18 R23.2 p1_startsA p1_startsN p1_starts (3 : Int32) R49 hg49) kvX9_wrong klX2_144 [4, 6] [0, 1, 2, 3, 5, 7] rfl rfl (by decide) (by decide) (by decide) rfl rfl rfl rfl dX2_readKin_49 ⟨by decide, by decide, by decide, by decide⟩ (Nat.le_of_ble_eq_true rfl) (fun r w1 hq => ?_)
        obtain ⟨rfl, rfl⟩ := hq
        refine V.cells (ws' := (wX2_readKin cy tA t_kindsV t_roundsV t_folks t_pairs t_line t_rope t_lineTold t_ropeTold t_lawV t_takenV t_namesA t_namesN t_names t_kinA t_kinN t_kin t_stopsA t_stopsN t_stops p1A p1_signsV p1_size p1_count R18 R49.2 p1_tokensA p1_tokensN p1_tokens p1_startsA p1_startsN p1_starts p1_valuesA p1_valuesN p1_values)) [0, 1, 2, 3, 6, 4, 7, 5] (by decide) rfl ?_
        show V l D cy MX2_readKin 3 0 0 _ _ _ 52 [(3, .int R23.1), (2, .int R6.1), (0, .ref tA), (1, .ref p1A)] [.int R49.1] (wX2_readKin cy tA t_kindsV t_roundsV t_folks t_pairs t_line t_rope t_lineTold t_ropeTold t_lawV t_takenV t_namesA t_namesN t_names t_kinA t_kinN t_kin t_stopsA t_stopsN t_stops p1A p1_signsV p1_size p1_count R18 R49.2 p1_tokensA p1_tokensN p1_tokens p1_startsA p1_startsN p1_starts p1_valuesA p1_valuesN p1_values) 0 0
        by_cases hz52 : R49.1 = 0 ∨ R49.1 = 1
        case neg => exact vNone ((if_neg hz52).symm.trans h)
        replace h := (if_pos hz52).symm.trans h
        have e9 := Option.some.inj h; subst e9
        exact V.iret (ty := .boolean) rfl (vBool hz52).1 dX2_readKin_52 (Nat.le_refl _) (Nat.le_refl _) hQ
    · replace h := (if_pos hc29).symm.trans h
      refine V.iconst (v := (0 : Int32)) dX2_readKin_32 (by decide) ?_
      have e9 := Option.some.inj h; subst e9
      exact V.iret (ty := .boolean) rfl rfl dX2_readKin_33 (Nat.le_refl _) (Nat.le_refl _) hQ
  · replace h := (if_pos hc12).symm.trans h
    refine V.iconst (v := (0 : Int32)) dX2_readKin_15 (by decide) ?_
    have e9 := Option.some.inj h; subst e9
    exact V.iret (ty := .boolean) rfl rfl dX2_readKin_16 (Nat.le_refl _) (Nat.le_refl _) hQ
theorem dX2_readNumber_0 : decode cX2_readNumber 0 = .ok (.aload_n 0, 1) := by decide +kernel
theorem dX2_readNumber_1 : decode cX2_readNumber 1 = .ok (.invokevirtual 118, 3) := by decide +kernel
theorem dX2_readNumber_4 : decode cX2_readNumber 4 = .ok (.bipush 21, 2) := by decide +kernel
theorem dX2_readNumber_6 : decode cX2_readNumber 6 = .ok (.if_icmp .eq 11, 3) := by decide +kernel
theorem dX2_readNumber_9 : decode cX2_readNumber 9 = .ok (.aload_n 0, 1) := by decide +kernel
theorem dX2_readNumber_10 : decode cX2_readNumber 10 = .ok (.iconst 1, 1) := by decide +kernel
theorem dX2_readNumber_11 : decode cX2_readNumber 11 = .ok (.invokevirtual 144, 3) := by decide +kernel
theorem dX2_readNumber_14 : decode cX2_readNumber 14 = .ok (.pop, 1) := by decide +kernel
theorem dX2_readNumber_15 : decode cX2_readNumber 15 = .ok (.iconst (-1), 1) := by decide +kernel
theorem dX2_readNumber_16 : decode cX2_readNumber 16 = .ok (.ireturn, 1) := by decide +kernel
theorem dX2_readNumber_17 : decode cX2_readNumber 17 = .ok (.aload_n 0, 1) := by decide +kernel
theorem dX2_readNumber_18 : decode cX2_readNumber 18 = .ok (.invokevirtual 191, 3) := by decide +kernel
theorem dX2_readNumber_21 : decode cX2_readNumber 21 = .ok (.iload_n 1, 1) := by decide +kernel
theorem dX2_readNumber_22 : decode cX2_readNumber 22 = .ok (.if_icmp .lt 11, 3) := by decide +kernel
theorem dX2_readNumber_25 : decode cX2_readNumber 25 = .ok (.aload_n 0, 1) := by decide +kernel
theorem dX2_readNumber_26 : decode cX2_readNumber 26 = .ok (.invokevirtual 191, 3) := by decide +kernel
theorem dX2_readNumber_29 : decode cX2_readNumber 29 = .ok (.iload_n 2, 1) := by decide +kernel
theorem dX2_readNumber_30 : decode cX2_readNumber 30 = .ok (.if_icmp .le 11, 3) := by decide +kernel
theorem dX2_readNumber_33 : decode cX2_readNumber 33 = .ok (.aload_n 0, 1) := by decide +kernel
theorem dX2_readNumber_34 : decode cX2_readNumber 34 = .ok (.iconst 4, 1) := by decide +kernel
theorem dX2_readNumber_35 : decode cX2_readNumber 35 = .ok (.invokevirtual 144, 3) := by decide +kernel
theorem dX2_readNumber_38 : decode cX2_readNumber 38 = .ok (.pop, 1) := by decide +kernel
theorem dX2_readNumber_39 : decode cX2_readNumber 39 = .ok (.iconst (-1), 1) := by decide +kernel
theorem dX2_readNumber_40 : decode cX2_readNumber 40 = .ok (.ireturn, 1) := by decide +kernel
theorem dX2_readNumber_41 : decode cX2_readNumber 41 = .ok (.aload_n 0, 1) := by decide +kernel
theorem dX2_readNumber_42 : decode cX2_readNumber 42 = .ok (.invokevirtual 191, 3) := by decide +kernel
theorem dX2_readNumber_45 : decode cX2_readNumber 45 = .ok (.istore_n 3, 1) := by decide +kernel
theorem dX2_readNumber_46 : decode cX2_readNumber 46 = .ok (.aload_n 0, 1) := by decide +kernel
theorem dX2_readNumber_47 : decode cX2_readNumber 47 = .ok (.invokevirtual 147, 3) := by decide +kernel
theorem dX2_readNumber_50 : decode cX2_readNumber 50 = .ok (.iload_n 3, 1) := by decide +kernel
theorem dX2_readNumber_51 : decode cX2_readNumber 51 = .ok (.ireturn, 1) := by decide +kernel
def wX2_readNumber (cy : Nat → ClassId) (p0A : Nat) (p0_signsV : Value) (p0_size : Int32) (p0_count : Int32) (p0_here : Int32) (p0_fault : Int32) (p0_tokensA : Nat) (p0_tokensN : Nat) (p0_tokens : Nat → Int32) (p0_startsA : Nat) (p0_startsN : Nat) (p0_starts : Nat → Int32) (p0_valuesA : Nat) (p0_valuesN : Nat) (p0_values : Nat → Int64) : va_W :=
  [(p0A, .inr (9, [p0_signsV, .int p0_size, .ref p0_tokensA, .ref p0_startsA, .ref p0_valuesA, .int p0_count, .int p0_here, .int p0_fault])), (p0_tokensA, .inl (cy 1, p0_tokensN, .inl p0_tokens)), (p0_startsA, .inl (cy 1, p0_startsN, .inl p0_starts)), (p0_valuesA, .inl (cy 2, p0_valuesN, .inr (.inl p0_values)))]
noncomputable def bX2_readNumber_L33 (F : Nat) (p0_size : Int32) (p0_count : Int32) (p0_tokensN : Nat) (p0_tokens : Nat → Int32) (p0_startsN : Nat) (p0_starts : Nat → Int32) (p0_valuesN : Nat) (p0_values : Nat → Int64)  (p0_here : Int32) (p0_fault : Int32) : Option (Int32 × (Int32) × (Int32)) :=
  (fX9_wrong F p0_size p0_count p0_here p0_startsN p0_starts (4 : Int32) p0_fault).bind fun R35 => (some ((-1 : Int32), p0_here, R35.2))
theorem vX2_readNumber_L33 {l : Launch} {D : va_G} {cy : Nat → ClassId} {av : List Value} {ws0 : va_W} {Q : Option Value → va_W → Prop} (F : Nat) (p0A : Nat) (p0_signsV : Value) (p0_size : Int32) (p0_count : Int32) (p0_tokensA : Nat) (p0_tokensN : Nat) (p0_tokens : Nat → Int32) (p0_startsA : Nat) (p0_startsN : Nat) (p0_starts : Nat → Int32) (p0_valuesA : Nat) (p0_valuesN : Nat) (p0_values : Nat → Int64)  (p0_here : Int32) (p0_fault : Int32) (R : Int32 × (Int32) × (Int32)) (h : bX2_readNumber_L33 F p0_size p0_count p0_tokensN p0_tokens p0_startsN p0_starts p0_valuesN p0_values  p0_here p0_fault = some R) (hQ : Q (some (.int R.1)) (wX2_readNumber cy p0A p0_signsV p0_size p0_count R.2.1 R.2.2 p0_tokensA p0_tokensN p0_tokens p0_startsA p0_startsN p0_starts p0_valuesA p0_valuesN p0_values)) : V l D cy MX2_readNumber 2 0 0 av ws0 Q 33 [(0, .ref p0A)] [] (wX2_readNumber cy p0A p0_signsV p0_size p0_count p0_here p0_fault p0_tokensA p0_tokensN p0_tokens p0_startsA p0_startsN p0_starts p0_valuesA p0_valuesN p0_values) 0 0 := by
  unfold bX2_readNumber_L33 at h
  refine V.aload_n dX2_readNumber_33 rfl 0 rfl ?_
  refine V.iconst (v := (4 : Int32)) dX2_readNumber_34 (by decide) ?_
  obtain ⟨R35, hg35, h⟩ := Option.bind_eq_some_iff.mp h
  refine V.callV (As := [.int (4 : Int32)]) (rest := []) (wc := (wX9_wrong cy p0A p0_signsV p0_size (.ref p0_tokensA) (.ref p0_valuesA) p0_count p0_here p0_fault p0_startsA p0_startsN p0_starts)) (wr := [(p0_tokensA, .inl (cy 1, p0_tokensN, .inl p0_tokens)), (p0_valuesA, .inl (cy 2, p0_valuesN, .inr (.inl p0_values)))]) (q0 := 0) (CX9_wrong F p0A p0_signsV p0_size (.ref p0_tokensA) (.ref p0_valuesA) p0_count p0_here p0_fault p0_startsA p0_startsN p0_starts (4 : Int32) R35 hg35) kvX9_wrong klX2_144 [0, 2] [1, 3] rfl rfl (by decide) (by decide) (by decide) rfl rfl rfl rfl dX2_readNumber_35 ⟨by decide, by decide, by decide, by decide⟩ (Nat.le_of_ble_eq_true rfl) (fun r w1 hq => ?_)
  obtain ⟨rfl, rfl⟩ := hq
  refine V.cells (ws' := (wX2_readNumber cy p0A p0_signsV p0_size p0_count p0_here R35.2 p0_tokensA p0_tokensN p0_tokens p0_startsA p0_startsN p0_starts p0_valuesA p0_valuesN p0_values)) [2, 0, 3, 1] (by decide) rfl ?_
  show V l D cy MX2_readNumber 2 0 0 _ _ _ 38 [(0, .ref p0A)] [.int R35.1] (wX2_readNumber cy p0A p0_signsV p0_size p0_count p0_here R35.2 p0_tokensA p0_tokensN p0_tokens p0_startsA p0_startsN p0_starts p0_valuesA p0_valuesN p0_values) 0 0
  refine V.pop dX2_readNumber_38 rfl ?_
  refine V.iconst (v := (-1 : Int32)) dX2_readNumber_39 (by decide) ?_
  have e9 := Option.some.inj h; subst e9
  exact V.iret (ty := .int) rfl rfl dX2_readNumber_40 (Nat.le_refl _) (Nat.le_refl _) hQ
noncomputable def fX2_readNumber (F : Nat) (p0_size : Int32) (p0_count : Int32) (p0_tokensN : Nat) (p0_tokens : Nat → Int32) (p0_startsN : Nat) (p0_starts : Nat → Int32) (p0_valuesN : Nat) (p0_values : Nat → Int64) (a1 : Int32) (a2 : Int32) (p0_here : Int32) (p0_fault : Int32) : Option (Int32 × (Int32) × (Int32)) :=
  (fX9_token F p0_count p0_here p0_tokensN p0_tokens).bind fun R1 => (if R1 = (21 : Int32) then ((fX9_number F p0_count p0_here p0_valuesN p0_values).bind fun R18 => (if R18 < a1 then (bX2_readNumber_L33 F p0_size p0_count p0_tokensN p0_tokens p0_startsN p0_starts p0_valuesN p0_values p0_here p0_fault) else ((fX9_number F p0_count p0_here p0_valuesN p0_values).bind fun R26 => (if R26 ≤ a2 then ((fX9_number F p0_count p0_here p0_valuesN p0_values).bind fun R42 => ((fX9_step F p0_count p0_here).bind fun R47 => (some (R42, R47, p0_fault)))) else (bX2_readNumber_L33 F p0_size p0_count p0_tokensN p0_tokens p0_startsN p0_starts p0_valuesN p0_values p0_here p0_fault))))) else ((fX9_wrong F p0_size p0_count p0_here p0_startsN p0_starts (1 : Int32) p0_fault).bind fun R11 => (some ((-1 : Int32), p0_here, R11.2))))
theorem CX2_readNumber {l : Launch} {D : va_G} {cy : Nat → ClassId} (F : Nat) (p0A : Nat) (p0_signsV : Value) (p0_size : Int32) (p0_count : Int32) (p0_here : Int32) (p0_fault : Int32) (p0_tokensA : Nat) (p0_tokensN : Nat) (p0_tokens : Nat → Int32) (p0_startsA : Nat) (p0_startsN : Nat) (p0_starts : Nat → Int32) (p0_valuesA : Nat) (p0_valuesN : Nat) (p0_values : Nat → Int64) (a1 : Int32) (a2 : Int32) (R : Int32 × (Int32) × (Int32)) (h : fX2_readNumber F p0_size p0_count p0_tokensN p0_tokens p0_startsN p0_starts p0_valuesN p0_values a1 a2 p0_here p0_fault = some R) : vMet l D cy MX2_readNumber 2 0 0 [.ref p0A, .int a1, .int a2] (wX2_readNumber cy p0A p0_signsV p0_size p0_count p0_here p0_fault p0_tokensA p0_tokensN p0_tokens p0_startsA p0_startsN p0_starts p0_valuesA p0_valuesN p0_values) (fun (r : Option Value) (w : va_W) => r = (some (.int R.1)) ∧ w = (wX2_readNumber cy p0A p0_signsV p0_size p0_count R.2.1 R.2.2 p0_tokensA p0_tokensN p0_tokens p0_startsA p0_startsN p0_starts p0_valuesA p0_valuesN p0_values)) := by
  refine vMet.start (by decide +kernel) (Nat.le_of_ble_eq_true rfl) ?_
  generalize hQe : (fun (r : Option Value) (w : va_W) => r = (some (.int R.1)) ∧ w = (wX2_readNumber cy p0A p0_signsV p0_size p0_count R.2.1 R.2.2 p0_tokensA p0_tokensN p0_tokens p0_startsA p0_startsN p0_starts p0_valuesA p0_valuesN p0_values)) = Q
  have hQ : Q (some (.int R.1)) (wX2_readNumber cy p0A p0_signsV p0_size p0_count R.2.1 R.2.2 p0_tokensA p0_tokensN p0_tokens p0_startsA p0_startsN p0_starts p0_valuesA p0_valuesN p0_values) := by rw [← hQe]; exact ⟨rfl, rfl⟩
  show V l D cy MX2_readNumber 2 0 0 _ _ Q 0 [(0, .ref p0A), (1, .int a1), (2, .int a2)] [] _ 0 0
  show V l D cy MX2_readNumber 2 0 0 [.ref p0A, .int a1, .int a2] _ Q 0 [(0, .ref p0A), (1, .int a1), (2, .int a2)] [] (wX2_readNumber cy p0A p0_signsV p0_size p0_count p0_here p0_fault p0_tokensA p0_tokensN p0_tokens p0_startsA p0_startsN p0_starts p0_valuesA p0_valuesN p0_values) 0 0
  unfold fX2_readNumber at h
  refine V.aload_n dX2_readNumber_0 rfl 0 rfl ?_
  obtain ⟨R1, hg1, h⟩ := Option.bind_eq_some_iff.mp h
  refine V.callV (As := []) (rest := []) (wc := (wX9_token cy p0A p0_signsV p0_size (.ref p0_startsA) (.ref p0_valuesA) p0_count p0_here p0_fault p0_tokensA p0_tokensN p0_tokens)) (wr := [(p0_startsA, .inl (cy 1, p0_startsN, .inl p0_starts)), (p0_valuesA, .inl (cy 2, p0_valuesN, .inr (.inl p0_values)))]) (q0 := 0) (CX9_token F p0A p0_signsV p0_size (.ref p0_startsA) (.ref p0_valuesA) p0_count p0_here p0_fault p0_tokensA p0_tokensN p0_tokens R1 hg1) kvX9_token klX2_118 [0, 1] [2, 3] rfl rfl (by decide) (by decide) (by decide) rfl rfl rfl rfl dX2_readNumber_1 ⟨by decide, by decide, by decide, by decide⟩ (Nat.le_of_ble_eq_true rfl) (fun r w1 hq => ?_)
  obtain ⟨rfl, rfl⟩ := hq
  refine V.cells (ws' := (wX2_readNumber cy p0A p0_signsV p0_size p0_count p0_here p0_fault p0_tokensA p0_tokensN p0_tokens p0_startsA p0_startsN p0_starts p0_valuesA p0_valuesN p0_values)) [2, 3, 0, 1] (by decide) rfl ?_
  show V l D cy MX2_readNumber 2 0 0 _ _ _ 4 [(0, .ref p0A), (1, .int a1), (2, .int a2)] [.int R1] (wX2_readNumber cy p0A p0_signsV p0_size p0_count p0_here p0_fault p0_tokensA p0_tokensN p0_tokens p0_startsA p0_startsN p0_starts p0_valuesA p0_valuesN p0_values) 0 0
  refine V.bipush (v := (21 : Int32)) dX2_readNumber_4 (by decide) ?_
  refine V.icmp_eq (tgt := 17) dX2_readNumber_6 (by decide) (fun hc6 => ?_) (fun hc6 => ?_)
  · replace h := (if_pos hc6).symm.trans h
    refine V.aload_n dX2_readNumber_17 rfl 0 rfl ?_
    obtain ⟨R18, hg18, h⟩ := Option.bind_eq_some_iff.mp h
    refine V.callV (As := []) (rest := []) (wc := (wX9_number cy p0A p0_signsV p0_size (.ref p0_tokensA) (.ref p0_startsA) p0_count p0_here p0_fault p0_valuesA p0_valuesN p0_values)) (wr := [(p0_tokensA, .inl (cy 1, p0_tokensN, .inl p0_tokens)), (p0_startsA, .inl (cy 1, p0_startsN, .inl p0_starts))]) (q0 := 0) (CX9_number F p0A p0_signsV p0_size (.ref p0_tokensA) (.ref p0_startsA) p0_count p0_here p0_fault p0_valuesA p0_valuesN p0_values R18 hg18) kvX9_number klX2_191 [0, 3] [1, 2] rfl rfl (by decide) (by decide) (by decide) rfl rfl rfl rfl dX2_readNumber_18 ⟨by decide, by decide, by decide, by decide⟩ (Nat.le_of_ble_eq_true rfl) (fun r w1 hq => ?_)
    obtain ⟨rfl, rfl⟩ := hq
    refine V.cells (ws' := (wX2_readNumber cy p0A p0_signsV p0_size p0_count p0_here p0_fault p0_tokensA p0_tokensN p0_tokens p0_startsA p0_startsN p0_starts p0_valuesA p0_valuesN p0_values)) [2, 0, 1, 3] (by decide) rfl ?_
    show V l D cy MX2_readNumber 2 0 0 _ _ _ 21 [(0, .ref p0A), (1, .int a1), (2, .int a2)] [.int R18] (wX2_readNumber cy p0A p0_signsV p0_size p0_count p0_here p0_fault p0_tokensA p0_tokensN p0_tokens p0_startsA p0_startsN p0_starts p0_valuesA p0_valuesN p0_values) 0 0
    refine V.iload_n dX2_readNumber_21 rfl 1 rfl ?_
    refine V.icmp_lt (tgt := 33) dX2_readNumber_22 (by decide) (fun hc22 => ?_) (fun hc22 => ?_)
    · replace h := (if_pos hc22).symm.trans h
      refine V.lvs [0] rfl ?_
      exact vX2_readNumber_L33 _ _ _ _ _ _ _ _ _ _ _ _ _ _   _ _ R h hQ
    · replace h := (if_neg hc22).symm.trans h
      refine V.aload_n dX2_readNumber_25 rfl 0 rfl ?_
      obtain ⟨R26, hg26, h⟩ := Option.bind_eq_some_iff.mp h
      refine V.callV (As := []) (rest := []) (wc := (wX9_number cy p0A p0_signsV p0_size (.ref p0_tokensA) (.ref p0_startsA) p0_count p0_here p0_fault p0_valuesA p0_valuesN p0_values)) (wr := [(p0_tokensA, .inl (cy 1, p0_tokensN, .inl p0_tokens)), (p0_startsA, .inl (cy 1, p0_startsN, .inl p0_starts))]) (q0 := 0) (CX9_number F p0A p0_signsV p0_size (.ref p0_tokensA) (.ref p0_startsA) p0_count p0_here p0_fault p0_valuesA p0_valuesN p0_values R26 hg26) kvX9_number klX2_191 [0, 3] [1, 2] rfl rfl (by decide) (by decide) (by decide) rfl rfl rfl rfl dX2_readNumber_26 ⟨by decide, by decide, by decide, by decide⟩ (Nat.le_of_ble_eq_true rfl) (fun r w1 hq => ?_)
      obtain ⟨rfl, rfl⟩ := hq
      refine V.cells (ws' := (wX2_readNumber cy p0A p0_signsV p0_size p0_count p0_here p0_fault p0_tokensA p0_tokensN p0_tokens p0_startsA p0_startsN p0_starts p0_valuesA p0_valuesN p0_values)) [2, 0, 1, 3] (by decide) rfl ?_
      show V l D cy MX2_readNumber 2 0 0 _ _ _ 29 [(0, .ref p0A), (1, .int a1), (2, .int a2)] [.int R26] (wX2_readNumber cy p0A p0_signsV p0_size p0_count p0_here p0_fault p0_tokensA p0_tokensN p0_tokens p0_startsA p0_startsN p0_starts p0_valuesA p0_valuesN p0_values) 0 0
      refine V.iload_n dX2_readNumber_29 rfl 2 rfl ?_
      refine V.icmp_le (tgt := 41) dX2_readNumber_30 (by decide) (fun hc30 => ?_) (fun hc30 => ?_)
      · replace h := (if_pos hc30).symm.trans h
        refine V.aload_n dX2_readNumber_41 rfl 0 rfl ?_
        obtain ⟨R42, hg42, h⟩ := Option.bind_eq_some_iff.mp h
        refine V.callV (As := []) (rest := []) (wc := (wX9_number cy p0A p0_signsV p0_size (.ref p0_tokensA) (.ref p0_startsA) p0_count p0_here p0_fault p0_valuesA p0_valuesN p0_values)) (wr := [(p0_tokensA, .inl (cy 1, p0_tokensN, .inl p0_tokens)), (p0_startsA, .inl (cy 1, p0_startsN, .inl p0_starts))]) (q0 := 0) (CX9_number F p0A p0_signsV p0_size (.ref p0_tokensA) (.ref p0_startsA) p0_count p0_here p0_fault p0_valuesA p0_valuesN p0_values R42 hg42) kvX9_number klX2_191 [0, 3] [1, 2] rfl rfl (by decide) (by decide) (by decide) rfl rfl rfl rfl dX2_readNumber_42 ⟨by decide, by decide, by decide, by decide⟩ (Nat.le_of_ble_eq_true rfl) (fun r w1 hq => ?_)
        obtain ⟨rfl, rfl⟩ := hq
        refine V.cells (ws' := (wX2_readNumber cy p0A p0_signsV p0_size p0_count p0_here p0_fault p0_tokensA p0_tokensN p0_tokens p0_startsA p0_startsN p0_starts p0_valuesA p0_valuesN p0_values)) [2, 0, 1, 3] (by decide) rfl ?_
        show V l D cy MX2_readNumber 2 0 0 _ _ _ 45 [(0, .ref p0A), (1, .int a1), (2, .int a2)] [.int R42] (wX2_readNumber cy p0A p0_signsV p0_size p0_count p0_here p0_fault p0_tokensA p0_tokensN p0_tokens p0_startsA p0_startsN p0_starts p0_valuesA p0_valuesN p0_values) 0 0
        refine V.istore_n (lv' := [(3, .int R42), (0, .ref p0A), (1, .int a1), (2, .int a2)]) dX2_readNumber_45 rfl (by decide) rfl ?_
        refine V.aload_n dX2_readNumber_46 rfl 1 rfl ?_
        obtain ⟨R47, hg47, h⟩ := Option.bind_eq_some_iff.mp h
        refine V.callV (As := []) (rest := []) (wc := (wX9_step cy p0A p0_signsV p0_size (.ref p0_tokensA) (.ref p0_startsA) (.ref p0_valuesA) p0_count p0_here p0_fault)) (wr := [(p0_tokensA, .inl (cy 1, p0_tokensN, .inl p0_tokens)), (p0_startsA, .inl (cy 1, p0_startsN, .inl p0_starts)), (p0_valuesA, .inl (cy 2, p0_valuesN, .inr (.inl p0_values)))]) (q0 := 0) (CX9_step F p0A p0_signsV p0_size (.ref p0_tokensA) (.ref p0_startsA) (.ref p0_valuesA) p0_count p0_here p0_fault R47 hg47) kvX9_step klX2_147 [0] [1, 2, 3] rfl rfl (by decide) (by decide) (by decide) rfl rfl rfl rfl dX2_readNumber_47 ⟨by decide, by decide, by decide, by decide⟩ (Nat.le_of_ble_eq_true rfl) (fun r w1 hq => ?_)
        obtain ⟨rfl, rfl⟩ := hq
        refine V.cells (ws' := (wX2_readNumber cy p0A p0_signsV p0_size p0_count R47 p0_fault p0_tokensA p0_tokensN p0_tokens p0_startsA p0_startsN p0_starts p0_valuesA p0_valuesN p0_values)) [3, 0, 1, 2] (by decide) rfl ?_
        show V l D cy MX2_readNumber 2 0 0 _ _ _ 50 [(3, .int R42), (0, .ref p0A), (1, .int a1), (2, .int a2)] [] (wX2_readNumber cy p0A p0_signsV p0_size p0_count R47 p0_fault p0_tokensA p0_tokensN p0_tokens p0_startsA p0_startsN p0_starts p0_valuesA p0_valuesN p0_values) 0 0
        refine V.iload_n dX2_readNumber_50 rfl 0 rfl ?_
        have e9 := Option.some.inj h; subst e9
        exact V.iret (ty := .int) rfl rfl dX2_readNumber_51 (Nat.le_refl _) (Nat.le_refl _) hQ
      · replace h := (if_neg hc30).symm.trans h
        refine V.lvs [0] rfl ?_
        exact vX2_readNumber_L33 _ _ _ _ _ _ _ _ _ _ _ _ _ _   _ _ R h hQ
  · replace h := (if_neg hc6).symm.trans h
    refine V.aload_n dX2_readNumber_9 rfl 0 rfl ?_
    refine V.iconst (v := (1 : Int32)) dX2_readNumber_10 (by decide) ?_
    obtain ⟨R11, hg11, h⟩ := Option.bind_eq_some_iff.mp h
    refine V.callV (As := [.int (1 : Int32)]) (rest := []) (wc := (wX9_wrong cy p0A p0_signsV p0_size (.ref p0_tokensA) (.ref p0_valuesA) p0_count p0_here p0_fault p0_startsA p0_startsN p0_starts)) (wr := [(p0_tokensA, .inl (cy 1, p0_tokensN, .inl p0_tokens)), (p0_valuesA, .inl (cy 2, p0_valuesN, .inr (.inl p0_values)))]) (q0 := 0) (CX9_wrong F p0A p0_signsV p0_size (.ref p0_tokensA) (.ref p0_valuesA) p0_count p0_here p0_fault p0_startsA p0_startsN p0_starts (1 : Int32) R11 hg11) kvX9_wrong klX2_144 [0, 2] [1, 3] rfl rfl (by decide) (by decide) (by decide) rfl rfl rfl rfl dX2_readNumber_11 ⟨by decide, by decide, by decide, by decide⟩ (Nat.le_of_ble_eq_true rfl) (fun r w1 hq => ?_)
    obtain ⟨rfl, rfl⟩ := hq
    refine V.cells (ws' := (wX2_readNumber cy p0A p0_signsV p0_size p0_count p0_here R11.2 p0_tokensA p0_tokensN p0_tokens p0_startsA p0_startsN p0_starts p0_valuesA p0_valuesN p0_values)) [2, 0, 3, 1] (by decide) rfl ?_
    show V l D cy MX2_readNumber 2 0 0 _ _ _ 14 [(0, .ref p0A), (1, .int a1), (2, .int a2)] [.int R11.1] (wX2_readNumber cy p0A p0_signsV p0_size p0_count p0_here R11.2 p0_tokensA p0_tokensN p0_tokens p0_startsA p0_startsN p0_starts p0_valuesA p0_valuesN p0_values) 0 0
    refine V.pop dX2_readNumber_14 rfl ?_
    refine V.iconst (v := (-1 : Int32)) dX2_readNumber_15 (by decide) ?_
    have e9 := Option.some.inj h; subst e9
    exact V.iret (ty := .int) rfl rfl dX2_readNumber_16 (Nat.le_refl _) (Nat.le_refl _) hQ
theorem dX2_readLine_0 : decode cX2_readLine 0 = .ok (.aload_n 0, 1) := by decide +kernel
theorem dX2_readLine_1 : decode cX2_readLine 1 = .ok (.getfield 60, 3) := by decide +kernel
theorem dX2_readLine_4 : decode cX2_readLine 4 = .ok (.ifCond .eq 9, 3) := by decide +kernel
theorem dX2_readLine_7 : decode cX2_readLine 7 = .ok (.aload_n 1, 1) := by decide +kernel
theorem dX2_readLine_8 : decode cX2_readLine 8 = .ok (.iconst 3, 1) := by decide +kernel
theorem dX2_readLine_9 : decode cX2_readLine 9 = .ok (.invokevirtual 144, 3) := by decide +kernel
theorem dX2_readLine_12 : decode cX2_readLine 12 = .ok (.ireturn, 1) := by decide +kernel
theorem dX2_readLine_13 : decode cX2_readLine 13 = .ok (.aload_n 1, 1) := by decide +kernel
theorem dX2_readLine_14 : decode cX2_readLine 14 = .ok (.invokevirtual 147, 3) := by decide +kernel
theorem dX2_readLine_17 : decode cX2_readLine 17 = .ok (.aload_n 1, 1) := by decide +kernel
theorem dX2_readLine_18 : decode cX2_readLine 18 = .ok (.iconst 1, 1) := by decide +kernel
theorem dX2_readLine_19 : decode cX2_readLine 19 = .ok (.bipush 24, 2) := by decide +kernel
theorem dX2_readLine_21 : decode cX2_readLine 21 = .ok (.invokestatic 171, 3) := by decide +kernel
theorem dX2_readLine_24 : decode cX2_readLine 24 = .ok (.istore_n 2, 1) := by decide +kernel
theorem dX2_readLine_25 : decode cX2_readLine 25 = .ok (.aload_n 0, 1) := by decide +kernel
theorem dX2_readLine_26 : decode cX2_readLine 26 = .ok (.iconst 1, 1) := by decide +kernel
theorem dX2_readLine_27 : decode cX2_readLine 27 = .ok (.putfield 60, 3) := by decide +kernel
theorem dX2_readLine_30 : decode cX2_readLine 30 = .ok (.aload_n 0, 1) := by decide +kernel
theorem dX2_readLine_31 : decode cX2_readLine 31 = .ok (.iload_n 2, 1) := by decide +kernel
theorem dX2_readLine_32 : decode cX2_readLine 32 = .ok (.putfield 54, 3) := by decide +kernel
theorem dX2_readLine_35 : decode cX2_readLine 35 = .ok (.iload_n 2, 1) := by decide +kernel
theorem dX2_readLine_36 : decode cX2_readLine 36 = .ok (.iconst (-1), 1) := by decide +kernel
theorem dX2_readLine_37 : decode cX2_readLine 37 = .ok (.if_icmp .eq 16, 3) := by decide +kernel
theorem dX2_readLine_40 : decode cX2_readLine 40 = .ok (.aload_n 1, 1) := by decide +kernel
theorem dX2_readLine_41 : decode cX2_readLine 41 = .ok (.bipush 59, 2) := by decide +kernel
theorem dX2_readLine_43 : decode cX2_readLine 43 = .ok (.invokevirtual 164, 3) := by decide +kernel
theorem dX2_readLine_46 : decode cX2_readLine 46 = .ok (.ifCond .eq 7, 3) := by decide +kernel
theorem dX2_readLine_49 : decode cX2_readLine 49 = .ok (.iconst 1, 1) := by decide +kernel
theorem dX2_readLine_50 : decode cX2_readLine 50 = .ok (.goto 4, 3) := by decide +kernel
theorem dX2_readLine_53 : decode cX2_readLine 53 = .ok (.iconst 0, 1) := by decide +kernel
theorem dX2_readLine_54 : decode cX2_readLine 54 = .ok (.ireturn, 1) := by decide +kernel
def wX2_readLine (cy : Nat → ClassId) (tA : Nat) (t_namesV : Value) (t_kindsV : Value) (t_kinV : Value) (t_stopsV : Value) (t_roundsV : Value) (t_folks : Int32) (t_pairs : Int32) (t_line : Int32) (t_rope : Int32) (t_lineTold : Int32) (t_ropeTold : Int32) (t_lawV : Value) (t_takenV : Value) (p1A : Nat) (p1_signsV : Value) (p1_size : Int32) (p1_count : Int32) (p1_here : Int32) (p1_fault : Int32) (p1_tokensA : Nat) (p1_tokensN : Nat) (p1_tokens : Nat → Int32) (p1_startsA : Nat) (p1_startsN : Nat) (p1_starts : Nat → Int32) (p1_valuesA : Nat) (p1_valuesN : Nat) (p1_values : Nat → Int64) : va_W :=
  [(tA, .inr (2, [t_namesV, t_kindsV, t_kinV, t_stopsV, t_roundsV, .int t_folks, .int t_pairs, .int t_line, .int t_rope, .int t_lineTold, .int t_ropeTold, t_lawV, t_takenV])), (p1A, .inr (9, [p1_signsV, .int p1_size, .ref p1_tokensA, .ref p1_startsA, .ref p1_valuesA, .int p1_count, .int p1_here, .int p1_fault])), (p1_tokensA, .inl (cy 1, p1_tokensN, .inl p1_tokens)), (p1_startsA, .inl (cy 1, p1_startsN, .inl p1_starts)), (p1_valuesA, .inl (cy 2, p1_valuesN, .inr (.inl p1_values)))]
noncomputable def bX2_readLine_L54 (F : Nat) (p1_size : Int32) (p1_count : Int32) (p1_tokensN : Nat) (p1_tokens : Nat → Int32) (p1_startsN : Nat) (p1_starts : Nat → Int32) (p1_valuesN : Nat) (p1_values : Nat → Int64)  (s0 : Int32) (t_line : Int32) (t_lineTold : Int32) (p1_here : Int32) (p1_fault : Int32) : Option (Int32 × (Int32) × (Int32) × (Int32) × (Int32)) :=
  if s0 = 0 ∨ s0 = 1 then some (s0, t_line, t_lineTold, p1_here, p1_fault) else none
theorem vX2_readLine_L54 {l : Launch} {D : va_G} {cy : Nat → ClassId} {av : List Value} {ws0 : va_W} {Q : Option Value → va_W → Prop} (F : Nat) (tA : Nat) (t_namesV : Value) (t_kindsV : Value) (t_kinV : Value) (t_stopsV : Value) (t_roundsV : Value) (t_folks : Int32) (t_pairs : Int32) (t_rope : Int32) (t_ropeTold : Int32) (t_lawV : Value) (t_takenV : Value) (p1A : Nat) (p1_signsV : Value) (p1_size : Int32) (p1_count : Int32) (p1_tokensA : Nat) (p1_tokensN : Nat) (p1_tokens : Nat → Int32) (p1_startsA : Nat) (p1_startsN : Nat) (p1_starts : Nat → Int32) (p1_valuesA : Nat) (p1_valuesN : Nat) (p1_values : Nat → Int64)  (s0 : Int32) (t_line : Int32) (t_lineTold : Int32) (p1_here : Int32) (p1_fault : Int32) (R : Int32 × (Int32) × (Int32) × (Int32) × (Int32)) (h : bX2_readLine_L54 F p1_size p1_count p1_tokensN p1_tokens p1_startsN p1_starts p1_valuesN p1_values  s0 t_line t_lineTold p1_here p1_fault = some R) (hQ : Q (some (.int R.1)) (wX2_readLine cy tA t_namesV t_kindsV t_kinV t_stopsV t_roundsV t_folks t_pairs R.2.1 t_rope R.2.2.1 t_ropeTold t_lawV t_takenV p1A p1_signsV p1_size p1_count R.2.2.2.1 R.2.2.2.2 p1_tokensA p1_tokensN p1_tokens p1_startsA p1_startsN p1_starts p1_valuesA p1_valuesN p1_values)) : V l D cy MX2_readLine 3 0 0 av ws0 Q 54 [] [.int s0] (wX2_readLine cy tA t_namesV t_kindsV t_kinV t_stopsV t_roundsV t_folks t_pairs t_line t_rope t_lineTold t_ropeTold t_lawV t_takenV p1A p1_signsV p1_size p1_count p1_here p1_fault p1_tokensA p1_tokensN p1_tokens p1_startsA p1_startsN p1_starts p1_valuesA p1_valuesN p1_values) 0 0 := by
  unfold bX2_readLine_L54 at h
  by_cases hz54 : s0 = 0 ∨ s0 = 1
  case neg => exact vNone ((if_neg hz54).symm.trans h)
  replace h := (if_pos hz54).symm.trans h
  have e9 := Option.some.inj h; subst e9
  exact V.iret (ty := .boolean) rfl (vBool hz54).1 dX2_readLine_54 (Nat.le_refl _) (Nat.le_refl _) hQ
noncomputable def bX2_readLine_L53 (F : Nat) (p1_size : Int32) (p1_count : Int32) (p1_tokensN : Nat) (p1_tokens : Nat → Int32) (p1_startsN : Nat) (p1_starts : Nat → Int32) (p1_valuesN : Nat) (p1_values : Nat → Int64)  (t_line : Int32) (t_lineTold : Int32) (p1_here : Int32) (p1_fault : Int32) : Option (Int32 × (Int32) × (Int32) × (Int32) × (Int32)) :=
  bX2_readLine_L54 F p1_size p1_count p1_tokensN p1_tokens p1_startsN p1_starts p1_valuesN p1_values (0 : Int32) t_line t_lineTold p1_here p1_fault
theorem vX2_readLine_L53 {l : Launch} {D : va_G} {cy : Nat → ClassId} {av : List Value} {ws0 : va_W} {Q : Option Value → va_W → Prop} (F : Nat) (tA : Nat) (t_namesV : Value) (t_kindsV : Value) (t_kinV : Value) (t_stopsV : Value) (t_roundsV : Value) (t_folks : Int32) (t_pairs : Int32) (t_rope : Int32) (t_ropeTold : Int32) (t_lawV : Value) (t_takenV : Value) (p1A : Nat) (p1_signsV : Value) (p1_size : Int32) (p1_count : Int32) (p1_tokensA : Nat) (p1_tokensN : Nat) (p1_tokens : Nat → Int32) (p1_startsA : Nat) (p1_startsN : Nat) (p1_starts : Nat → Int32) (p1_valuesA : Nat) (p1_valuesN : Nat) (p1_values : Nat → Int64)  (t_line : Int32) (t_lineTold : Int32) (p1_here : Int32) (p1_fault : Int32) (R : Int32 × (Int32) × (Int32) × (Int32) × (Int32)) (h : bX2_readLine_L53 F p1_size p1_count p1_tokensN p1_tokens p1_startsN p1_starts p1_valuesN p1_values  t_line t_lineTold p1_here p1_fault = some R) (hQ : Q (some (.int R.1)) (wX2_readLine cy tA t_namesV t_kindsV t_kinV t_stopsV t_roundsV t_folks t_pairs R.2.1 t_rope R.2.2.1 t_ropeTold t_lawV t_takenV p1A p1_signsV p1_size p1_count R.2.2.2.1 R.2.2.2.2 p1_tokensA p1_tokensN p1_tokens p1_startsA p1_startsN p1_starts p1_valuesA p1_valuesN p1_values)) : V l D cy MX2_readLine 3 0 0 av ws0 Q 53 [] [] (wX2_readLine cy tA t_namesV t_kindsV t_kinV t_stopsV t_roundsV t_folks t_pairs t_line t_rope t_lineTold t_ropeTold t_lawV t_takenV p1A p1_signsV p1_size p1_count p1_here p1_fault p1_tokensA p1_tokensN p1_tokens p1_startsA p1_startsN p1_starts p1_valuesA p1_valuesN p1_values) 0 0 := by
  unfold bX2_readLine_L53 at h
  refine V.iconst (v := (0 : Int32)) dX2_readLine_53 (by decide) ?_
  exact vX2_readLine_L54 _ _ _ _ _ _ _ _ _ _ _ _ _ _ _ _ _ _ _ _ _ _ _ _ _ _   _ _ _ _ _ R h hQ
noncomputable def fX2_readLine (F : Nat) (p1_size : Int32) (p1_count : Int32) (p1_tokensN : Nat) (p1_tokens : Nat → Int32) (p1_startsN : Nat) (p1_starts : Nat → Int32) (p1_valuesN : Nat) (p1_values : Nat → Int64) (t_line : Int32) (t_lineTold : Int32) (p1_here : Int32) (p1_fault : Int32) : Option (Int32 × (Int32) × (Int32) × (Int32) × (Int32)) :=
  if t_lineTold = 0 then ((fX9_step F p1_count p1_here).bind fun R14 => ((fX2_readNumber F p1_size p1_count p1_tokensN p1_tokens p1_startsN p1_starts p1_valuesN p1_values (1 : Int32) (24 : Int32) R14 p1_fault).bind fun R21 => (if R21.1 = (-1 : Int32) then (bX2_readLine_L53 F p1_size p1_count p1_tokensN p1_tokens p1_startsN p1_starts p1_valuesN p1_values R21.1 (1 : Int32) R21.2.1 R21.2.2) else ((fX9_expect F p1_size p1_count p1_tokensN p1_tokens p1_startsN p1_starts (59 : Int32) R21.2.1 R21.2.2).bind fun R43 => (if R43.1 = 0 then (bX2_readLine_L53 F p1_size p1_count p1_tokensN p1_tokens p1_startsN p1_starts p1_valuesN p1_values R21.1 (1 : Int32) R43.2.1 R43.2.2) else (bX2_readLine_L54 F p1_size p1_count p1_tokensN p1_tokens p1_startsN p1_starts p1_valuesN p1_values (1 : Int32) R21.1 (1 : Int32) R43.2.1 R43.2.2)))))) else ((fX9_wrong F p1_size p1_count p1_here p1_startsN p1_starts (3 : Int32) p1_fault).bind fun R9 => (if R9.1 = 0 ∨ R9.1 = 1 then some (R9.1, t_line, t_lineTold, p1_here, R9.2) else none))
theorem CX2_readLine {l : Launch} {D : va_G} {cy : Nat → ClassId} (F : Nat) (tA : Nat) (t_namesV : Value) (t_kindsV : Value) (t_kinV : Value) (t_stopsV : Value) (t_roundsV : Value) (t_folks : Int32) (t_pairs : Int32) (t_line : Int32) (t_rope : Int32) (t_lineTold : Int32) (t_ropeTold : Int32) (t_lawV : Value) (t_takenV : Value) (p1A : Nat) (p1_signsV : Value) (p1_size : Int32) (p1_count : Int32) (p1_here : Int32) (p1_fault : Int32) (p1_tokensA : Nat) (p1_tokensN : Nat) (p1_tokens : Nat → Int32) (p1_startsA : Nat) (p1_startsN : Nat) (p1_starts : Nat → Int32) (p1_valuesA : Nat) (p1_valuesN : Nat) (p1_values : Nat → Int64) (R : Int32 × (Int32) × (Int32) × (Int32) × (Int32)) (h : fX2_readLine F p1_size p1_count p1_tokensN p1_tokens p1_startsN p1_starts p1_valuesN p1_values t_line t_lineTold p1_here p1_fault = some R) : vMet l D cy MX2_readLine 3 0 0 [.ref tA, .ref p1A] (wX2_readLine cy tA t_namesV t_kindsV t_kinV t_stopsV t_roundsV t_folks t_pairs t_line t_rope t_lineTold t_ropeTold t_lawV t_takenV p1A p1_signsV p1_size p1_count p1_here p1_fault p1_tokensA p1_tokensN p1_tokens p1_startsA p1_startsN p1_starts p1_valuesA p1_valuesN p1_values) (fun (r : Option Value) (w : va_W) => r = (some (.int R.1)) ∧ w = (wX2_readLine cy tA t_namesV t_kindsV t_kinV t_stopsV t_roundsV t_folks t_pairs R.2.1 t_rope R.2.2.1 t_ropeTold t_lawV t_takenV p1A p1_signsV p1_size p1_count R.2.2.2.1 R.2.2.2.2 p1_tokensA p1_tokensN p1_tokens p1_startsA p1_startsN p1_starts p1_valuesA p1_valuesN p1_values)) := by
  refine vMet.start (by decide +kernel) (Nat.le_of_ble_eq_true rfl) ?_
  generalize hQe : (fun (r : Option Value) (w : va_W) => r = (some (.int R.1)) ∧ w = (wX2_readLine cy tA t_namesV t_kindsV t_kinV t_stopsV t_roundsV t_folks t_pairs R.2.1 t_rope R.2.2.1 t_ropeTold t_lawV t_takenV p1A p1_signsV p1_size p1_count R.2.2.2.1 R.2.2.2.2 p1_tokensA p1_tokensN p1_tokens p1_startsA p1_startsN p1_starts p1_valuesA p1_valuesN p1_values)) = Q
  have hQ : Q (some (.int R.1)) (wX2_readLine cy tA t_namesV t_kindsV t_kinV t_stopsV t_roundsV t_folks t_pairs R.2.1 t_rope R.2.2.1 t_ropeTold t_lawV t_takenV p1A p1_signsV p1_size p1_count R.2.2.2.1 R.2.2.2.2 p1_tokensA p1_tokensN p1_tokens p1_startsA p1_startsN p1_starts p1_valuesA p1_valuesN p1_values) := by rw [← hQe]; exact ⟨rfl, rfl⟩
  show V l D cy MX2_readLine 3 0 0 _ _ Q 0 [(0, .ref tA), (1, .ref p1A)] [] _ 0 0
  show V l D cy MX2_readLine 3 0 0 [.ref tA, .ref p1A] _ Q 0 [(0, .ref tA), (1, .ref p1A)] [] (wX2_readLine cy tA t_namesV t_kindsV t_kinV t_stopsV t_roundsV t_folks t_pairs t_line t_rope t_lineTold t_ropeTold t_lawV t_takenV p1A p1_signsV p1_size p1_count p1_here p1_fault p1_tokensA p1_tokensN p1_tokens p1_startsA p1_startsN p1_starts p1_valuesA p1_valuesN p1_values) 0 0
  unfold fX2_readLine at h
  refine V.aload_n dX2_readLine_0 rfl 0 rfl ?_
  refine V.get kfX2 0 rfl rfl 9 (by decide) klX2_60 rfl dX2_readLine_1 ?_
  refine V.if_eq (tgt := 13) dX2_readLine_4 (by decide) (fun hc4 => ?_) (fun hc4 => ?_)
  · replace h := (if_pos hc4).symm.trans h
    refine V.aload_n dX2_readLine_13 rfl 1 rfl ?_
    obtain ⟨R14, hg14, h⟩ := Option.bind_eq_some_iff.mp h
    refine V.callV (As := []) (rest := []) (wc := (wX9_step cy p1A p1_signsV p1_size (.ref p1_tokensA) (.ref p1_startsA) (.ref p1_valuesA) p1_count p1_here p1_fault)) (wr := [(tA, .inr (2, [t_namesV, t_kindsV, t_kinV, t_stopsV, t_roundsV, .int t_folks, .int t_pairs, .int t_line, .int t_rope, .int t_lineTold, .int t_ropeTold, t_lawV, t_takenV])), (p1_tokensA, .inl (cy 1, p1_tokensN, .inl p1_tokens)), (p1_startsA, .inl (cy 1, p1_startsN, .inl p1_starts)), (p1_valuesA, .inl (cy 2, p1_valuesN, .inr (.inl p1_values)))]) (q0 := 1) (CX9_step F p1A p1_signsV p1_size (.ref p1_tokensA) (.ref p1_startsA) (.ref p1_valuesA) p1_count p1_here p1_fault R14 hg14) kvX9_step klX2_147 [1] [0, 2, 3, 4] rfl rfl (by decide) (by decide) (by decide) rfl rfl rfl rfl dX2_readLine_14 ⟨by decide, by decide, by decide, by decide⟩ (Nat.le_of_ble_eq_true rfl) (fun r w1 hq => ?_)
    obtain ⟨rfl, rfl⟩ := hq
    refine V.cells (ws' := (wX2_readLine cy tA t_namesV t_kindsV t_kinV t_stopsV t_roundsV t_folks t_pairs t_line t_rope t_lineTold t_ropeTold t_lawV t_takenV p1A p1_signsV p1_size p1_count R14 p1_fault p1_tokensA p1_tokensN p1_tokens p1_startsA p1_startsN p1_starts p1_valuesA p1_valuesN p1_values)) [0, 4, 1, 2, 3] (by decide) rfl ?_
    show V l D cy MX2_readLine 3 0 0 _ _ _ 17 [(0, .ref tA), (1, .ref p1A)] [] (wX2_readLine cy tA t_namesV t_kindsV t_kinV t_stopsV t_roundsV t_folks t_pairs t_line t_rope t_lineTold t_ropeTold t_lawV t_takenV p1A p1_signsV p1_size p1_count R14 p1_fault p1_tokensA p1_tokensN p1_tokens p1_startsA p1_startsN p1_starts p1_valuesA p1_valuesN p1_values) 0 0
    refine V.aload_n dX2_readLine_17 rfl 1 rfl ?_
    refine V.iconst (v := (1 : Int32)) dX2_readLine_18 (by decide) ?_
    refine V.bipush (v := (24 : Int32)) dX2_readLine_19 (by decide) ?_
    obtain ⟨R21, hg21, h⟩ := Option.bind_eq_some_iff.mp h
    refine V.callS (As := [.ref p1A, .int (1 : Int32), .int (24 : Int32)]) (rest := []) (wc := (wX2_readNumber cy p1A p1_signsV p1_size p1_count R14 p1_fault p1_tokensA p1_tokensN p1_tokens p1_startsA p1_startsN p1_starts p1_valuesA p1_valuesN p1_values)) (wr := [(tA, .inr (2, [t_namesV, t_kindsV, t_kinV, t_stopsV, t_roundsV, .int t_folks, .int t_pairs, .int t_line, .int t_rope, .int t_lineTold, .int t_ropeTold, t_lawV, t_takenV]))]) (CX2_readNumber F p1A p1_signsV p1_size p1_count R14 p1_fault p1_tokensA p1_tokensN p1_tokens p1_startsA p1_startsN p1_starts p1_valuesA p1_valuesN p1_values (1 : Int32) (24 : Int32) R21 hg21) kvX2_readNumber klX2_171 [1, 2, 3, 4] [0] rfl rfl (by decide) (by decide) (by decide) rfl dX2_readLine_21 ⟨by decide, by decide, by decide, by decide⟩ (Nat.le_of_ble_eq_true rfl) (fun r w1 hq => ?_)
    obtain ⟨rfl, rfl⟩ := hq
    refine V.cells (ws' := (wX2_readLine cy tA t_namesV t_kindsV t_kinV t_stopsV t_roundsV t_folks t_pairs t_line t_rope t_lineTold t_ropeTold t_lawV t_takenV p1A p1_signsV p1_size p1_count R21.2.1 R21.2.2 p1_tokensA p1_tokensN p1_tokens p1_startsA p1_startsN p1_starts p1_valuesA p1_valuesN p1_values)) [0, 1, 2, 3, 4] (by decide) rfl ?_
    show V l D cy MX2_readLine 3 0 0 _ _ _ 24 [(0, .ref tA), (1, .ref p1A)] [.int R21.1] (wX2_readLine cy tA t_namesV t_kindsV t_kinV t_stopsV t_roundsV t_folks t_pairs t_line t_rope t_lineTold t_ropeTold t_lawV t_takenV p1A p1_signsV p1_size p1_count R21.2.1 R21.2.2 p1_tokensA p1_tokensN p1_tokens p1_startsA p1_startsN p1_starts p1_valuesA p1_valuesN p1_values) 0 0
    refine V.istore_n (lv' := [(2, .int R21.1), (0, .ref tA), (1, .ref p1A)]) dX2_readLine_24 rfl (by decide) rfl ?_
    refine V.aload_n dX2_readLine_25 rfl 1 rfl ?_
    refine V.iconst (v := (1 : Int32)) dX2_readLine_26 (by decide) ?_
    refine V.put (ws' := (wX2_readLine cy tA t_namesV t_kindsV t_kinV t_stopsV t_roundsV t_folks t_pairs t_line t_rope (1 : Int32) t_ropeTold t_lawV t_takenV p1A p1_signsV p1_size p1_count R21.2.1 R21.2.2 p1_tokensA p1_tokensN p1_tokens p1_startsA p1_startsN p1_starts p1_valuesA p1_valuesN p1_values)) kfX2 tyX2 tyX2_ok nmX2 0 rfl rfl 9 (by decide) klX2_60 rfl (tyX2_ok 9 (by decide)) rfl rfl (Nat.le_of_ble_eq_true rfl) dX2_readLine_27 rfl ?_
    refine V.aload_n dX2_readLine_30 rfl 1 rfl ?_
    refine V.iload_n dX2_readLine_31 rfl 0 rfl ?_
    refine V.put (ws' := (wX2_readLine cy tA t_namesV t_kindsV t_kinV t_stopsV t_roundsV t_folks t_pairs R21.1 t_rope (1 : Int32) t_ropeTold t_lawV t_takenV p1A p1_signsV p1_size p1_count R21.2.1 R21.2.2 p1_tokensA p1_tokensN p1_tokens p1_startsA p1_startsN p1_starts p1_valuesA p1_valuesN p1_values)) kfX2 tyX2 tyX2_ok nmX2 0 rfl rfl 7 (by decide) klX2_54 rfl (tyX2_ok 7 (by decide)) rfl rfl (Nat.le_of_ble_eq_true rfl) dX2_readLine_32 rfl ?_
    refine V.iload_n dX2_readLine_35 rfl 0 rfl ?_
    refine V.iconst (v := (-1 : Int32)) dX2_readLine_36 (by decide) ?_
    refine V.icmp_eq (tgt := 53) dX2_readLine_37 (by decide) (fun hc37 => ?_) (fun hc37 => ?_)
    · replace h := (if_pos hc37).symm.trans h
      refine V.lvs [] rfl ?_
      exact vX2_readLine_L53 _ _ _ _ _ _ _ _ _ _ _ _ _ _ _ _ _ _ _ _ _ _ _ _ _ _   _ _ _ _ R h hQ
    · replace h := (if_neg hc37).symm.trans h
      refine V.aload_n dX2_readLine_40 rfl 2 rfl ?_
      refine V.bipush (v := (59 : Int32)) dX2_readLine_41 (by decide) ?_
      obtain ⟨R43, hg43, h⟩ := Option.bind_eq_some_iff.mp h
      refine V.callV (As := [.int (59 : Int32)]) (rest := []) (wc := (wX9_expect cy p1A p1_signsV p1_size (.ref p1_valuesA) p1_count R21.2.1 R21.2.2 p1_tokensA p1_tokensN p1_tokens p1_startsA p1_startsN p1_starts)) (wr := [(tA, .inr (2, [t_namesV, t_kindsV, t_kinV, t_stopsV, t_roundsV, .int t_folks, .int t_pairs, .int R21.1, .int t_rope, .int (1 : Int32), .int t_ropeTold, t_lawV, t_takenV])), (p1_valuesA, .inl (cy 2, p1_valuesN, .inr (.inl p1_values)))]) (q0 := 1) (CX9_expect F p1A p1_signsV p1_size (.ref p1_valuesA) p1_count R21.2.1 R21.2.2 p1_tokensA p1_tokensN p1_tokens p1_startsA p1_startsN p1_starts (59 : Int32) R43 hg43) kvX9_expect klX2_164 [1, 2, 3] [0, 4] rfl rfl (by decide) (by decide) (by decide) rfl rfl rfl rfl dX2_readLine_43 ⟨by decide, by decide, by decide, by decide⟩ (Nat.le_of_ble_eq_true rfl) (fun r w1 hq => ?_)
      obtain ⟨rfl, rfl⟩ := hq
      refine V.cells (ws' := (wX2_readLine cy tA t_namesV t_kindsV t_kinV t_stopsV t_roundsV t_folks t_pairs R21.1 t_rope (1 : Int32) t_ropeTold t_lawV t_takenV p1A p1_signsV p1_size p1_count R43.2.1 R43.2.2 p1_tokensA p1_tokensN p1_tokens p1_startsA p1_startsN p1_starts p1_valuesA p1_valuesN p1_values)) [0, 2, 3, 4, 1] (by decide) rfl ?_
      show V l D cy MX2_readLine 3 0 0 _ _ _ 46 [(2, .int R21.1), (0, .ref tA), (1, .ref p1A)] [.int R43.1] (wX2_readLine cy tA t_namesV t_kindsV t_kinV t_stopsV t_roundsV t_folks t_pairs R21.1 t_rope (1 : Int32) t_ropeTold t_lawV t_takenV p1A p1_signsV p1_size p1_count R43.2.1 R43.2.2 p1_tokensA p1_tokensN p1_tokens p1_startsA p1_startsN p1_starts p1_valuesA p1_valuesN p1_values) 0 0
      refine V.if_eq (tgt := 53) dX2_readLine_46 (by decide) (fun hc46 => ?_) (fun hc46 => ?_)
      · replace h := (if_pos hc46).symm.trans h
        refine V.lvs [] rfl ?_
        exact vX2_readLine_L53 _ _ _ _ _ _ _ _ _ _ _ _ _ _ _ _ _ _ _ _ _ _ _ _ _ _   _ _ _ _ R h hQ
      · replace h := (if_neg hc46).symm.trans h
        refine V.iconst (v := (1 : Int32)) dX2_readLine_49 (by decide) ?_
        refine V.goto (tgt := 54) dX2_readLine_50 (by decide) ?_
        refine V.lvs [] rfl ?_
        exact vX2_readLine_L54 _ _ _ _ _ _ _ _ _ _ _ _ _ _ _ _ _ _ _ _ _ _ _ _ _ _   _ _ _ _ _ R h hQ
  · replace h := (if_neg hc4).symm.trans h
    refine V.aload_n dX2_readLine_7 rfl 1 rfl ?_
    refine V.iconst (v := (3 : Int32)) dX2_readLine_8 (by decide) ?_
    obtain ⟨R9, hg9, h⟩ := Option.bind_eq_some_iff.mp h
    refine V.callV (As := [.int (3 : Int32)]) (rest := []) (wc := (wX9_wrong cy p1A p1_signsV p1_size (.ref p1_tokensA) (.ref p1_valuesA) p1_count p1_here p1_fault p1_startsA p1_startsN p1_starts)) (wr := [(tA, .inr (2, [t_namesV, t_kindsV, t_kinV, t_stopsV, t_roundsV, .int t_folks, .int t_pairs, .int t_line, .int t_rope, .int t_lineTold, .int t_ropeTold, t_lawV, t_takenV])), (p1_tokensA, .inl (cy 1, p1_tokensN, .inl p1_tokens)), (p1_valuesA, .inl (cy 2, p1_valuesN, .inr (.inl p1_values)))]) (q0 := 1) (CX9_wrong F p1A p1_signsV p1_size (.ref p1_tokensA) (.ref p1_valuesA) p1_count p1_here p1_fault p1_startsA p1_startsN p1_starts (3 : Int32) R9 hg9) kvX9_wrong klX2_144 [1, 3] [0, 2, 4] rfl rfl (by decide) (by decide) (by decide) rfl rfl rfl rfl dX2_readLine_9 ⟨by decide, by decide, by decide, by decide⟩ (Nat.le_of_ble_eq_true rfl) (fun r w1 hq => ?_)
    obtain ⟨rfl, rfl⟩ := hq
    refine V.cells (ws' := (wX2_readLine cy tA t_namesV t_kindsV t_kinV t_stopsV t_roundsV t_folks t_pairs t_line t_rope t_lineTold t_ropeTold t_lawV t_takenV p1A p1_signsV p1_size p1_count p1_here R9.2 p1_tokensA p1_tokensN p1_tokens p1_startsA p1_startsN p1_starts p1_valuesA p1_valuesN p1_values)) [0, 3, 1, 4, 2] (by decide) rfl ?_
    show V l D cy MX2_readLine 3 0 0 _ _ _ 12 [(0, .ref tA), (1, .ref p1A)] [.int R9.1] (wX2_readLine cy tA t_namesV t_kindsV t_kinV t_stopsV t_roundsV t_folks t_pairs t_line t_rope t_lineTold t_ropeTold t_lawV t_takenV p1A p1_signsV p1_size p1_count p1_here R9.2 p1_tokensA p1_tokensN p1_tokens p1_startsA p1_startsN p1_starts p1_valuesA p1_valuesN p1_values) 0 0
    by_cases hz12 : R9.1 = 0 ∨ R9.1 = 1
    case neg => exact vNone ((if_neg hz12).symm.trans h)
    replace h := (if_pos hz12).symm.trans h
    have e9 := Option.some.inj h; subst e9
    exact V.iret (ty := .boolean) rfl (vBool hz12).1 dX2_readLine_12 (Nat.le_refl _) (Nat.le_refl _) hQ
theorem dX2_readRope_0 : decode cX2_readRope 0 = .ok (.aload_n 0, 1) := by decide +kernel
theorem dX2_readRope_1 : decode cX2_readRope 1 = .ok (.getfield 64, 3) := by decide +kernel
theorem dX2_readRope_4 : decode cX2_readRope 4 = .ok (.ifCond .eq 9, 3) := by decide +kernel
theorem dX2_readRope_7 : decode cX2_readRope 7 = .ok (.aload_n 1, 1) := by decide +kernel
theorem dX2_readRope_8 : decode cX2_readRope 8 = .ok (.iconst 3, 1) := by decide +kernel
theorem dX2_readRope_9 : decode cX2_readRope 9 = .ok (.invokevirtual 144, 3) := by decide +kernel
theorem dX2_readRope_12 : decode cX2_readRope 12 = .ok (.ireturn, 1) := by decide +kernel
theorem dX2_readRope_13 : decode cX2_readRope 13 = .ok (.aload_n 1, 1) := by decide +kernel
theorem dX2_readRope_14 : decode cX2_readRope 14 = .ok (.invokevirtual 147, 3) := by decide +kernel
theorem dX2_readRope_17 : decode cX2_readRope 17 = .ok (.aload_n 1, 1) := by decide +kernel
theorem dX2_readRope_18 : decode cX2_readRope 18 = .ok (.iconst 0, 1) := by decide +kernel
theorem dX2_readRope_19 : decode cX2_readRope 19 = .ok (.sipush 999, 3) := by decide +kernel
theorem dX2_readRope_22 : decode cX2_readRope 22 = .ok (.invokestatic 171, 3) := by decide +kernel
theorem dX2_readRope_25 : decode cX2_readRope 25 = .ok (.istore_n 2, 1) := by decide +kernel
theorem dX2_readRope_26 : decode cX2_readRope 26 = .ok (.aload_n 0, 1) := by decide +kernel
theorem dX2_readRope_27 : decode cX2_readRope 27 = .ok (.iconst 1, 1) := by decide +kernel
theorem dX2_readRope_28 : decode cX2_readRope 28 = .ok (.putfield 64, 3) := by decide +kernel
theorem dX2_readRope_31 : decode cX2_readRope 31 = .ok (.aload_n 0, 1) := by decide +kernel
theorem dX2_readRope_32 : decode cX2_readRope 32 = .ok (.iload_n 2, 1) := by decide +kernel
theorem dX2_readRope_33 : decode cX2_readRope 33 = .ok (.putfield 57, 3) := by decide +kernel
theorem dX2_readRope_36 : decode cX2_readRope 36 = .ok (.iload_n 2, 1) := by decide +kernel
theorem dX2_readRope_37 : decode cX2_readRope 37 = .ok (.iconst (-1), 1) := by decide +kernel
theorem dX2_readRope_38 : decode cX2_readRope 38 = .ok (.if_icmp .eq 16, 3) := by decide +kernel
theorem dX2_readRope_41 : decode cX2_readRope 41 = .ok (.aload_n 1, 1) := by decide +kernel
theorem dX2_readRope_42 : decode cX2_readRope 42 = .ok (.bipush 59, 2) := by decide +kernel
theorem dX2_readRope_44 : decode cX2_readRope 44 = .ok (.invokevirtual 164, 3) := by decide +kernel
theorem dX2_readRope_47 : decode cX2_readRope 47 = .ok (.ifCond .eq 7, 3) := by decide +kernel
theorem dX2_readRope_50 : decode cX2_readRope 50 = .ok (.iconst 1, 1) := by decide +kernel
theorem dX2_readRope_51 : decode cX2_readRope 51 = .ok (.goto 4, 3) := by decide +kernel
theorem dX2_readRope_54 : decode cX2_readRope 54 = .ok (.iconst 0, 1) := by decide +kernel
theorem dX2_readRope_55 : decode cX2_readRope 55 = .ok (.ireturn, 1) := by decide +kernel
def wX2_readRope (cy : Nat → ClassId) (tA : Nat) (t_namesV : Value) (t_kindsV : Value) (t_kinV : Value) (t_stopsV : Value) (t_roundsV : Value) (t_folks : Int32) (t_pairs : Int32) (t_line : Int32) (t_rope : Int32) (t_lineTold : Int32) (t_ropeTold : Int32) (t_lawV : Value) (t_takenV : Value) (p1A : Nat) (p1_signsV : Value) (p1_size : Int32) (p1_count : Int32) (p1_here : Int32) (p1_fault : Int32) (p1_tokensA : Nat) (p1_tokensN : Nat) (p1_tokens : Nat → Int32) (p1_startsA : Nat) (p1_startsN : Nat) (p1_starts : Nat → Int32) (p1_valuesA : Nat) (p1_valuesN : Nat) (p1_values : Nat → Int64) : va_W :=
  [(tA, .inr (2, [t_namesV, t_kindsV, t_kinV, t_stopsV, t_roundsV, .int t_folks, .int t_pairs, .int t_line, .int t_rope, .int t_lineTold, .int t_ropeTold, t_lawV, t_takenV])), (p1A, .inr (9, [p1_signsV, .int p1_size, .ref p1_tokensA, .ref p1_startsA, .ref p1_valuesA, .int p1_count, .int p1_here, .int p1_fault])), (p1_tokensA, .inl (cy 1, p1_tokensN, .inl p1_tokens)), (p1_startsA, .inl (cy 1, p1_startsN, .inl p1_starts)), (p1_valuesA, .inl (cy 2, p1_valuesN, .inr (.inl p1_values)))]
noncomputable def bX2_readRope_L55 (F : Nat) (p1_size : Int32) (p1_count : Int32) (p1_tokensN : Nat) (p1_tokens : Nat → Int32) (p1_startsN : Nat) (p1_starts : Nat → Int32) (p1_valuesN : Nat) (p1_values : Nat → Int64)  (s0 : Int32) (t_rope : Int32) (t_ropeTold : Int32) (p1_here : Int32) (p1_fault : Int32) : Option (Int32 × (Int32) × (Int32) × (Int32) × (Int32)) :=
  if s0 = 0 ∨ s0 = 1 then some (s0, t_rope, t_ropeTold, p1_here, p1_fault) else none
theorem vX2_readRope_L55 {l : Launch} {D : va_G} {cy : Nat → ClassId} {av : List Value} {ws0 : va_W} {Q : Option Value → va_W → Prop} (F : Nat) (tA : Nat) (t_namesV : Value) (t_kindsV : Value) (t_kinV : Value) (t_stopsV : Value) (t_roundsV : Value) (t_folks : Int32) (t_pairs : Int32) (t_line : Int32) (t_lineTold : Int32) (t_lawV : Value) (t_takenV : Value) (p1A : Nat) (p1_signsV : Value) (p1_size : Int32) (p1_count : Int32) (p1_tokensA : Nat) (p1_tokensN : Nat) (p1_tokens : Nat → Int32) (p1_startsA : Nat) (p1_startsN : Nat) (p1_starts : Nat → Int32) (p1_valuesA : Nat) (p1_valuesN : Nat) (p1_values : Nat → Int64)  (s0 : Int32) (t_rope : Int32) (t_ropeTold : Int32) (p1_here : Int32) (p1_fault : Int32) (R : Int32 × (Int32) × (Int32) × (Int32) × (Int32)) (h : bX2_readRope_L55 F p1_size p1_count p1_tokensN p1_tokens p1_startsN p1_starts p1_valuesN p1_values  s0 t_rope t_ropeTold p1_here p1_fault = some R) (hQ : Q (some (.int R.1)) (wX2_readRope cy tA t_namesV t_kindsV t_kinV t_stopsV t_roundsV t_folks t_pairs t_line R.2.1 t_lineTold R.2.2.1 t_lawV t_takenV p1A p1_signsV p1_size p1_count R.2.2.2.1 R.2.2.2.2 p1_tokensA p1_tokensN p1_tokens p1_startsA p1_startsN p1_starts p1_valuesA p1_valuesN p1_values)) : V l D cy MX2_readRope 3 0 0 av ws0 Q 55 [] [.int s0] (wX2_readRope cy tA t_namesV t_kindsV t_kinV t_stopsV t_roundsV t_folks t_pairs t_line t_rope t_lineTold t_ropeTold t_lawV t_takenV p1A p1_signsV p1_size p1_count p1_here p1_fault p1_tokensA p1_tokensN p1_tokens p1_startsA p1_startsN p1_starts p1_valuesA p1_valuesN p1_values) 0 0 := by
  unfold bX2_readRope_L55 at h
  by_cases hz55 : s0 = 0 ∨ s0 = 1
  case neg => exact vNone ((if_neg hz55).symm.trans h)
  replace h := (if_pos hz55).symm.trans h
  have e9 := Option.some.inj h; subst e9
  exact V.iret (ty := .boolean) rfl (vBool hz55).1 dX2_readRope_55 (Nat.le_refl _) (Nat.le_refl _) hQ
noncomputable def bX2_readRope_L54 (F : Nat) (p1_size : Int32) (p1_count : Int32) (p1_tokensN : Nat) (p1_tokens : Nat → Int32) (p1_startsN : Nat) (p1_starts : Nat → Int32) (p1_valuesN : Nat) (p1_values : Nat → Int64)  (t_rope : Int32) (t_ropeTold : Int32) (p1_here : Int32) (p1_fault : Int32) : Option (Int32 × (Int32) × (Int32) × (Int32) × (Int32)) :=
  bX2_readRope_L55 F p1_size p1_count p1_tokensN p1_tokens p1_startsN p1_starts p1_valuesN p1_values (0 : Int32) t_rope t_ropeTold p1_here p1_fault
theorem vX2_readRope_L54 {l : Launch} {D : va_G} {cy : Nat → ClassId} {av : List Value} {ws0 : va_W} {Q : Option Value → va_W → Prop} (F : Nat) (tA : Nat) (t_namesV : Value) (t_kindsV : Value) (t_kinV : Value) (t_stopsV : Value) (t_roundsV : Value) (t_folks : Int32) (t_pairs : Int32) (t_line : Int32) (t_lineTold : Int32) (t_lawV : Value) (t_takenV : Value) (p1A : Nat) (p1_signsV : Value) (p1_size : Int32) (p1_count : Int32) (p1_tokensA : Nat) (p1_tokensN : Nat) (p1_tokens : Nat → Int32) (p1_startsA : Nat) (p1_startsN : Nat) (p1_starts : Nat → Int32) (p1_valuesA : Nat) (p1_valuesN : Nat) (p1_values : Nat → Int64)  (t_rope : Int32) (t_ropeTold : Int32) (p1_here : Int32) (p1_fault : Int32) (R : Int32 × (Int32) × (Int32) × (Int32) × (Int32)) (h : bX2_readRope_L54 F p1_size p1_count p1_tokensN p1_tokens p1_startsN p1_starts p1_valuesN p1_values  t_rope t_ropeTold p1_here p1_fault = some R) (hQ : Q (some (.int R.1)) (wX2_readRope cy tA t_namesV t_kindsV t_kinV t_stopsV t_roundsV t_folks t_pairs t_line R.2.1 t_lineTold R.2.2.1 t_lawV t_takenV p1A p1_signsV p1_size p1_count R.2.2.2.1 R.2.2.2.2 p1_tokensA p1_tokensN p1_tokens p1_startsA p1_startsN p1_starts p1_valuesA p1_valuesN p1_values)) : V l D cy MX2_readRope 3 0 0 av ws0 Q 54 [] [] (wX2_readRope cy tA t_namesV t_kindsV t_kinV t_stopsV t_roundsV t_folks t_pairs t_line t_rope t_lineTold t_ropeTold t_lawV t_takenV p1A p1_signsV p1_size p1_count p1_here p1_fault p1_tokensA p1_tokensN p1_tokens p1_startsA p1_startsN p1_starts p1_valuesA p1_valuesN p1_values) 0 0 := by
  unfold bX2_readRope_L54 at h
  refine V.iconst (v := (0 : Int32)) dX2_readRope_54 (by decide) ?_
  exact vX2_readRope_L55 _ _ _ _ _ _ _ _ _ _ _ _ _ _ _ _ _ _ _ _ _ _ _ _ _ _   _ _ _ _ _ R h hQ
noncomputable def fX2_readRope (F : Nat) (p1_size : Int32) (p1_count : Int32) (p1_tokensN : Nat) (p1_tokens : Nat → Int32) (p1_startsN : Nat) (p1_starts : Nat → Int32) (p1_valuesN : Nat) (p1_values : Nat → Int64) (t_rope : Int32) (t_ropeTold : Int32) (p1_here : Int32) (p1_fault : Int32) : Option (Int32 × (Int32) × (Int32) × (Int32) × (Int32)) :=
  if t_ropeTold = 0 then ((fX9_step F p1_count p1_here).bind fun R14 => ((fX2_readNumber F p1_size p1_count p1_tokensN p1_tokens p1_startsN p1_starts p1_valuesN p1_values (0 : Int32) (999 : Int32) R14 p1_fault).bind fun R22 => (if R22.1 = (-1 : Int32) then (bX2_readRope_L54 F p1_size p1_count p1_tokensN p1_tokens p1_startsN p1_starts p1_valuesN p1_values R22.1 (1 : Int32) R22.2.1 R22.2.2) else ((fX9_expect F p1_size p1_count p1_tokensN p1_tokens p1_startsN p1_starts (59 : Int32) R22.2.1 R22.2.2).bind fun R44 => (if R44.1 = 0 then (bX2_readRope_L54 F p1_size p1_count p1_tokensN p1_tokens p1_startsN p1_starts p1_valuesN p1_values R22.1 (1 : Int32) R44.2.1 R44.2.2) else (bX2_readRope_L55 F p1_size p1_count p1_tokensN p1_tokens p1_startsN p1_starts p1_valuesN p1_values (1 : Int32) R22.1 (1 : Int32) R44.2.1 R44.2.2)))))) else ((fX9_wrong F p1_size p1_count p1_here p1_startsN p1_starts (3 : Int32) p1_fault).bind fun R9 => (if R9.1 = 0 ∨ R9.1 = 1 then some (R9.1, t_rope, t_ropeTold, p1_here, R9.2) else none))
theorem CX2_readRope {l : Launch} {D : va_G} {cy : Nat → ClassId} (F : Nat) (tA : Nat) (t_namesV : Value) (t_kindsV : Value) (t_kinV : Value) (t_stopsV : Value) (t_roundsV : Value) (t_folks : Int32) (t_pairs : Int32) (t_line : Int32) (t_rope : Int32) (t_lineTold : Int32) (t_ropeTold : Int32) (t_lawV : Value) (t_takenV : Value) (p1A : Nat) (p1_signsV : Value) (p1_size : Int32) (p1_count : Int32) (p1_here : Int32) (p1_fault : Int32) (p1_tokensA : Nat) (p1_tokensN : Nat) (p1_tokens : Nat → Int32) (p1_startsA : Nat) (p1_startsN : Nat) (p1_starts : Nat → Int32) (p1_valuesA : Nat) (p1_valuesN : Nat) (p1_values : Nat → Int64) (R : Int32 × (Int32) × (Int32) × (Int32) × (Int32)) (h : fX2_readRope F p1_size p1_count p1_tokensN p1_tokens p1_startsN p1_starts p1_valuesN p1_values t_rope t_ropeTold p1_here p1_fault = some R) : vMet l D cy MX2_readRope 3 0 0 [.ref tA, .ref p1A] (wX2_readRope cy tA t_namesV t_kindsV t_kinV t_stopsV t_roundsV t_folks t_pairs t_line t_rope t_lineTold t_ropeTold t_lawV t_takenV p1A p1_signsV p1_size p1_count p1_here p1_fault p1_tokensA p1_tokensN p1_tokens p1_startsA p1_startsN p1_starts p1_valuesA p1_valuesN p1_values) (fun (r : Option Value) (w : va_W) => r = (some (.int R.1)) ∧ w = (wX2_readRope cy tA t_namesV t_kindsV t_kinV t_stopsV t_roundsV t_folks t_pairs t_line R.2.1 t_lineTold R.2.2.1 t_lawV t_takenV p1A p1_signsV p1_size p1_count R.2.2.2.1 R.2.2.2.2 p1_tokensA p1_tokensN p1_tokens p1_startsA p1_startsN p1_starts p1_valuesA p1_valuesN p1_values)) := by
  refine vMet.start (by decide +kernel) (Nat.le_of_ble_eq_true rfl) ?_
  generalize hQe : (fun (r : Option Value) (w : va_W) => r = (some (.int R.1)) ∧ w = (wX2_readRope cy tA t_namesV t_kindsV t_kinV t_stopsV t_roundsV t_folks t_pairs t_line R.2.1 t_lineTold R.2.2.1 t_lawV t_takenV p1A p1_signsV p1_size p1_count R.2.2.2.1 R.2.2.2.2 p1_tokensA p1_tokensN p1_tokens p1_startsA p1_startsN p1_starts p1_valuesA p1_valuesN p1_values)) = Q
  have hQ : Q (some (.int R.1)) (wX2_readRope cy tA t_namesV t_kindsV t_kinV t_stopsV t_roundsV t_folks t_pairs t_line R.2.1 t_lineTold R.2.2.1 t_lawV t_takenV p1A p1_signsV p1_size p1_count R.2.2.2.1 R.2.2.2.2 p1_tokensA p1_tokensN p1_tokens p1_startsA p1_startsN p1_starts p1_valuesA p1_valuesN p1_values) := by rw [← hQe]; exact ⟨rfl, rfl⟩
  show V l D cy MX2_readRope 3 0 0 _ _ Q 0 [(0, .ref tA), (1, .ref p1A)] [] _ 0 0
  show V l D cy MX2_readRope 3 0 0 [.ref tA, .ref p1A] _ Q 0 [(0, .ref tA), (1, .ref p1A)] [] (wX2_readRope cy tA t_namesV t_kindsV t_kinV t_stopsV t_roundsV t_folks t_pairs t_line t_rope t_lineTold t_ropeTold t_lawV t_takenV p1A p1_signsV p1_size p1_count p1_here p1_fault p1_tokensA p1_tokensN p1_tokens p1_startsA p1_startsN p1_starts p1_valuesA p1_valuesN p1_values) 0 0
  unfold fX2_readRope at h
  refine V.aload_n dX2_readRope_0 rfl 0 rfl ?_
  refine V.get kfX2 0 rfl rfl 10 (by decide) klX2_64 rfl dX2_readRope_1 ?_
  refine V.if_eq (tgt := 13) dX2_readRope_4 (by decide) (fun hc4 => ?_) (fun hc4 => ?_)
  · replace h := (if_pos hc4).symm.trans h
    refine V.aload_n dX2_readRope_13 rfl 1 rfl ?_
    obtain ⟨R14, hg14, h⟩ := Option.bind_eq_some_iff.mp h
    refine V.callV (As := []) (rest := []) (wc := (wX9_step cy p1A p1_signsV p1_size (.ref p1_tokensA) (.ref p1_startsA) (.ref p1_valuesA) p1_count p1_here p1_fault)) (wr := [(tA, .inr (2, [t_namesV, t_kindsV, t_kinV, t_stopsV, t_roundsV, .int t_folks, .int t_pairs, .int t_line, .int t_rope, .int t_lineTold, .int t_ropeTold, t_lawV, t_takenV])), (p1_tokensA, .inl (cy 1, p1_tokensN, .inl p1_tokens)), (p1_startsA, .inl (cy 1, p1_startsN, .inl p1_starts)), (p1_valuesA, .inl (cy 2, p1_valuesN, .inr (.inl p1_values)))]) (q0 := 1) (CX9_step F p1A p1_signsV p1_size (.ref p1_tokensA) (.ref p1_startsA) (.ref p1_valuesA) p1_count p1_here p1_fault R14 hg14) kvX9_step klX2_147 [1] [0, 2, 3, 4] rfl rfl (by decide) (by decide) (by decide) rfl rfl rfl rfl dX2_readRope_14 ⟨by decide, by decide, by decide, by decide⟩ (Nat.le_of_ble_eq_true rfl) (fun r w1 hq => ?_)
    obtain ⟨rfl, rfl⟩ := hq
    refine V.cells (ws' := (wX2_readRope cy tA t_namesV t_kindsV t_kinV t_stopsV t_roundsV t_folks t_pairs t_line t_rope t_lineTold t_ropeTold t_lawV t_takenV p1A p1_signsV p1_size p1_count R14 p1_fault p1_tokensA p1_tokensN p1_tokens p1_startsA p1_startsN p1_starts p1_valuesA p1_valuesN p1_values)) [0, 4, 1, 2, 3] (by decide) rfl ?_
    show V l D cy MX2_readRope 3 0 0 _ _ _ 17 [(0, .ref tA), (1, .ref p1A)] [] (wX2_readRope cy tA t_namesV t_kindsV t_kinV t_stopsV t_roundsV t_folks t_pairs t_line t_rope t_lineTold t_ropeTold t_lawV t_takenV p1A p1_signsV p1_size p1_count R14 p1_fault p1_tokensA p1_tokensN p1_tokens p1_startsA p1_startsN p1_starts p1_valuesA p1_valuesN p1_values) 0 0
    refine V.aload_n dX2_readRope_17 rfl 1 rfl ?_
    refine V.iconst (v := (0 : Int32)) dX2_readRope_18 (by decide) ?_
    refine V.sipush (v := (999 : Int32)) dX2_readRope_19 (by decide) ?_
    obtain ⟨R22, hg22, h⟩ := Option.bind_eq_some_iff.mp h
    refine V.callS (As := [.ref p1A, .int (0 : Int32), .int (999 : Int32)]) (rest := []) (wc := (wX2_readNumber cy p1A p1_signsV p1_size p1_count R14 p1_fault p1_tokensA p1_tokensN p1_tokens p1_startsA p1_startsN p1_starts p1_valuesA p1_valuesN p1_values)) (wr := [(tA, .inr (2, [t_namesV, t_kindsV, t_kinV, t_stopsV, t_roundsV, .int t_folks, .int t_pairs, .int t_line, .int t_rope, .int t_lineTold, .int t_ropeTold, t_lawV, t_takenV]))]) (CX2_readNumber F p1A p1_signsV p1_size p1_count R14 p1_fault p1_tokensA p1_tokensN p1_tokens p1_startsA p1_startsN p1_starts p1_valuesA p1_valuesN p1_values (0 : Int32) (999 : Int32) R22 hg22) kvX2_readNumber klX2_171 [1, 2, 3, 4] [0] rfl rfl (by decide) (by decide) (by decide) rfl dX2_readRope_22 ⟨by decide, by decide, by decide, by decide⟩ (Nat.le_of_ble_eq_true rfl) (fun r w1 hq => ?_)
    obtain ⟨rfl, rfl⟩ := hq
    refine V.cells (ws' := (wX2_readRope cy tA t_namesV t_kindsV t_kinV t_stopsV t_roundsV t_folks t_pairs t_line t_rope t_lineTold t_ropeTold t_lawV t_takenV p1A p1_signsV p1_size p1_count R22.2.1 R22.2.2 p1_tokensA p1_tokensN p1_tokens p1_startsA p1_startsN p1_starts p1_valuesA p1_valuesN p1_values)) [0, 1, 2, 3, 4] (by decide) rfl ?_
    show V l D cy MX2_readRope 3 0 0 _ _ _ 25 [(0, .ref tA), (1, .ref p1A)] [.int R22.1] (wX2_readRope cy tA t_namesV t_kindsV t_kinV t_stopsV t_roundsV t_folks t_pairs t_line t_rope t_lineTold t_ropeTold t_lawV t_takenV p1A p1_signsV p1_size p1_count R22.2.1 R22.2.2 p1_tokensA p1_tokensN p1_tokens p1_startsA p1_startsN p1_starts p1_valuesA p1_valuesN p1_values) 0 0
    refine V.istore_n (lv' := [(2, .int R22.1), (0, .ref tA), (1, .ref p1A)]) dX2_readRope_25 rfl (by decide) rfl ?_
    refine V.aload_n dX2_readRope_26 rfl 1 rfl ?_
    refine V.iconst (v := (1 : Int32)) dX2_readRope_27 (by decide) ?_
    refine V.put (ws' := (wX2_readRope cy tA t_namesV t_kindsV t_kinV t_stopsV t_roundsV t_folks t_pairs t_line t_rope t_lineTold (1 : Int32) t_lawV t_takenV p1A p1_signsV p1_size p1_count R22.2.1 R22.2.2 p1_tokensA p1_tokensN p1_tokens p1_startsA p1_startsN p1_starts p1_valuesA p1_valuesN p1_values)) kfX2 tyX2 tyX2_ok nmX2 0 rfl rfl 10 (by decide) klX2_64 rfl (tyX2_ok 10 (by decide)) rfl rfl (Nat.le_of_ble_eq_true rfl) dX2_readRope_28 rfl ?_
    refine V.aload_n dX2_readRope_31 rfl 1 rfl ?_
    refine V.iload_n dX2_readRope_32 rfl 0 rfl ?_
    refine V.put (ws' := (wX2_readRope cy tA t_namesV t_kindsV t_kinV t_stopsV t_roundsV t_folks t_pairs t_line R22.1 t_lineTold (1 : Int32) t_lawV t_takenV p1A p1_signsV p1_size p1_count R22.2.1 R22.2.2 p1_tokensA p1_tokensN p1_tokens p1_startsA p1_startsN p1_starts p1_valuesA p1_valuesN p1_values)) kfX2 tyX2 tyX2_ok nmX2 0 rfl rfl 8 (by decide) klX2_57 rfl (tyX2_ok 8 (by decide)) rfl rfl (Nat.le_of_ble_eq_true rfl) dX2_readRope_33 rfl ?_
    refine V.iload_n dX2_readRope_36 rfl 0 rfl ?_
    refine V.iconst (v := (-1 : Int32)) dX2_readRope_37 (by decide) ?_
    refine V.icmp_eq (tgt := 54) dX2_readRope_38 (by decide) (fun hc38 => ?_) (fun hc38 => ?_)
    · replace h := (if_pos hc38).symm.trans h
      refine V.lvs [] rfl ?_
      exact vX2_readRope_L54 _ _ _ _ _ _ _ _ _ _ _ _ _ _ _ _ _ _ _ _ _ _ _ _ _ _   _ _ _ _ R h hQ
    · replace h := (if_neg hc38).symm.trans h
      refine V.aload_n dX2_readRope_41 rfl 2 rfl ?_
      refine V.bipush (v := (59 : Int32)) dX2_readRope_42 (by decide) ?_
      obtain ⟨R44, hg44, h⟩ := Option.bind_eq_some_iff.mp h
      refine V.callV (As := [.int (59 : Int32)]) (rest := []) (wc := (wX9_expect cy p1A p1_signsV p1_size (.ref p1_valuesA) p1_count R22.2.1 R22.2.2 p1_tokensA p1_tokensN p1_tokens p1_startsA p1_startsN p1_starts)) (wr := [(tA, .inr (2, [t_namesV, t_kindsV, t_kinV, t_stopsV, t_roundsV, .int t_folks, .int t_pairs, .int t_line, .int R22.1, .int t_lineTold, .int (1 : Int32), t_lawV, t_takenV])), (p1_valuesA, .inl (cy 2, p1_valuesN, .inr (.inl p1_values)))]) (q0 := 1) (CX9_expect F p1A p1_signsV p1_size (.ref p1_valuesA) p1_count R22.2.1 R22.2.2 p1_tokensA p1_tokensN p1_tokens p1_startsA p1_startsN p1_starts (59 : Int32) R44 hg44) kvX9_expect klX2_164 [1, 2, 3] [0, 4] rfl rfl (by decide) (by decide) (by decide) rfl rfl rfl rfl dX2_readRope_44 ⟨by decide, by decide, by decide, by decide⟩ (Nat.le_of_ble_eq_true rfl) (fun r w1 hq => ?_)
      obtain ⟨rfl, rfl⟩ := hq
      refine V.cells (ws' := (wX2_readRope cy tA t_namesV t_kindsV t_kinV t_stopsV t_roundsV t_folks t_pairs t_line R22.1 t_lineTold (1 : Int32) t_lawV t_takenV p1A p1_signsV p1_size p1_count R44.2.1 R44.2.2 p1_tokensA p1_tokensN p1_tokens p1_startsA p1_startsN p1_starts p1_valuesA p1_valuesN p1_values)) [0, 2, 3, 4, 1] (by decide) rfl ?_
      show V l D cy MX2_readRope 3 0 0 _ _ _ 47 [(2, .int R22.1), (0, .ref tA), (1, .ref p1A)] [.int R44.1] (wX2_readRope cy tA t_namesV t_kindsV t_kinV t_stopsV t_roundsV t_folks t_pairs t_line R22.1 t_lineTold (1 : Int32) t_lawV t_takenV p1A p1_signsV p1_size p1_count R44.2.1 R44.2.2 p1_tokensA p1_tokensN p1_tokens p1_startsA p1_startsN p1_starts p1_valuesA p1_valuesN p1_values) 0 0
      refine V.if_eq (tgt := 54) dX2_readRope_47 (by decide) (fun hc47 => ?_) (fun hc47 => ?_)
      · replace h := (if_pos hc47).symm.trans h
        refine V.lvs [] rfl ?_
        exact vX2_readRope_L54 _ _ _ _ _ _ _ _ _ _ _ _ _ _ _ _ _ _ _ _ _ _ _ _ _ _   _ _ _ _ R h hQ
      · replace h := (if_neg hc47).symm.trans h
        refine V.iconst (v := (1 : Int32)) dX2_readRope_50 (by decide) ?_
        refine V.goto (tgt := 55) dX2_readRope_51 (by decide) ?_
        refine V.lvs [] rfl ?_
        exact vX2_readRope_L55 _ _ _ _ _ _ _ _ _ _ _ _ _ _ _ _ _ _ _ _ _ _ _ _ _ _   _ _ _ _ _ R h hQ
  · replace h := (if_neg hc4).symm.trans h
    refine V.aload_n dX2_readRope_7 rfl 1 rfl ?_
    refine V.iconst (v := (3 : Int32)) dX2_readRope_8 (by decide) ?_
    obtain ⟨R9, hg9, h⟩ := Option.bind_eq_some_iff.mp h
    refine V.callV (As := [.int (3 : Int32)]) (rest := []) (wc := (wX9_wrong cy p1A p1_signsV p1_size (.ref p1_tokensA) (.ref p1_valuesA) p1_count p1_here p1_fault p1_startsA p1_startsN p1_starts)) (wr := [(tA, .inr (2, [t_namesV, t_kindsV, t_kinV, t_stopsV, t_roundsV, .int t_folks, .int t_pairs, .int t_line, .int t_rope, .int t_lineTold, .int t_ropeTold, t_lawV, t_takenV])), (p1_tokensA, .inl (cy 1, p1_tokensN, .inl p1_tokens)), (p1_valuesA, .inl (cy 2, p1_valuesN, .inr (.inl p1_values)))]) (q0 := 1) (CX9_wrong F p1A p1_signsV p1_size (.ref p1_tokensA) (.ref p1_valuesA) p1_count p1_here p1_fault p1_startsA p1_startsN p1_starts (3 : Int32) R9 hg9) kvX9_wrong klX2_144 [1, 3] [0, 2, 4] rfl rfl (by decide) (by decide) (by decide) rfl rfl rfl rfl dX2_readRope_9 ⟨by decide, by decide, by decide, by decide⟩ (Nat.le_of_ble_eq_true rfl) (fun r w1 hq => ?_)
    obtain ⟨rfl, rfl⟩ := hq
    refine V.cells (ws' := (wX2_readRope cy tA t_namesV t_kindsV t_kinV t_stopsV t_roundsV t_folks t_pairs t_line t_rope t_lineTold t_ropeTold t_lawV t_takenV p1A p1_signsV p1_size p1_count p1_here R9.2 p1_tokensA p1_tokensN p1_tokens p1_startsA p1_startsN p1_starts p1_valuesA p1_valuesN p1_values)) [0, 3, 1, 4, 2] (by decide) rfl ?_
    show V l D cy MX2_readRope 3 0 0 _ _ _ 12 [(0, .ref tA), (1, .ref p1A)] [.int R9.1] (wX2_readRope cy tA t_namesV t_kindsV t_kinV t_stopsV t_roundsV t_folks t_pairs t_line t_rope t_lineTold t_ropeTold t_lawV t_takenV p1A p1_signsV p1_size p1_count p1_here R9.2 p1_tokensA p1_tokensN p1_tokens p1_startsA p1_startsN p1_starts p1_valuesA p1_valuesN p1_values) 0 0
    by_cases hz12 : R9.1 = 0 ∨ R9.1 = 1
    case neg => exact vNone ((if_neg hz12).symm.trans h)
    replace h := (if_pos hz12).symm.trans h
    have e9 := Option.some.inj h; subst e9
    exact V.iret (ty := .boolean) rfl (vBool hz12).1 dX2_readRope_12 (Nat.le_refl _) (Nat.le_refl _) hQ
theorem dX2_readTakes_0 : decode cX2_readTakes 0 = .ok (.aload_n 0, 1) := by decide +kernel
theorem dX2_readTakes_1 : decode cX2_readTakes 1 = .ok (.getfield 31, 3) := by decide +kernel
theorem dX2_readTakes_4 : decode cX2_readTakes 4 = .ok (.invokevirtual 97, 3) := by decide +kernel
theorem dX2_readTakes_7 : decode cX2_readTakes 7 = .ok (.ifCond .eq 9, 3) := by decide +kernel
theorem dX2_readTakes_10 : decode cX2_readTakes 10 = .ok (.aload_n 1, 1) := by decide +kernel
theorem dX2_readTakes_11 : decode cX2_readTakes 11 = .ok (.iconst 3, 1) := by decide +kernel
theorem dX2_readTakes_12 : decode cX2_readTakes 12 = .ok (.invokevirtual 144, 3) := by decide +kernel
theorem dX2_readTakes_15 : decode cX2_readTakes 15 = .ok (.ireturn, 1) := by decide +kernel
theorem dX2_readTakes_16 : decode cX2_readTakes 16 = .ok (.aload_n 1, 1) := by decide +kernel
theorem dX2_readTakes_17 : decode cX2_readTakes 17 = .ok (.invokevirtual 147, 3) := by decide +kernel
theorem dX2_readTakes_20 : decode cX2_readTakes 20 = .ok (.aload_n 0, 1) := by decide +kernel
theorem dX2_readTakes_21 : decode cX2_readTakes 21 = .ok (.getfield 31, 3) := by decide +kernel
theorem dX2_readTakes_24 : decode cX2_readTakes 24 = .ok (.aload_n 1, 1) := by decide +kernel
theorem dX2_readTakes_25 : decode cX2_readTakes 25 = .ok (.invokevirtual 175, 3) := by decide +kernel
theorem dX2_readTakes_28 : decode cX2_readTakes 28 = .ok (.ifCond .eq 16, 3) := by decide +kernel
theorem dX2_readTakes_31 : decode cX2_readTakes 31 = .ok (.aload_n 1, 1) := by decide +kernel
theorem dX2_readTakes_32 : decode cX2_readTakes 32 = .ok (.bipush 59, 2) := by decide +kernel
theorem dX2_readTakes_34 : decode cX2_readTakes 34 = .ok (.invokevirtual 164, 3) := by decide +kernel
theorem dX2_readTakes_37 : decode cX2_readTakes 37 = .ok (.ifCond .eq 7, 3) := by decide +kernel
theorem dX2_readTakes_40 : decode cX2_readTakes 40 = .ok (.iconst 1, 1) := by decide +kernel
theorem dX2_readTakes_41 : decode cX2_readTakes 41 = .ok (.goto 4, 3) := by decide +kernel
theorem dX2_readTakes_44 : decode cX2_readTakes 44 = .ok (.iconst 0, 1) := by decide +kernel
theorem dX2_readTakes_45 : decode cX2_readTakes 45 = .ok (.ireturn, 1) := by decide +kernel
def wX2_readTakes (cy : Nat → ClassId) (tA : Nat) (t_namesV : Value) (t_kindsV : Value) (t_kinV : Value) (t_stopsV : Value) (t_roundsV : Value) (t_folks : Int32) (t_pairs : Int32) (t_line : Int32) (t_rope : Int32) (t_lineTold : Int32) (t_ropeTold : Int32) (t_takenV : Value) (t_lawA : Nat) (t_law_size : Int32) (t_law_waits : Int32) (t_law_within : Int32) (t_law_brackets : Int32) (t_law_partIsDue : Int32) (t_law_stackV : Value) (t_law_codeA : Nat) (t_law_codeN : Nat) (t_law_code : Nat → Int32) (t_law_waitingA : Nat) (t_law_waitingN : Nat) (t_law_waiting : Nat → Int32) (p1A : Nat) (p1_signsV : Value) (p1_size : Int32) (p1_count : Int32) (p1_here : Int32) (p1_fault : Int32) (p1_tokensA : Nat) (p1_tokensN : Nat) (p1_tokens : Nat → Int32) (p1_startsA : Nat) (p1_startsN : Nat) (p1_starts : Nat → Int32) (p1_valuesA : Nat) (p1_valuesN : Nat) (p1_values : Nat → Int64) : va_W :=
  [(tA, .inr (2, [t_namesV, t_kindsV, t_kinV, t_stopsV, t_roundsV, .int t_folks, .int t_pairs, .int t_line, .int t_rope, .int t_lineTold, .int t_ropeTold, .ref t_lawA, t_takenV])), (t_lawA, .inr (1, [.ref t_law_codeA, .int t_law_size, .ref t_law_waitingA, .int t_law_waits, .int t_law_within, .int t_law_brackets, .int t_law_partIsDue, t_law_stackV])), (t_law_codeA, .inl (cy 1, t_law_codeN, .inl t_law_code)), (t_law_waitingA, .inl (cy 1, t_law_waitingN, .inl t_law_waiting)), (p1A, .inr (9, [p1_signsV, .int p1_size, .ref p1_tokensA, .ref p1_startsA, .ref p1_valuesA, .int p1_count, .int p1_here, .int p1_fault])), (p1_tokensA, .inl (cy 1, p1_tokensN, .inl p1_tokens)), (p1_startsA, .inl (cy 1, p1_startsN, .inl p1_starts)), (p1_valuesA, .inl (cy 2, p1_valuesN, .inr (.inl p1_values)))]
noncomputable def bX2_readTakes_L45 (F : Nat) (t_law_codeN : Nat) (t_law_waitingN : Nat) (p1_size : Int32) (p1_count : Int32) (p1_tokensN : Nat) (p1_tokens : Nat → Int32) (p1_startsN : Nat) (p1_starts : Nat → Int32) (p1_valuesN : Nat) (p1_values : Nat → Int64)  (s0 : Int32) (t_law_size : Int32) (t_law_waits : Int32) (t_law_within : Int32) (t_law_brackets : Int32) (t_law_partIsDue : Int32) (t_law_code : Nat → Int32) (t_law_waiting : Nat → Int32) (p1_here : Int32) (p1_fault : Int32) : Option (Int32 × (Int32) × (Int32) × (Int32) × (Int32) × (Int32) × (Nat → Int32) × (Nat → Int32) × (Int32) × (Int32)) :=
  if s0 = 0 ∨ s0 = 1 then some (s0, t_law_size, t_law_waits, t_law_within, t_law_brackets, t_law_partIsDue, t_law_code, t_law_waiting, p1_here, p1_fault) else none
theorem vX2_readTakes_L45 {l : Launch} {D : va_G} {cy : Nat → ClassId} {av : List Value} {ws0 : va_W} {Q : Option Value → va_W → Prop} (F : Nat) (tA : Nat) (t_namesV : Value) (t_kindsV : Value) (t_kinV : Value) (t_stopsV : Value) (t_roundsV : Value) (t_folks : Int32) (t_pairs : Int32) (t_line : Int32) (t_rope : Int32) (t_lineTold : Int32) (t_ropeTold : Int32) (t_takenV : Value) (t_lawA : Nat) (t_law_stackV : Value) (t_law_codeA : Nat) (t_law_codeN : Nat) (t_law_waitingA : Nat) (t_law_waitingN : Nat) (p1A : Nat) (p1_signsV : Value) (p1_size : Int32) (p1_count : Int32) (p1_tokensA : Nat) (p1_tokensN : Nat) (p1_tokens : Nat → Int32) (p1_startsA : Nat) (p1_startsN : Nat) (p1_starts : Nat → Int32) (p1_valuesA : Nat) (p1_valuesN : Nat) (p1_values : Nat → Int64)  (s0 : Int32) (t_law_size : Int32) (t_law_waits : Int32) (t_law_within : Int32) (t_law_brackets : Int32) (t_law_partIsDue : Int32) (t_law_code : Nat → Int32) (t_law_waiting : Nat → Int32) (p1_here : Int32) (p1_fault : Int32) (R : Int32 × (Int32) × (Int32) × (Int32) × (Int32) × (Int32) × (Nat → Int32) × (Nat → Int32) × (Int32) × (Int32)) (h : bX2_readTakes_L45 F t_law_codeN t_law_waitingN p1_size p1_count p1_tokensN p1_tokens p1_startsN p1_starts p1_valuesN p1_values  s0 t_law_size t_law_waits t_law_within t_law_brackets t_law_partIsDue t_law_code t_law_waiting p1_here p1_fault = some R) (hQ : Q (some (.int R.1)) (wX2_readTakes cy tA t_namesV t_kindsV t_kinV t_stopsV t_roundsV t_folks t_pairs t_line t_rope t_lineTold t_ropeTold t_takenV t_lawA R.2.1 R.2.2.1 R.2.2.2.1 R.2.2.2.2.1 R.2.2.2.2.2.1 t_law_stackV t_law_codeA t_law_codeN R.2.2.2.2.2.2.1 t_law_waitingA t_law_waitingN R.2.2.2.2.2.2.2.1 p1A p1_signsV p1_size p1_count R.2.2.2.2.2.2.2.2.1 R.2.2.2.2.2.2.2.2.2 p1_tokensA p1_tokensN p1_tokens p1_startsA p1_startsN p1_starts p1_valuesA p1_valuesN p1_values)) : V l D cy MX2_readTakes 4 0 0 av ws0 Q 45 [] [.int s0] (wX2_readTakes cy tA t_namesV t_kindsV t_kinV t_stopsV t_roundsV t_folks t_pairs t_line t_rope t_lineTold t_ropeTold t_takenV t_lawA t_law_size t_law_waits t_law_within t_law_brackets t_law_partIsDue t_law_stackV t_law_codeA t_law_codeN t_law_code t_law_waitingA t_law_waitingN t_law_waiting p1A p1_signsV p1_size p1_count p1_here p1_fault p1_tokensA p1_tokensN p1_tokens p1_startsA p1_startsN p1_starts p1_valuesA p1_valuesN p1_values) 0 0 := by
  unfold bX2_readTakes_L45 at h
  by_cases hz45 : s0 = 0 ∨ s0 = 1
  case neg => exact vNone ((if_neg hz45).symm.trans h)
  replace h := (if_pos hz45).symm.trans h
  have e9 := Option.some.inj h; subst e9
  exact V.iret (ty := .boolean) rfl (vBool hz45).1 dX2_readTakes_45 (Nat.le_refl _) (Nat.le_refl _) hQ
noncomputable def bX2_readTakes_L44 (F : Nat) (t_law_codeN : Nat) (t_law_waitingN : Nat) (p1_size : Int32) (p1_count : Int32) (p1_tokensN : Nat) (p1_tokens : Nat → Int32) (p1_startsN : Nat) (p1_starts : Nat → Int32) (p1_valuesN : Nat) (p1_values : Nat → Int64)  (t_law_size : Int32) (t_law_waits : Int32) (t_law_within : Int32) (t_law_brackets : Int32) (t_law_partIsDue : Int32) (t_law_code : Nat → Int32) (t_law_waiting : Nat → Int32) (p1_here : Int32) (p1_fault : Int32) : Option (Int32 × (Int32) × (Int32) × (Int32) × (Int32) × (Int32) × (Nat → Int32) × (Nat → Int32) × (Int32) × (Int32)) :=
  bX2_readTakes_L45 F t_law_codeN t_law_waitingN p1_size p1_count p1_tokensN p1_tokens p1_startsN p1_starts p1_valuesN p1_values (0 : Int32) t_law_size t_law_waits t_law_within t_law_brackets t_law_partIsDue t_law_code t_law_waiting p1_here p1_fault
theorem vX2_readTakes_L44 {l : Launch} {D : va_G} {cy : Nat → ClassId} {av : List Value} {ws0 : va_W} {Q : Option Value → va_W → Prop} (F : Nat) (tA : Nat) (t_namesV : Value) (t_kindsV : Value) (t_kinV : Value) (t_stopsV : Value) (t_roundsV : Value) (t_folks : Int32) (t_pairs : Int32) (t_line : Int32) (t_rope : Int32) (t_lineTold : Int32) (t_ropeTold : Int32) (t_takenV : Value) (t_lawA : Nat) (t_law_stackV : Value) (t_law_codeA : Nat) (t_law_codeN : Nat) (t_law_waitingA : Nat) (t_law_waitingN : Nat) (p1A : Nat) (p1_signsV : Value) (p1_size : Int32) (p1_count : Int32) (p1_tokensA : Nat) (p1_tokensN : Nat) (p1_tokens : Nat → Int32) (p1_startsA : Nat) (p1_startsN : Nat) (p1_starts : Nat → Int32) (p1_valuesA : Nat) (p1_valuesN : Nat) (p1_values : Nat → Int64)  (t_law_size : Int32) (t_law_waits : Int32) (t_law_within : Int32) (t_law_brackets : Int32) (t_law_partIsDue : Int32) (t_law_code : Nat → Int32) (t_law_waiting : Nat → Int32) (p1_here : Int32) (p1_fault : Int32) (R : Int32 × (Int32) × (Int32) × (Int32) × (Int32) × (Int32) × (Nat → Int32) × (Nat → Int32) × (Int32) × (Int32)) (h : bX2_readTakes_L44 F t_law_codeN t_law_waitingN p1_size p1_count p1_tokensN p1_tokens p1_startsN p1_starts p1_valuesN p1_values  t_law_size t_law_waits t_law_within t_law_brackets t_law_partIsDue t_law_code t_law_waiting p1_here p1_fault = some R) (hQ : Q (some (.int R.1)) (wX2_readTakes cy tA t_namesV t_kindsV t_kinV t_stopsV t_roundsV t_folks t_pairs t_line t_rope t_lineTold t_ropeTold t_takenV t_lawA R.2.1 R.2.2.1 R.2.2.2.1 R.2.2.2.2.1 R.2.2.2.2.2.1 t_law_stackV t_law_codeA t_law_codeN R.2.2.2.2.2.2.1 t_law_waitingA t_law_waitingN R.2.2.2.2.2.2.2.1 p1A p1_signsV p1_size p1_count R.2.2.2.2.2.2.2.2.1 R.2.2.2.2.2.2.2.2.2 p1_tokensA p1_tokensN p1_tokens p1_startsA p1_startsN p1_starts p1_valuesA p1_valuesN p1_values)) : V l D cy MX2_readTakes 4 0 0 av ws0 Q 44 [] [] (wX2_readTakes cy tA t_namesV t_kindsV t_kinV t_stopsV t_roundsV t_folks t_pairs t_line t_rope t_lineTold t_ropeTold t_takenV t_lawA t_law_size t_law_waits t_law_within t_law_brackets t_law_partIsDue t_law_stackV t_law_codeA t_law_codeN t_law_code t_law_waitingA t_law_waitingN t_law_waiting p1A p1_signsV p1_size p1_count p1_here p1_fault p1_tokensA p1_tokensN p1_tokens p1_startsA p1_startsN p1_starts p1_valuesA p1_valuesN p1_values) 0 0 := by
  unfold bX2_readTakes_L44 at h
  refine V.iconst (v := (0 : Int32)) dX2_readTakes_44 (by decide) ?_
  exact vX2_readTakes_L45 _ _ _ _ _ _ _ _ _ _ _ _ _ _ _ _ _ _ _ _ _ _ _ _ _ _ _ _ _ _ _ _ _   _ _ _ _ _ _ _ _ _ _ R h hQ
noncomputable def fX2_readTakes (F : Nat) (t_law_codeN : Nat) (t_law_waitingN : Nat) (p1_size : Int32) (p1_count : Int32) (p1_tokensN : Nat) (p1_tokens : Nat → Int32) (p1_startsN : Nat) (p1_starts : Nat → Int32) (p1_valuesN : Nat) (p1_values : Nat → Int64) (t_law_size : Int32) (t_law_waits : Int32) (t_law_within : Int32) (t_law_brackets : Int32) (t_law_partIsDue : Int32) (t_law_code : Nat → Int32) (t_law_waiting : Nat → Int32) (p1_here : Int32) (p1_fault : Int32) : Option (Int32 × (Int32) × (Int32) × (Int32) × (Int32) × (Int32) × (Nat → Int32) × (Nat → Int32) × (Int32) × (Int32)) :=
  (fX1_isTold F t_law_size).bind fun R4 => (if R4 = 0 then ((fX9_step F p1_count p1_here).bind fun R17 => ((fX1_readLaw F t_law_codeN t_law_waitingN p1_size p1_count p1_tokensN p1_tokens p1_startsN p1_starts p1_valuesN p1_values t_law_size t_law_waits t_law_within t_law_brackets t_law_partIsDue t_law_code t_law_waiting R17 p1_fault).bind fun R25 => (if R25.1 = 0 then (bX2_readTakes_L44 F t_law_codeN t_law_waitingN p1_size p1_count p1_tokensN p1_tokens p1_startsN p1_starts p1_valuesN p1_values R25.2.1 R25.2.2.1 R25.2.2.2.1 R25.2.2.2.2.1 R25.2.2.2.2.2.1 R25.2.2.2.2.2.2.1 R25.2.2.2.2.2.2.2.1 R25.2.2.2.2.2.2.2.2.1 R25.2.2.2.2.2.2.2.2.2) else ((fX9_expect F p1_size p1_count p1_tokensN p1_tokens p1_startsN p1_starts (59 : Int32) R25.2.2.2.2.2.2.2.2.1 R25.2.2.2.2.2.2.2.2.2).bind fun R34 => (if R34.1 = 0 then (bX2_readTakes_L44 F t_law_codeN t_law_waitingN p1_size p1_count p1_tokensN p1_tokens p1_startsN p1_starts p1_valuesN p1_values R25.2.1 R25.2.2.1 R25.2.2.2.1 R25.2.2.2.2.1 R25.2.2.2.2.2.1 R25.2.2.2.2.2.2.1 R25.2.2.2.2.2.2.2.1 R34.2.1 R34.2.2) else (bX2_readTakes_L45 F t_law_codeN t_law_waitingN p1_size p1_count p1_tokensN p1_tokens p1_startsN p1_starts p1_valuesN p1_values (1 : Int32) R25.2.1 R25.2.2.1 R25.2.2.2.1 R25.2.2.2.2.1 R25.2.2.2.2.2.1 R25.2.2.2.2.2.2.1 R25.2.2.2.2.2.2.2.1 R34.2.1 R34.2.2)))))) else ((fX9_wrong F p1_size p1_count p1_here p1_startsN p1_starts (3 : Int32) p1_fault).bind fun R12 => (if R12.1 = 0 ∨ R12.1 = 1 then some (R12.1, t_law_size, t_law_waits, t_law_within, t_law_brackets, t_law_partIsDue, t_law_code, t_law_waiting, p1_here, R12.2) else none)))
theorem CX2_readTakes {l : Launch} {D : va_G} {cy : Nat → ClassId} (F : Nat) (tA : Nat) (t_namesV : Value) (t_kindsV : Value) (t_kinV : Value) (t_stopsV : Value) (t_roundsV : Value) (t_folks : Int32) (t_pairs : Int32) (t_line : Int32) (t_rope : Int32) (t_lineTold : Int32) (t_ropeTold : Int32) (t_takenV : Value) (t_lawA : Nat) (t_law_size : Int32) (t_law_waits : Int32) (t_law_within : Int32) (t_law_brackets : Int32) (t_law_partIsDue : Int32) (t_law_stackV : Value) (t_law_codeA : Nat) (t_law_codeN : Nat) (t_law_code : Nat → Int32) (t_law_waitingA : Nat) (t_law_waitingN : Nat) (t_law_waiting : Nat → Int32) (p1A : Nat) (p1_signsV : Value) (p1_size : Int32) (p1_count : Int32) (p1_here : Int32) (p1_fault : Int32) (p1_tokensA : Nat) (p1_tokensN : Nat) (p1_tokens : Nat → Int32) (p1_startsA : Nat) (p1_startsN : Nat) (p1_starts : Nat → Int32) (p1_valuesA : Nat) (p1_valuesN : Nat) (p1_values : Nat → Int64) (R : Int32 × (Int32) × (Int32) × (Int32) × (Int32) × (Int32) × (Nat → Int32) × (Nat → Int32) × (Int32) × (Int32)) (h : fX2_readTakes F t_law_codeN t_law_waitingN p1_size p1_count p1_tokensN p1_tokens p1_startsN p1_starts p1_valuesN p1_values t_law_size t_law_waits t_law_within t_law_brackets t_law_partIsDue t_law_code t_law_waiting p1_here p1_fault = some R) : vMet l D cy MX2_readTakes 4 0 0 [.ref tA, .ref p1A] (wX2_readTakes cy tA t_namesV t_kindsV t_kinV t_stopsV t_roundsV t_folks t_pairs t_line t_rope t_lineTold t_ropeTold t_takenV t_lawA t_law_size t_law_waits t_law_within t_law_brackets t_law_partIsDue t_law_stackV t_law_codeA t_law_codeN t_law_code t_law_waitingA t_law_waitingN t_law_waiting p1A p1_signsV p1_size p1_count p1_here p1_fault p1_tokensA p1_tokensN p1_tokens p1_startsA p1_startsN p1_starts p1_valuesA p1_valuesN p1_values) (fun (r : Option Value) (w : va_W) => r = (some (.int R.1)) ∧ w = (wX2_readTakes cy tA t_namesV t_kindsV t_kinV t_stopsV t_roundsV t_folks t_pairs t_line t_rope t_lineTold t_ropeTold t_takenV t_lawA R.2.1 R.2.2.1 R.2.2.2.1 R.2.2.2.2.1 R.2.2.2.2.2.1 t_law_stackV t_law_codeA t_law_codeN R.2.2.2.2.2.2.1 t_law_waitingA t_law_waitingN R.2.2.2.2.2.2.2.1 p1A p1_signsV p1_size p1_count R.2.2.2.2.2.2.2.2.1 R.2.2.2.2.2.2.2.2.2 p1_tokensA p1_tokensN p1_tokens p1_startsA p1_startsN p1_starts p1_valuesA p1_valuesN p1_values)) := by
  refine vMet.start (by decide +kernel) (Nat.le_of_ble_eq_true rfl) ?_
  generalize hQe : (fun (r : Option Value) (w : va_W) => r = (some (.int R.1)) ∧ w = (wX2_readTakes cy tA t_namesV t_kindsV t_kinV t_stopsV t_roundsV t_folks t_pairs t_line t_rope t_lineTold t_ropeTold t_takenV t_lawA R.2.1 R.2.2.1 R.2.2.2.1 R.2.2.2.2.1 R.2.2.2.2.2.1 t_law_stackV t_law_codeA t_law_codeN R.2.2.2.2.2.2.1 t_law_waitingA t_law_waitingN R.2.2.2.2.2.2.2.1 p1A p1_signsV p1_size p1_count R.2.2.2.2.2.2.2.2.1 R.2.2.2.2.2.2.2.2.2 p1_tokensA p1_tokensN p1_tokens p1_startsA p1_startsN p1_starts p1_valuesA p1_valuesN p1_values)) = Q
  have hQ : Q (some (.int R.1)) (wX2_readTakes cy tA t_namesV t_kindsV t_kinV t_stopsV t_roundsV t_folks t_pairs t_line t_rope t_lineTold t_ropeTold t_takenV t_lawA R.2.1 R.2.2.1 R.2.2.2.1 R.2.2.2.2.1 R.2.2.2.2.2.1 t_law_stackV t_law_codeA t_law_codeN R.2.2.2.2.2.2.1 t_law_waitingA t_law_waitingN R.2.2.2.2.2.2.2.1 p1A p1_signsV p1_size p1_count R.2.2.2.2.2.2.2.2.1 R.2.2.2.2.2.2.2.2.2 p1_tokensA p1_tokensN p1_tokens p1_startsA p1_startsN p1_starts p1_valuesA p1_valuesN p1_values) := by rw [← hQe]; exact ⟨rfl, rfl⟩
  show V l D cy MX2_readTakes 4 0 0 _ _ Q 0 [(0, .ref tA), (1, .ref p1A)] [] _ 0 0
  show V l D cy MX2_readTakes 4 0 0 [.ref tA, .ref p1A] _ Q 0 [(0, .ref tA), (1, .ref p1A)] [] (wX2_readTakes cy tA t_namesV t_kindsV t_kinV t_stopsV t_roundsV t_folks t_pairs t_line t_rope t_lineTold t_ropeTold t_takenV t_lawA t_law_size t_law_waits t_law_within t_law_brackets t_law_partIsDue t_law_stackV t_law_codeA t_law_codeN t_law_code t_law_waitingA t_law_waitingN t_law_waiting p1A p1_signsV p1_size p1_count p1_here p1_fault p1_tokensA p1_tokensN p1_tokens p1_startsA p1_startsN p1_starts p1_valuesA p1_valuesN p1_values) 0 0
  unfold fX2_readTakes at h
  refine V.aload_n dX2_readTakes_0 rfl 0 rfl ?_
  refine V.get kfX2 0 rfl rfl 11 (by decide) klX2_31 rfl dX2_readTakes_1 ?_
  obtain ⟨R4, hg4, h⟩ := Option.bind_eq_some_iff.mp h
  refine V.callV (As := []) (rest := []) (wc := (wX1_isTold cy t_lawA (.ref t_law_codeA) t_law_size (.ref t_law_waitingA) t_law_waits t_law_within t_law_brackets t_law_partIsDue t_law_stackV)) (wr := [(tA, .inr (2, [t_namesV, t_kindsV, t_kinV, t_stopsV, t_roundsV, .int t_folks, .int t_pairs, .int t_line, .int t_rope, .int t_lineTold, .int t_ropeTold, .ref t_lawA, t_takenV])), (t_law_codeA, .inl (cy 1, t_law_codeN, .inl t_law_code)), (t_law_waitingA, .inl (cy 1, t_law_waitingN, .inl t_law_waiting)), (p1A, .inr (9, [p1_signsV, .int p1_size, .ref p1_tokensA, .ref p1_startsA, .ref p1_valuesA, .int p1_count, .int p1_here, .int p1_fault])), (p1_tokensA, .inl (cy 1, p1_tokensN, .inl p1_tokens)), (p1_startsA, .inl (cy 1, p1_startsN, .inl p1_starts)), (p1_valuesA, .inl (cy 2, p1_valuesN, .inr (.inl p1_values)))]) (q0 := 1) (CX1_isTold F t_lawA (.ref t_law_codeA) t_law_size (.ref t_law_waitingA) t_law_waits t_law_within t_law_brackets t_law_partIsDue t_law_stackV R4 hg4) kvX1_isTold klX2_97 [1] [0, 2, 3, 4, 5, 6, 7] rfl rfl (by decide) (by decide) (by decide) rfl rfl rfl rfl dX2_readTakes_4 ⟨by decide, by decide, by decide, by decide⟩ (Nat.le_of_ble_eq_true rfl) (fun r w1 hq => ?_)
  obtain ⟨rfl, rfl⟩ := hq
  refine V.cells (ws' := (wX2_readTakes cy tA t_namesV t_kindsV t_kinV t_stopsV t_roundsV t_folks t_pairs t_line t_rope t_lineTold t_ropeTold t_takenV t_lawA t_law_size t_law_waits t_law_within t_law_brackets t_law_partIsDue t_law_stackV t_law_codeA t_law_codeN t_law_code t_law_waitingA t_law_waitingN t_law_waiting p1A p1_signsV p1_size p1_count p1_here p1_fault p1_tokensA p1_tokensN p1_tokens p1_startsA p1_startsN p1_starts p1_valuesA p1_valuesN p1_values)) [0, 7, 1, 2, 3, 4, 5, 6] (by decide) rfl ?_
  show V l D cy MX2_readTakes 4 0 0 _ _ _ 7 [(0, .ref tA), (1, .ref p1A)] [.int R4] (wX2_readTakes cy tA t_namesV t_kindsV t_kinV t_stopsV t_roundsV t_folks t_pairs t_line t_rope t_lineTold t_ropeTold t_takenV t_lawA t_law_size t_law_waits t_law_within t_law_brackets t_law_partIsDue t_law_stackV t_law_codeA t_law_codeN t_law_code t_law_waitingA t_law_waitingN t_law_waiting p1A p1_signsV p1_size p1_count p1_here p1_fault p1_tokensA p1_tokensN p1_tokens p1_startsA p1_startsN p1_starts p1_valuesA p1_valuesN p1_values) 0 0
  refine V.if_eq (tgt := 16) dX2_readTakes_7 (by decide) (fun hc7 => ?_) (fun hc7 => ?_)
  · replace h := (if_pos hc7).symm.trans h
    refine V.aload_n dX2_readTakes_16 rfl 1 rfl ?_
    obtain ⟨R17, hg17, h⟩ := Option.bind_eq_some_iff.mp h
    refine V.callV (As := []) (rest := []) (wc := (wX9_step cy p1A p1_signsV p1_size (.ref p1_tokensA) (.ref p1_startsA) (.ref p1_valuesA) p1_count p1_here p1_fault)) (wr := [(tA, .inr (2, [t_namesV, t_kindsV, t_kinV, t_stopsV, t_roundsV, .int t_folks, .int t_pairs, .int t_line, .int t_rope, .int t_lineTold, .int t_ropeTold, .ref t_lawA, t_takenV])), (t_lawA, .inr (1, [.ref t_law_codeA, .int t_law_size, .ref t_law_waitingA, .int t_law_waits, .int t_law_within, .int t_law_brackets, .int t_law_partIsDue, t_law_stackV])), (t_law_codeA, .inl (cy 1, t_law_codeN, .inl t_law_code)), (t_law_waitingA, .inl (cy 1, t_law_waitingN, .inl t_law_waiting)), (p1_tokensA, .inl (cy 1, p1_tokensN, .inl p1_tokens)), (p1_startsA, .inl (cy 1, p1_startsN, .inl p1_starts)), (p1_valuesA, .inl (cy 2, p1_valuesN, .inr (.inl p1_values)))]) (q0 := 4) (CX9_step F p1A p1_signsV p1_size (.ref p1_tokensA) (.ref p1_startsA) (.ref p1_valuesA) p1_count p1_here p1_fault R17 hg17) kvX9_step klX2_147 [4] [0, 1, 2, 3, 5, 6, 7] rfl rfl (by decide) (by decide) (by decide) rfl rfl rfl rfl dX2_readTakes_17 ⟨by decide, by decide, by decide, by decide⟩ (Nat.le_of_ble_eq_true rfl) (fun r w1 hq => ?_)
    obtain ⟨rfl, rfl⟩ := hq
    refine V.cells (ws' := (wX2_readTakes cy tA t_namesV t_kindsV t_kinV t_stopsV t_roundsV t_folks t_pairs t_line t_rope t_lineTold t_ropeTold t_takenV t_lawA t_law_size t_law_waits t_law_within t_law_brackets t_law_partIsDue t_law_stackV t_law_codeA t_law_codeN t_law_code t_law_waitingA t_law_waitingN t_law_waiting p1A p1_signsV p1_size p1_count R17 p1_fault p1_tokensA p1_tokensN p1_tokens p1_startsA p1_startsN p1_starts p1_valuesA p1_valuesN p1_values)) [0, 1, 2, 3, 7, 4, 5, 6] (by decide) rfl ?_
    show V l D cy MX2_readTakes 4 0 0 _ _ _ 20 [(0, .ref tA), (1, .ref p1A)] [] (wX2_readTakes cy tA t_namesV t_kindsV t_kinV t_stopsV t_roundsV t_folks t_pairs t_line t_rope t_lineTold t_ropeTold t_takenV t_lawA t_law_size t_law_waits t_law_within t_law_brackets t_law_partIsDue t_law_stackV t_law_codeA t_law_codeN t_law_code t_law_waitingA t_law_waitingN t_law_waiting p1A p1_signsV p1_size p1_count R17 p1_fault p1_tokensA p1_tokensN p1_tokens p1_startsA p1_startsN p1_starts p1_valuesA p1_valuesN p1_values) 0 0
    refine V.aload_n dX2_readTakes_20 rfl 0 rfl ?_
    refine V.get kfX2 0 rfl rfl 11 (by decide) klX2_31 rfl dX2_readTakes_21 ?_
    refine V.aload_n dX2_readTakes_24 rfl 1 rfl ?_
    obtain ⟨R25, hg25, h⟩ := Option.bind_eq_some_iff.mp h
    refine V.callV (As := [.ref p1A]) (rest := []) (wc := (wX1_readLaw cy t_lawA t_law_size t_law_waits t_law_within t_law_brackets t_law_partIsDue t_law_stackV t_law_codeA t_law_codeN t_law_code t_law_waitingA t_law_waitingN t_law_waiting p1A p1_signsV p1_size p1_count R17 p1_fault p1_tokensA p1_tokensN p1_tokens p1_startsA p1_startsN p1_starts p1_valuesA p1_valuesN p1_values)) (wr := [(tA, .inr (2, [t_namesV, t_kindsV, t_kinV, t_stopsV, t_roundsV, .int t_folks, .int t_pairs, .int t_line, .int t_rope, .int t_lineTold, .int t_ropeTold, .ref t_lawA, t_takenV]))]) (q0 := 1) (CX1_readLaw F t_lawA t_law_size t_law_waits t_law_within t_law_brackets t_law_partIsDue t_law_stackV t_law_codeA t_law_codeN t_law_code t_law_waitingA t_law_waitingN t_law_waiting p1A p1_signsV p1_size p1_count R17 p1_fault p1_tokensA p1_tokensN p1_tokens p1_startsA p1_startsN p1_starts p1_valuesA p1_valuesN p1_values R25 hg25) kvX1_readLaw klX2_175 [1, 2, 3, 4, 5, 6, 7] [0] rfl rfl (by decide) (by decide) (by decide) rfl rfl rfl rfl dX2_readTakes_25 ⟨by decide, by decide, by decide, by decide⟩ (Nat.le_of_ble_eq_true rfl) (fun r w1 hq => ?_)
    obtain ⟨rfl, rfl⟩ := hq
    refine V.cells (ws' := (wX2_readTakes cy tA t_namesV t_kindsV t_kinV t_stopsV t_roundsV t_folks t_pairs t_line t_rope t_lineTold t_ropeTold t_takenV t_lawA R25.2.1 R25.2.2.1 R25.2.2.2.1 R25.2.2.2.2.1 R25.2.2.2.2.2.1 t_law_stackV t_law_codeA t_law_codeN R25.2.2.2.2.2.2.1 t_law_waitingA t_law_waitingN R25.2.2.2.2.2.2.2.1 p1A p1_signsV p1_size p1_count R25.2.2.2.2.2.2.2.2.1 R25.2.2.2.2.2.2.2.2.2 p1_tokensA p1_tokensN p1_tokens p1_startsA p1_startsN p1_starts p1_valuesA p1_valuesN p1_values)) [0, 1, 2, 3, 4, 5, 6, 7] (by decide) rfl ?_
    show V l D cy MX2_readTakes 4 0 0 _ _ _ 28 [(0, .ref tA), (1, .ref p1A)] [.int R25.1] (wX2_readTakes cy tA t_namesV t_kindsV t_kinV t_stopsV t_roundsV t_folks t_pairs t_line t_rope t_lineTold t_ropeTold t_takenV t_lawA R25.2.1 R25.2.2.1 R25.2.2.2.1 R25.2.2.2.2.1 R25.2.2.2.2.2.1 t_law_stackV t_law_codeA t_law_codeN R25.2.2.2.2.2.2.1 t_law_waitingA t_law_waitingN R25.2.2.2.2.2.2.2.1 p1A p1_signsV p1_size p1_count R25.2.2.2.2.2.2.2.2.1 R25.2.2.2.2.2.2.2.2.2 p1_tokensA p1_tokensN p1_tokens p1_startsA p1_startsN p1_starts p1_valuesA p1_valuesN p1_values) 0 0
    refine V.if_eq (tgt := 44) dX2_readTakes_28 (by decide) (fun hc28 => ?_) (fun hc28 => ?_)
    · replace h := (if_pos hc28).symm.trans h
      refine V.lvs [] rfl ?_
      exact vX2_readTakes_L44 _ _ _ _ _ _ _ _ _ _ _ _ _ _ _ _ _ _ _ _ _ _ _ _ _ _ _ _ _ _ _ _ _   _ _ _ _ _ _ _ _ _ R h hQ
    · replace h := (if_neg hc28).symm.trans h
      refine V.aload_n dX2_readTakes_31 rfl 1 rfl ?_
      refine V.bipush (v := (59 : Int32)) dX2_readTakes_32 (by decide) ?_
      obtain ⟨R34, hg34, h⟩ := Option.bind_eq_some_iff.mp h
      refine V.callV (As := [.int (59 : Int32)]) (rest := []) (wc := (wX9_expect cy p1A p1_signsV p1_size (.ref p1_valuesA) p1_count R25.2.2.2.2.2.2.2.2.1 R25.2.2.2.2.2.2.2.2.2 p1_tokensA p1_tokensN p1_tokens p1_startsA p1_startsN p1_starts)) (wr := [(tA, .inr (2, [t_namesV, t_kindsV, t_kinV, t_stopsV, t_roundsV, .int t_folks, .int t_pairs, .int t_line, .int t_rope, .int t_lineTold, .int t_ropeTold, .ref t_lawA, t_takenV])), (t_lawA, .inr (1, [.ref t_law_codeA, .int R25.2.1, .ref t_law_waitingA, .int R25.2.2.1, .int R25.2.2.2.1, .int R25.2.2.2.2.1, .int R25.2.2.2.2.2.1, t_law_stackV])), (t_law_codeA, .inl (cy 1, t_law_codeN, .inl R25.2.2.2.2.2.2.1)), (t_law_waitingA, .inl (cy 1, t_law_waitingN, .inl R25.2.2.2.2.2.2.2.1)), (p1_valuesA, .inl (cy 2, p1_valuesN, .inr (.inl p1_values)))]) (q0 := 4) (CX9_expect F p1A p1_signsV p1_size (.ref p1_valuesA) p1_count R25.2.2.2.2.2.2.2.2.1 R25.2.2.2.2.2.2.2.2.2 p1_tokensA p1_tokensN p1_tokens p1_startsA p1_startsN p1_starts (59 : Int32) R34 hg34) kvX9_expect klX2_164 [4, 5, 6] [0, 1, 2, 3, 7] rfl rfl (by decide) (by decide) (by decide) rfl rfl rfl rfl dX2_readTakes_34 ⟨by decide, by decide, by decide, by decide⟩ (Nat.le_of_ble_eq_true rfl) (fun r w1 hq => ?_)
      obtain ⟨rfl, rfl⟩ := hq
      refine V.cells (ws' := (wX2_readTakes cy tA t_namesV t_kindsV t_kinV t_stopsV t_roundsV t_folks t_pairs t_line t_rope t_lineTold t_ropeTold t_takenV t_lawA R25.2.1 R25.2.2.1 R25.2.2.2.1 R25.2.2.2.2.1 R25.2.2.2.2.2.1 t_law_stackV t_law_codeA t_law_codeN R25.2.2.2.2.2.2.1 t_law_waitingA t_law_waitingN R25.2.2.2.2.2.2.2.1 p1A p1_signsV p1_size p1_count R34.2.1 R34.2.2 p1_tokensA p1_tokensN p1_tokens p1_startsA p1_startsN p1_starts p1_valuesA p1_valuesN p1_values)) [0, 1, 2, 3, 5, 6, 7, 4] (by decide) rfl ?_
      show V l D cy MX2_readTakes 4 0 0 _ _ _ 37 [(0, .ref tA), (1, .ref p1A)] [.int R34.1] (wX2_readTakes cy tA t_namesV t_kindsV t_kinV t_stopsV t_roundsV t_folks t_pairs t_line t_rope t_lineTold t_ropeTold t_takenV t_lawA R25.2.1 R25.2.2.1 R25.2.2.2.1 R25.2.2.2.2.1 R25.2.2.2.2.2.1 t_law_stackV t_law_codeA t_law_codeN R25.2.2.2.2.2.2.1 t_law_waitingA t_law_waitingN R25.2.2.2.2.2.2.2.1 p1A p1_signsV p1_size p1_count R34.2.1 R34.2.2 p1_tokensA p1_tokensN p1_tokens p1_startsA p1_startsN p1_starts p1_valuesA p1_valuesN p1_values) 0 0
      refine V.if_eq (tgt := 44) dX2_readTakes_37 (by decide) (fun hc37 => ?_) (fun hc37 => ?_)
      · replace h := (if_pos hc37).symm.trans h
        refine V.lvs [] rfl ?_
        exact vX2_readTakes_L44 _ _ _ _ _ _ _ _ _ _ _ _ _ _ _ _ _ _ _ _ _ _ _ _ _ _ _ _ _ _ _ _ _   _ _ _ _ _ _ _ _ _ R h hQ
      · replace h := (if_neg hc37).symm.trans h
        refine V.iconst (v := (1 : Int32)) dX2_readTakes_40 (by decide) ?_
        refine V.goto (tgt := 45) dX2_readTakes_41 (by decide) ?_
        refine V.lvs [] rfl ?_
        exact vX2_readTakes_L45 _ _ _ _ _ _ _ _ _ _ _ _ _ _ _ _ _ _ _ _ _ _ _ _ _ _ _ _ _ _ _ _ _   _ _ _ _ _ _ _ _ _ _ R h hQ
  · replace h := (if_neg hc7).symm.trans h
    refine V.aload_n dX2_readTakes_10 rfl 1 rfl ?_
    refine V.iconst (v := (3 : Int32)) dX2_readTakes_11 (by decide) ?_
    obtain ⟨R12, hg12, h⟩ := Option.bind_eq_some_iff.mp h
    refine V.callV (As := [.int (3 : Int32)]) (rest := []) (wc := (wX9_wrong cy p1A p1_signsV p1_size (.ref p1_tokensA) (.ref p1_valuesA) p1_count p1_here p1_fault p1_startsA p1_startsN p1_starts)) (wr := [(tA, .inr (2, [t_namesV, t_kindsV, t_kinV, t_stopsV, t_roundsV, .int t_folks, .int t_pairs, .int t_line, .int t_rope, .int t_lineTold, .int t_ropeTold, .ref t_lawA, t_takenV])), (t_lawA, .inr (1, [.ref t_law_codeA, .int t_law_size, .ref t_law_waitingA, .int t_law_waits, .int t_law_within, .int t_law_brackets, .int t_law_partIsDue, t_law_stackV])), (t_law_codeA, .inl (cy 1, t_law_codeN, .inl t_law_code)), (t_law_waitingA, .inl (cy 1, t_law_waitingN, .inl t_law_waiting)), (p1_tokensA, .inl (cy 1, p1_tokensN, .inl p1_tokens)), (p1_valuesA, .inl (cy 2, p1_valuesN, .inr (.inl p1_values)))]) (q0 := 4) (CX9_wrong F p1A p1_signsV p1_size (.ref p1_tokensA) (.ref p1_valuesA) p1_count p1_here p1_fault p1_startsA p1_startsN p1_starts (3 : Int32) R12 hg12) kvX9_wrong klX2_144 [4, 6] [0, 1, 2, 3, 5, 7] rfl rfl (by decide) (by decide) (by decide) rfl rfl rfl rfl dX2_readTakes_12 ⟨by decide, by decide, by decide, by decide⟩ (Nat.le_of_ble_eq_true rfl) (fun r w1 hq => ?_)
    obtain ⟨rfl, rfl⟩ := hq
    refine V.cells (ws' := (wX2_readTakes cy tA t_namesV t_kindsV t_kinV t_stopsV t_roundsV t_folks t_pairs t_line t_rope t_lineTold t_ropeTold t_takenV t_lawA t_law_size t_law_waits t_law_within t_law_brackets t_law_partIsDue t_law_stackV t_law_codeA t_law_codeN t_law_code t_law_waitingA t_law_waitingN t_law_waiting p1A p1_signsV p1_size p1_count p1_here R12.2 p1_tokensA p1_tokensN p1_tokens p1_startsA p1_startsN p1_starts p1_valuesA p1_valuesN p1_values)) [0, 1, 2, 3, 6, 4, 7, 5] (by decide) rfl ?_
    show V l D cy MX2_readTakes 4 0 0 _ _ _ 15 [(0, .ref tA), (1, .ref p1A)] [.int R12.1] (wX2_readTakes cy tA t_namesV t_kindsV t_kinV t_stopsV t_roundsV t_folks t_pairs t_line t_rope t_lineTold t_ropeTold t_takenV t_lawA t_law_size t_law_waits t_law_within t_law_brackets t_law_partIsDue t_law_stackV t_law_codeA t_law_codeN t_law_code t_law_waitingA t_law_waitingN t_law_waiting p1A p1_signsV p1_size p1_count p1_here R12.2 p1_tokensA p1_tokensN p1_tokens p1_startsA p1_startsN p1_starts p1_valuesA p1_valuesN p1_values) 0 0
    by_cases hz15 : R12.1 = 0 ∨ R12.1 = 1
    case neg => exact vNone ((if_neg hz15).symm.trans h)
    replace h := (if_pos hz15).symm.trans h
    have e9 := Option.some.inj h; subst e9
    exact V.iret (ty := .boolean) rfl (vBool hz15).1 dX2_readTakes_15 (Nat.le_refl _) (Nat.le_refl _) hQ
theorem dX2_readYearLine_0 : decode cX2_readYearLine 0 = .ok (.aload_n 1, 1) := by decide +kernel
theorem dX2_readYearLine_1 : decode cX2_readYearLine 1 = .ok (.invokevirtual 118, 3) := by decide +kernel
theorem dX2_readYearLine_4 : decode cX2_readYearLine 4 = .ok (.istore 5, 2) := by decide +kernel
theorem dX2_readYearLine_6 : decode cX2_readYearLine 6 = .ok (.iload 4, 2) := by decide +kernel
theorem dX2_readYearLine_8 : decode cX2_readYearLine 8 = .ok (.ifCond .eq 21, 3) := by decide +kernel
theorem dX2_readYearLine_11 : decode cX2_readYearLine 11 = .ok (.iload 5, 2) := by decide +kernel
theorem dX2_readYearLine_13 : decode cX2_readYearLine 13 = .ok (.bipush 7, 2) := by decide +kernel
theorem dX2_readYearLine_15 : decode cX2_readYearLine 15 = .ok (.if_icmp .eq 10, 3) := by decide +kernel
theorem dX2_readYearLine_18 : decode cX2_readYearLine 18 = .ok (.iload 5, 2) := by decide +kernel
theorem dX2_readYearLine_20 : decode cX2_readYearLine 20 = .ok (.bipush 8, 2) := by decide +kernel
theorem dX2_readYearLine_22 : decode cX2_readYearLine 22 = .ok (.if_icmp .ne 7, 3) := by decide +kernel
theorem dX2_readYearLine_25 : decode cX2_readYearLine 25 = .ok (.iconst 1, 1) := by decide +kernel
theorem dX2_readYearLine_26 : decode cX2_readYearLine 26 = .ok (.goto 4, 3) := by decide +kernel
theorem dX2_readYearLine_29 : decode cX2_readYearLine 29 = .ok (.iconst 0, 1) := by decide +kernel
theorem dX2_readYearLine_30 : decode cX2_readYearLine 30 = .ok (.istore 6, 2) := by decide +kernel
theorem dX2_readYearLine_32 : decode cX2_readYearLine 32 = .ok (.iload 6, 2) := by decide +kernel
theorem dX2_readYearLine_34 : decode cX2_readYearLine 34 = .ok (.ifCond .eq 7, 3) := by decide +kernel
theorem dX2_readYearLine_37 : decode cX2_readYearLine 37 = .ok (.iconst (-1), 1) := by decide +kernel
theorem dX2_readYearLine_38 : decode cX2_readYearLine 38 = .ok (.goto 8, 3) := by decide +kernel
theorem dX2_readYearLine_41 : decode cX2_readYearLine 41 = .ok (.aload_n 0, 1) := by decide +kernel
theorem dX2_readYearLine_42 : decode cX2_readYearLine 42 = .ok (.aload_n 1, 1) := by decide +kernel
theorem dX2_readYearLine_43 : decode cX2_readYearLine 43 = .ok (.invokevirtual 167, 3) := by decide +kernel
theorem dX2_readYearLine_46 : decode cX2_readYearLine 46 = .ok (.istore 7, 2) := by decide +kernel
theorem dX2_readYearLine_48 : decode cX2_readYearLine 48 = .ok (.iload 6, 2) := by decide +kernel
theorem dX2_readYearLine_50 : decode cX2_readYearLine 50 = .ok (.ifCond .ne 11, 3) := by decide +kernel
theorem dX2_readYearLine_53 : decode cX2_readYearLine 53 = .ok (.iload 7, 2) := by decide +kernel
theorem dX2_readYearLine_55 : decode cX2_readYearLine 55 = .ok (.iconst (-1), 1) := by decide +kernel
theorem dX2_readYearLine_56 : decode cX2_readYearLine 56 = .ok (.if_icmp .ne 5, 3) := by decide +kernel
theorem dX2_readYearLine_59 : decode cX2_readYearLine 59 = .ok (.iconst 0, 1) := by decide +kernel
theorem dX2_readYearLine_60 : decode cX2_readYearLine 60 = .ok (.ireturn, 1) := by decide +kernel
theorem dX2_readYearLine_61 : decode cX2_readYearLine 61 = .ok (.aload_n 2, 1) := by decide +kernel
theorem dX2_readYearLine_62 : decode cX2_readYearLine 62 = .ok (.getfield 78, 3) := by decide +kernel
theorem dX2_readYearLine_65 : decode cX2_readYearLine 65 = .ok (.iload_n 3, 1) := by decide +kernel
theorem dX2_readYearLine_66 : decode cX2_readYearLine 66 = .ok (.if_icmp .lt 9, 3) := by decide +kernel
theorem dX2_readYearLine_69 : decode cX2_readYearLine 69 = .ok (.aload_n 1, 1) := by decide +kernel
theorem dX2_readYearLine_70 : decode cX2_readYearLine 70 = .ok (.iconst 5, 1) := by decide +kernel
theorem dX2_readYearLine_71 : decode cX2_readYearLine 71 = .ok (.invokevirtual 144, 3) := by decide +kernel
theorem dX2_readYearLine_74 : decode cX2_readYearLine 74 = .ok (.ireturn, 1) := by decide +kernel
theorem dX2_readYearLine_75 : decode cX2_readYearLine 75 = .ok (.aload_n 1, 1) := by decide +kernel
theorem dX2_readYearLine_76 : decode cX2_readYearLine 76 = .ok (.invokevirtual 147, 3) := by decide +kernel
theorem dX2_readYearLine_79 : decode cX2_readYearLine 79 = .ok (.sipush 200, 3) := by decide +kernel
theorem dX2_readYearLine_82 : decode cX2_readYearLine 82 = .ok (.istore 8, 2) := by decide +kernel
theorem dX2_readYearLine_84 : decode cX2_readYearLine 84 = .ok (.iload 6, 2) := by decide +kernel
theorem dX2_readYearLine_86 : decode cX2_readYearLine 86 = .ok (.ifCond .ne 14, 3) := by decide +kernel
theorem dX2_readYearLine_89 : decode cX2_readYearLine 89 = .ok (.aload_n 1, 1) := by decide +kernel
theorem dX2_readYearLine_90 : decode cX2_readYearLine 90 = .ok (.iload 7, 2) := by decide +kernel
theorem dX2_readYearLine_92 : decode cX2_readYearLine 92 = .ok (.invokestatic 183, 3) := by decide +kernel
theorem dX2_readYearLine_95 : decode cX2_readYearLine 95 = .ok (.istore 8, 2) := by decide +kernel
theorem dX2_readYearLine_97 : decode cX2_readYearLine 97 = .ok (.goto 36, 3) := by decide +kernel
theorem dX2_readYearLine_100 : decode cX2_readYearLine 100 = .ok (.iload 5, 2) := by decide +kernel
theorem dX2_readYearLine_102 : decode cX2_readYearLine 102 = .ok (.bipush 7, 2) := by decide +kernel
theorem dX2_readYearLine_104 : decode cX2_readYearLine 104 = .ok (.if_icmp .ne 29, 3) := by decide +kernel
theorem dX2_readYearLine_107 : decode cX2_readYearLine 107 = .ok (.aload_n 1, 1) := by decide +kernel
theorem dX2_readYearLine_108 : decode cX2_readYearLine 108 = .ok (.iconst 0, 1) := by decide +kernel
theorem dX2_readYearLine_109 : decode cX2_readYearLine 109 = .ok (.bipush 23, 2) := by decide +kernel
theorem dX2_readYearLine_111 : decode cX2_readYearLine 111 = .ok (.invokestatic 171, 3) := by decide +kernel
theorem dX2_readYearLine_114 : decode cX2_readYearLine 114 = .ok (.istore 9, 2) := by decide +kernel
theorem dX2_readYearLine_116 : decode cX2_readYearLine 116 = .ok (.iload 9, 2) := by decide +kernel
theorem dX2_readYearLine_118 : decode cX2_readYearLine 118 = .ok (.iconst (-1), 1) := by decide +kernel
theorem dX2_readYearLine_119 : decode cX2_readYearLine 119 = .ok (.if_icmp .ne 7, 3) := by decide +kernel
theorem dX2_readYearLine_122 : decode cX2_readYearLine 122 = .ok (.iconst (-1), 1) := by decide +kernel
theorem dX2_readYearLine_123 : decode cX2_readYearLine 123 = .ok (.goto 8, 3) := by decide +kernel
theorem dX2_readYearLine_126 : decode cX2_readYearLine 126 = .ok (.bipush 100, 2) := by decide +kernel
theorem dX2_readYearLine_128 : decode cX2_readYearLine 128 = .ok (.iload 9, 2) := by decide +kernel
theorem dX2_readYearLine_130 : decode cX2_readYearLine 130 = .ok (.iadd, 1) := by decide +kernel
theorem dX2_readYearLine_131 : decode cX2_readYearLine 131 = .ok (.istore 8, 2) := by decide +kernel
theorem dX2_readYearLine_133 : decode cX2_readYearLine 133 = .ok (.iload 8, 2) := by decide +kernel
theorem dX2_readYearLine_135 : decode cX2_readYearLine 135 = .ok (.iconst (-1), 1) := by decide +kernel
theorem dX2_readYearLine_136 : decode cX2_readYearLine 136 = .ok (.if_icmp .eq 12, 3) := by decide +kernel
theorem dX2_readYearLine_139 : decode cX2_readYearLine 139 = .ok (.aload_n 1, 1) := by decide +kernel
theorem dX2_readYearLine_140 : decode cX2_readYearLine 140 = .ok (.bipush 59, 2) := by decide +kernel
theorem dX2_readYearLine_142 : decode cX2_readYearLine 142 = .ok (.invokevirtual 164, 3) := by decide +kernel
theorem dX2_readYearLine_145 : decode cX2_readYearLine 145 = .ok (.ifCond .ne 5, 3) := by decide +kernel
theorem dX2_readYearLine_148 : decode cX2_readYearLine 148 = .ok (.iconst 0, 1) := by decide +kernel
theorem dX2_readYearLine_149 : decode cX2_readYearLine 149 = .ok (.ireturn, 1) := by decide +kernel
theorem dX2_readYearLine_150 : decode cX2_readYearLine 150 = .ok (.aload_n 2, 1) := by decide +kernel
theorem dX2_readYearLine_151 : decode cX2_readYearLine 151 = .ok (.iload 8, 2) := by decide +kernel
theorem dX2_readYearLine_153 : decode cX2_readYearLine 153 = .ok (.invokevirtual 187, 3) := by decide +kernel
theorem dX2_readYearLine_156 : decode cX2_readYearLine 156 = .ok (.iconst 1, 1) := by decide +kernel
theorem dX2_readYearLine_157 : decode cX2_readYearLine 157 = .ok (.ireturn, 1) := by decide +kernel
def wX2_readYearLine (cy : Nat → ClassId) (tA : Nat) (t_kindsV : Value) (t_kinV : Value) (t_stopsV : Value) (t_roundsV : Value) (t_folks : Int32) (t_pairs : Int32) (t_line : Int32) (t_rope : Int32) (t_lineTold : Int32) (t_ropeTold : Int32) (t_lawV : Value) (t_takenV : Value) (t_namesA : Nat) (t_namesN : Nat) (t_names : Nat → Int64) (p1A : Nat) (p1_signsV : Value) (p1_size : Int32) (p1_count : Int32) (p1_here : Int32) (p1_fault : Int32) (p1_tokensA : Nat) (p1_tokensN : Nat) (p1_tokens : Nat → Int32) (p1_startsA : Nat) (p1_startsN : Nat) (p1_starts : Nat → Int32) (p1_valuesA : Nat) (p1_valuesN : Nat) (p1_values : Nat → Int64) (p2A : Nat) (p2_size : Int32) (p2_tiesA : Nat) (p2_tiesN : Nat) (p2_ties : Nat → Int32) : va_W :=
  [(tA, .inr (2, [.ref t_namesA, t_kindsV, t_kinV, t_stopsV, t_roundsV, .int t_folks, .int t_pairs, .int t_line, .int t_rope, .int t_lineTold, .int t_ropeTold, t_lawV, t_takenV])), (t_namesA, .inl (cy 2, t_namesN, .inr (.inl t_names))), (p1A, .inr (9, [p1_signsV, .int p1_size, .ref p1_tokensA, .ref p1_startsA, .ref p1_valuesA, .int p1_count, .int p1_here, .int p1_fault])), (p1_tokensA, .inl (cy 1, p1_tokensN, .inl p1_tokens)), (p1_startsA, .inl (cy 1, p1_startsN, .inl p1_starts)), (p1_valuesA, .inl (cy 2, p1_valuesN, .inr (.inl p1_values))), (p2A, .inr (7, [.ref p2_tiesA, .int p2_size])), (p2_tiesA, .inl (cy 1, p2_tiesN, .inl p2_ties))]
noncomputable def bX2_readYearLine_L148 (F : Nat) (t_folks : Int32) (t_namesN : Nat) (t_names : Nat → Int64) (p1_size : Int32) (p1_count : Int32) (p1_tokensN : Nat) (p1_tokens : Nat → Int32) (p1_startsN : Nat) (p1_starts : Nat → Int32) (p1_valuesN : Nat) (p1_values : Nat → Int64) (p2_tiesN : Nat)  (p1_here : Int32) (p1_fault : Int32) (p2_size : Int32) (p2_ties : Nat → Int32) : Option (Int32 × (Int32) × (Int32) × (Int32) × (Nat → Int32)) :=
  some ((0 : Int32), p1_here, p1_fault, p2_size, p2_ties)
theorem vX2_readYearLine_L148 {l : Launch} {D : va_G} {cy : Nat → ClassId} {av : List Value} {ws0 : va_W} {Q : Option Value → va_W → Prop} (F : Nat) (tA : Nat) (t_kindsV : Value) (t_kinV : Value) (t_stopsV : Value) (t_roundsV : Value) (t_folks : Int32) (t_pairs : Int32) (t_line : Int32) (t_rope : Int32) (t_lineTold : Int32) (t_ropeTold : Int32) (t_lawV : Value) (t_takenV : Value) (t_namesA : Nat) (t_namesN : Nat) (t_names : Nat → Int64) (p1A : Nat) (p1_signsV : Value) (p1_size : Int32) (p1_count : Int32) (p1_tokensA : Nat) (p1_tokensN : Nat) (p1_tokens : Nat → Int32) (p1_startsA : Nat) (p1_startsN : Nat) (p1_starts : Nat → Int32) (p1_valuesA : Nat) (p1_valuesN : Nat) (p1_values : Nat → Int64) (p2A : Nat) (p2_tiesA : Nat) (p2_tiesN : Nat)  (p1_here : Int32) (p1_fault : Int32) (p2_size : Int32) (p2_ties : Nat → Int32) (R : Int32 × (Int32) × (Int32) × (Int32) × (Nat → Int32)) (h : bX2_readYearLine_L148 F t_folks t_namesN t_names p1_size p1_count p1_tokensN p1_tokens p1_startsN p1_starts p1_valuesN p1_values p2_tiesN  p1_here p1_fault p2_size p2_ties = some R) (hQ : Q (some (.int R.1)) (wX2_readYearLine cy tA t_kindsV t_kinV t_stopsV t_roundsV t_folks t_pairs t_line t_rope t_lineTold t_ropeTold t_lawV t_takenV t_namesA t_namesN t_names p1A p1_signsV p1_size p1_count R.2.1 R.2.2.1 p1_tokensA p1_tokensN p1_tokens p1_startsA p1_startsN p1_starts p1_valuesA p1_valuesN p1_values p2A R.2.2.2.1 p2_tiesA p2_tiesN R.2.2.2.2)) : V l D cy MX2_readYearLine 3 0 0 av ws0 Q 148 [] [] (wX2_readYearLine cy tA t_kindsV t_kinV t_stopsV t_roundsV t_folks t_pairs t_line t_rope t_lineTold t_ropeTold t_lawV t_takenV t_namesA t_namesN t_names p1A p1_signsV p1_size p1_count p1_here p1_fault p1_tokensA p1_tokensN p1_tokens p1_startsA p1_startsN p1_starts p1_valuesA p1_valuesN p1_values p2A p2_size p2_tiesA p2_tiesN p2_ties) 0 0 := by
  unfold bX2_readYearLine_L148 at h
  refine V.iconst (v := (0 : Int32)) dX2_readYearLine_148 (by decide) ?_
  have e9 := Option.some.inj h; subst e9
  exact V.iret (ty := .boolean) rfl rfl dX2_readYearLine_149 (Nat.le_refl _) (Nat.le_refl _) hQ
noncomputable def bX2_readYearLine_L133 (F : Nat) (t_folks : Int32) (t_namesN : Nat) (t_names : Nat → Int64) (p1_size : Int32) (p1_count : Int32) (p1_tokensN : Nat) (p1_tokens : Nat → Int32) (p1_startsN : Nat) (p1_starts : Nat → Int32) (p1_valuesN : Nat) (p1_values : Nat → Int64) (p2_tiesN : Nat)  (x8 : Int32) (p1_here : Int32) (p1_fault : Int32) (p2_size : Int32) (p2_ties : Nat → Int32) : Option (Int32 × (Int32) × (Int32) × (Int32) × (Nat → Int32)) :=
  if x8 = (-1 : Int32) then (bX2_readYearLine_L148 F t_folks t_namesN t_names p1_size p1_count p1_tokensN p1_tokens p1_startsN p1_starts p1_valuesN p1_values p2_tiesN p1_here p1_fault p2_size p2_ties) else ((fX9_expect F p1_size p1_count p1_tokensN p1_tokens p1_startsN p1_starts (59 : Int32) p1_here p1_fault).bind fun R142 => (if R142.1 = 0 then (bX2_readYearLine_L148 F t_folks t_namesN t_names p1_size p1_count p1_tokensN p1_tokens p1_startsN p1_starts p1_valuesN p1_values p2_tiesN R142.2.1 R142.2.2 p2_size p2_ties) else ((fX7_add F p2_tiesN x8 p2_size p2_ties).bind fun R153 => (some ((1 : Int32), R142.2.1, R142.2.2, R153.1, R153.2)))))
theorem vX2_readYearLine_L133 {l : Launch} {D : va_G} {cy : Nat → ClassId} {av : List Value} {ws0 : va_W} {Q : Option Value → va_W → Prop} (F : Nat) (tA : Nat) (t_kindsV : Value) (t_kinV : Value) (t_stopsV : Value) (t_roundsV : Value) (t_folks : Int32) (t_pairs : Int32) (t_line : Int32) (t_rope : Int32) (t_lineTold : Int32) (t_ropeTold : Int32) (t_lawV : Value) (t_takenV : Value) (t_namesA : Nat) (t_namesN : Nat) (t_names : Nat → Int64) (p1A : Nat) (p1_signsV : Value) (p1_size : Int32) (p1_count : Int32) (p1_tokensA : Nat) (p1_tokensN : Nat) (p1_tokens : Nat → Int32) (p1_startsA : Nat) (p1_startsN : Nat) (p1_starts : Nat → Int32) (p1_valuesA : Nat) (p1_valuesN : Nat) (p1_values : Nat → Int64) (p2A : Nat) (p2_tiesA : Nat) (p2_tiesN : Nat)  (x8 : Int32) (p1_here : Int32) (p1_fault : Int32) (p2_size : Int32) (p2_ties : Nat → Int32) (R : Int32 × (Int32) × (Int32) × (Int32) × (Nat → Int32)) (h : bX2_readYearLine_L133 F t_folks t_namesN t_names p1_size p1_count p1_tokensN p1_tokens p1_startsN p1_starts p1_valuesN p1_values p2_tiesN  x8 p1_here p1_fault p2_size p2_ties = some R) (hQ : Q (some (.int R.1)) (wX2_readYearLine cy tA t_kindsV t_kinV t_stopsV t_roundsV t_folks t_pairs t_line t_rope t_lineTold t_ropeTold t_lawV t_takenV t_namesA t_namesN t_names p1A p1_signsV p1_size p1_count R.2.1 R.2.2.1 p1_tokensA p1_tokensN p1_tokens p1_startsA p1_startsN p1_starts p1_valuesA p1_valuesN p1_values p2A R.2.2.2.1 p2_tiesA p2_tiesN R.2.2.2.2)) : V l D cy MX2_readYearLine 3 0 0 av ws0 Q 133 [(1, .ref p1A), (2, .ref p2A), (8, .int x8)] [] (wX2_readYearLine cy tA t_kindsV t_kinV t_stopsV t_roundsV t_folks t_pairs t_line t_rope t_lineTold t_ropeTold t_lawV t_takenV t_namesA t_namesN t_names p1A p1_signsV p1_size p1_count p1_here p1_fault p1_tokensA p1_tokensN p1_tokens p1_startsA p1_startsN p1_starts p1_valuesA p1_valuesN p1_values p2A p2_size p2_tiesA p2_tiesN p2_ties) 0 0 := by
  unfold bX2_readYearLine_L133 at h
  refine V.iload dX2_readYearLine_133 2 rfl ?_
  refine V.iconst (v := (-1 : Int32)) dX2_readYearLine_135 (by decide) ?_
  refine V.icmp_eq (tgt := 148) dX2_readYearLine_136 (by decide) (fun hc136 => ?_) (fun hc136 => ?_)
  · replace h := (if_pos hc136).symm.trans h
    refine V.lvs [] rfl ?_
    exact vX2_readYearLine_L148 _ _ _ _ _ _ _ _ _ _ _ _ _ _ _ _ _ _ _ _ _ _ _ _ _ _ _ _ _ _ _ _ _   _ _ _ _ R h hQ
  · replace h := (if_neg hc136).symm.trans h
    refine V.aload_n dX2_readYearLine_139 rfl 0 rfl ?_
    refine V.bipush (v := (59 : Int32)) dX2_readYearLine_140 (by decide) ?_
    obtain ⟨R142, hg142, h⟩ := Option.bind_eq_some_iff.mp h
    refine V.callV (As := [.int (59 : Int32)]) (rest := []) (wc := (wX9_expect cy p1A p1_signsV p1_size (.ref p1_valuesA) p1_count p1_here p1_fault p1_tokensA p1_tokensN p1_tokens p1_startsA p1_startsN p1_starts)) (wr := [(tA, .inr (2, [.ref t_namesA, t_kindsV, t_kinV, t_stopsV, t_roundsV, .int t_folks, .int t_pairs, .int t_line, .int t_rope, .int t_lineTold, .int t_ropeTold, t_lawV, t_takenV])), (t_namesA, .inl (cy 2, t_namesN, .inr (.inl t_names))), (p1_valuesA, .inl (cy 2, p1_valuesN, .inr (.inl p1_values))), (p2A, .inr (7, [.ref p2_tiesA, .int p2_size])), (p2_tiesA, .inl (cy 1, p2_tiesN, .inl p2_ties))]) (q0 := 2) (CX9_expect F p1A p1_signsV p1_size (.ref p1_valuesA) p1_count p1_here p1_fault p1_tokensA p1_tokensN p1_tokens p1_startsA p1_startsN p1_starts (59 : Int32) R142 hg142) kvX9_expect klX2_164 [2, 3, 4] [0, 1, 5, 6, 7] rfl rfl (by decide) (by decide) (by decide) rfl rfl rfl rfl dX2_readYearLine_142 ⟨by decide, by decide, by decide, by decide⟩ (Nat.le_of_ble_eq_true rfl) (fun r w1 hq => ?_)
    obtain ⟨rfl, rfl⟩ := hq
    refine V.cells (ws' := (wX2_readYearLine cy tA t_kindsV t_kinV t_stopsV t_roundsV t_folks t_pairs t_line t_rope t_lineTold t_ropeTold t_lawV t_takenV t_namesA t_namesN t_names p1A p1_signsV p1_size p1_count R142.2.1 R142.2.2 p1_tokensA p1_tokensN p1_tokens p1_startsA p1_startsN p1_starts p1_valuesA p1_valuesN p1_values p2A p2_size p2_tiesA p2_tiesN p2_ties)) [0, 1, 5, 6, 7, 2, 3, 4] (by decide) rfl ?_
    show V l D cy MX2_readYearLine 3 0 0 _ _ _ 145 [(1, .ref p1A), (2, .ref p2A), (8, .int x8)] [.int R142.1] (wX2_readYearLine cy tA t_kindsV t_kinV t_stopsV t_roundsV t_folks t_pairs t_line t_rope t_lineTold t_ropeTold t_lawV t_takenV t_namesA t_namesN t_names p1A p1_signsV p1_size p1_count R142.2.1 R142.2.2 p1_tokensA p1_tokensN p1_tokens p1_startsA p1_startsN p1_starts p1_valuesA p1_valuesN p1_values p2A p2_size p2_tiesA p2_tiesN p2_ties) 0 0
    refine V.if_ne (tgt := 150) dX2_readYearLine_145 (by decide) (fun hc145 => ?_) (fun hc145 => ?_)
    · replace h := (if_neg hc145).symm.trans h
      refine V.aload_n dX2_readYearLine_150 rfl 1 rfl ?_
      refine V.iload dX2_readYearLine_151 2 rfl ?_
      obtain ⟨R153, hg153, h⟩ := Option.bind_eq_some_iff.mp h
      refine V.callV (As := [.int x8]) (rest := []) (wc := (wX7_add cy p2A p2_size p2_tiesA p2_tiesN p2_ties)) (wr := [(tA, .inr (2, [.ref t_namesA, t_kindsV, t_kinV, t_stopsV, t_roundsV, .int t_folks, .int t_pairs, .int t_line, .int t_rope, .int t_lineTold, .int t_ropeTold, t_lawV, t_takenV])), (t_namesA, .inl (cy 2, t_namesN, .inr (.inl t_names))), (p1A, .inr (9, [p1_signsV, .int p1_size, .ref p1_tokensA, .ref p1_startsA, .ref p1_valuesA, .int p1_count, .int R142.2.1, .int R142.2.2])), (p1_tokensA, .inl (cy 1, p1_tokensN, .inl p1_tokens)), (p1_startsA, .inl (cy 1, p1_startsN, .inl p1_starts)), (p1_valuesA, .inl (cy 2, p1_valuesN, .inr (.inl p1_values)))]) (q0 := 6) (CX7_add F p2A p2_size p2_tiesA p2_tiesN p2_ties x8 R153 hg153) kvX7_add klX2_187 [6, 7] [0, 1, 2, 3, 4, 5] rfl rfl (by decide) (by decide) (by decide) rfl rfl rfl rfl dX2_readYearLine_153 ⟨by decide, by decide, by decide, by decide⟩ (Nat.le_of_ble_eq_true rfl) (fun r w1 hq => ?_)
      obtain ⟨rfl, rfl⟩ := hq
      refine V.cells (ws' := (wX2_readYearLine cy tA t_kindsV t_kinV t_stopsV t_roundsV t_folks t_pairs t_line t_rope t_lineTold t_ropeTold t_lawV t_takenV t_namesA t_namesN t_names p1A p1_signsV p1_size p1_count R142.2.1 R142.2.2 p1_tokensA p1_tokensN p1_tokens p1_startsA p1_startsN p1_starts p1_valuesA p1_valuesN p1_values p2A R153.1 p2_tiesA p2_tiesN R153.2)) [0, 1, 2, 3, 4, 5, 6, 7] (by decide) rfl ?_
      show V l D cy MX2_readYearLine 3 0 0 _ _ _ 156 [(1, .ref p1A), (2, .ref p2A), (8, .int x8)] [] (wX2_readYearLine cy tA t_kindsV t_kinV t_stopsV t_roundsV t_folks t_pairs t_line t_rope t_lineTold t_ropeTold t_lawV t_takenV t_namesA t_namesN t_names p1A p1_signsV p1_size p1_count R142.2.1 R142.2.2 p1_tokensA p1_tokensN p1_tokens p1_startsA p1_startsN p1_starts p1_valuesA p1_valuesN p1_values p2A R153.1 p2_tiesA p2_tiesN R153.2) 0 0
      refine V.iconst (v := (1 : Int32)) dX2_readYearLine_156 (by decide) ?_
      have e9 := Option.some.inj h; subst e9
      exact V.iret (ty := .boolean) rfl rfl dX2_readYearLine_157 (Nat.le_refl _) (Nat.le_refl _) hQ
    · replace h := (if_pos hc145).symm.trans h
      refine V.lvs [] rfl ?_
      exact vX2_readYearLine_L148 _ _ _ _ _ _ _ _ _ _ _ _ _ _ _ _ _ _ _ _ _ _ _ _ _ _ _ _ _ _ _ _ _   _ _ _ _ R h hQ
noncomputable def bX2_readYearLine_L131 (F : Nat) (t_folks : Int32) (t_namesN : Nat) (t_names : Nat → Int64) (p1_size : Int32) (p1_count : Int32) (p1_tokensN : Nat) (p1_tokens : Nat → Int32) (p1_startsN : Nat) (p1_starts : Nat → Int32) (p1_valuesN : Nat) (p1_values : Nat → Int64) (p2_tiesN : Nat)  (s0 : Int32) (p1_here : Int32) (p1_fault : Int32) (p2_size : Int32) (p2_ties : Nat → Int32) : Option (Int32 × (Int32) × (Int32) × (Int32) × (Nat → Int32)) :=
  bX2_readYearLine_L133 F t_folks t_namesN t_names p1_size p1_count p1_tokensN p1_tokens p1_startsN p1_starts p1_valuesN p1_values p2_tiesN s0 p1_here p1_fault p2_size p2_ties
theorem vX2_readYearLine_L131 {l : Launch} {D : va_G} {cy : Nat → ClassId} {av : List Value} {ws0 : va_W} {Q : Option Value → va_W → Prop} (F : Nat) (tA : Nat) (t_kindsV : Value) (t_kinV : Value) (t_stopsV : Value) (t_roundsV : Value) (t_folks : Int32) (t_pairs : Int32) (t_line : Int32) (t_rope : Int32) (t_lineTold : Int32) (t_ropeTold : Int32) (t_lawV : Value) (t_takenV : Value) (t_namesA : Nat) (t_namesN : Nat) (t_names : Nat → Int64) (p1A : Nat) (p1_signsV : Value) (p1_size : Int32) (p1_count : Int32) (p1_tokensA : Nat) (p1_tokensN : Nat) (p1_tokens : Nat → Int32) (p1_startsA : Nat) (p1_startsN : Nat) (p1_starts : Nat → Int32) (p1_valuesA : Nat) (p1_valuesN : Nat) (p1_values : Nat → Int64) (p2A : Nat) (p2_tiesA : Nat) (p2_tiesN : Nat)  (s0 : Int32) (p1_here : Int32) (p1_fault : Int32) (p2_size : Int32) (p2_ties : Nat → Int32) (R : Int32 × (Int32) × (Int32) × (Int32) × (Nat → Int32)) (h : bX2_readYearLine_L131 F t_folks t_namesN t_names p1_size p1_count p1_tokensN p1_tokens p1_startsN p1_starts p1_valuesN p1_values p2_tiesN  s0 p1_here p1_fault p2_size p2_ties = some R) (hQ : Q (some (.int R.1)) (wX2_readYearLine cy tA t_kindsV t_kinV t_stopsV t_roundsV t_folks t_pairs t_line t_rope t_lineTold t_ropeTold t_lawV t_takenV t_namesA t_namesN t_names p1A p1_signsV p1_size p1_count R.2.1 R.2.2.1 p1_tokensA p1_tokensN p1_tokens p1_startsA p1_startsN p1_starts p1_valuesA p1_valuesN p1_values p2A R.2.2.2.1 p2_tiesA p2_tiesN R.2.2.2.2)) : V l D cy MX2_readYearLine 3 0 0 av ws0 Q 131 [(1, .ref p1A), (2, .ref p2A)] [.int s0] (wX2_readYearLine cy tA t_kindsV t_kinV t_stopsV t_roundsV t_folks t_pairs t_line t_rope t_lineTold t_ropeTold t_lawV t_takenV t_namesA t_namesN t_names p1A p1_signsV p1_size p1_count p1_here p1_fault p1_tokensA p1_tokensN p1_tokens p1_startsA p1_startsN p1_starts p1_valuesA p1_valuesN p1_values p2A p2_size p2_tiesA p2_tiesN p2_ties) 0 0 := by
  unfold bX2_readYearLine_L131 at h
  refine V.istore (lv' := [(8, .int s0), (1, .ref p1A), (2, .ref p2A)]) dX2_readYearLine_131 (by decide) rfl ?_
  refine V.lvs [1, 2, 0] rfl ?_
  exact vX2_readYearLine_L133 _ _ _ _ _ _ _ _ _ _ _ _ _ _ _ _ _ _ _ _ _ _ _ _ _ _ _ _ _ _ _ _ _   _ _ _ _ _ R h hQ
noncomputable def bX2_readYearLine_L61 (F : Nat) (t_folks : Int32) (t_namesN : Nat) (t_names : Nat → Int64) (p1_size : Int32) (p1_count : Int32) (p1_tokensN : Nat) (p1_tokens : Nat → Int32) (p1_startsN : Nat) (p1_starts : Nat → Int32) (p1_valuesN : Nat) (p1_values : Nat → Int64) (p2_tiesN : Nat)  (x3 : Int32) (x5 : Int32) (x6 : Int32) (x7 : Int32) (p1_here : Int32) (p1_fault : Int32) (p2_size : Int32) (p2_ties : Nat → Int32) : Option (Int32 × (Int32) × (Int32) × (Int32) × (Nat → Int32)) :=
  if p2_size < x3 then ((fX9_step F p1_count p1_here).bind fun R76 => (if x6 = 0 then ((fX2_readSide F p1_size p1_count p1_tokensN p1_tokens p1_startsN p1_starts x7 R76 p1_fault).bind fun R92 => (bX2_readYearLine_L133 F t_folks t_namesN t_names p1_size p1_count p1_tokensN p1_tokens p1_startsN p1_starts p1_valuesN p1_values p2_tiesN R92.1 R92.2.1 R92.2.2 p2_size p2_ties)) else (if x5 = (7 : Int32) then ((fX2_readNumber F p1_size p1_count p1_tokensN p1_tokens p1_startsN p1_starts p1_valuesN p1_values (0 : Int32) (23 : Int32) R76 p1_fault).bind fun R111 => (if R111.1 = (-1 : Int32) then (bX2_readYearLine_L131 F t_folks t_namesN t_names p1_size p1_count p1_tokensN p1_tokens p1_startsN p1_starts p1_valuesN p1_values p2_tiesN (-1 : Int32) R111.2.1 R111.2.2 p2_size p2_ties) else (bX2_readYearLine_L131 F t_folks t_namesN t_names p1_size p1_count p1_tokensN p1_tokens p1_startsN p1_starts p1_valuesN p1_values p2_tiesN ((100 : Int32) + R111.1) R111.2.1 R111.2.2 p2_size p2_ties))) else (bX2_readYearLine_L133 F t_folks t_namesN t_names p1_size p1_count p1_tokensN p1_tokens p1_startsN p1_starts p1_valuesN p1_values p2_tiesN (200 : Int32) R76 p1_fault p2_size p2_ties)))) else ((fX9_wrong F p1_size p1_count p1_here p1_startsN p1_starts (5 : Int32) p1_fault).bind fun R71 => (if R71.1 = 0 ∨ R71.1 = 1 then some (R71.1, p1_here, R71.2, p2_size, p2_ties) else none))
theorem vX2_readYearLine_L61 {l : Launch} {D : va_G} {cy : Nat → ClassId} {av : List Value} {ws0 : va_W} {Q : Option Value → va_W → Prop} (F : Nat) (tA : Nat) (t_kindsV : Value) (t_kinV : Value) (t_stopsV : Value) (t_roundsV : Value) (t_folks : Int32) (t_pairs : Int32) (t_line : Int32) (t_rope : Int32) (t_lineTold : Int32) (t_ropeTold : Int32) (t_lawV : Value) (t_takenV : Value) (t_namesA : Nat) (t_namesN : Nat) (t_names : Nat → Int64) (p1A : Nat) (p1_signsV : Value) (p1_size : Int32) (p1_count : Int32) (p1_tokensA : Nat) (p1_tokensN : Nat) (p1_tokens : Nat → Int32) (p1_startsA : Nat) (p1_startsN : Nat) (p1_starts : Nat → Int32) (p1_valuesA : Nat) (p1_valuesN : Nat) (p1_values : Nat → Int64) (p2A : Nat) (p2_tiesA : Nat) (p2_tiesN : Nat)  (x3 : Int32) (x5 : Int32) (x6 : Int32) (x7 : Int32) (p1_here : Int32) (p1_fault : Int32) (p2_size : Int32) (p2_ties : Nat → Int32) (R : Int32 × (Int32) × (Int32) × (Int32) × (Nat → Int32)) (h : bX2_readYearLine_L61 F t_folks t_namesN t_names p1_size p1_count p1_tokensN p1_tokens p1_startsN p1_starts p1_valuesN p1_values p2_tiesN  x3 x5 x6 x7 p1_here p1_fault p2_size p2_ties = some R) (hQ : Q (some (.int R.1)) (wX2_readYearLine cy tA t_kindsV t_kinV t_stopsV t_roundsV t_folks t_pairs t_line t_rope t_lineTold t_ropeTold t_lawV t_takenV t_namesA t_namesN t_names p1A p1_signsV p1_size p1_count R.2.1 R.2.2.1 p1_tokensA p1_tokensN p1_tokens p1_startsA p1_startsN p1_starts p1_valuesA p1_valuesN p1_values p2A R.2.2.2.1 p2_tiesA p2_tiesN R.2.2.2.2)) : V l D cy MX2_readYearLine 3 0 0 av ws0 Q 61 [(1, .ref p1A), (2, .ref p2A), (3, .int x3), (5, .int x5), (6, .int x6), (7, .int x7)] [] (wX2_readYearLine cy tA t_kindsV t_kinV t_stopsV t_roundsV t_folks t_pairs t_line t_rope t_lineTold t_ropeTold t_lawV t_takenV t_namesA t_namesN t_names p1A p1_signsV p1_size p1_count p1_here p1_fault p1_tokensA p1_tokensN p1_tokens p1_startsA p1_startsN p1_starts p1_valuesA p1_valuesN p1_values p2A p2_size p2_tiesA p2_tiesN p2_ties) 0 0 := by
  unfold bX2_readYearLine_L61 at h
  refine V.aload_n dX2_readYearLine_61 rfl 1 rfl ?_
  refine V.get kfX7 6 rfl rfl 1 (by decide) klX2_78 rfl dX2_readYearLine_62 ?_
  refine V.iload_n dX2_readYearLine_65 rfl 2 rfl ?_
  refine V.icmp_lt (tgt := 75) dX2_readYearLine_66 (by decide) (fun hc66 => ?_) (fun hc66 => ?_)
  · replace h := (if_pos hc66).symm.trans h
    refine V.aload_n dX2_readYearLine_75 rfl 0 rfl ?_
    obtain ⟨R76, hg76, h⟩ := Option.bind_eq_some_iff.mp h
    refine V.callV (As := []) (rest := []) (wc := (wX9_step cy p1A p1_signsV p1_size (.ref p1_tokensA) (.ref p1_startsA) (.ref p1_valuesA) p1_count p1_here p1_fault)) (wr := [(tA, .inr (2, [.ref t_namesA, t_kindsV, t_kinV, t_stopsV, t_roundsV, .int t_folks, .int t_pairs, .int t_line, .int t_rope, .int t_lineTold, .int t_ropeTold, t_lawV, t_takenV])), (t_namesA, .inl (cy 2, t_namesN, .inr (.inl t_names))), (p1_tokensA, .inl (cy 1, p1_tokensN, .inl p1_tokens)), (p1_startsA, .inl (cy 1, p1_startsN, .inl p1_starts)), (p1_valuesA, .inl (cy 2, p1_valuesN, .inr (.inl p1_values))), (p2A, .inr (7, [.ref p2_tiesA, .int p2_size])), (p2_tiesA, .inl (cy 1, p2_tiesN, .inl p2_ties))]) (q0 := 2) (CX9_step F p1A p1_signsV p1_size (.ref p1_tokensA) (.ref p1_startsA) (.ref p1_valuesA) p1_count p1_here p1_fault R76 hg76) kvX9_step klX2_147 [2] [0, 1, 3, 4, 5, 6, 7] rfl rfl (by decide) (by decide) (by decide) rfl rfl rfl rfl dX2_readYearLine_76 ⟨by decide, by decide, by decide, by decide⟩ (Nat.le_of_ble_eq_true rfl) (fun r w1 hq => ?_)
    obtain ⟨rfl, rfl⟩ := hq
    refine V.cells (ws' := (wX2_readYearLine cy tA t_kindsV t_kinV t_stopsV t_roundsV t_folks t_pairs t_line t_rope t_lineTold t_ropeTold t_lawV t_takenV t_namesA t_namesN t_names p1A p1_signsV p1_size p1_count R76 p1_fault p1_tokensA p1_tokensN p1_tokens p1_startsA p1_startsN p1_starts p1_valuesA p1_valuesN p1_values p2A p2_size p2_tiesA p2_tiesN p2_ties)) [0, 1, 7, 2, 3, 4, 5, 6] (by decide) rfl ?_
    show V l D cy MX2_readYearLine 3 0 0 _ _ _ 79 [(1, .ref p1A), (2, .ref p2A), (3, .int x3), (5, .int x5), (6, .int x6), (7, .int x7)] [] (wX2_readYearLine cy tA t_kindsV t_kinV t_stopsV t_roundsV t_folks t_pairs t_line t_rope t_lineTold t_ropeTold t_lawV t_takenV t_namesA t_namesN t_names p1A p1_signsV p1_size p1_count R76 p1_fault p1_tokensA p1_tokensN p1_tokens p1_startsA p1_startsN p1_starts p1_valuesA p1_valuesN p1_values p2A p2_size p2_tiesA p2_tiesN p2_ties) 0 0
    refine V.sipush (v := (200 : Int32)) dX2_readYearLine_79 (by decide) ?_
    refine V.istore (lv' := [(8, .int (200 : Int32)), (1, .ref p1A), (2, .ref p2A), (3, .int x3), (5, .int x5), (6, .int x6), (7, .int x7)]) dX2_readYearLine_82 (by decide) rfl ?_
    refine V.iload dX2_readYearLine_84 5 rfl ?_
    refine V.if_ne (tgt := 100) dX2_readYearLine_86 (by decide) (fun hc86 => ?_) (fun hc86 => ?_)
    · replace h := (if_neg hc86).symm.trans h
      refine V.iload dX2_readYearLine_100 4 rfl ?_
      refine V.bipush (v := (7 : Int32)) dX2_readYearLine_102 (by decide) ?_
      refine V.icmp_ne (tgt := 133) dX2_readYearLine_104 (by decide) (fun hc104 => ?_) (fun hc104 => ?_)
      · replace h := (if_neg hc104).symm.trans h
        refine V.lvs [1, 2, 0] rfl ?_
        exact vX2_readYearLine_L133 _ _ _ _ _ _ _ _ _ _ _ _ _ _ _ _ _ _ _ _ _ _ _ _ _ _ _ _ _ _ _ _ _   _ _ _ _ _ R h hQ
      · replace h := (if_pos hc104).symm.trans h
        refine V.aload_n dX2_readYearLine_107 rfl 1 rfl ?_
        refine V.iconst (v := (0 : Int32)) dX2_readYearLine_108 (by decide) ?_
        refine V.bipush (v := (23 : Int32)) dX2_readYearLine_109 (by decide) ?_
        obtain ⟨R111, hg111, h⟩ := Option.bind_eq_some_iff.mp h
        refine V.callS (As := [.ref p1A, .int (0 : Int32), .int (23 : Int32)]) (rest := []) (wc := (wX2_readNumber cy p1A p1_signsV p1_size p1_count R76 p1_fault p1_tokensA p1_tokensN p1_tokens p1_startsA p1_startsN p1_starts p1_valuesA p1_valuesN p1_values)) (wr := [(tA, .inr (2, [.ref t_namesA, t_kindsV, t_kinV, t_stopsV, t_roundsV, .int t_folks, .int t_pairs, .int t_line, .int t_rope, .int t_lineTold, .int t_ropeTold, t_lawV, t_takenV])), (t_namesA, .inl (cy 2, t_namesN, .inr (.inl t_names))), (p2A, .inr (7, [.ref p2_tiesA, .int p2_size])), (p2_tiesA, .inl (cy 1, p2_tiesN, .inl p2_ties))]) (CX2_readNumber F p1A p1_signsV p1_size p1_count R76 p1_fault p1_tokensA p1_tokensN p1_tokens p1_startsA p1_startsN p1_starts p1_valuesA p1_valuesN p1_values (0 : Int32) (23 : Int32) R111 hg111) kvX2_readNumber klX2_171 [2, 3, 4, 5] [0, 1, 6, 7] rfl rfl (by decide) (by decide) (by decide) rfl dX2_readYearLine_111 ⟨by decide, by decide, by decide, by decide⟩ (Nat.le_of_ble_eq_true rfl) (fun r w1 hq => ?_)
        obtain ⟨rfl, rfl⟩ := hq
        refine V.cells (ws' := (wX2_readYearLine cy tA t_kindsV t_kinV t_stopsV t_roundsV t_folks t_pairs t_line t_rope t_lineTold t_ropeTold t_lawV t_takenV t_namesA t_namesN t_names p1A p1_signsV p1_size p1_count R111.2.1 R111.2.2 p1_tokensA p1_tokensN p1_tokens p1_startsA p1_startsN p1_starts p1_valuesA p1_valuesN p1_values p2A p2_size p2_tiesA p2_tiesN p2_ties)) [0, 1, 4, 5, 6, 7, 2, 3] (by decide) rfl ?_
        show V l D cy MX2_readYearLine 3 0 0 _ _ _ 114 [(8, .int (200 : Int32)), (1, .ref p1A), (2, .ref p2A), (3, .int x3), (5, .int x5), (6, .int x6), (7, .int x7)] [.int R111.1] (wX2_readYearLine cy tA t_kindsV t_kinV t_stopsV t_roundsV t_folks t_pairs t_line t_rope t_lineTold t_ropeTold t_lawV t_takenV t_namesA t_namesN t_names p1A p1_signsV p1_size p1_count R111.2.1 R111.2.2 p1_tokensA p1_tokensN p1_tokens p1_startsA p1_startsN p1_starts p1_valuesA p1_valuesN p1_values p2A p2_size p2_tiesA p2_tiesN p2_ties) 0 0
        refine V.istore (lv' := [(9, .int R111.1), (8, .int (200 : Int32)), (1, .ref p1A), (2, .ref p2A), (3, .int x3), (5, .int x5), (6, .int x6), (7, .int x7)]) dX2_readYearLine_114 (by decide) rfl ?_
        refine V.iload dX2_readYearLine_116 0 rfl ?_
        refine V.iconst (v := (-1 : Int32)) dX2_readYearLine_118 (by decide) ?_
        refine V.icmp_ne (tgt := 126) dX2_readYearLine_119 (by decide) (fun hc119 => ?_) (fun hc119 => ?_)
        · replace h := (if_neg hc119).symm.trans h
          refine V.bipush (v := (100 : Int32)) dX2_readYearLine_126 (by decide) ?_
          refine V.iload dX2_readYearLine_128 0 rfl ?_
          refine V.iadd dX2_readYearLine_130 ?_
          refine V.lvs [2, 3] rfl ?_
          exact vX2_readYearLine_L131 _ _ _ _ _ _ _ _ _ _ _ _ _ _ _ _ _ _ _ _ _ _ _ _ _ _ _ _ _ _ _ _ _   _ _ _ _ _ R h hQ
        · replace h := (if_pos hc119).symm.trans h
          refine V.iconst (v := (-1 : Int32)) dX2_readYearLine_122 (by decide) ?_
          refine V.goto (tgt := 131) dX2_readYearLine_123 (by decide) ?_
          refine V.lvs [2, 3] rfl ?_
          exact vX2_readYearLine_L131 _ _ _ _ _ _ _ _ _ _ _ _ _ _ _ _ _ _ _ _ _ _ _ _ _ _ _ _ _ _ _ _ _   _ _ _ _ _ R h hQ
    · replace h := (if_pos hc86).symm.trans h
      refine V.aload_n dX2_readYearLine_89 rfl 1 rfl ?_
      refine V.iload dX2_readYearLine_90 6 rfl ?_
      obtain ⟨R92, hg92, h⟩ := Option.bind_eq_some_iff.mp h
      refine V.callS (As := [.ref p1A, .int x7]) (rest := []) (wc := (wX2_readSide cy p1A p1_signsV p1_size (.ref p1_valuesA) p1_count R76 p1_fault p1_tokensA p1_tokensN p1_tokens p1_startsA p1_startsN p1_starts)) (wr := [(tA, .inr (2, [.ref t_namesA, t_kindsV, t_kinV, t_stopsV, t_roundsV, .int t_folks, .int t_pairs, .int t_line, .int t_rope, .int t_lineTold, .int t_ropeTold, t_lawV, t_takenV])), (t_namesA, .inl (cy 2, t_namesN, .inr (.inl t_names))), (p1_valuesA, .inl (cy 2, p1_valuesN, .inr (.inl p1_values))), (p2A, .inr (7, [.ref p2_tiesA, .int p2_size])), (p2_tiesA, .inl (cy 1, p2_tiesN, .inl p2_ties))]) (CX2_readSide F p1A p1_signsV p1_size (.ref p1_valuesA) p1_count R76 p1_fault p1_tokensA p1_tokensN p1_tokens p1_startsA p1_startsN p1_starts x7 R92 hg92) kvX2_readSide klX2_183 [2, 3, 4] [0, 1, 5, 6, 7] rfl rfl (by decide) (by decide) (by decide) rfl dX2_readYearLine_92 ⟨by decide, by decide, by decide, by decide⟩ (Nat.le_of_ble_eq_true rfl) (fun r w1 hq => ?_)
      obtain ⟨rfl, rfl⟩ := hq
      refine V.cells (ws' := (wX2_readYearLine cy tA t_kindsV t_kinV t_stopsV t_roundsV t_folks t_pairs t_line t_rope t_lineTold t_ropeTold t_lawV t_takenV t_namesA t_namesN t_names p1A p1_signsV p1_size p1_count R92.2.1 R92.2.2 p1_tokensA p1_tokensN p1_tokens p1_startsA p1_startsN p1_starts p1_valuesA p1_valuesN p1_values p2A p2_size p2_tiesA p2_tiesN p2_ties)) [0, 1, 5, 6, 7, 2, 3, 4] (by decide) rfl ?_
      show V l D cy MX2_readYearLine 3 0 0 _ _ _ 95 [(8, .int (200 : Int32)), (1, .ref p1A), (2, .ref p2A), (3, .int x3), (5, .int x5), (6, .int x6), (7, .int x7)] [.int R92.1] (wX2_readYearLine cy tA t_kindsV t_kinV t_stopsV t_roundsV t_folks t_pairs t_line t_rope t_lineTold t_ropeTold t_lawV t_takenV t_namesA t_namesN t_names p1A p1_signsV p1_size p1_count R92.2.1 R92.2.2 p1_tokensA p1_tokensN p1_tokens p1_startsA p1_startsN p1_starts p1_valuesA p1_valuesN p1_values p2A p2_size p2_tiesA p2_tiesN p2_ties) 0 0
      refine V.istore (lv' := [(8, .int R92.1), (1, .ref p1A), (2, .ref p2A), (3, .int x3), (5, .int x5), (6, .int x6), (7, .int x7)]) dX2_readYearLine_95 (by decide) rfl ?_
      refine V.goto (tgt := 133) dX2_readYearLine_97 (by decide) ?_
      refine V.lvs [1, 2, 0] rfl ?_
      exact vX2_readYearLine_L133 _ _ _ _ _ _ _ _ _ _ _ _ _ _ _ _ _ _ _ _ _ _ _ _ _ _ _ _ _ _ _ _ _   _ _ _ _ _ R h hQ
  · replace h := (if_neg hc66).symm.trans h
    refine V.aload_n dX2_readYearLine_69 rfl 0 rfl ?_
    refine V.iconst (v := (5 : Int32)) dX2_readYearLine_70 (by decide) ?_
    obtain ⟨R71, hg71, h⟩ := Option.bind_eq_some_iff.mp h
    refine V.callV (As := [.int (5 : Int32)]) (rest := []) (wc := (wX9_wrong cy p1A p1_signsV p1_size (.ref p1_tokensA) (.ref p1_valuesA) p1_count p1_here p1_fault p1_startsA p1_startsN p1_starts)) (wr := [(tA, .inr (2, [.ref t_namesA, t_kindsV, t_kinV, t_stopsV, t_roundsV, .int t_folks, .int t_pairs, .int t_line, .int t_rope, .int t_lineTold, .int t_ropeTold, t_lawV, t_takenV])), (t_namesA, .inl (cy 2, t_namesN, .inr (.inl t_names))), (p1_tokensA, .inl (cy 1, p1_tokensN, .inl p1_tokens)), (p1_valuesA, .inl (cy 2, p1_valuesN, .inr (.inl p1_values))), (p2A, .inr (7, [.ref p2_tiesA, .int p2_size])), (p2_tiesA, .inl (cy 1, p2_tiesN, .inl p2_ties))]) (q0 := 2) (CX9_wrong F p1A p1_signsV p1_size (.ref p1_tokensA) (.ref p1_valuesA) p1_count p1_here p1_fault p1_startsA p1_startsN p1_starts (5 : Int32) R71 hg71) kvX9_wrong klX2_144 [2, 4] [0, 1, 3, 5, 6, 7] rfl rfl (by decide) (by decide) (by decide) rfl rfl rfl rfl dX2_readYearLine_71 ⟨by decide, by decide, by decide, by decide⟩ (Nat.le_of_ble_eq_true rfl) (fun r w1 hq => ?_)
    obtain ⟨rfl, rfl⟩ := hq
    refine V.cells (ws' := (wX2_readYearLine cy tA t_kindsV t_kinV t_stopsV t_roundsV t_folks t_pairs t_line t_rope t_lineTold t_ropeTold t_lawV t_takenV t_namesA t_namesN t_names p1A p1_signsV p1_size p1_count p1_here R71.2 p1_tokensA p1_tokensN p1_tokens p1_startsA p1_startsN p1_starts p1_valuesA p1_valuesN p1_values p2A p2_size p2_tiesA p2_tiesN p2_ties)) [0, 1, 6, 2, 7, 3, 4, 5] (by decide) rfl ?_
    show V l D cy MX2_readYearLine 3 0 0 _ _ _ 74 [(1, .ref p1A), (2, .ref p2A), (3, .int x3), (5, .int x5), (6, .int x6), (7, .int x7)] [.int R71.1] (wX2_readYearLine cy tA t_kindsV t_kinV t_stopsV t_roundsV t_folks t_pairs t_line t_rope t_lineTold t_ropeTold t_lawV t_takenV t_namesA t_namesN t_names p1A p1_signsV p1_size p1_count p1_here R71.2 p1_tokensA p1_tokensN p1_tokens p1_startsA p1_startsN p1_starts p1_valuesA p1_valuesN p1_values p2A p2_size p2_tiesA p2_tiesN p2_ties) 0 0
    by_cases hz74 : R71.1 = 0 ∨ R71.1 = 1
    case neg => exact vNone ((if_neg hz74).symm.trans h)
    replace h := (if_pos hz74).symm.trans h
    have e9 := Option.some.inj h; subst e9
    exact V.iret (ty := .boolean) rfl (vBool hz74).1 dX2_readYearLine_74 (Nat.le_refl _) (Nat.le_refl _) hQ
noncomputable def bX2_readYearLine_L46 (F : Nat) (t_folks : Int32) (t_namesN : Nat) (t_names : Nat → Int64) (p1_size : Int32) (p1_count : Int32) (p1_tokensN : Nat) (p1_tokens : Nat → Int32) (p1_startsN : Nat) (p1_starts : Nat → Int32) (p1_valuesN : Nat) (p1_values : Nat → Int64) (p2_tiesN : Nat)  (x3 : Int32) (x5 : Int32) (x6 : Int32) (s0 : Int32) (p1_here : Int32) (p1_fault : Int32) (p2_size : Int32) (p2_ties : Nat → Int32) : Option (Int32 × (Int32) × (Int32) × (Int32) × (Nat → Int32)) :=
  if x6 = 0 then (if s0 = (-1 : Int32) then (some ((0 : Int32), p1_here, p1_fault, p2_size, p2_ties)) else (bX2_readYearLine_L61 F t_folks t_namesN t_names p1_size p1_count p1_tokensN p1_tokens p1_startsN p1_starts p1_valuesN p1_values p2_tiesN x3 x5 x6 s0 p1_here p1_fault p2_size p2_ties)) else (bX2_readYearLine_L61 F t_folks t_namesN t_names p1_size p1_count p1_tokensN p1_tokens p1_startsN p1_starts p1_valuesN p1_values p2_tiesN x3 x5 x6 s0 p1_here p1_fault p2_size p2_ties)
theorem vX2_readYearLine_L46 {l : Launch} {D : va_G} {cy : Nat → ClassId} {av : List Value} {ws0 : va_W} {Q : Option Value → va_W → Prop} (F : Nat) (tA : Nat) (t_kindsV : Value) (t_kinV : Value) (t_stopsV : Value) (t_roundsV : Value) (t_folks : Int32) (t_pairs : Int32) (t_line : Int32) (t_rope : Int32) (t_lineTold : Int32) (t_ropeTold : Int32) (t_lawV : Value) (t_takenV : Value) (t_namesA : Nat) (t_namesN : Nat) (t_names : Nat → Int64) (p1A : Nat) (p1_signsV : Value) (p1_size : Int32) (p1_count : Int32) (p1_tokensA : Nat) (p1_tokensN : Nat) (p1_tokens : Nat → Int32) (p1_startsA : Nat) (p1_startsN : Nat) (p1_starts : Nat → Int32) (p1_valuesA : Nat) (p1_valuesN : Nat) (p1_values : Nat → Int64) (p2A : Nat) (p2_tiesA : Nat) (p2_tiesN : Nat)  (x3 : Int32) (x5 : Int32) (x6 : Int32) (s0 : Int32) (p1_here : Int32) (p1_fault : Int32) (p2_size : Int32) (p2_ties : Nat → Int32) (R : Int32 × (Int32) × (Int32) × (Int32) × (Nat → Int32)) (h : bX2_readYearLine_L46 F t_folks t_namesN t_names p1_size p1_count p1_tokensN p1_tokens p1_startsN p1_starts p1_valuesN p1_values p2_tiesN  x3 x5 x6 s0 p1_here p1_fault p2_size p2_ties = some R) (hQ : Q (some (.int R.1)) (wX2_readYearLine cy tA t_kindsV t_kinV t_stopsV t_roundsV t_folks t_pairs t_line t_rope t_lineTold t_ropeTold t_lawV t_takenV t_namesA t_namesN t_names p1A p1_signsV p1_size p1_count R.2.1 R.2.2.1 p1_tokensA p1_tokensN p1_tokens p1_startsA p1_startsN p1_starts p1_valuesA p1_valuesN p1_values p2A R.2.2.2.1 p2_tiesA p2_tiesN R.2.2.2.2)) : V l D cy MX2_readYearLine 3 0 0 av ws0 Q 46 [(1, .ref p1A), (2, .ref p2A), (3, .int x3), (5, .int x5), (6, .int x6)] [.int s0] (wX2_readYearLine cy tA t_kindsV t_kinV t_stopsV t_roundsV t_folks t_pairs t_line t_rope t_lineTold t_ropeTold t_lawV t_takenV t_namesA t_namesN t_names p1A p1_signsV p1_size p1_count p1_here p1_fault p1_tokensA p1_tokensN p1_tokens p1_startsA p1_startsN p1_starts p1_valuesA p1_valuesN p1_values p2A p2_size p2_tiesA p2_tiesN p2_ties) 0 0 := by
  unfold bX2_readYearLine_L46 at h
  refine V.istore (lv' := [(7, .int s0), (1, .ref p1A), (2, .ref p2A), (3, .int x3), (5, .int x5), (6, .int x6)]) dX2_readYearLine_46 (by decide) rfl ?_
  refine V.iload dX2_readYearLine_48 5 rfl ?_
  refine V.if_ne (tgt := 61) dX2_readYearLine_50 (by decide) (fun hc50 => ?_) (fun hc50 => ?_)
  · replace h := (if_neg hc50).symm.trans h
    refine V.lvs [1, 2, 3, 4, 5, 0] rfl ?_
    exact vX2_readYearLine_L61 _ _ _ _ _ _ _ _ _ _ _ _ _ _ _ _ _ _ _ _ _ _ _ _ _ _ _ _ _ _ _ _ _   _ _ _ _ _ _ _ _ R h hQ
  · replace h := (if_pos hc50).symm.trans h
    refine V.iload dX2_readYearLine_53 0 rfl ?_
    refine V.iconst (v := (-1 : Int32)) dX2_readYearLine_55 (by decide) ?_
    refine V.icmp_ne (tgt := 61) dX2_readYearLine_56 (by decide) (fun hc56 => ?_) (fun hc56 => ?_)
    · replace h := (if_neg hc56).symm.trans h
      refine V.lvs [1, 2, 3, 4, 5, 0] rfl ?_
      exact vX2_readYearLine_L61 _ _ _ _ _ _ _ _ _ _ _ _ _ _ _ _ _ _ _ _ _ _ _ _ _ _ _ _ _ _ _ _ _   _ _ _ _ _ _ _ _ R h hQ
    · replace h := (if_pos hc56).symm.trans h
      refine V.iconst (v := (0 : Int32)) dX2_readYearLine_59 (by decide) ?_
      have e9 := Option.some.inj h; subst e9
      exact V.iret (ty := .boolean) rfl rfl dX2_readYearLine_60 (Nat.le_refl _) (Nat.le_refl _) hQ
noncomputable def bX2_readYearLine_L30 (F : Nat) (t_folks : Int32) (t_namesN : Nat) (t_names : Nat → Int64) (p1_size : Int32) (p1_count : Int32) (p1_tokensN : Nat) (p1_tokens : Nat → Int32) (p1_startsN : Nat) (p1_starts : Nat → Int32) (p1_valuesN : Nat) (p1_values : Nat → Int64) (p2_tiesN : Nat)  (x3 : Int32) (x5 : Int32) (s0 : Int32) (p1_here : Int32) (p1_fault : Int32) (p2_size : Int32) (p2_ties : Nat → Int32) : Option (Int32 × (Int32) × (Int32) × (Int32) × (Nat → Int32)) :=
  if s0 = 0 then ((fX2_nameHere F t_folks t_namesN t_names p1_size p1_count p1_here p1_tokensN p1_tokens p1_startsN p1_starts p1_valuesN p1_values p1_fault).bind fun R43 => (bX2_readYearLine_L46 F t_folks t_namesN t_names p1_size p1_count p1_tokensN p1_tokens p1_startsN p1_starts p1_valuesN p1_values p2_tiesN x3 x5 s0 R43.1 p1_here R43.2 p2_size p2_ties)) else (bX2_readYearLine_L46 F t_folks t_namesN t_names p1_size p1_count p1_tokensN p1_tokens p1_startsN p1_starts p1_valuesN p1_values p2_tiesN x3 x5 s0 (-1 : Int32) p1_here p1_fault p2_size p2_ties)
theorem vX2_readYearLine_L30 {l : Launch} {D : va_G} {cy : Nat → ClassId} {av : List Value} {ws0 : va_W} {Q : Option Value → va_W → Prop} (F : Nat) (tA : Nat) (t_kindsV : Value) (t_kinV : Value) (t_stopsV : Value) (t_roundsV : Value) (t_folks : Int32) (t_pairs : Int32) (t_line : Int32) (t_rope : Int32) (t_lineTold : Int32) (t_ropeTold : Int32) (t_lawV : Value) (t_takenV : Value) (t_namesA : Nat) (t_namesN : Nat) (t_names : Nat → Int64) (p1A : Nat) (p1_signsV : Value) (p1_size : Int32) (p1_count : Int32) (p1_tokensA : Nat) (p1_tokensN : Nat) (p1_tokens : Nat → Int32) (p1_startsA : Nat) (p1_startsN : Nat) (p1_starts : Nat → Int32) (p1_valuesA : Nat) (p1_valuesN : Nat) (p1_values : Nat → Int64) (p2A : Nat) (p2_tiesA : Nat) (p2_tiesN : Nat)  (x3 : Int32) (x5 : Int32) (s0 : Int32) (p1_here : Int32) (p1_fault : Int32) (p2_size : Int32) (p2_ties : Nat → Int32) (R : Int32 × (Int32) × (Int32) × (Int32) × (Nat → Int32)) (h : bX2_readYearLine_L30 F t_folks t_namesN t_names p1_size p1_count p1_tokensN p1_tokens p1_startsN p1_starts p1_valuesN p1_values p2_tiesN  x3 x5 s0 p1_here p1_fault p2_size p2_ties = some R) (hQ : Q (some (.int R.1)) (wX2_readYearLine cy tA t_kindsV t_kinV t_stopsV t_roundsV t_folks t_pairs t_line t_rope t_lineTold t_ropeTold t_lawV t_takenV t_namesA t_namesN t_names p1A p1_signsV p1_size p1_count R.2.1 R.2.2.1 p1_tokensA p1_tokensN p1_tokens p1_startsA p1_startsN p1_starts p1_valuesA p1_valuesN p1_values p2A R.2.2.2.1 p2_tiesA p2_tiesN R.2.2.2.2)) : V l D cy MX2_readYearLine 3 0 0 av ws0 Q 30 [(0, .ref tA), (1, .ref p1A), (2, .ref p2A), (3, .int x3), (5, .int x5)] [.int s0] (wX2_readYearLine cy tA t_kindsV t_kinV t_stopsV t_roundsV t_folks t_pairs t_line t_rope t_lineTold t_ropeTold t_lawV t_takenV t_namesA t_namesN t_names p1A p1_signsV p1_size p1_count p1_here p1_fault p1_tokensA p1_tokensN p1_tokens p1_startsA p1_startsN p1_starts p1_valuesA p1_valuesN p1_values p2A p2_size p2_tiesA p2_tiesN p2_ties) 0 0 := by
  unfold bX2_readYearLine_L30 at h
  refine V.istore (lv' := [(6, .int s0), (0, .ref tA), (1, .ref p1A), (2, .ref p2A), (3, .int x3), (5, .int x5)]) dX2_readYearLine_30 (by decide) rfl ?_
  refine V.iload dX2_readYearLine_32 0 rfl ?_
  refine V.if_eq (tgt := 41) dX2_readYearLine_34 (by decide) (fun hc34 => ?_) (fun hc34 => ?_)
  · replace h := (if_pos hc34).symm.trans h
    refine V.aload_n dX2_readYearLine_41 rfl 1 rfl ?_
    refine V.aload_n dX2_readYearLine_42 rfl 2 rfl ?_
    obtain ⟨R43, hg43, h⟩ := Option.bind_eq_some_iff.mp h
    refine V.callV (As := [.ref p1A]) (rest := []) (wc := (wX2_nameHere cy tA t_kindsV t_kinV t_stopsV t_roundsV t_folks t_pairs t_line t_rope t_lineTold t_ropeTold t_lawV t_takenV t_namesA t_namesN t_names p1A p1_signsV p1_size p1_count p1_here p1_fault p1_tokensA p1_tokensN p1_tokens p1_startsA p1_startsN p1_starts p1_valuesA p1_valuesN p1_values)) (wr := [(p2A, .inr (7, [.ref p2_tiesA, .int p2_size])), (p2_tiesA, .inl (cy 1, p2_tiesN, .inl p2_ties))]) (q0 := 0) (CX2_nameHere F tA t_kindsV t_kinV t_stopsV t_roundsV t_folks t_pairs t_line t_rope t_lineTold t_ropeTold t_lawV t_takenV t_namesA t_namesN t_names p1A p1_signsV p1_size p1_count p1_here p1_fault p1_tokensA p1_tokensN p1_tokens p1_startsA p1_startsN p1_starts p1_valuesA p1_valuesN p1_values R43 hg43) kvX2_nameHere klX2_167 [0, 1, 2, 3, 4, 5] [6, 7] rfl rfl (by decide) (by decide) (by decide) rfl rfl rfl rfl dX2_readYearLine_43 ⟨by decide, by decide, by decide, by decide⟩ (Nat.le_of_ble_eq_true rfl) (fun r w1 hq => ?_)
    obtain ⟨rfl, rfl⟩ := hq
    refine V.cells (ws' := (wX2_readYearLine cy tA t_kindsV t_kinV t_stopsV t_roundsV t_folks t_pairs t_line t_rope t_lineTold t_ropeTold t_lawV t_takenV t_namesA t_namesN t_names p1A p1_signsV p1_size p1_count p1_here R43.2 p1_tokensA p1_tokensN p1_tokens p1_startsA p1_startsN p1_starts p1_valuesA p1_valuesN p1_values p2A p2_size p2_tiesA p2_tiesN p2_ties)) [2, 3, 4, 5, 6, 7, 0, 1] (by decide) rfl ?_
    show V l D cy MX2_readYearLine 3 0 0 _ _ _ 46 [(6, .int s0), (0, .ref tA), (1, .ref p1A), (2, .ref p2A), (3, .int x3), (5, .int x5)] [.int R43.1] (wX2_readYearLine cy tA t_kindsV t_kinV t_stopsV t_roundsV t_folks t_pairs t_line t_rope t_lineTold t_ropeTold t_lawV t_takenV t_namesA t_namesN t_names p1A p1_signsV p1_size p1_count p1_here R43.2 p1_tokensA p1_tokensN p1_tokens p1_startsA p1_startsN p1_starts p1_valuesA p1_valuesN p1_values p2A p2_size p2_tiesA p2_tiesN p2_ties) 0 0
    refine V.lvs [2, 3, 4, 5, 0] rfl ?_
    exact vX2_readYearLine_L46 _ _ _ _ _ _ _ _ _ _ _ _ _ _ _ _ _ _ _ _ _ _ _ _ _ _ _ _ _ _ _ _ _   _ _ _ _ _ _ _ _ R h hQ
  · replace h := (if_neg hc34).symm.trans h
    refine V.iconst (v := (-1 : Int32)) dX2_readYearLine_37 (by decide) ?_
    refine V.goto (tgt := 46) dX2_readYearLine_38 (by decide) ?_
    refine V.lvs [2, 3, 4, 5, 0] rfl ?_
    exact vX2_readYearLine_L46 _ _ _ _ _ _ _ _ _ _ _ _ _ _ _ _ _ _ _ _ _ _ _ _ _ _ _ _ _ _ _ _ _   _ _ _ _ _ _ _ _ R h hQ
noncomputable def bX2_readYearLine_L29 (F : Nat) (t_folks : Int32) (t_namesN : Nat) (t_names : Nat → Int64) (p1_size : Int32) (p1_count : Int32) (p1_tokensN : Nat) (p1_tokens : Nat → Int32) (p1_startsN : Nat) (p1_starts : Nat → Int32) (p1_valuesN : Nat) (p1_values : Nat → Int64) (p2_tiesN : Nat)  (x3 : Int32) (x5 : Int32) (p1_here : Int32) (p1_fault : Int32) (p2_size : Int32) (p2_ties : Nat → Int32) : Option (Int32 × (Int32) × (Int32) × (Int32) × (Nat → Int32)) :=
  bX2_readYearLine_L30 F t_folks t_namesN t_names p1_size p1_count p1_tokensN p1_tokens p1_startsN p1_starts p1_valuesN p1_values p2_tiesN x3 x5 (0 : Int32) p1_here p1_fault p2_size p2_ties
theorem vX2_readYearLine_L29 {l : Launch} {D : va_G} {cy : Nat → ClassId} {av : List Value} {ws0 : va_W} {Q : Option Value → va_W → Prop} (F : Nat) (tA : Nat) (t_kindsV : Value) (t_kinV : Value) (t_stopsV : Value) (t_roundsV : Value) (t_folks : Int32) (t_pairs : Int32) (t_line : Int32) (t_rope : Int32) (t_lineTold : Int32) (t_ropeTold : Int32) (t_lawV : Value) (t_takenV : Value) (t_namesA : Nat) (t_namesN : Nat) (t_names : Nat → Int64) (p1A : Nat) (p1_signsV : Value) (p1_size : Int32) (p1_count : Int32) (p1_tokensA : Nat) (p1_tokensN : Nat) (p1_tokens : Nat → Int32) (p1_startsA : Nat) (p1_startsN : Nat) (p1_starts : Nat → Int32) (p1_valuesA : Nat) (p1_valuesN : Nat) (p1_values : Nat → Int64) (p2A : Nat) (p2_tiesA : Nat) (p2_tiesN : Nat)  (x3 : Int32) (x5 : Int32) (p1_here : Int32) (p1_fault : Int32) (p2_size : Int32) (p2_ties : Nat → Int32) (R : Int32 × (Int32) × (Int32) × (Int32) × (Nat → Int32)) (h : bX2_readYearLine_L29 F t_folks t_namesN t_names p1_size p1_count p1_tokensN p1_tokens p1_startsN p1_starts p1_valuesN p1_values p2_tiesN  x3 x5 p1_here p1_fault p2_size p2_ties = some R) (hQ : Q (some (.int R.1)) (wX2_readYearLine cy tA t_kindsV t_kinV t_stopsV t_roundsV t_folks t_pairs t_line t_rope t_lineTold t_ropeTold t_lawV t_takenV t_namesA t_namesN t_names p1A p1_signsV p1_size p1_count R.2.1 R.2.2.1 p1_tokensA p1_tokensN p1_tokens p1_startsA p1_startsN p1_starts p1_valuesA p1_valuesN p1_values p2A R.2.2.2.1 p2_tiesA p2_tiesN R.2.2.2.2)) : V l D cy MX2_readYearLine 3 0 0 av ws0 Q 29 [(0, .ref tA), (1, .ref p1A), (2, .ref p2A), (3, .int x3), (5, .int x5)] [] (wX2_readYearLine cy tA t_kindsV t_kinV t_stopsV t_roundsV t_folks t_pairs t_line t_rope t_lineTold t_ropeTold t_lawV t_takenV t_namesA t_namesN t_names p1A p1_signsV p1_size p1_count p1_here p1_fault p1_tokensA p1_tokensN p1_tokens p1_startsA p1_startsN p1_starts p1_valuesA p1_valuesN p1_values p2A p2_size p2_tiesA p2_tiesN p2_ties) 0 0 := by
  unfold bX2_readYearLine_L29 at h
  refine V.iconst (v := (0 : Int32)) dX2_readYearLine_29 (by decide) ?_
  exact vX2_readYearLine_L30 _ _ _ _ _ _ _ _ _ _ _ _ _ _ _ _ _ _ _ _ _ _ _ _ _ _ _ _ _ _ _ _ _   _ _ _ _ _ _ _ R h hQ
noncomputable def bX2_readYearLine_L25 (F : Nat) (t_folks : Int32) (t_namesN : Nat) (t_names : Nat → Int64) (p1_size : Int32) (p1_count : Int32) (p1_tokensN : Nat) (p1_tokens : Nat → Int32) (p1_startsN : Nat) (p1_starts : Nat → Int32) (p1_valuesN : Nat) (p1_values : Nat → Int64) (p2_tiesN : Nat)  (x3 : Int32) (x5 : Int32) (p1_here : Int32) (p1_fault : Int32) (p2_size : Int32) (p2_ties : Nat → Int32) : Option (Int32 × (Int32) × (Int32) × (Int32) × (Nat → Int32)) :=
  bX2_readYearLine_L30 F t_folks t_namesN t_names p1_size p1_count p1_tokensN p1_tokens p1_startsN p1_starts p1_valuesN p1_values p2_tiesN x3 x5 (1 : Int32) p1_here p1_fault p2_size p2_ties
theorem vX2_readYearLine_L25 {l : Launch} {D : va_G} {cy : Nat → ClassId} {av : List Value} {ws0 : va_W} {Q : Option Value → va_W → Prop} (F : Nat) (tA : Nat) (t_kindsV : Value) (t_kinV : Value) (t_stopsV : Value) (t_roundsV : Value) (t_folks : Int32) (t_pairs : Int32) (t_line : Int32) (t_rope : Int32) (t_lineTold : Int32) (t_ropeTold : Int32) (t_lawV : Value) (t_takenV : Value) (t_namesA : Nat) (t_namesN : Nat) (t_names : Nat → Int64) (p1A : Nat) (p1_signsV : Value) (p1_size : Int32) (p1_count : Int32) (p1_tokensA : Nat) (p1_tokensN : Nat) (p1_tokens : Nat → Int32) (p1_startsA : Nat) (p1_startsN : Nat) (p1_starts : Nat → Int32) (p1_valuesA : Nat) (p1_valuesN : Nat) (p1_values : Nat → Int64) (p2A : Nat) (p2_tiesA : Nat) (p2_tiesN : Nat)  (x3 : Int32) (x5 : Int32) (p1_here : Int32) (p1_fault : Int32) (p2_size : Int32) (p2_ties : Nat → Int32) (R : Int32 × (Int32) × (Int32) × (Int32) × (Nat → Int32)) (h : bX2_readYearLine_L25 F t_folks t_namesN t_names p1_size p1_count p1_tokensN p1_tokens p1_startsN p1_starts p1_valuesN p1_values p2_tiesN  x3 x5 p1_here p1_fault p2_size p2_ties = some R) (hQ : Q (some (.int R.1)) (wX2_readYearLine cy tA t_kindsV t_kinV t_stopsV t_roundsV t_folks t_pairs t_line t_rope t_lineTold t_ropeTold t_lawV t_takenV t_namesA t_namesN t_names p1A p1_signsV p1_size p1_count R.2.1 R.2.2.1 p1_tokensA p1_tokensN p1_tokens p1_startsA p1_startsN p1_starts p1_valuesA p1_valuesN p1_values p2A R.2.2.2.1 p2_tiesA p2_tiesN R.2.2.2.2)) : V l D cy MX2_readYearLine 3 0 0 av ws0 Q 25 [(0, .ref tA), (1, .ref p1A), (2, .ref p2A), (3, .int x3), (5, .int x5)] [] (wX2_readYearLine cy tA t_kindsV t_kinV t_stopsV t_roundsV t_folks t_pairs t_line t_rope t_lineTold t_ropeTold t_lawV t_takenV t_namesA t_namesN t_names p1A p1_signsV p1_size p1_count p1_here p1_fault p1_tokensA p1_tokensN p1_tokens p1_startsA p1_startsN p1_starts p1_valuesA p1_valuesN p1_values p2A p2_size p2_tiesA p2_tiesN p2_ties) 0 0 := by
  unfold bX2_readYearLine_L25 at h
  refine V.iconst (v := (1 : Int32)) dX2_readYearLine_25 (by decide) ?_
  refine V.goto (tgt := 30) dX2_readYearLine_26 (by decide) ?_
  exact vX2_readYearLine_L30 _ _ _ _ _ _ _ _ _ _ _ _ _ _ _ _ _ _ _ _ _ _ _ _ _ _ _ _ _ _ _ _ _   _ _ _ _ _ _ _ R h hQ
noncomputable def fX2_readYearLine (F : Nat) (t_folks : Int32) (t_namesN : Nat) (t_names : Nat → Int64) (p1_size : Int32) (p1_count : Int32) (p1_tokensN : Nat) (p1_tokens : Nat → Int32) (p1_startsN : Nat) (p1_starts : Nat → Int32) (p1_valuesN : Nat) (p1_values : Nat → Int64) (p2_tiesN : Nat) (a3 : Int32) (a4 : Int32) (p1_here : Int32) (p1_fault : Int32) (p2_size : Int32) (p2_ties : Nat → Int32) : Option (Int32 × (Int32) × (Int32) × (Int32) × (Nat → Int32)) :=
  (fX9_token F p1_count p1_here p1_tokensN p1_tokens).bind fun R1 => (if a4 = 0 then (bX2_readYearLine_L29 F t_folks t_namesN t_names p1_size p1_count p1_tokensN p1_tokens p1_startsN p1_starts p1_valuesN p1_values p2_tiesN a3 R1 p1_here p1_fault p2_size p2_ties) else (if R1 = (7 : Int32) then (bX2_readYearLine_L25 F t_folks t_namesN t_names p1_size p1_count p1_tokensN p1_tokens p1_startsN p1_starts p1_valuesN p1_values p2_tiesN a3 R1 p1_here p1_fault p2_size p2_ties) else (if R1 = (8 : Int32) then (bX2_readYearLine_L25 F t_folks t_namesN t_names p1_size p1_count p1_tokensN p1_tokens p1_startsN p1_starts p1_valuesN p1_values p2_tiesN a3 R1 p1_here p1_fault p2_size p2_ties) else (bX2_readYearLine_L29 F t_folks t_namesN t_names p1_size p1_count p1_tokensN p1_tokens p1_startsN p1_starts p1_valuesN p1_values p2_tiesN a3 R1 p1_here p1_fault p2_size p2_ties))))
theorem CX2_readYearLine {l : Launch} {D : va_G} {cy : Nat → ClassId} (F : Nat) (tA : Nat) (t_kindsV : Value) (t_kinV : Value) (t_stopsV : Value) (t_roundsV : Value) (t_folks : Int32) (t_pairs : Int32) (t_line : Int32) (t_rope : Int32) (t_lineTold : Int32) (t_ropeTold : Int32) (t_lawV : Value) (t_takenV : Value) (t_namesA : Nat) (t_namesN : Nat) (t_names : Nat → Int64) (p1A : Nat) (p1_signsV : Value) (p1_size : Int32) (p1_count : Int32) (p1_here : Int32) (p1_fault : Int32) (p1_tokensA : Nat) (p1_tokensN : Nat) (p1_tokens : Nat → Int32) (p1_startsA : Nat) (p1_startsN : Nat) (p1_starts : Nat → Int32) (p1_valuesA : Nat) (p1_valuesN : Nat) (p1_values : Nat → Int64) (p2A : Nat) (p2_size : Int32) (p2_tiesA : Nat) (p2_tiesN : Nat) (p2_ties : Nat → Int32) (a3 : Int32) (a4 : Int32) (R : Int32 × (Int32) × (Int32) × (Int32) × (Nat → Int32)) (h : fX2_readYearLine F t_folks t_namesN t_names p1_size p1_count p1_tokensN p1_tokens p1_startsN p1_starts p1_valuesN p1_values p2_tiesN a3 a4 p1_here p1_fault p2_size p2_ties = some R) : vMet l D cy MX2_readYearLine 3 0 0 [.ref tA, .ref p1A, .ref p2A, .int a3, .int a4] (wX2_readYearLine cy tA t_kindsV t_kinV t_stopsV t_roundsV t_folks t_pairs t_line t_rope t_lineTold t_ropeTold t_lawV t_takenV t_namesA t_namesN t_names p1A p1_signsV p1_size p1_count p1_here p1_fault p1_tokensA p1_tokensN p1_tokens p1_startsA p1_startsN p1_starts p1_valuesA p1_valuesN p1_values p2A p2_size p2_tiesA p2_tiesN p2_ties) (fun (r : Option Value) (w : va_W) => r = (some (.int R.1)) ∧ w = (wX2_readYearLine cy tA t_kindsV t_kinV t_stopsV t_roundsV t_folks t_pairs t_line t_rope t_lineTold t_ropeTold t_lawV t_takenV t_namesA t_namesN t_names p1A p1_signsV p1_size p1_count R.2.1 R.2.2.1 p1_tokensA p1_tokensN p1_tokens p1_startsA p1_startsN p1_starts p1_valuesA p1_valuesN p1_values p2A R.2.2.2.1 p2_tiesA p2_tiesN R.2.2.2.2)) := by
  refine vMet.start (by decide +kernel) (Nat.le_of_ble_eq_true rfl) ?_
  generalize hQe : (fun (r : Option Value) (w : va_W) => r = (some (.int R.1)) ∧ w = (wX2_readYearLine cy tA t_kindsV t_kinV t_stopsV t_roundsV t_folks t_pairs t_line t_rope t_lineTold t_ropeTold t_lawV t_takenV t_namesA t_namesN t_names p1A p1_signsV p1_size p1_count R.2.1 R.2.2.1 p1_tokensA p1_tokensN p1_tokens p1_startsA p1_startsN p1_starts p1_valuesA p1_valuesN p1_values p2A R.2.2.2.1 p2_tiesA p2_tiesN R.2.2.2.2)) = Q
  have hQ : Q (some (.int R.1)) (wX2_readYearLine cy tA t_kindsV t_kinV t_stopsV t_roundsV t_folks t_pairs t_line t_rope t_lineTold t_ropeTold t_lawV t_takenV t_namesA t_namesN t_names p1A p1_signsV p1_size p1_count R.2.1 R.2.2.1 p1_tokensA p1_tokensN p1_tokens p1_startsA p1_startsN p1_starts p1_valuesA p1_valuesN p1_values p2A R.2.2.2.1 p2_tiesA p2_tiesN R.2.2.2.2) := by rw [← hQe]; exact ⟨rfl, rfl⟩
  show V l D cy MX2_readYearLine 3 0 0 _ _ Q 0 [(0, .ref tA), (1, .ref p1A), (2, .ref p2A), (3, .int a3), (4, .int a4)] [] _ 0 0
  show V l D cy MX2_readYearLine 3 0 0 [.ref tA, .ref p1A, .ref p2A, .int a3, .int a4] _ Q 0 [(0, .ref tA), (1, .ref p1A), (2, .ref p2A), (3, .int a3), (4, .int a4)] [] (wX2_readYearLine cy tA t_kindsV t_kinV t_stopsV t_roundsV t_folks t_pairs t_line t_rope t_lineTold t_ropeTold t_lawV t_takenV t_namesA t_namesN t_names p1A p1_signsV p1_size p1_count p1_here p1_fault p1_tokensA p1_tokensN p1_tokens p1_startsA p1_startsN p1_starts p1_valuesA p1_valuesN p1_values p2A p2_size p2_tiesA p2_tiesN p2_ties) 0 0
  unfold fX2_readYearLine at h
  refine V.aload_n dX2_readYearLine_0 rfl 1 rfl ?_
  obtain ⟨R1, hg1, h⟩ := Option.bind_eq_some_iff.mp h
  refine V.callV (As := []) (rest := []) (wc := (wX9_token cy p1A p1_signsV p1_size (.ref p1_startsA) (.ref p1_valuesA) p1_count p1_here p1_fault p1_tokensA p1_tokensN p1_tokens)) (wr := [(tA, .inr (2, [.ref t_namesA, t_kindsV, t_kinV, t_stopsV, t_roundsV, .int t_folks, .int t_pairs, .int t_line, .int t_rope, .int t_lineTold, .int t_ropeTold, t_lawV, t_takenV])), (t_namesA, .inl (cy 2, t_namesN, .inr (.inl t_names))), (p1_startsA, .inl (cy 1, p1_startsN, .inl p1_starts)), (p1_valuesA, .inl (cy 2, p1_valuesN, .inr (.inl p1_values))), (p2A, .inr (7, [.ref p2_tiesA, .int p2_size])), (p2_tiesA, .inl (cy 1, p2_tiesN, .inl p2_ties))]) (q0 := 2) (CX9_token F p1A p1_signsV p1_size (.ref p1_startsA) (.ref p1_valuesA) p1_count p1_here p1_fault p1_tokensA p1_tokensN p1_tokens R1 hg1) kvX9_token klX2_118 [2, 3] [0, 1, 4, 5, 6, 7] rfl rfl (by decide) (by decide) (by decide) rfl rfl rfl rfl dX2_readYearLine_1 ⟨by decide, by decide, by decide, by decide⟩ (Nat.le_of_ble_eq_true rfl) (fun r w1 hq => ?_)
  obtain ⟨rfl, rfl⟩ := hq
  refine V.cells (ws' := (wX2_readYearLine cy tA t_kindsV t_kinV t_stopsV t_roundsV t_folks t_pairs t_line t_rope t_lineTold t_ropeTold t_lawV t_takenV t_namesA t_namesN t_names p1A p1_signsV p1_size p1_count p1_here p1_fault p1_tokensA p1_tokensN p1_tokens p1_startsA p1_startsN p1_starts p1_valuesA p1_valuesN p1_values p2A p2_size p2_tiesA p2_tiesN p2_ties)) [0, 1, 6, 7, 2, 3, 4, 5] (by decide) rfl ?_
  show V l D cy MX2_readYearLine 3 0 0 _ _ _ 4 [(0, .ref tA), (1, .ref p1A), (2, .ref p2A), (3, .int a3), (4, .int a4)] [.int R1] (wX2_readYearLine cy tA t_kindsV t_kinV t_stopsV t_roundsV t_folks t_pairs t_line t_rope t_lineTold t_ropeTold t_lawV t_takenV t_namesA t_namesN t_names p1A p1_signsV p1_size p1_count p1_here p1_fault p1_tokensA p1_tokensN p1_tokens p1_startsA p1_startsN p1_starts p1_valuesA p1_valuesN p1_values p2A p2_size p2_tiesA p2_tiesN p2_ties) 0 0
  refine V.istore (lv' := [(5, .int R1), (0, .ref tA), (1, .ref p1A), (2, .ref p2A), (3, .int a3), (4, .int a4)]) dX2_readYearLine_4 (by decide) rfl ?_
  refine V.iload dX2_readYearLine_6 5 rfl ?_
  refine V.if_eq (tgt := 29) dX2_readYearLine_8 (by decide) (fun hc8 => ?_) (fun hc8 => ?_)
  · replace h := (if_pos hc8).symm.trans h
    refine V.lvs [1, 2, 3, 4, 0] rfl ?_
    exact vX2_readYearLine_L29 _ _ _ _ _ _ _ _ _ _ _ _ _ _ _ _ _ _ _ _ _ _ _ _ _ _ _ _ _ _ _ _ _   _ _ _ _ _ _ R h hQ
  · replace h := (if_neg hc8).symm.trans h
    refine V.iload dX2_readYearLine_11 0 rfl ?_
    refine V.bipush (v := (7 : Int32)) dX2_readYearLine_13 (by decide) ?_
    refine V.icmp_eq (tgt := 25) dX2_readYearLine_15 (by decide) (fun hc15 => ?_) (fun hc15 => ?_)
    · replace h := (if_pos hc15).symm.trans h
      refine V.lvs [1, 2, 3, 4, 0] rfl ?_
      exact vX2_readYearLine_L25 _ _ _ _ _ _ _ _ _ _ _ _ _ _ _ _ _ _ _ _ _ _ _ _ _ _ _ _ _ _ _ _ _   _ _ _ _ _ _ R h hQ
    · replace h := (if_neg hc15).symm.trans h
      refine V.iload dX2_readYearLine_18 0 rfl ?_
      refine V.bipush (v := (8 : Int32)) dX2_readYearLine_20 (by decide) ?_
      refine V.icmp_ne (tgt := 29) dX2_readYearLine_22 (by decide) (fun hc22 => ?_) (fun hc22 => ?_)
      · replace h := (if_neg hc22).symm.trans h
        refine V.lvs [1, 2, 3, 4, 0] rfl ?_
        exact vX2_readYearLine_L29 _ _ _ _ _ _ _ _ _ _ _ _ _ _ _ _ _ _ _ _ _ _ _ _ _ _ _ _ _ _ _ _ _   _ _ _ _ _ _ R h hQ
      · replace h := (if_pos hc22).symm.trans h
        refine V.lvs [1, 2, 3, 4, 0] rfl ?_
        exact vX2_readYearLine_L25 _ _ _ _ _ _ _ _ _ _ _ _ _ _ _ _ _ _ _ _ _ _ _ _ _ _ _ _ _ _ _ _ _   _ _ _ _ _ _ R h hQ
