theorem dX3_tiedAt_0 : decode cX3_tiedAt 0 = .ok (.aload_n 0, 1) := by decide +kernel
theorem dX3_tiedAt_1 : decode cX3_tiedAt 1 = .ok (.getfield 21, 3) := by decide +kernel
theorem dX3_tiedAt_4 : decode cX3_tiedAt 4 = .ok (.iload_n 2, 1) := by decide +kernel
theorem dX3_tiedAt_5 : decode cX3_tiedAt 5 = .ok (.iaload, 1) := by decide +kernel
theorem dX3_tiedAt_6 : decode cX3_tiedAt 6 = .ok (.ifCond .le 23, 3) := by decide +kernel
theorem dX3_tiedAt_9 : decode cX3_tiedAt 9 = .ok (.iload_n 1, 1) := by decide +kernel
theorem dX3_tiedAt_10 : decode cX3_tiedAt 10 = .ok (.aload_n 0, 1) := by decide +kernel
theorem dX3_tiedAt_11 : decode cX3_tiedAt 11 = .ok (.getfield 21, 3) := by decide +kernel
theorem dX3_tiedAt_14 : decode cX3_tiedAt 14 = .ok (.iload_n 2, 1) := by decide +kernel
theorem dX3_tiedAt_15 : decode cX3_tiedAt 15 = .ok (.iaload, 1) := by decide +kernel
theorem dX3_tiedAt_16 : decode cX3_tiedAt 16 = .ok (.idiv, 1) := by decide +kernel
theorem dX3_tiedAt_17 : decode cX3_tiedAt 17 = .ok (.aload_n 0, 1) := by decide +kernel
theorem dX3_tiedAt_18 : decode cX3_tiedAt 18 = .ok (.getfield 18, 3) := by decide +kernel
theorem dX3_tiedAt_21 : decode cX3_tiedAt 21 = .ok (.iload_n 2, 1) := by decide +kernel
theorem dX3_tiedAt_22 : decode cX3_tiedAt 22 = .ok (.iaload, 1) := by decide +kernel
theorem dX3_tiedAt_23 : decode cX3_tiedAt 23 = .ok (.iconst 1, 1) := by decide +kernel
theorem dX3_tiedAt_24 : decode cX3_tiedAt 24 = .ok (.iadd, 1) := by decide +kernel
theorem dX3_tiedAt_25 : decode cX3_tiedAt 25 = .ok (.irem, 1) := by decide +kernel
theorem dX3_tiedAt_26 : decode cX3_tiedAt 26 = .ok (.goto 4, 3) := by decide +kernel
theorem dX3_tiedAt_29 : decode cX3_tiedAt 29 = .ok (.iconst 0, 1) := by decide +kernel
theorem dX3_tiedAt_30 : decode cX3_tiedAt 30 = .ok (.ireturn, 1) := by decide +kernel
def wX3_tiedAt (cy : Nat → ClassId) (tA : Nat) (t_beforeV : Value) (t_placesV : Value) (t_doneV : Value) (t_waysToV : Value) (t_waysFromV : Value) (t_firstsV : Value) (t_ties : Int32) (t_stages : Int32) (t_tiedA : Nat) (t_tiedN : Nat) (t_tied : Nat → Int32) (t_stepsA : Nat) (t_stepsN : Nat) (t_steps : Nat → Int32) : va_W :=
  [(tA, .inr (3, [t_beforeV, t_placesV, .ref t_tiedA, .ref t_stepsA, t_doneV, t_waysToV, t_waysFromV, t_firstsV, .int t_ties, .int t_stages])), (t_tiedA, .inl (cy 1, t_tiedN, .inl t_tied)), (t_stepsA, .inl (cy 1, t_stepsN, .inl t_steps))]
noncomputable def bX3_tiedAt_L30 (F : Nat) (t_tiedN : Nat) (t_tied : Nat → Int32) (t_stepsN : Nat) (t_steps : Nat → Int32)  (s0 : Int32) : Option (Int32) :=
  some s0
theorem vX3_tiedAt_L30 {l : Launch} {D : va_G} {cy : Nat → ClassId} {av : List Value} {ws0 : va_W} {Q : Option Value → va_W → Prop} (F : Nat) (tA : Nat) (t_beforeV : Value) (t_placesV : Value) (t_doneV : Value) (t_waysToV : Value) (t_waysFromV : Value) (t_firstsV : Value) (t_ties : Int32) (t_stages : Int32) (t_tiedA : Nat) (t_tiedN : Nat) (t_tied : Nat → Int32) (t_stepsA : Nat) (t_stepsN : Nat) (t_steps : Nat → Int32)  (s0 : Int32) (R : Int32) (h : bX3_tiedAt_L30 F t_tiedN t_tied t_stepsN t_steps  s0 = some R) (hQ : Q (some (.int R)) (wX3_tiedAt cy tA t_beforeV t_placesV t_doneV t_waysToV t_waysFromV t_firstsV t_ties t_stages t_tiedA t_tiedN t_tied t_stepsA t_stepsN t_steps)) : V l D cy MX3_tiedAt 0 0 0 av ws0 Q 30 [] [.int s0] (wX3_tiedAt cy tA t_beforeV t_placesV t_doneV t_waysToV t_waysFromV t_firstsV t_ties t_stages t_tiedA t_tiedN t_tied t_stepsA t_stepsN t_steps) 0 0 := by
  unfold bX3_tiedAt_L30 at h
  have e9 := Option.some.inj h; subst e9
  exact V.iret (ty := .int) rfl rfl dX3_tiedAt_30 (Nat.le_refl _) (Nat.le_refl _) hQ
noncomputable def fX3_tiedAt (F : Nat) (t_tiedN : Nat) (t_tied : Nat → Int32) (t_stepsN : Nat) (t_steps : Nat → Int32) (a1 : Int32) (a2 : Int32) : Option (Int32) :=
  if a2 < 0 ∨ t_stepsN ≤ a2.toNatClampNeg then none else (if (t_steps (a2).toNatClampNeg) ≤ 0 then (bX3_tiedAt_L30 F t_tiedN t_tied t_stepsN t_steps (0 : Int32)) else (if a2 < 0 ∨ t_stepsN ≤ a2.toNatClampNeg then none else (if (t_steps (a2).toNatClampNeg) = 0 then none else (if a2 < 0 ∨ t_tiedN ≤ a2.toNatClampNeg then none else (if ((t_tied (a2).toNatClampNeg) + (1 : Int32)) = 0 then none else (bX3_tiedAt_L30 F t_tiedN t_tied t_stepsN t_steps ((a1 / (t_steps (a2).toNatClampNeg)) - (a1 / (t_steps (a2).toNatClampNeg)) / ((t_tied (a2).toNatClampNeg) + (1 : Int32)) * ((t_tied (a2).toNatClampNeg) + (1 : Int32)))))))))
theorem CX3_tiedAt {l : Launch} {D : va_G} {cy : Nat → ClassId} (F : Nat) (tA : Nat) (t_beforeV : Value) (t_placesV : Value) (t_doneV : Value) (t_waysToV : Value) (t_waysFromV : Value) (t_firstsV : Value) (t_ties : Int32) (t_stages : Int32) (t_tiedA : Nat) (t_tiedN : Nat) (t_tied : Nat → Int32) (t_stepsA : Nat) (t_stepsN : Nat) (t_steps : Nat → Int32) (a1 : Int32) (a2 : Int32) (R : Int32) (h : fX3_tiedAt F t_tiedN t_tied t_stepsN t_steps a1 a2 = some R) : vMet l D cy MX3_tiedAt 0 0 0 [.ref tA, .int a1, .int a2] (wX3_tiedAt cy tA t_beforeV t_placesV t_doneV t_waysToV t_waysFromV t_firstsV t_ties t_stages t_tiedA t_tiedN t_tied t_stepsA t_stepsN t_steps) (fun (r : Option Value) (w : va_W) => r = (some (.int R)) ∧ w = (wX3_tiedAt cy tA t_beforeV t_placesV t_doneV t_waysToV t_waysFromV t_firstsV t_ties t_stages t_tiedA t_tiedN t_tied t_stepsA t_stepsN t_steps)) := by
  refine vMet.start (by decide +kernel) (Nat.le_of_ble_eq_true rfl) ?_
  generalize hQe : (fun (r : Option Value) (w : va_W) => r = (some (.int R)) ∧ w = (wX3_tiedAt cy tA t_beforeV t_placesV t_doneV t_waysToV t_waysFromV t_firstsV t_ties t_stages t_tiedA t_tiedN t_tied t_stepsA t_stepsN t_steps)) = Q
  have hQ : Q (some (.int R)) (wX3_tiedAt cy tA t_beforeV t_placesV t_doneV t_waysToV t_waysFromV t_firstsV t_ties t_stages t_tiedA t_tiedN t_tied t_stepsA t_stepsN t_steps) := by rw [← hQe]; exact ⟨rfl, rfl⟩
  show V l D cy MX3_tiedAt 0 0 0 _ _ Q 0 [(0, .ref tA), (1, .int a1), (2, .int a2)] [] _ 0 0
  show V l D cy MX3_tiedAt 0 0 0 [.ref tA, .int a1, .int a2] _ Q 0 [(0, .ref tA), (1, .int a1), (2, .int a2)] [] (wX3_tiedAt cy tA t_beforeV t_placesV t_doneV t_waysToV t_waysFromV t_firstsV t_ties t_stages t_tiedA t_tiedN t_tied t_stepsA t_stepsN t_steps) 0 0
  unfold fX3_tiedAt at h
  refine V.aload_n dX3_tiedAt_0 rfl 0 rfl ?_
  refine V.get kfX3 0 rfl rfl 3 (by decide) klX3_21 rfl dX3_tiedAt_1 ?_
  refine V.iload_n dX3_tiedAt_4 rfl 2 rfl ?_
  by_cases hb5 : a2 < 0 ∨ t_stepsN ≤ a2.toNatClampNeg
  · exact vNone ((if_pos hb5).symm.trans h)
  replace h := (if_neg hb5).symm.trans h
  refine V.iald dX3_tiedAt_5 2 rfl hb5 ?_
  refine V.if_le (tgt := 29) dX3_tiedAt_6 (by decide) (fun hc6 => ?_) (fun hc6 => ?_)
  · replace h := (if_pos hc6).symm.trans h
    refine V.iconst (v := (0 : Int32)) dX3_tiedAt_29 (by decide) ?_
    refine V.lvs [] rfl ?_
    exact vX3_tiedAt_L30 _ _ _ _ _ _ _ _ _ _ _ _ _ _ _ _   _ R h hQ
  · replace h := (if_neg hc6).symm.trans h
    refine V.iload_n dX3_tiedAt_9 rfl 1 rfl ?_
    refine V.aload_n dX3_tiedAt_10 rfl 0 rfl ?_
    refine V.get kfX3 0 rfl rfl 3 (by decide) klX3_21 rfl dX3_tiedAt_11 ?_
    refine V.iload_n dX3_tiedAt_14 rfl 2 rfl ?_
    by_cases hb15 : a2 < 0 ∨ t_stepsN ≤ a2.toNatClampNeg
    · exact vNone ((if_pos hb15).symm.trans h)
    replace h := (if_neg hb15).symm.trans h
    refine V.iald dX3_tiedAt_15 2 rfl hb15 ?_
    by_cases hz16 : (t_steps (a2).toNatClampNeg) = 0
    · exact vNone ((if_pos hz16).symm.trans h)
    replace h := (if_neg hz16).symm.trans h
    refine V.idiv dX3_tiedAt_16 hz16 ?_
    refine V.aload_n dX3_tiedAt_17 rfl 0 rfl ?_
    refine V.get kfX3 0 rfl rfl 2 (by decide) klX3_18 rfl dX3_tiedAt_18 ?_
    refine V.iload_n dX3_tiedAt_21 rfl 2 rfl ?_
    by_cases hb22 : a2 < 0 ∨ t_tiedN ≤ a2.toNatClampNeg
    · exact vNone ((if_pos hb22).symm.trans h)
    replace h := (if_neg hb22).symm.trans h
    refine V.iald dX3_tiedAt_22 1 rfl hb22 ?_
    refine V.iconst (v := (1 : Int32)) dX3_tiedAt_23 (by decide) ?_
    refine V.iadd dX3_tiedAt_24 ?_
    by_cases hz25 : ((t_tied (a2).toNatClampNeg) + (1 : Int32)) = 0
    · exact vNone ((if_pos hz25).symm.trans h)
    replace h := (if_neg hz25).symm.trans h
    refine V.irem dX3_tiedAt_25 hz25 ?_
    refine V.goto (tgt := 30) dX3_tiedAt_26 (by decide) ?_
    refine V.lvs [] rfl ?_
    exact vX3_tiedAt_L30 _ _ _ _ _ _ _ _ _ _ _ _ _ _ _ _   _ R h hQ
theorem dX3_nextPlace_0 : decode cX3_nextPlace 0 = .ok (.aload_n 0, 1) := by decide +kernel
theorem dX3_nextPlace_1 : decode cX3_nextPlace 1 = .ok (.iload_n 1, 1) := by decide +kernel
theorem dX3_nextPlace_2 : decode cX3_nextPlace 2 = .ok (.iload_n 2, 1) := by decide +kernel
theorem dX3_nextPlace_3 : decode cX3_nextPlace 3 = .ok (.invokevirtual 104, 3) := by decide +kernel
theorem dX3_nextPlace_6 : decode cX3_nextPlace 6 = .ok (.istore_n 3, 1) := by decide +kernel
theorem dX3_nextPlace_7 : decode cX3_nextPlace 7 = .ok (.iload_n 3, 1) := by decide +kernel
theorem dX3_nextPlace_8 : decode cX3_nextPlace 8 = .ok (.aload_n 0, 1) := by decide +kernel
theorem dX3_nextPlace_9 : decode cX3_nextPlace 9 = .ok (.getfield 18, 3) := by decide +kernel
theorem dX3_nextPlace_12 : decode cX3_nextPlace 12 = .ok (.iload_n 2, 1) := by decide +kernel
theorem dX3_nextPlace_13 : decode cX3_nextPlace 13 = .ok (.iaload, 1) := by decide +kernel
theorem dX3_nextPlace_14 : decode cX3_nextPlace 14 = .ok (.if_icmp .ge 18, 3) := by decide +kernel
theorem dX3_nextPlace_17 : decode cX3_nextPlace 17 = .ok (.iload_n 1, 1) := by decide +kernel
theorem dX3_nextPlace_18 : decode cX3_nextPlace 18 = .ok (.aload_n 0, 1) := by decide +kernel
theorem dX3_nextPlace_19 : decode cX3_nextPlace 19 = .ok (.getfield 21, 3) := by decide +kernel
theorem dX3_nextPlace_22 : decode cX3_nextPlace 22 = .ok (.iload_n 2, 1) := by decide +kernel
theorem dX3_nextPlace_23 : decode cX3_nextPlace 23 = .ok (.iaload, 1) := by decide +kernel
theorem dX3_nextPlace_24 : decode cX3_nextPlace 24 = .ok (.iadd, 1) := by decide +kernel
theorem dX3_nextPlace_25 : decode cX3_nextPlace 25 = .ok (.aload_n 0, 1) := by decide +kernel
theorem dX3_nextPlace_26 : decode cX3_nextPlace 26 = .ok (.getfield 92, 3) := by decide +kernel
theorem dX3_nextPlace_29 : decode cX3_nextPlace 29 = .ok (.if_icmp .lt 5, 3) := by decide +kernel
theorem dX3_nextPlace_32 : decode cX3_nextPlace 32 = .ok (.iconst (-1), 1) := by decide +kernel
theorem dX3_nextPlace_33 : decode cX3_nextPlace 33 = .ok (.ireturn, 1) := by decide +kernel
theorem dX3_nextPlace_34 : decode cX3_nextPlace 34 = .ok (.aload_n 0, 1) := by decide +kernel
theorem dX3_nextPlace_35 : decode cX3_nextPlace 35 = .ok (.getfield 15, 3) := by decide +kernel
theorem dX3_nextPlace_38 : decode cX3_nextPlace 38 = .ok (.iload_n 2, 1) := by decide +kernel
theorem dX3_nextPlace_39 : decode cX3_nextPlace 39 = .ok (.bipush 14, 2) := by decide +kernel
theorem dX3_nextPlace_41 : decode cX3_nextPlace 41 = .ok (.imul, 1) := by decide +kernel
theorem dX3_nextPlace_42 : decode cX3_nextPlace 42 = .ok (.iload_n 3, 1) := by decide +kernel
theorem dX3_nextPlace_43 : decode cX3_nextPlace 43 = .ok (.iadd, 1) := by decide +kernel
theorem dX3_nextPlace_44 : decode cX3_nextPlace 44 = .ok (.iaload, 1) := by decide +kernel
theorem dX3_nextPlace_45 : decode cX3_nextPlace 45 = .ok (.istore 4, 2) := by decide +kernel
theorem dX3_nextPlace_47 : decode cX3_nextPlace 47 = .ok (.aload_n 0, 1) := by decide +kernel
theorem dX3_nextPlace_48 : decode cX3_nextPlace 48 = .ok (.getfield 9, 3) := by decide +kernel
theorem dX3_nextPlace_51 : decode cX3_nextPlace 51 = .ok (.iload 4, 2) := by decide +kernel
theorem dX3_nextPlace_53 : decode cX3_nextPlace 53 = .ok (.iaload, 1) := by decide +kernel
theorem dX3_nextPlace_54 : decode cX3_nextPlace 54 = .ok (.aload_n 0, 1) := by decide +kernel
theorem dX3_nextPlace_55 : decode cX3_nextPlace 55 = .ok (.getfield 24, 3) := by decide +kernel
theorem dX3_nextPlace_58 : decode cX3_nextPlace 58 = .ok (.iload_n 1, 1) := by decide +kernel
theorem dX3_nextPlace_59 : decode cX3_nextPlace 59 = .ok (.iaload, 1) := by decide +kernel
theorem dX3_nextPlace_60 : decode cX3_nextPlace 60 = .ok (.iconst (-1), 1) := by decide +kernel
theorem dX3_nextPlace_61 : decode cX3_nextPlace 61 = .ok (.ixor, 1) := by decide +kernel
theorem dX3_nextPlace_62 : decode cX3_nextPlace 62 = .ok (.iand, 1) := by decide +kernel
theorem dX3_nextPlace_63 : decode cX3_nextPlace 63 = .ok (.ifCond .ne 8, 3) := by decide +kernel
theorem dX3_nextPlace_66 : decode cX3_nextPlace 66 = .ok (.iload 4, 2) := by decide +kernel
theorem dX3_nextPlace_68 : decode cX3_nextPlace 68 = .ok (.goto 4, 3) := by decide +kernel
theorem dX3_nextPlace_71 : decode cX3_nextPlace 71 = .ok (.iconst (-1), 1) := by decide +kernel
theorem dX3_nextPlace_72 : decode cX3_nextPlace 72 = .ok (.ireturn, 1) := by decide +kernel
def wX3_nextPlace (cy : Nat → ClassId) (tA : Nat) (t_waysToV : Value) (t_waysFromV : Value) (t_firstsV : Value) (t_ties : Int32) (t_stages : Int32) (t_beforeA : Nat) (t_beforeN : Nat) (t_before : Nat → Int32) (t_placesA : Nat) (t_placesN : Nat) (t_places : Nat → Int32) (t_tiedA : Nat) (t_tiedN : Nat) (t_tied : Nat → Int32) (t_stepsA : Nat) (t_stepsN : Nat) (t_steps : Nat → Int32) (t_doneA : Nat) (t_doneN : Nat) (t_done : Nat → Int32) : va_W :=
  [(tA, .inr (3, [.ref t_beforeA, .ref t_placesA, .ref t_tiedA, .ref t_stepsA, .ref t_doneA, t_waysToV, t_waysFromV, t_firstsV, .int t_ties, .int t_stages])), (t_beforeA, .inl (cy 1, t_beforeN, .inl t_before)), (t_placesA, .inl (cy 1, t_placesN, .inl t_places)), (t_tiedA, .inl (cy 1, t_tiedN, .inl t_tied)), (t_stepsA, .inl (cy 1, t_stepsN, .inl t_steps)), (t_doneA, .inl (cy 1, t_doneN, .inl t_done))]
noncomputable def bX3_nextPlace_L72 (F : Nat) (t_stages : Int32) (t_beforeN : Nat) (t_before : Nat → Int32) (t_placesN : Nat) (t_places : Nat → Int32) (t_tiedN : Nat) (t_tied : Nat → Int32) (t_stepsN : Nat) (t_steps : Nat → Int32) (t_doneN : Nat) (t_done : Nat → Int32)  (s0 : Int32) : Option (Int32) :=
  some s0
theorem vX3_nextPlace_L72 {l : Launch} {D : va_G} {cy : Nat → ClassId} {av : List Value} {ws0 : va_W} {Q : Option Value → va_W → Prop} (F : Nat) (tA : Nat) (t_waysToV : Value) (t_waysFromV : Value) (t_firstsV : Value) (t_ties : Int32) (t_stages : Int32) (t_beforeA : Nat) (t_beforeN : Nat) (t_before : Nat → Int32) (t_placesA : Nat) (t_placesN : Nat) (t_places : Nat → Int32) (t_tiedA : Nat) (t_tiedN : Nat) (t_tied : Nat → Int32) (t_stepsA : Nat) (t_stepsN : Nat) (t_steps : Nat → Int32) (t_doneA : Nat) (t_doneN : Nat) (t_done : Nat → Int32)  (s0 : Int32) (R : Int32) (h : bX3_nextPlace_L72 F t_stages t_beforeN t_before t_placesN t_places t_tiedN t_tied t_stepsN t_steps t_doneN t_done  s0 = some R) (hQ : Q (some (.int R)) (wX3_nextPlace cy tA t_waysToV t_waysFromV t_firstsV t_ties t_stages t_beforeA t_beforeN t_before t_placesA t_placesN t_places t_tiedA t_tiedN t_tied t_stepsA t_stepsN t_steps t_doneA t_doneN t_done)) : V l D cy MX3_nextPlace 1 0 0 av ws0 Q 72 [] [.int s0] (wX3_nextPlace cy tA t_waysToV t_waysFromV t_firstsV t_ties t_stages t_beforeA t_beforeN t_before t_placesA t_placesN t_places t_tiedA t_tiedN t_tied t_stepsA t_stepsN t_steps t_doneA t_doneN t_done) 0 0 := by
  unfold bX3_nextPlace_L72 at h
  have e9 := Option.some.inj h; subst e9
  exact V.iret (ty := .int) rfl rfl dX3_nextPlace_72 (Nat.le_refl _) (Nat.le_refl _) hQ
noncomputable def bX3_nextPlace_L32 (F : Nat) (t_stages : Int32) (t_beforeN : Nat) (t_before : Nat → Int32) (t_placesN : Nat) (t_places : Nat → Int32) (t_tiedN : Nat) (t_tied : Nat → Int32) (t_stepsN : Nat) (t_steps : Nat → Int32) (t_doneN : Nat) (t_done : Nat → Int32)   : Option (Int32) :=
  some (-1 : Int32)
theorem vX3_nextPlace_L32 {l : Launch} {D : va_G} {cy : Nat → ClassId} {av : List Value} {ws0 : va_W} {Q : Option Value → va_W → Prop} (F : Nat) (tA : Nat) (t_waysToV : Value) (t_waysFromV : Value) (t_firstsV : Value) (t_ties : Int32) (t_stages : Int32) (t_beforeA : Nat) (t_beforeN : Nat) (t_before : Nat → Int32) (t_placesA : Nat) (t_placesN : Nat) (t_places : Nat → Int32) (t_tiedA : Nat) (t_tiedN : Nat) (t_tied : Nat → Int32) (t_stepsA : Nat) (t_stepsN : Nat) (t_steps : Nat → Int32) (t_doneA : Nat) (t_doneN : Nat) (t_done : Nat → Int32)   (R : Int32) (h : bX3_nextPlace_L32 F t_stages t_beforeN t_before t_placesN t_places t_tiedN t_tied t_stepsN t_steps t_doneN t_done   = some R) (hQ : Q (some (.int R)) (wX3_nextPlace cy tA t_waysToV t_waysFromV t_firstsV t_ties t_stages t_beforeA t_beforeN t_before t_placesA t_placesN t_places t_tiedA t_tiedN t_tied t_stepsA t_stepsN t_steps t_doneA t_doneN t_done)) : V l D cy MX3_nextPlace 1 0 0 av ws0 Q 32 [] [] (wX3_nextPlace cy tA t_waysToV t_waysFromV t_firstsV t_ties t_stages t_beforeA t_beforeN t_before t_placesA t_placesN t_places t_tiedA t_tiedN t_tied t_stepsA t_stepsN t_steps t_doneA t_doneN t_done) 0 0 := by
  unfold bX3_nextPlace_L32 at h
  refine V.iconst (v := (-1 : Int32)) dX3_nextPlace_32 (by decide) ?_
  have e9 := Option.some.inj h; subst e9
  exact V.iret (ty := .int) rfl rfl dX3_nextPlace_33 (Nat.le_refl _) (Nat.le_refl _) hQ
noncomputable def fX3_nextPlace (F : Nat) (t_stages : Int32) (t_beforeN : Nat) (t_before : Nat → Int32) (t_placesN : Nat) (t_places : Nat → Int32) (t_tiedN : Nat) (t_tied : Nat → Int32) (t_stepsN : Nat) (t_steps : Nat → Int32) (t_doneN : Nat) (t_done : Nat → Int32) (a1 : Int32) (a2 : Int32) : Option (Int32) :=
  (fX3_tiedAt F t_tiedN t_tied t_stepsN t_steps a1 a2).bind fun R3 => (if a2 < 0 ∨ t_tiedN ≤ a2.toNatClampNeg then none else (if (t_tied (a2).toNatClampNeg) ≤ R3 then (bX3_nextPlace_L32 F t_stages t_beforeN t_before t_placesN t_places t_tiedN t_tied t_stepsN t_steps t_doneN t_done) else (if a2 < 0 ∨ t_stepsN ≤ a2.toNatClampNeg then none else (if (a1 + (t_steps (a2).toNatClampNeg)) < t_stages then (if ((a2 * (14 : Int32)) + R3) < 0 ∨ t_placesN ≤ ((a2 * (14 : Int32)) + R3).toNatClampNeg then none else (if (t_places ((a2 * (14 : Int32)) + R3).toNatClampNeg) < 0 ∨ t_beforeN ≤ (t_places ((a2 * (14 : Int32)) + R3).toNatClampNeg).toNatClampNeg then none else (if a1 < 0 ∨ t_doneN ≤ a1.toNatClampNeg then none else (if ((t_before (t_places ((a2 * (14 : Int32)) + R3).toNatClampNeg).toNatClampNeg) &&& ((t_done (a1).toNatClampNeg) ^^^ (-1 : Int32))) = 0 then (bX3_nextPlace_L72 F t_stages t_beforeN t_before t_placesN t_places t_tiedN t_tied t_stepsN t_steps t_doneN t_done (t_places ((a2 * (14 : Int32)) + R3).toNatClampNeg)) else (bX3_nextPlace_L72 F t_stages t_beforeN t_before t_placesN t_places t_tiedN t_tied t_stepsN t_steps t_doneN t_done (-1 : Int32)))))) else (bX3_nextPlace_L32 F t_stages t_beforeN t_before t_placesN t_places t_tiedN t_tied t_stepsN t_steps t_doneN t_done)))))
theorem CX3_nextPlace {l : Launch} {D : va_G} {cy : Nat → ClassId} (F : Nat) (tA : Nat) (t_waysToV : Value) (t_waysFromV : Value) (t_firstsV : Value) (t_ties : Int32) (t_stages : Int32) (t_beforeA : Nat) (t_beforeN : Nat) (t_before : Nat → Int32) (t_placesA : Nat) (t_placesN : Nat) (t_places : Nat → Int32) (t_tiedA : Nat) (t_tiedN : Nat) (t_tied : Nat → Int32) (t_stepsA : Nat) (t_stepsN : Nat) (t_steps : Nat → Int32) (t_doneA : Nat) (t_doneN : Nat) (t_done : Nat → Int32) (a1 : Int32) (a2 : Int32) (R : Int32) (h : fX3_nextPlace F t_stages t_beforeN t_before t_placesN t_places t_tiedN t_tied t_stepsN t_steps t_doneN t_done a1 a2 = some R) : vMet l D cy MX3_nextPlace 1 0 0 [.ref tA, .int a1, .int a2] (wX3_nextPlace cy tA t_waysToV t_waysFromV t_firstsV t_ties t_stages t_beforeA t_beforeN t_before t_placesA t_placesN t_places t_tiedA t_tiedN t_tied t_stepsA t_stepsN t_steps t_doneA t_doneN t_done) (fun (r : Option Value) (w : va_W) => r = (some (.int R)) ∧ w = (wX3_nextPlace cy tA t_waysToV t_waysFromV t_firstsV t_ties t_stages t_beforeA t_beforeN t_before t_placesA t_placesN t_places t_tiedA t_tiedN t_tied t_stepsA t_stepsN t_steps t_doneA t_doneN t_done)) := by
  refine vMet.start (by decide +kernel) (Nat.le_of_ble_eq_true rfl) ?_
  generalize hQe : (fun (r : Option Value) (w : va_W) => r = (some (.int R)) ∧ w = (wX3_nextPlace cy tA t_waysToV t_waysFromV t_firstsV t_ties t_stages t_beforeA t_beforeN t_before t_placesA t_placesN t_places t_tiedA t_tiedN t_tied t_stepsA t_stepsN t_steps t_doneA t_doneN t_done)) = Q
  have hQ : Q (some (.int R)) (wX3_nextPlace cy tA t_waysToV t_waysFromV t_firstsV t_ties t_stages t_beforeA t_beforeN t_before t_placesA t_placesN t_places t_tiedA t_tiedN t_tied t_stepsA t_stepsN t_steps t_doneA t_doneN t_done) := by rw [← hQe]; exact ⟨rfl, rfl⟩
  show V l D cy MX3_nextPlace 1 0 0 _ _ Q 0 [(0, .ref tA), (1, .int a1), (2, .int a2)] [] _ 0 0
  show V l D cy MX3_nextPlace 1 0 0 [.ref tA, .int a1, .int a2] _ Q 0 [(0, .ref tA), (1, .int a1), (2, .int a2)] [] (wX3_nextPlace cy tA t_waysToV t_waysFromV t_firstsV t_ties t_stages t_beforeA t_beforeN t_before t_placesA t_placesN t_places t_tiedA t_tiedN t_tied t_stepsA t_stepsN t_steps t_doneA t_doneN t_done) 0 0
  unfold fX3_nextPlace at h
  refine V.aload_n dX3_nextPlace_0 rfl 0 rfl ?_
  refine V.iload_n dX3_nextPlace_1 rfl 1 rfl ?_
  refine V.iload_n dX3_nextPlace_2 rfl 2 rfl ?_
  obtain ⟨R3, hg3, h⟩ := Option.bind_eq_some_iff.mp h
  refine V.callV (As := [.int a1, .int a2]) (rest := []) (wc := (wX3_tiedAt cy tA (.ref t_beforeA) (.ref t_placesA) (.ref t_doneA) t_waysToV t_waysFromV t_firstsV t_ties t_stages t_tiedA t_tiedN t_tied t_stepsA t_stepsN t_steps)) (wr := [(t_beforeA, .inl (cy 1, t_beforeN, .inl t_before)), (t_placesA, .inl (cy 1, t_placesN, .inl t_places)), (t_doneA, .inl (cy 1, t_doneN, .inl t_done))]) (q0 := 0) (CX3_tiedAt F tA (.ref t_beforeA) (.ref t_placesA) (.ref t_doneA) t_waysToV t_waysFromV t_firstsV t_ties t_stages t_tiedA t_tiedN t_tied t_stepsA t_stepsN t_steps a1 a2 R3 hg3) kvX3_tiedAt klX3_104 [0, 3, 4] [1, 2, 5] rfl rfl (by decide) (by decide) (by decide) rfl rfl rfl rfl dX3_nextPlace_3 ⟨by decide, by decide, by decide, by decide⟩ (Nat.le_of_ble_eq_true rfl) (fun r w1 hq => ?_)
  obtain ⟨rfl, rfl⟩ := hq
  refine V.cells (ws' := (wX3_nextPlace cy tA t_waysToV t_waysFromV t_firstsV t_ties t_stages t_beforeA t_beforeN t_before t_placesA t_placesN t_places t_tiedA t_tiedN t_tied t_stepsA t_stepsN t_steps t_doneA t_doneN t_done)) [3, 0, 1, 4, 5, 2] (by decide) rfl ?_
  show V l D cy MX3_nextPlace 1 0 0 _ _ _ 6 [(0, .ref tA), (1, .int a1), (2, .int a2)] [.int R3] (wX3_nextPlace cy tA t_waysToV t_waysFromV t_firstsV t_ties t_stages t_beforeA t_beforeN t_before t_placesA t_placesN t_places t_tiedA t_tiedN t_tied t_stepsA t_stepsN t_steps t_doneA t_doneN t_done) 0 0
  refine V.istore_n (lv' := [(3, .int R3), (0, .ref tA), (1, .int a1), (2, .int a2)]) dX3_nextPlace_6 rfl (by decide) rfl ?_
  refine V.iload_n dX3_nextPlace_7 rfl 0 rfl ?_
  refine V.aload_n dX3_nextPlace_8 rfl 1 rfl ?_
  refine V.get kfX3 0 rfl rfl 2 (by decide) klX3_18 rfl dX3_nextPlace_9 ?_
  refine V.iload_n dX3_nextPlace_12 rfl 3 rfl ?_
  by_cases hb13 : a2 < 0 ∨ t_tiedN ≤ a2.toNatClampNeg
  · exact vNone ((if_pos hb13).symm.trans h)
  replace h := (if_neg hb13).symm.trans h
  refine V.iald dX3_nextPlace_13 3 rfl hb13 ?_
  refine V.icmp_ge (tgt := 32) dX3_nextPlace_14 (by decide) (fun hc14 => ?_) (fun hc14 => ?_)
  · replace h := (if_pos hc14).symm.trans h
    refine V.lvs [] rfl ?_
    exact vX3_nextPlace_L32 _ _ _ _ _ _ _ _ _ _ _ _ _ _ _ _ _ _ _ _ _ _    R h hQ
  · replace h := (if_neg hc14).symm.trans h
    refine V.iload_n dX3_nextPlace_17 rfl 2 rfl ?_
    refine V.aload_n dX3_nextPlace_18 rfl 1 rfl ?_
    refine V.get kfX3 0 rfl rfl 3 (by decide) klX3_21 rfl dX3_nextPlace_19 ?_
    refine V.iload_n dX3_nextPlace_22 rfl 3 rfl ?_
    by_cases hb23 : a2 < 0 ∨ t_stepsN ≤ a2.toNatClampNeg
    · exact vNone ((if_pos hb23).symm.trans h)
    replace h := (if_neg hb23).symm.trans h
    refine V.iald dX3_nextPlace_23 4 rfl hb23 ?_
    refine V.iadd dX3_nextPlace_24 ?_
    refine V.aload_n dX3_nextPlace_25 rfl 1 rfl ?_
    refine V.get kfX3 0 rfl rfl 9 (by decide) klX3_92 rfl dX3_nextPlace_26 ?_
    refine V.icmp_lt (tgt := 34) dX3_nextPlace_29 (by decide) (fun hc29 => ?_) (fun hc29 => ?_)
    · replace h := (if_pos hc29).symm.trans h
      refine V.aload_n dX3_nextPlace_34 rfl 1 rfl ?_
      refine V.get kfX3 0 rfl rfl 1 (by decide) klX3_15 rfl dX3_nextPlace_35 ?_
      refine V.iload_n dX3_nextPlace_38 rfl 3 rfl ?_
      refine V.bipush (v := (14 : Int32)) dX3_nextPlace_39 (by decide) ?_
      refine V.imul dX3_nextPlace_41 ?_
      refine V.iload_n dX3_nextPlace_42 rfl 0 rfl ?_
      refine V.iadd dX3_nextPlace_43 ?_
      by_cases hb44 : ((a2 * (14 : Int32)) + R3) < 0 ∨ t_placesN ≤ ((a2 * (14 : Int32)) + R3).toNatClampNeg
      · exact vNone ((if_pos hb44).symm.trans h)
      replace h := (if_neg hb44).symm.trans h
      refine V.iald dX3_nextPlace_44 2 rfl hb44 ?_
      refine V.istore (lv' := [(4, .int (t_places ((a2 * (14 : Int32)) + R3).toNatClampNeg)), (3, .int R3), (0, .ref tA), (1, .int a1), (2, .int a2)]) dX3_nextPlace_45 (by decide) rfl ?_
      refine V.aload_n dX3_nextPlace_47 rfl 2 rfl ?_
      refine V.get kfX3 0 rfl rfl 0 (by decide) klX3_9 rfl dX3_nextPlace_48 ?_
      refine V.iload dX3_nextPlace_51 0 rfl ?_
      by_cases hb53 : (t_places ((a2 * (14 : Int32)) + R3).toNatClampNeg) < 0 ∨ t_beforeN ≤ (t_places ((a2 * (14 : Int32)) + R3).toNatClampNeg).toNatClampNeg
      · exact vNone ((if_pos hb53).symm.trans h)
      replace h := (if_neg hb53).symm.trans h
      refine V.iald dX3_nextPlace_53 1 rfl hb53 ?_
      refine V.aload_n dX3_nextPlace_54 rfl 2 rfl ?_
      refine V.get kfX3 0 rfl rfl 4 (by decide) klX3_24 rfl dX3_nextPlace_55 ?_
      refine V.iload_n dX3_nextPlace_58 rfl 3 rfl ?_
      by_cases hb59 : a1 < 0 ∨ t_doneN ≤ a1.toNatClampNeg
      · exact vNone ((if_pos hb59).symm.trans h)
      replace h := (if_neg hb59).symm.trans h
      refine V.iald dX3_nextPlace_59 5 rfl hb59 ?_
      refine V.iconst (v := (-1 : Int32)) dX3_nextPlace_60 (by decide) ?_
      refine V.ixor dX3_nextPlace_61 ?_
      refine V.iand dX3_nextPlace_62 ?_
      refine V.if_ne (tgt := 71) dX3_nextPlace_63 (by decide) (fun hc63 => ?_) (fun hc63 => ?_)
      · replace h := (if_neg hc63).symm.trans h
        refine V.iconst (v := (-1 : Int32)) dX3_nextPlace_71 (by decide) ?_
        refine V.lvs [] rfl ?_
        exact vX3_nextPlace_L72 _ _ _ _ _ _ _ _ _ _ _ _ _ _ _ _ _ _ _ _ _ _   _ R h hQ
      · replace h := (if_pos hc63).symm.trans h
        refine V.iload dX3_nextPlace_66 0 rfl ?_
        refine V.goto (tgt := 72) dX3_nextPlace_68 (by decide) ?_
        refine V.lvs [] rfl ?_
        exact vX3_nextPlace_L72 _ _ _ _ _ _ _ _ _ _ _ _ _ _ _ _ _ _ _ _ _ _   _ R h hQ
    · replace h := (if_neg hc29).symm.trans h
      refine V.lvs [] rfl ?_
      exact vX3_nextPlace_L32 _ _ _ _ _ _ _ _ _ _ _ _ _ _ _ _ _ _ _ _ _ _    R h hQ
theorem dX3_all_0 : decode cX3_all 0 = .ok (.aload_n 0, 1) := by decide +kernel
theorem dX3_all_1 : decode cX3_all 1 = .ok (.getfield 92, 3) := by decide +kernel
theorem dX3_all_4 : decode cX3_all 4 = .ok (.ifCond .le 17, 3) := by decide +kernel
theorem dX3_all_7 : decode cX3_all 7 = .ok (.aload_n 0, 1) := by decide +kernel
theorem dX3_all_8 : decode cX3_all 8 = .ok (.getfield 27, 3) := by decide +kernel
theorem dX3_all_11 : decode cX3_all 11 = .ok (.aload_n 0, 1) := by decide +kernel
theorem dX3_all_12 : decode cX3_all 12 = .ok (.getfield 92, 3) := by decide +kernel
theorem dX3_all_15 : decode cX3_all 15 = .ok (.iconst 1, 1) := by decide +kernel
theorem dX3_all_16 : decode cX3_all 16 = .ok (.isub, 1) := by decide +kernel
theorem dX3_all_17 : decode cX3_all 17 = .ok (.laload, 1) := by decide +kernel
theorem dX3_all_18 : decode cX3_all 18 = .ok (.goto 4, 3) := by decide +kernel
theorem dX3_all_21 : decode cX3_all 21 = .ok (.lconst 0, 1) := by decide +kernel
theorem dX3_all_22 : decode cX3_all 22 = .ok (.lreturn, 1) := by decide +kernel
def wX3_all (cy : Nat → ClassId) (tA : Nat) (t_beforeV : Value) (t_placesV : Value) (t_tiedV : Value) (t_stepsV : Value) (t_doneV : Value) (t_waysFromV : Value) (t_firstsV : Value) (t_ties : Int32) (t_stages : Int32) (t_waysToA : Nat) (t_waysToN : Nat) (t_waysTo : Nat → Int64) : va_W :=
  [(tA, .inr (3, [t_beforeV, t_placesV, t_tiedV, t_stepsV, t_doneV, .ref t_waysToA, t_waysFromV, t_firstsV, .int t_ties, .int t_stages])), (t_waysToA, .inl (cy 2, t_waysToN, .inr (.inl t_waysTo)))]
noncomputable def bX3_all_L22 (F : Nat) (t_stages : Int32) (t_waysToN : Nat) (t_waysTo : Nat → Int64)  (s0 : Int64) : Option (Int64) :=
  some s0
theorem vX3_all_L22 {l : Launch} {D : va_G} {cy : Nat → ClassId} {av : List Value} {ws0 : va_W} {Q : Option Value → va_W → Prop} (F : Nat) (tA : Nat) (t_beforeV : Value) (t_placesV : Value) (t_tiedV : Value) (t_stepsV : Value) (t_doneV : Value) (t_waysFromV : Value) (t_firstsV : Value) (t_ties : Int32) (t_stages : Int32) (t_waysToA : Nat) (t_waysToN : Nat) (t_waysTo : Nat → Int64)  (s0 : Int64) (R : Int64) (h : bX3_all_L22 F t_stages t_waysToN t_waysTo  s0 = some R) (hQ : Q (some (.long R)) (wX3_all cy tA t_beforeV t_placesV t_tiedV t_stepsV t_doneV t_waysFromV t_firstsV t_ties t_stages t_waysToA t_waysToN t_waysTo)) : V l D cy MX3_all 0 0 0 av ws0 Q 22 [] [.long s0] (wX3_all cy tA t_beforeV t_placesV t_tiedV t_stepsV t_doneV t_waysFromV t_firstsV t_ties t_stages t_waysToA t_waysToN t_waysTo) 0 0 := by
  unfold bX3_all_L22 at h
  have e9 := Option.some.inj h; subst e9
  exact V.lret rfl dX3_all_22 (Nat.le_refl _) (Nat.le_refl _) hQ
noncomputable def fX3_all (F : Nat) (t_stages : Int32) (t_waysToN : Nat) (t_waysTo : Nat → Int64) : Option (Int64) :=
  if t_stages ≤ 0 then (bX3_all_L22 F t_stages t_waysToN t_waysTo (0 : Int64)) else (if (t_stages - (1 : Int32)) < 0 ∨ t_waysToN ≤ (t_stages - (1 : Int32)).toNatClampNeg then none else (bX3_all_L22 F t_stages t_waysToN t_waysTo (t_waysTo (t_stages - (1 : Int32)).toNatClampNeg)))
theorem CX3_all {l : Launch} {D : va_G} {cy : Nat → ClassId} (F : Nat) (tA : Nat) (t_beforeV : Value) (t_placesV : Value) (t_tiedV : Value) (t_stepsV : Value) (t_doneV : Value) (t_waysFromV : Value) (t_firstsV : Value) (t_ties : Int32) (t_stages : Int32) (t_waysToA : Nat) (t_waysToN : Nat) (t_waysTo : Nat → Int64) (R : Int64) (h : fX3_all F t_stages t_waysToN t_waysTo = some R) : vMet l D cy MX3_all 0 0 0 [.ref tA] (wX3_all cy tA t_beforeV t_placesV t_tiedV t_stepsV t_doneV t_waysFromV t_firstsV t_ties t_stages t_waysToA t_waysToN t_waysTo) (fun (r : Option Value) (w : va_W) => r = (some (.long R)) ∧ w = (wX3_all cy tA t_beforeV t_placesV t_tiedV t_stepsV t_doneV t_waysFromV t_firstsV t_ties t_stages t_waysToA t_waysToN t_waysTo)) := by
  refine vMet.start (by decide +kernel) (Nat.le_of_ble_eq_true rfl) ?_
  generalize hQe : (fun (r : Option Value) (w : va_W) => r = (some (.long R)) ∧ w = (wX3_all cy tA t_beforeV t_placesV t_tiedV t_stepsV t_doneV t_waysFromV t_firstsV t_ties t_stages t_waysToA t_waysToN t_waysTo)) = Q
  have hQ : Q (some (.long R)) (wX3_all cy tA t_beforeV t_placesV t_tiedV t_stepsV t_doneV t_waysFromV t_firstsV t_ties t_stages t_waysToA t_waysToN t_waysTo) := by rw [← hQe]; exact ⟨rfl, rfl⟩
  show V l D cy MX3_all 0 0 0 _ _ Q 0 [(0, .ref tA)] [] _ 0 0
  show V l D cy MX3_all 0 0 0 [.ref tA] _ Q 0 [(0, .ref tA)] [] (wX3_all cy tA t_beforeV t_placesV t_tiedV t_stepsV t_doneV t_waysFromV t_firstsV t_ties t_stages t_waysToA t_waysToN t_waysTo) 0 0
  unfold fX3_all at h
  refine V.aload_n dX3_all_0 rfl 0 rfl ?_
  refine V.get kfX3 0 rfl rfl 9 (by decide) klX3_92 rfl dX3_all_1 ?_
  refine V.if_le (tgt := 21) dX3_all_4 (by decide) (fun hc4 => ?_) (fun hc4 => ?_)
  · replace h := (if_pos hc4).symm.trans h
    refine V.lconst (v := (0 : Int64)) dX3_all_21 (by decide) ?_
    refine V.lvs [] rfl ?_
    exact vX3_all_L22 _ _ _ _ _ _ _ _ _ _ _ _ _ _   _ R h hQ
  · replace h := (if_neg hc4).symm.trans h
    refine V.aload_n dX3_all_7 rfl 0 rfl ?_
    refine V.get kfX3 0 rfl rfl 5 (by decide) klX3_27 rfl dX3_all_8 ?_
    refine V.aload_n dX3_all_11 rfl 0 rfl ?_
    refine V.get kfX3 0 rfl rfl 9 (by decide) klX3_92 rfl dX3_all_12 ?_
    refine V.iconst (v := (1 : Int32)) dX3_all_15 (by decide) ?_
    refine V.isub dX3_all_16 ?_
    by_cases hb17 : (t_stages - (1 : Int32)) < 0 ∨ t_waysToN ≤ (t_stages - (1 : Int32)).toNatClampNeg
    · exact vNone ((if_pos hb17).symm.trans h)
    replace h := (if_neg hb17).symm.trans h
    refine V.lald dX3_all_17 1 rfl hb17 ?_
    refine V.goto (tgt := 22) dX3_all_18 (by decide) ?_
    refine V.lvs [] rfl ?_
    exact vX3_all_L22 _ _ _ _ _ _ _ _ _ _ _ _ _ _   _ R h hQ
theorem dX3_countOnward_0 : decode cX3_countOnward 0 = .ok (.aload_n 0, 1) := by decide +kernel
theorem dX3_countOnward_1 : decode cX3_countOnward 1 = .ok (.getfield 92, 3) := by decide +kernel
theorem dX3_countOnward_4 : decode cX3_countOnward 4 = .ok (.iconst 1, 1) := by decide +kernel
theorem dX3_countOnward_5 : decode cX3_countOnward 5 = .ok (.isub, 1) := by decide +kernel
theorem dX3_countOnward_6 : decode cX3_countOnward 6 = .ok (.istore_n 1, 1) := by decide +kernel
theorem dX3_countOnward_7 : decode cX3_countOnward 7 = .ok (.iload_n 1, 1) := by decide +kernel
theorem dX3_countOnward_8 : decode cX3_countOnward 8 = .ok (.ifCond .lt 76, 3) := by decide +kernel
theorem dX3_countOnward_11 : decode cX3_countOnward 11 = .ok (.aload_n 0, 1) := by decide +kernel
theorem dX3_countOnward_12 : decode cX3_countOnward 12 = .ok (.getfield 31, 3) := by decide +kernel
theorem dX3_countOnward_15 : decode cX3_countOnward 15 = .ok (.iload_n 1, 1) := by decide +kernel
theorem dX3_countOnward_16 : decode cX3_countOnward 16 = .ok (.iload_n 1, 1) := by decide +kernel
theorem dX3_countOnward_17 : decode cX3_countOnward 17 = .ok (.aload_n 0, 1) := by decide +kernel
theorem dX3_countOnward_18 : decode cX3_countOnward 18 = .ok (.getfield 92, 3) := by decide +kernel
theorem dX3_countOnward_21 : decode cX3_countOnward 21 = .ok (.iconst 1, 1) := by decide +kernel
theorem dX3_countOnward_22 : decode cX3_countOnward 22 = .ok (.isub, 1) := by decide +kernel
theorem dX3_countOnward_23 : decode cX3_countOnward 23 = .ok (.if_icmp .ne 7, 3) := by decide +kernel
theorem dX3_countOnward_26 : decode cX3_countOnward 26 = .ok (.lconst 1, 1) := by decide +kernel
theorem dX3_countOnward_27 : decode cX3_countOnward 27 = .ok (.goto 4, 3) := by decide +kernel
theorem dX3_countOnward_30 : decode cX3_countOnward 30 = .ok (.lconst 0, 1) := by decide +kernel
theorem dX3_countOnward_31 : decode cX3_countOnward 31 = .ok (.lastore, 1) := by decide +kernel
theorem dX3_countOnward_32 : decode cX3_countOnward 32 = .ok (.iconst 0, 1) := by decide +kernel
theorem dX3_countOnward_33 : decode cX3_countOnward 33 = .ok (.istore_n 2, 1) := by decide +kernel
theorem dX3_countOnward_34 : decode cX3_countOnward 34 = .ok (.iload_n 2, 1) := by decide +kernel
theorem dX3_countOnward_35 : decode cX3_countOnward 35 = .ok (.bipush 6, 2) := by decide +kernel
theorem dX3_countOnward_37 : decode cX3_countOnward 37 = .ok (.if_icmp .ge 41, 3) := by decide +kernel
theorem dX3_countOnward_40 : decode cX3_countOnward 40 = .ok (.aload_n 0, 1) := by decide +kernel
theorem dX3_countOnward_41 : decode cX3_countOnward 41 = .ok (.iload_n 1, 1) := by decide +kernel
theorem dX3_countOnward_42 : decode cX3_countOnward 42 = .ok (.iload_n 2, 1) := by decide +kernel
theorem dX3_countOnward_43 : decode cX3_countOnward 43 = .ok (.invokevirtual 110, 3) := by decide +kernel
theorem dX3_countOnward_46 : decode cX3_countOnward 46 = .ok (.iconst (-1), 1) := by decide +kernel
theorem dX3_countOnward_47 : decode cX3_countOnward 47 = .ok (.if_icmp .eq 25, 3) := by decide +kernel
theorem dX3_countOnward_50 : decode cX3_countOnward 50 = .ok (.aload_n 0, 1) := by decide +kernel
theorem dX3_countOnward_51 : decode cX3_countOnward 51 = .ok (.getfield 31, 3) := by decide +kernel
theorem dX3_countOnward_54 : decode cX3_countOnward 54 = .ok (.iload_n 1, 1) := by decide +kernel
theorem dX3_countOnward_55 : decode cX3_countOnward 55 = .ok (.dup2, 1) := by decide +kernel
theorem dX3_countOnward_56 : decode cX3_countOnward 56 = .ok (.laload, 1) := by decide +kernel
theorem dX3_countOnward_57 : decode cX3_countOnward 57 = .ok (.aload_n 0, 1) := by decide +kernel
theorem dX3_countOnward_58 : decode cX3_countOnward 58 = .ok (.getfield 31, 3) := by decide +kernel
theorem dX3_countOnward_61 : decode cX3_countOnward 61 = .ok (.iload_n 1, 1) := by decide +kernel
theorem dX3_countOnward_62 : decode cX3_countOnward 62 = .ok (.aload_n 0, 1) := by decide +kernel
theorem dX3_countOnward_63 : decode cX3_countOnward 63 = .ok (.getfield 21, 3) := by decide +kernel
theorem dX3_countOnward_66 : decode cX3_countOnward 66 = .ok (.iload_n 2, 1) := by decide +kernel
theorem dX3_countOnward_67 : decode cX3_countOnward 67 = .ok (.iaload, 1) := by decide +kernel
theorem dX3_countOnward_68 : decode cX3_countOnward 68 = .ok (.iadd, 1) := by decide +kernel
theorem dX3_countOnward_69 : decode cX3_countOnward 69 = .ok (.laload, 1) := by decide +kernel
theorem dX3_countOnward_70 : decode cX3_countOnward 70 = .ok (.ladd, 1) := by decide +kernel
theorem dX3_countOnward_71 : decode cX3_countOnward 71 = .ok (.lastore, 1) := by decide +kernel
theorem dX3_countOnward_72 : decode cX3_countOnward 72 = .ok (.iinc 2 1, 3) := by decide +kernel
theorem dX3_countOnward_75 : decode cX3_countOnward 75 = .ok (.goto (-41), 3) := by decide +kernel
theorem dX3_countOnward_78 : decode cX3_countOnward 78 = .ok (.iinc 1 (-1), 3) := by decide +kernel
theorem dX3_countOnward_81 : decode cX3_countOnward 81 = .ok (.goto (-74), 3) := by decide +kernel
theorem dX3_countOnward_84 : decode cX3_countOnward 84 = .ok (.return_, 1) := by decide +kernel
def wX3_countOnward (cy : Nat → ClassId) (tA : Nat) (t_waysToV : Value) (t_firstsV : Value) (t_ties : Int32) (t_stages : Int32) (t_beforeA : Nat) (t_beforeN : Nat) (t_before : Nat → Int32) (t_placesA : Nat) (t_placesN : Nat) (t_places : Nat → Int32) (t_tiedA : Nat) (t_tiedN : Nat) (t_tied : Nat → Int32) (t_stepsA : Nat) (t_stepsN : Nat) (t_steps : Nat → Int32) (t_doneA : Nat) (t_doneN : Nat) (t_done : Nat → Int32) (t_waysFromA : Nat) (t_waysFromN : Nat) (t_waysFrom : Nat → Int64) : va_W :=
  [(tA, .inr (3, [.ref t_beforeA, .ref t_placesA, .ref t_tiedA, .ref t_stepsA, .ref t_doneA, t_waysToV, .ref t_waysFromA, t_firstsV, .int t_ties, .int t_stages])), (t_beforeA, .inl (cy 1, t_beforeN, .inl t_before)), (t_placesA, .inl (cy 1, t_placesN, .inl t_places)), (t_tiedA, .inl (cy 1, t_tiedN, .inl t_tied)), (t_stepsA, .inl (cy 1, t_stepsN, .inl t_steps)), (t_doneA, .inl (cy 1, t_doneN, .inl t_done)), (t_waysFromA, .inl (cy 2, t_waysFromN, .inr (.inl t_waysFrom)))]
noncomputable def bX3_countOnward_L72 (F : Nat) (t_stages : Int32) (t_beforeN : Nat) (t_before : Nat → Int32) (t_placesN : Nat) (t_places : Nat → Int32) (t_tiedN : Nat) (t_tied : Nat → Int32) (t_stepsN : Nat) (t_steps : Nat → Int32) (t_doneN : Nat) (t_done : Nat → Int32) (t_waysFromN : Nat) (k34 : Int32 → Int32 → (Nat → Int64) → Option ((Nat → Int64))) (x1 : Int32) (x2 : Int32) (t_waysFrom : Nat → Int64) : Option ((Nat → Int64)) :=
  k34 x1 (x2 + (1 : Int32)) t_waysFrom
theorem vX3_countOnward_L72 {l : Launch} {D : va_G} {cy : Nat → ClassId} {av : List Value} {ws0 : va_W} {Q : Option Value → va_W → Prop} (F : Nat) (tA : Nat) (t_waysToV : Value) (t_firstsV : Value) (t_ties : Int32) (t_stages : Int32) (t_beforeA : Nat) (t_beforeN : Nat) (t_before : Nat → Int32) (t_placesA : Nat) (t_placesN : Nat) (t_places : Nat → Int32) (t_tiedA : Nat) (t_tiedN : Nat) (t_tied : Nat → Int32) (t_stepsA : Nat) (t_stepsN : Nat) (t_steps : Nat → Int32) (t_doneA : Nat) (t_doneN : Nat) (t_done : Nat → Int32) (t_waysFromA : Nat) (t_waysFromN : Nat) (k34 : Int32 → Int32 → (Nat → Int64) → Option ((Nat → Int64))) (hk34 : ∀ (x1 : Int32) (x2 : Int32) (t_waysFrom : Nat → Int64) (R : (Nat → Int64)), k34 x1 x2 t_waysFrom = some R → Q none (wX3_countOnward cy tA t_waysToV t_firstsV t_ties t_stages t_beforeA t_beforeN t_before t_placesA t_placesN t_places t_tiedA t_tiedN t_tied t_stepsA t_stepsN t_steps t_doneA t_doneN t_done t_waysFromA t_waysFromN R) → V l D cy MX3_countOnward 2 0 0 av ws0 Q 34 [(0, .ref tA), (1, .int x1), (2, .int x2)] [] (wX3_countOnward cy tA t_waysToV t_firstsV t_ties t_stages t_beforeA t_beforeN t_before t_placesA t_placesN t_places t_tiedA t_tiedN t_tied t_stepsA t_stepsN t_steps t_doneA t_doneN t_done t_waysFromA t_waysFromN t_waysFrom) 0 0) (x1 : Int32) (x2 : Int32) (t_waysFrom : Nat → Int64) (R : (Nat → Int64)) (h : bX3_countOnward_L72 F t_stages t_beforeN t_before t_placesN t_places t_tiedN t_tied t_stepsN t_steps t_doneN t_done t_waysFromN k34 x1 x2 t_waysFrom = some R) (hQ : Q none (wX3_countOnward cy tA t_waysToV t_firstsV t_ties t_stages t_beforeA t_beforeN t_before t_placesA t_placesN t_places t_tiedA t_tiedN t_tied t_stepsA t_stepsN t_steps t_doneA t_doneN t_done t_waysFromA t_waysFromN R)) : V l D cy MX3_countOnward 2 0 0 av ws0 Q 72 [(0, .ref tA), (1, .int x1), (2, .int x2)] [] (wX3_countOnward cy tA t_waysToV t_firstsV t_ties t_stages t_beforeA t_beforeN t_before t_placesA t_placesN t_places t_tiedA t_tiedN t_tied t_stepsA t_stepsN t_steps t_doneA t_doneN t_done t_waysFromA t_waysFromN t_waysFrom) 0 0 := by
  unfold bX3_countOnward_L72 at h
  refine V.iinc (v := x2 + (1 : Int32)) (lv' := [(2, .int (x2 + (1 : Int32))), (0, .ref tA), (1, .int x1)]) dX3_countOnward_72 2 rfl rfl (by decide) rfl ?_
  refine V.goto (tgt := 34) dX3_countOnward_75 (by decide) ?_
  refine V.lvs [1, 2, 0] rfl ?_
  exact hk34 _ _ _ R h hQ
noncomputable def bX3_countOnward_L34 (F : Nat) (t_stages : Int32) (t_beforeN : Nat) (t_before : Nat → Int32) (t_placesN : Nat) (t_places : Nat → Int32) (t_tiedN : Nat) (t_tied : Nat → Int32) (t_stepsN : Nat) (t_steps : Nat → Int32) (t_doneN : Nat) (t_done : Nat → Int32) (t_waysFromN : Nat) (k7 : Int32 → (Nat → Int64) → Option ((Nat → Int64))) (k34 : Int32 → Int32 → (Nat → Int64) → Option ((Nat → Int64))) (x1 : Int32) (x2 : Int32) (t_waysFrom : Nat → Int64) : Option ((Nat → Int64)) :=
  if (6 : Int32) ≤ x2 then (k7 (x1 + (-1 : Int32)) t_waysFrom) else ((fX3_nextPlace F t_stages t_beforeN t_before t_placesN t_places t_tiedN t_tied t_stepsN t_steps t_doneN t_done x1 x2).bind fun R43 => (if R43 = (-1 : Int32) then (bX3_countOnward_L72 F t_stages t_beforeN t_before t_placesN t_places t_tiedN t_tied t_stepsN t_steps t_doneN t_done t_waysFromN k34 x1 x2 t_waysFrom) else (if x1 < 0 ∨ t_waysFromN ≤ x1.toNatClampNeg then none else (if x2 < 0 ∨ t_stepsN ≤ x2.toNatClampNeg then none else (if (x1 + (t_steps (x2).toNatClampNeg)) < 0 ∨ t_waysFromN ≤ (x1 + (t_steps (x2).toNatClampNeg)).toNatClampNeg then none else (if x1 < 0 ∨ t_waysFromN ≤ x1.toNatClampNeg then none else (bX3_countOnward_L72 F t_stages t_beforeN t_before t_placesN t_places t_tiedN t_tied t_stepsN t_steps t_doneN t_done t_waysFromN k34 x1 x2 (vp_updL t_waysFrom x1.toNatClampNeg ((t_waysFrom (x1).toNatClampNeg) + (t_waysFrom (x1 + (t_steps (x2).toNatClampNeg)).toNatClampNeg))))))))))
theorem vbX3_countOnward_L34 {l : Launch} {D : va_G} {cy : Nat → ClassId} {av : List Value} {ws0 : va_W} {Q : Option Value → va_W → Prop} (F : Nat) (tA : Nat) (t_waysToV : Value) (t_firstsV : Value) (t_ties : Int32) (t_stages : Int32) (t_beforeA : Nat) (t_beforeN : Nat) (t_before : Nat → Int32) (t_placesA : Nat) (t_placesN : Nat) (t_places : Nat → Int32) (t_tiedA : Nat) (t_tiedN : Nat) (t_tied : Nat → Int32) (t_stepsA : Nat) (t_stepsN : Nat) (t_steps : Nat → Int32) (t_doneA : Nat) (t_doneN : Nat) (t_done : Nat → Int32) (t_waysFromA : Nat) (t_waysFromN : Nat) (k7 : Int32 → (Nat → Int64) → Option ((Nat → Int64))) (hk7 : ∀ (x1 : Int32) (t_waysFrom : Nat → Int64) (R : (Nat → Int64)), k7 x1 t_waysFrom = some R → Q none (wX3_countOnward cy tA t_waysToV t_firstsV t_ties t_stages t_beforeA t_beforeN t_before t_placesA t_placesN t_places t_tiedA t_tiedN t_tied t_stepsA t_stepsN t_steps t_doneA t_doneN t_done t_waysFromA t_waysFromN R) → V l D cy MX3_countOnward 2 0 0 av ws0 Q 7 [(0, .ref tA), (1, .int x1)] [] (wX3_countOnward cy tA t_waysToV t_firstsV t_ties t_stages t_beforeA t_beforeN t_before t_placesA t_placesN t_places t_tiedA t_tiedN t_tied t_stepsA t_stepsN t_steps t_doneA t_doneN t_done t_waysFromA t_waysFromN t_waysFrom) 0 0) (k34 : Int32 → Int32 → (Nat → Int64) → Option ((Nat → Int64))) (hk34 : ∀ (x1 : Int32) (x2 : Int32) (t_waysFrom : Nat → Int64) (R : (Nat → Int64)), k34 x1 x2 t_waysFrom = some R → Q none (wX3_countOnward cy tA t_waysToV t_firstsV t_ties t_stages t_beforeA t_beforeN t_before t_placesA t_placesN t_places t_tiedA t_tiedN t_tied t_stepsA t_stepsN t_steps t_doneA t_doneN t_done t_waysFromA t_waysFromN R) → V l D cy MX3_countOnward 2 0 0 av ws0 Q 34 [(0, .ref tA), (1, .int x1), (2, .int x2)] [] (wX3_countOnward cy tA t_waysToV t_firstsV t_ties t_stages t_beforeA t_beforeN t_before t_placesA t_placesN t_places t_tiedA t_tiedN t_tied t_stepsA t_stepsN t_steps t_doneA t_doneN t_done t_waysFromA t_waysFromN t_waysFrom) 0 0) (x1 : Int32) (x2 : Int32) (t_waysFrom : Nat → Int64) (R : (Nat → Int64)) (h : bX3_countOnward_L34 F t_stages t_beforeN t_before t_placesN t_places t_tiedN t_tied t_stepsN t_steps t_doneN t_done t_waysFromN k7 k34 x1 x2 t_waysFrom = some R) (hQ : Q none (wX3_countOnward cy tA t_waysToV t_firstsV t_ties t_stages t_beforeA t_beforeN t_before t_placesA t_placesN t_places t_tiedA t_tiedN t_tied t_stepsA t_stepsN t_steps t_doneA t_doneN t_done t_waysFromA t_waysFromN R)) : V l D cy MX3_countOnward 2 0 0 av ws0 Q 34 [(0, .ref tA), (1, .int x1), (2, .int x2)] [] (wX3_countOnward cy tA t_waysToV t_firstsV t_ties t_stages t_beforeA t_beforeN t_before t_placesA t_placesN t_places t_tiedA t_tiedN t_tied t_stepsA t_stepsN t_steps t_doneA t_doneN t_done t_waysFromA t_waysFromN t_waysFrom) 0 0 := by
  unfold bX3_countOnward_L34 at h
  refine V.iload_n dX3_countOnward_34 rfl 2 rfl ?_
  refine V.bipush (v := (6 : Int32)) dX3_countOnward_35 (by decide) ?_
  refine V.icmp_ge (tgt := 78) dX3_countOnward_37 (by decide) (fun hc37 => ?_) (fun hc37 => ?_)
  · replace h := (if_pos hc37).symm.trans h
    refine V.iinc (v := x1 + (-1 : Int32)) (lv' := [(1, .int (x1 + (-1 : Int32))), (0, .ref tA), (2, .int x2)]) dX3_countOnward_78 1 rfl rfl (by decide) rfl ?_
    refine V.goto (tgt := 7) dX3_countOnward_81 (by decide) ?_
    refine V.lvs [1, 0] rfl ?_
    exact hk7 _ _ R h hQ
  · replace h := (if_neg hc37).symm.trans h
    refine V.aload_n dX3_countOnward_40 rfl 0 rfl ?_
    refine V.iload_n dX3_countOnward_41 rfl 1 rfl ?_
    refine V.iload_n dX3_countOnward_42 rfl 2 rfl ?_
    obtain ⟨R43, hg43, h⟩ := Option.bind_eq_some_iff.mp h
    refine V.callV (As := [.int x1, .int x2]) (rest := []) (wc := (wX3_nextPlace cy tA t_waysToV (.ref t_waysFromA) t_firstsV t_ties t_stages t_beforeA t_beforeN t_before t_placesA t_placesN t_places t_tiedA t_tiedN t_tied t_stepsA t_stepsN t_steps t_doneA t_doneN t_done)) (wr := [(t_waysFromA, .inl (cy 2, t_waysFromN, .inr (.inl t_waysFrom)))]) (q0 := 0) (CX3_nextPlace F tA t_waysToV (.ref t_waysFromA) t_firstsV t_ties t_stages t_beforeA t_beforeN t_before t_placesA t_placesN t_places t_tiedA t_tiedN t_tied t_stepsA t_stepsN t_steps t_doneA t_doneN t_done x1 x2 R43 hg43) kvX3_nextPlace klX3_110 [0, 1, 2, 3, 4, 5] [6] rfl rfl (by decide) (by decide) (by decide) rfl rfl rfl rfl dX3_countOnward_43 ⟨by decide, by decide, by decide, by decide⟩ (Nat.le_of_ble_eq_true rfl) (fun r w1 hq => ?_)
    obtain ⟨rfl, rfl⟩ := hq
    refine V.cells (ws' := (wX3_countOnward cy tA t_waysToV t_firstsV t_ties t_stages t_beforeA t_beforeN t_before t_placesA t_placesN t_places t_tiedA t_tiedN t_tied t_stepsA t_stepsN t_steps t_doneA t_doneN t_done t_waysFromA t_waysFromN t_waysFrom)) [1, 2, 3, 4, 5, 6, 0] (by decide) rfl ?_
    show V l D cy MX3_countOnward 2 0 0 _ _ _ 46 [(0, .ref tA), (1, .int x1), (2, .int x2)] [.int R43] (wX3_countOnward cy tA t_waysToV t_firstsV t_ties t_stages t_beforeA t_beforeN t_before t_placesA t_placesN t_places t_tiedA t_tiedN t_tied t_stepsA t_stepsN t_steps t_doneA t_doneN t_done t_waysFromA t_waysFromN t_waysFrom) 0 0
    refine V.iconst (v := (-1 : Int32)) dX3_countOnward_46 (by decide) ?_
    refine V.icmp_eq (tgt := 72) dX3_countOnward_47 (by decide) (fun hc47 => ?_) (fun hc47 => ?_)
    · replace h := (if_pos hc47).symm.trans h
      exact vX3_countOnward_L72 _ _ _ _ _ _ _ _ _ _ _ _ _ _ _ _ _ _ _ _ _ _ _ _ hk34  _ _ _ R h hQ
    · replace h := (if_neg hc47).symm.trans h
      refine V.aload_n dX3_countOnward_50 rfl 0 rfl ?_
      refine V.get kfX3 0 rfl rfl 6 (by decide) klX3_31 rfl dX3_countOnward_51 ?_
      refine V.iload_n dX3_countOnward_54 rfl 1 rfl ?_
      refine V.dup2 dX3_countOnward_55 rfl rfl ?_
      by_cases hb56 : x1 < 0 ∨ t_waysFromN ≤ x1.toNatClampNeg
      · exact vNone ((if_pos hb56).symm.trans h)
      replace h := (if_neg hb56).symm.trans h
      refine V.lald dX3_countOnward_56 6 rfl hb56 ?_
      refine V.aload_n dX3_countOnward_57 rfl 0 rfl ?_
      refine V.get kfX3 0 rfl rfl 6 (by decide) klX3_31 rfl dX3_countOnward_58 ?_
      refine V.iload_n dX3_countOnward_61 rfl 1 rfl ?_
      refine V.aload_n dX3_countOnward_62 rfl 0 rfl ?_
      refine V.get kfX3 0 rfl rfl 3 (by decide) klX3_21 rfl dX3_countOnward_63 ?_
      refine V.iload_n dX3_countOnward_66 rfl 2 rfl ?_
      by_cases hb67 : x2 < 0 ∨ t_stepsN ≤ x2.toNatClampNeg
      · exact vNone ((if_pos hb67).symm.trans h)
      replace h := (if_neg hb67).symm.trans h
      refine V.iald dX3_countOnward_67 4 rfl hb67 ?_
      refine V.iadd dX3_countOnward_68 ?_
      by_cases hb69 : (x1 + (t_steps (x2).toNatClampNeg)) < 0 ∨ t_waysFromN ≤ (x1 + (t_steps (x2).toNatClampNeg)).toNatClampNeg
      · exact vNone ((if_pos hb69).symm.trans h)
      replace h := (if_neg hb69).symm.trans h
      refine V.lald dX3_countOnward_69 6 rfl hb69 ?_
      refine V.ladd dX3_countOnward_70 ?_
      by_cases hb71 : x1 < 0 ∨ t_waysFromN ≤ x1.toNatClampNeg
      · exact vNone ((if_pos hb71).symm.trans h)
      replace h := (if_neg hb71).symm.trans h
      refine V.last (ws' := (wX3_countOnward cy tA t_waysToV t_firstsV t_ties t_stages t_beforeA t_beforeN t_before t_placesA t_placesN t_places t_tiedA t_tiedN t_tied t_stepsA t_stepsN t_steps t_doneA t_doneN t_done t_waysFromA t_waysFromN (vp_updL t_waysFrom x1.toNatClampNeg ((t_waysFrom (x1).toNatClampNeg) + (t_waysFrom (x1 + (t_steps (x2).toNatClampNeg)).toNatClampNeg))))) dX3_countOnward_71 6 rfl hb71 rfl ?_
      exact vX3_countOnward_L72 _ _ _ _ _ _ _ _ _ _ _ _ _ _ _ _ _ _ _ _ _ _ _ _ hk34  _ _ _ R h hQ
noncomputable def fX3_countOnward_L34 (F : Nat) (t_stages : Int32) (t_beforeN : Nat) (t_before : Nat → Int32) (t_placesN : Nat) (t_places : Nat → Int32) (t_tiedN : Nat) (t_tied : Nat → Int32) (t_stepsN : Nat) (t_steps : Nat → Int32) (t_doneN : Nat) (t_done : Nat → Int32) (t_waysFromN : Nat) (k7 : Int32 → (Nat → Int64) → Option ((Nat → Int64))) : Nat → Int32 → Int32 → (Nat → Int64) → Option ((Nat → Int64))
  | 0 => fun _ _ _ => none
  | n + 1 => bX3_countOnward_L34 F t_stages t_beforeN t_before t_placesN t_places t_tiedN t_tied t_stepsN t_steps t_doneN t_done t_waysFromN k7 (fX3_countOnward_L34 F t_stages t_beforeN t_before t_placesN t_places t_tiedN t_tied t_stepsN t_steps t_doneN t_done t_waysFromN k7 n)
theorem vX3_countOnward_L34 {l : Launch} {D : va_G} {cy : Nat → ClassId} {av : List Value} {ws0 : va_W} {Q : Option Value → va_W → Prop} (F : Nat) (tA : Nat) (t_waysToV : Value) (t_firstsV : Value) (t_ties : Int32) (t_stages : Int32) (t_beforeA : Nat) (t_beforeN : Nat) (t_before : Nat → Int32) (t_placesA : Nat) (t_placesN : Nat) (t_places : Nat → Int32) (t_tiedA : Nat) (t_tiedN : Nat) (t_tied : Nat → Int32) (t_stepsA : Nat) (t_stepsN : Nat) (t_steps : Nat → Int32) (t_doneA : Nat) (t_doneN : Nat) (t_done : Nat → Int32) (t_waysFromA : Nat) (t_waysFromN : Nat) (k7 : Int32 → (Nat → Int64) → Option ((Nat → Int64))) (hk7 : ∀ (x1 : Int32) (t_waysFrom : Nat → Int64) (R : (Nat → Int64)), k7 x1 t_waysFrom = some R → Q none (wX3_countOnward cy tA t_waysToV t_firstsV t_ties t_stages t_beforeA t_beforeN t_before t_placesA t_placesN t_places t_tiedA t_tiedN t_tied t_stepsA t_stepsN t_steps t_doneA t_doneN t_done t_waysFromA t_waysFromN R) → V l D cy MX3_countOnward 2 0 0 av ws0 Q 7 [(0, .ref tA), (1, .int x1)] [] (wX3_countOnward cy tA t_waysToV t_firstsV t_ties t_stages t_beforeA t_beforeN t_before t_placesA t_placesN t_places t_tiedA t_tiedN t_tied t_stepsA t_stepsN t_steps t_doneA t_doneN t_done t_waysFromA t_waysFromN t_waysFrom) 0 0) : ∀ (n : Nat) (x1 : Int32) (x2 : Int32) (t_waysFrom : Nat → Int64) (R : (Nat → Int64)), fX3_countOnward_L34 F t_stages t_beforeN t_before t_placesN t_places t_tiedN t_tied t_stepsN t_steps t_doneN t_done t_waysFromN k7 n x1 x2 t_waysFrom = some R → Q none (wX3_countOnward cy tA t_waysToV t_firstsV t_ties t_stages t_beforeA t_beforeN t_before t_placesA t_placesN t_places t_tiedA t_tiedN t_tied t_stepsA t_stepsN t_steps t_doneA t_doneN t_done t_waysFromA t_waysFromN R) → V l D cy MX3_countOnward 2 0 0 av ws0 Q 34 [(0, .ref tA), (1, .int x1), (2, .int x2)] [] (wX3_countOnward cy tA t_waysToV t_firstsV t_ties t_stages t_beforeA t_beforeN t_before t_placesA t_placesN t_places t_tiedA t_tiedN t_tied t_stepsA t_stepsN t_steps t_doneA t_doneN t_done t_waysFromA t_waysFromN t_waysFrom) 0 0 := by
  intro n
  induction n with
  | zero => intro x1 x2 t_waysFrom R h; exact vNone h
  | succ n ih => intro x1 x2 t_waysFrom R h hQ; exact vbX3_countOnward_L34 F tA t_waysToV t_firstsV t_ties t_stages t_beforeA t_beforeN t_before t_placesA t_placesN t_places t_tiedA t_tiedN t_tied t_stepsA t_stepsN t_steps t_doneA t_doneN t_done t_waysFromA t_waysFromN _ hk7 _ ih x1 x2 t_waysFrom R h hQ
noncomputable def bX3_countOnward_L31 (F : Nat) (t_stages : Int32) (t_beforeN : Nat) (t_before : Nat → Int32) (t_placesN : Nat) (t_places : Nat → Int32) (t_tiedN : Nat) (t_tied : Nat → Int32) (t_stepsN : Nat) (t_steps : Nat → Int32) (t_doneN : Nat) (t_done : Nat → Int32) (t_waysFromN : Nat) (k7 : Int32 → (Nat → Int64) → Option ((Nat → Int64))) (x1 : Int32) (s1 : Int32) (s2 : Int64) (t_waysFrom : Nat → Int64) : Option ((Nat → Int64)) :=
  if s1 < 0 ∨ t_waysFromN ≤ s1.toNatClampNeg then none else (fX3_countOnward_L34 F t_stages t_beforeN t_before t_placesN t_places t_tiedN t_tied t_stepsN t_steps t_doneN t_done t_waysFromN k7 F x1 (0 : Int32) (vp_updL t_waysFrom s1.toNatClampNeg s2))
theorem vX3_countOnward_L31 {l : Launch} {D : va_G} {cy : Nat → ClassId} {av : List Value} {ws0 : va_W} {Q : Option Value → va_W → Prop} (F : Nat) (tA : Nat) (t_waysToV : Value) (t_firstsV : Value) (t_ties : Int32) (t_stages : Int32) (t_beforeA : Nat) (t_beforeN : Nat) (t_before : Nat → Int32) (t_placesA : Nat) (t_placesN : Nat) (t_places : Nat → Int32) (t_tiedA : Nat) (t_tiedN : Nat) (t_tied : Nat → Int32) (t_stepsA : Nat) (t_stepsN : Nat) (t_steps : Nat → Int32) (t_doneA : Nat) (t_doneN : Nat) (t_done : Nat → Int32) (t_waysFromA : Nat) (t_waysFromN : Nat) (k7 : Int32 → (Nat → Int64) → Option ((Nat → Int64))) (hk7 : ∀ (x1 : Int32) (t_waysFrom : Nat → Int64) (R : (Nat → Int64)), k7 x1 t_waysFrom = some R → Q none (wX3_countOnward cy tA t_waysToV t_firstsV t_ties t_stages t_beforeA t_beforeN t_before t_placesA t_placesN t_places t_tiedA t_tiedN t_tied t_stepsA t_stepsN t_steps t_doneA t_doneN t_done t_waysFromA t_waysFromN R) → V l D cy MX3_countOnward 2 0 0 av ws0 Q 7 [(0, .ref tA), (1, .int x1)] [] (wX3_countOnward cy tA t_waysToV t_firstsV t_ties t_stages t_beforeA t_beforeN t_before t_placesA t_placesN t_places t_tiedA t_tiedN t_tied t_stepsA t_stepsN t_steps t_doneA t_doneN t_done t_waysFromA t_waysFromN t_waysFrom) 0 0) (x1 : Int32) (s1 : Int32) (s2 : Int64) (t_waysFrom : Nat → Int64) (R : (Nat → Int64)) (h : bX3_countOnward_L31 F t_stages t_beforeN t_before t_placesN t_places t_tiedN t_tied t_stepsN t_steps t_doneN t_done t_waysFromN k7 x1 s1 s2 t_waysFrom = some R) (hQ : Q none (wX3_countOnward cy tA t_waysToV t_firstsV t_ties t_stages t_beforeA t_beforeN t_before t_placesA t_placesN t_places t_tiedA t_tiedN t_tied t_stepsA t_stepsN t_steps t_doneA t_doneN t_done t_waysFromA t_waysFromN R)) : V l D cy MX3_countOnward 2 0 0 av ws0 Q 31 [(0, .ref tA), (1, .int x1)] [.long s2, .int s1, .ref t_waysFromA] (wX3_countOnward cy tA t_waysToV t_firstsV t_ties t_stages t_beforeA t_beforeN t_before t_placesA t_placesN t_places t_tiedA t_tiedN t_tied t_stepsA t_stepsN t_steps t_doneA t_doneN t_done t_waysFromA t_waysFromN t_waysFrom) 0 0 := by
  unfold bX3_countOnward_L31 at h
  by_cases hb31 : s1 < 0 ∨ t_waysFromN ≤ s1.toNatClampNeg
  · exact vNone ((if_pos hb31).symm.trans h)
  replace h := (if_neg hb31).symm.trans h
  refine V.last (ws' := (wX3_countOnward cy tA t_waysToV t_firstsV t_ties t_stages t_beforeA t_beforeN t_before t_placesA t_placesN t_places t_tiedA t_tiedN t_tied t_stepsA t_stepsN t_steps t_doneA t_doneN t_done t_waysFromA t_waysFromN (vp_updL t_waysFrom s1.toNatClampNeg s2))) dX3_countOnward_31 6 rfl hb31 rfl ?_
  refine V.iconst (v := (0 : Int32)) dX3_countOnward_32 (by decide) ?_
  refine V.istore_n (lv' := [(2, .int (0 : Int32)), (0, .ref tA), (1, .int x1)]) dX3_countOnward_33 rfl (by decide) rfl ?_
  refine V.lvs [1, 2, 0] rfl ?_
  exact vX3_countOnward_L34 _ _ _ _ _ _ _ _ _ _ _ _ _ _ _ _ _ _ _ _ _ _ _ _ hk7 _ _ _ _ R h hQ
noncomputable def bX3_countOnward_L7 (F : Nat) (t_stages : Int32) (t_beforeN : Nat) (t_before : Nat → Int32) (t_placesN : Nat) (t_places : Nat → Int32) (t_tiedN : Nat) (t_tied : Nat → Int32) (t_stepsN : Nat) (t_steps : Nat → Int32) (t_doneN : Nat) (t_done : Nat → Int32) (t_waysFromN : Nat) (k7 : Int32 → (Nat → Int64) → Option ((Nat → Int64))) (x1 : Int32) (t_waysFrom : Nat → Int64) : Option ((Nat → Int64)) :=
  if x1 < 0 then (some t_waysFrom) else (if x1 = (t_stages - (1 : Int32)) then (bX3_countOnward_L31 F t_stages t_beforeN t_before t_placesN t_places t_tiedN t_tied t_stepsN t_steps t_doneN t_done t_waysFromN k7 x1 x1 (1 : Int64) t_waysFrom) else (bX3_countOnward_L31 F t_stages t_beforeN t_before t_placesN t_places t_tiedN t_tied t_stepsN t_steps t_doneN t_done t_waysFromN k7 x1 x1 (0 : Int64) t_waysFrom))
theorem vbX3_countOnward_L7 {l : Launch} {D : va_G} {cy : Nat → ClassId} {av : List Value} {ws0 : va_W} {Q : Option Value → va_W → Prop} (F : Nat) (tA : Nat) (t_waysToV : Value) (t_firstsV : Value) (t_ties : Int32) (t_stages : Int32) (t_beforeA : Nat) (t_beforeN : Nat) (t_before : Nat → Int32) (t_placesA : Nat) (t_placesN : Nat) (t_places : Nat → Int32) (t_tiedA : Nat) (t_tiedN : Nat) (t_tied : Nat → Int32) (t_stepsA : Nat) (t_stepsN : Nat) (t_steps : Nat → Int32) (t_doneA : Nat) (t_doneN : Nat) (t_done : Nat → Int32) (t_waysFromA : Nat) (t_waysFromN : Nat) (k7 : Int32 → (Nat → Int64) → Option ((Nat → Int64))) (hk7 : ∀ (x1 : Int32) (t_waysFrom : Nat → Int64) (R : (Nat → Int64)), k7 x1 t_waysFrom = some R → Q none (wX3_countOnward cy tA t_waysToV t_firstsV t_ties t_stages t_beforeA t_beforeN t_before t_placesA t_placesN t_places t_tiedA t_tiedN t_tied t_stepsA t_stepsN t_steps t_doneA t_doneN t_done t_waysFromA t_waysFromN R) → V l D cy MX3_countOnward 2 0 0 av ws0 Q 7 [(0, .ref tA), (1, .int x1)] [] (wX3_countOnward cy tA t_waysToV t_firstsV t_ties t_stages t_beforeA t_beforeN t_before t_placesA t_placesN t_places t_tiedA t_tiedN t_tied t_stepsA t_stepsN t_steps t_doneA t_doneN t_done t_waysFromA t_waysFromN t_waysFrom) 0 0) (x1 : Int32) (t_waysFrom : Nat → Int64) (R : (Nat → Int64)) (h : bX3_countOnward_L7 F t_stages t_beforeN t_before t_placesN t_places t_tiedN t_tied t_stepsN t_steps t_doneN t_done t_waysFromN k7 x1 t_waysFrom = some R) (hQ : Q none (wX3_countOnward cy tA t_waysToV t_firstsV t_ties t_stages t_beforeA t_beforeN t_before t_placesA t_placesN t_places t_tiedA t_tiedN t_tied t_stepsA t_stepsN t_steps t_doneA t_doneN t_done t_waysFromA t_waysFromN R)) : V l D cy MX3_countOnward 2 0 0 av ws0 Q 7 [(0, .ref tA), (1, .int x1)] [] (wX3_countOnward cy tA t_waysToV t_firstsV t_ties t_stages t_beforeA t_beforeN t_before t_placesA t_placesN t_places t_tiedA t_tiedN t_tied t_stepsA t_stepsN t_steps t_doneA t_doneN t_done t_waysFromA t_waysFromN t_waysFrom) 0 0 := by
  unfold bX3_countOnward_L7 at h
  refine V.iload_n dX3_countOnward_7 rfl 1 rfl ?_
  refine V.if_lt (tgt := 84) dX3_countOnward_8 (by decide) (fun hc8 => ?_) (fun hc8 => ?_)
  · replace h := (if_pos hc8).symm.trans h
    have e9 := Option.some.inj h; subst e9
    exact V.vret rfl dX3_countOnward_84 (Nat.le_refl _) (Nat.le_refl _) hQ
  · replace h := (if_neg hc8).symm.trans h
    refine V.aload_n dX3_countOnward_11 rfl 0 rfl ?_
    refine V.get kfX3 0 rfl rfl 6 (by decide) klX3_31 rfl dX3_countOnward_12 ?_
    refine V.iload_n dX3_countOnward_15 rfl 1 rfl ?_
    refine V.iload_n dX3_countOnward_16 rfl 1 rfl ?_
    refine V.aload_n dX3_countOnward_17 rfl 0 rfl ?_
    refine V.get kfX3 0 rfl rfl 9 (by decide) klX3_92 rfl dX3_countOnward_18 ?_
    refine V.iconst (v := (1 : Int32)) dX3_countOnward_21 (by decide) ?_
    refine V.isub dX3_countOnward_22 ?_
    refine V.icmp_ne (tgt := 30) dX3_countOnward_23 (by decide) (fun hc23 => ?_) (fun hc23 => ?_)
    · replace h := (if_neg hc23).symm.trans h
      refine V.lconst (v := (0 : Int64)) dX3_countOnward_30 (by decide) ?_
      exact vX3_countOnward_L31 _ _ _ _ _ _ _ _ _ _ _ _ _ _ _ _ _ _ _ _ _ _ _ _ hk7  _ _ _ _ R h hQ
    · replace h := (if_pos hc23).symm.trans h
      refine V.lconst (v := (1 : Int64)) dX3_countOnward_26 (by decide) ?_
      refine V.goto (tgt := 31) dX3_countOnward_27 (by decide) ?_
      exact vX3_countOnward_L31 _ _ _ _ _ _ _ _ _ _ _ _ _ _ _ _ _ _ _ _ _ _ _ _ hk7  _ _ _ _ R h hQ
noncomputable def fX3_countOnward_L7 (F : Nat) (t_stages : Int32) (t_beforeN : Nat) (t_before : Nat → Int32) (t_placesN : Nat) (t_places : Nat → Int32) (t_tiedN : Nat) (t_tied : Nat → Int32) (t_stepsN : Nat) (t_steps : Nat → Int32) (t_doneN : Nat) (t_done : Nat → Int32) (t_waysFromN : Nat)  : Nat → Int32 → (Nat → Int64) → Option ((Nat → Int64))
  | 0 => fun _ _ => none
  | n + 1 => bX3_countOnward_L7 F t_stages t_beforeN t_before t_placesN t_places t_tiedN t_tied t_stepsN t_steps t_doneN t_done t_waysFromN (fX3_countOnward_L7 F t_stages t_beforeN t_before t_placesN t_places t_tiedN t_tied t_stepsN t_steps t_doneN t_done t_waysFromN  n)
theorem vX3_countOnward_L7 {l : Launch} {D : va_G} {cy : Nat → ClassId} {av : List Value} {ws0 : va_W} {Q : Option Value → va_W → Prop} (F : Nat) (tA : Nat) (t_waysToV : Value) (t_firstsV : Value) (t_ties : Int32) (t_stages : Int32) (t_beforeA : Nat) (t_beforeN : Nat) (t_before : Nat → Int32) (t_placesA : Nat) (t_placesN : Nat) (t_places : Nat → Int32) (t_tiedA : Nat) (t_tiedN : Nat) (t_tied : Nat → Int32) (t_stepsA : Nat) (t_stepsN : Nat) (t_steps : Nat → Int32) (t_doneA : Nat) (t_doneN : Nat) (t_done : Nat → Int32) (t_waysFromA : Nat) (t_waysFromN : Nat)  : ∀ (n : Nat) (x1 : Int32) (t_waysFrom : Nat → Int64) (R : (Nat → Int64)), fX3_countOnward_L7 F t_stages t_beforeN t_before t_placesN t_places t_tiedN t_tied t_stepsN t_steps t_doneN t_done t_waysFromN  n x1 t_waysFrom = some R → Q none (wX3_countOnward cy tA t_waysToV t_firstsV t_ties t_stages t_beforeA t_beforeN t_before t_placesA t_placesN t_places t_tiedA t_tiedN t_tied t_stepsA t_stepsN t_steps t_doneA t_doneN t_done t_waysFromA t_waysFromN R) → V l D cy MX3_countOnward 2 0 0 av ws0 Q 7 [(0, .ref tA), (1, .int x1)] [] (wX3_countOnward cy tA t_waysToV t_firstsV t_ties t_stages t_beforeA t_beforeN t_before t_placesA t_placesN t_places t_tiedA t_tiedN t_tied t_stepsA t_stepsN t_steps t_doneA t_doneN t_done t_waysFromA t_waysFromN t_waysFrom) 0 0 := by
  intro n
  induction n with
  | zero => intro x1 t_waysFrom R h; exact vNone h
  | succ n ih => intro x1 t_waysFrom R h hQ; exact vbX3_countOnward_L7 F tA t_waysToV t_firstsV t_ties t_stages t_beforeA t_beforeN t_before t_placesA t_placesN t_places t_tiedA t_tiedN t_tied t_stepsA t_stepsN t_steps t_doneA t_doneN t_done t_waysFromA t_waysFromN _ ih x1 t_waysFrom R h hQ
noncomputable def fX3_countOnward (F : Nat) (t_stages : Int32) (t_beforeN : Nat) (t_before : Nat → Int32) (t_placesN : Nat) (t_places : Nat → Int32) (t_tiedN : Nat) (t_tied : Nat → Int32) (t_stepsN : Nat) (t_steps : Nat → Int32) (t_doneN : Nat) (t_done : Nat → Int32) (t_waysFromN : Nat) (t_waysFrom : Nat → Int64) : Option ((Nat → Int64)) :=
  fX3_countOnward_L7 F t_stages t_beforeN t_before t_placesN t_places t_tiedN t_tied t_stepsN t_steps t_doneN t_done t_waysFromN F (t_stages - (1 : Int32)) t_waysFrom
theorem CX3_countOnward {l : Launch} {D : va_G} {cy : Nat → ClassId} (F : Nat) (tA : Nat) (t_waysToV : Value) (t_firstsV : Value) (t_ties : Int32) (t_stages : Int32) (t_beforeA : Nat) (t_beforeN : Nat) (t_before : Nat → Int32) (t_placesA : Nat) (t_placesN : Nat) (t_places : Nat → Int32) (t_tiedA : Nat) (t_tiedN : Nat) (t_tied : Nat → Int32) (t_stepsA : Nat) (t_stepsN : Nat) (t_steps : Nat → Int32) (t_doneA : Nat) (t_doneN : Nat) (t_done : Nat → Int32) (t_waysFromA : Nat) (t_waysFromN : Nat) (t_waysFrom : Nat → Int64) (R : (Nat → Int64)) (h : fX3_countOnward F t_stages t_beforeN t_before t_placesN t_places t_tiedN t_tied t_stepsN t_steps t_doneN t_done t_waysFromN t_waysFrom = some R) : vMet l D cy MX3_countOnward 2 0 0 [.ref tA] (wX3_countOnward cy tA t_waysToV t_firstsV t_ties t_stages t_beforeA t_beforeN t_before t_placesA t_placesN t_places t_tiedA t_tiedN t_tied t_stepsA t_stepsN t_steps t_doneA t_doneN t_done t_waysFromA t_waysFromN t_waysFrom) (fun (r : Option Value) (w : va_W) => r = none ∧ w = (wX3_countOnward cy tA t_waysToV t_firstsV t_ties t_stages t_beforeA t_beforeN t_before t_placesA t_placesN t_places t_tiedA t_tiedN t_tied t_stepsA t_stepsN t_steps t_doneA t_doneN t_done t_waysFromA t_waysFromN R)) := by
  refine vMet.start (by decide +kernel) (Nat.le_of_ble_eq_true rfl) ?_
  generalize hQe : (fun (r : Option Value) (w : va_W) => r = none ∧ w = (wX3_countOnward cy tA t_waysToV t_firstsV t_ties t_stages t_beforeA t_beforeN t_before t_placesA t_placesN t_places t_tiedA t_tiedN t_tied t_stepsA t_stepsN t_steps t_doneA t_doneN t_done t_waysFromA t_waysFromN R)) = Q
  have hQ : Q none (wX3_countOnward cy tA t_waysToV t_firstsV t_ties t_stages t_beforeA t_beforeN t_before t_placesA t_placesN t_places t_tiedA t_tiedN t_tied t_stepsA t_stepsN t_steps t_doneA t_doneN t_done t_waysFromA t_waysFromN R) := by rw [← hQe]; exact ⟨rfl, rfl⟩
  show V l D cy MX3_countOnward 2 0 0 _ _ Q 0 [(0, .ref tA)] [] _ 0 0
  show V l D cy MX3_countOnward 2 0 0 [.ref tA] _ Q 0 [(0, .ref tA)] [] (wX3_countOnward cy tA t_waysToV t_firstsV t_ties t_stages t_beforeA t_beforeN t_before t_placesA t_placesN t_places t_tiedA t_tiedN t_tied t_stepsA t_stepsN t_steps t_doneA t_doneN t_done t_waysFromA t_waysFromN t_waysFrom) 0 0
  unfold fX3_countOnward at h
  refine V.aload_n dX3_countOnward_0 rfl 0 rfl ?_
  refine V.get kfX3 0 rfl rfl 9 (by decide) klX3_92 rfl dX3_countOnward_1 ?_
  refine V.iconst (v := (1 : Int32)) dX3_countOnward_4 (by decide) ?_
  refine V.isub dX3_countOnward_5 ?_
  refine V.istore_n (lv' := [(1, .int (t_stages - (1 : Int32))), (0, .ref tA)]) dX3_countOnward_6 rfl (by decide) rfl ?_
  refine V.lvs [1, 0] rfl ?_
  exact vX3_countOnward_L7 _ _ _ _ _ _ _ _ _ _ _ _ _ _ _ _ _ _ _ _ _ _ _  _ _ _ R h hQ
theorem dX3_addFirsts_0 : decode cX3_addFirsts 0 = .ok (.iconst 0, 1) := by decide +kernel
theorem dX3_addFirsts_1 : decode cX3_addFirsts 1 = .ok (.istore 5, 2) := by decide +kernel
theorem dX3_addFirsts_3 : decode cX3_addFirsts 3 = .ok (.iload 5, 2) := by decide +kernel
theorem dX3_addFirsts_5 : decode cX3_addFirsts 5 = .ok (.aload_n 0, 1) := by decide +kernel
theorem dX3_addFirsts_6 : decode cX3_addFirsts 6 = .ok (.getfield 49, 3) := by decide +kernel
theorem dX3_addFirsts_9 : decode cX3_addFirsts 9 = .ok (.if_icmp .ge 34, 3) := by decide +kernel
theorem dX3_addFirsts_12 : decode cX3_addFirsts 12 = .ok (.iload_n 2, 1) := by decide +kernel
theorem dX3_addFirsts_13 : decode cX3_addFirsts 13 = .ok (.iload 5, 2) := by decide +kernel
theorem dX3_addFirsts_15 : decode cX3_addFirsts 15 = .ok (.ishr, 1) := by decide +kernel
theorem dX3_addFirsts_16 : decode cX3_addFirsts 16 = .ok (.iconst 1, 1) := by decide +kernel
theorem dX3_addFirsts_17 : decode cX3_addFirsts 17 = .ok (.iand, 1) := by decide +kernel
theorem dX3_addFirsts_18 : decode cX3_addFirsts 18 = .ok (.ifCond .eq 19, 3) := by decide +kernel
theorem dX3_addFirsts_21 : decode cX3_addFirsts 21 = .ok (.aload_n 0, 1) := by decide +kernel
theorem dX3_addFirsts_22 : decode cX3_addFirsts 22 = .ok (.getfield 34, 3) := by decide +kernel
theorem dX3_addFirsts_25 : decode cX3_addFirsts 25 = .ok (.iload 5, 2) := by decide +kernel
theorem dX3_addFirsts_27 : decode cX3_addFirsts 27 = .ok (.bipush 14, 2) := by decide +kernel
theorem dX3_addFirsts_29 : decode cX3_addFirsts 29 = .ok (.imul, 1) := by decide +kernel
theorem dX3_addFirsts_30 : decode cX3_addFirsts 30 = .ok (.iload_n 1, 1) := by decide +kernel
theorem dX3_addFirsts_31 : decode cX3_addFirsts 31 = .ok (.iadd, 1) := by decide +kernel
theorem dX3_addFirsts_32 : decode cX3_addFirsts 32 = .ok (.dup2, 1) := by decide +kernel
theorem dX3_addFirsts_33 : decode cX3_addFirsts 33 = .ok (.laload, 1) := by decide +kernel
theorem dX3_addFirsts_34 : decode cX3_addFirsts 34 = .ok (.lload_n 3, 1) := by decide +kernel
theorem dX3_addFirsts_35 : decode cX3_addFirsts 35 = .ok (.ladd, 1) := by decide +kernel
theorem dX3_addFirsts_36 : decode cX3_addFirsts 36 = .ok (.lastore, 1) := by decide +kernel
theorem dX3_addFirsts_37 : decode cX3_addFirsts 37 = .ok (.iinc 5 1, 3) := by decide +kernel
theorem dX3_addFirsts_40 : decode cX3_addFirsts 40 = .ok (.goto (-37), 3) := by decide +kernel
theorem dX3_addFirsts_43 : decode cX3_addFirsts 43 = .ok (.return_, 1) := by decide +kernel
def wX3_addFirsts (cy : Nat → ClassId) (tA : Nat) (t_beforeV : Value) (t_placesV : Value) (t_tiedV : Value) (t_stepsV : Value) (t_doneV : Value) (t_waysToV : Value) (t_waysFromV : Value) (t_ties : Int32) (t_stages : Int32) (t_firstsA : Nat) (t_firstsN : Nat) (t_firsts : Nat → Int64) : va_W :=
  [(tA, .inr (3, [t_beforeV, t_placesV, t_tiedV, t_stepsV, t_doneV, t_waysToV, t_waysFromV, .ref t_firstsA, .int t_ties, .int t_stages])), (t_firstsA, .inl (cy 2, t_firstsN, .inr (.inl t_firsts)))]
noncomputable def bX3_addFirsts_L37 (F : Nat) (t_ties : Int32) (t_firstsN : Nat) (k3 : Int32 → Int32 → Int64 → Int32 → (Nat → Int64) → Option ((Nat → Int64))) (x1 : Int32) (x2 : Int32) (x3 : Int64) (x5 : Int32) (t_firsts : Nat → Int64) : Option ((Nat → Int64)) :=
  k3 x1 x2 x3 (x5 + (1 : Int32)) t_firsts
theorem vX3_addFirsts_L37 {l : Launch} {D : va_G} {cy : Nat → ClassId} {av : List Value} {ws0 : va_W} {Q : Option Value → va_W → Prop} (F : Nat) (tA : Nat) (t_beforeV : Value) (t_placesV : Value) (t_tiedV : Value) (t_stepsV : Value) (t_doneV : Value) (t_waysToV : Value) (t_waysFromV : Value) (t_ties : Int32) (t_stages : Int32) (t_firstsA : Nat) (t_firstsN : Nat) (k3 : Int32 → Int32 → Int64 → Int32 → (Nat → Int64) → Option ((Nat → Int64))) (hk3 : ∀ (x1 : Int32) (x2 : Int32) (x3 : Int64) (x5 : Int32) (t_firsts : Nat → Int64) (R : (Nat → Int64)), k3 x1 x2 x3 x5 t_firsts = some R → Q none (wX3_addFirsts cy tA t_beforeV t_placesV t_tiedV t_stepsV t_doneV t_waysToV t_waysFromV t_ties t_stages t_firstsA t_firstsN R) → V l D cy MX3_addFirsts 0 0 0 av ws0 Q 3 [(0, .ref tA), (1, .int x1), (2, .int x2), (3, .long x3), (5, .int x5)] [] (wX3_addFirsts cy tA t_beforeV t_placesV t_tiedV t_stepsV t_doneV t_waysToV t_waysFromV t_ties t_stages t_firstsA t_firstsN t_firsts) 0 0) (x1 : Int32) (x2 : Int32) (x3 : Int64) (x5 : Int32) (t_firsts : Nat → Int64) (R : (Nat → Int64)) (h : bX3_addFirsts_L37 F t_ties t_firstsN k3 x1 x2 x3 x5 t_firsts = some R) (hQ : Q none (wX3_addFirsts cy tA t_beforeV t_placesV t_tiedV t_stepsV t_doneV t_waysToV t_waysFromV t_ties t_stages t_firstsA t_firstsN R)) : V l D cy MX3_addFirsts 0 0 0 av ws0 Q 37 [(0, .ref tA), (1, .int x1), (2, .int x2), (3, .long x3), (5, .int x5)] [] (wX3_addFirsts cy tA t_beforeV t_placesV t_tiedV t_stepsV t_doneV t_waysToV t_waysFromV t_ties t_stages t_firstsA t_firstsN t_firsts) 0 0 := by
  unfold bX3_addFirsts_L37 at h
  refine V.iinc (v := x5 + (1 : Int32)) (lv' := [(5, .int (x5 + (1 : Int32))), (0, .ref tA), (1, .int x1), (2, .int x2), (3, .long x3)]) dX3_addFirsts_37 4 rfl rfl (by decide) rfl ?_
  refine V.goto (tgt := 3) dX3_addFirsts_40 (by decide) ?_
  refine V.lvs [1, 2, 3, 4, 0] rfl ?_
  exact hk3 _ _ _ _ _ R h hQ
noncomputable def bX3_addFirsts_L3 (F : Nat) (t_ties : Int32) (t_firstsN : Nat) (k3 : Int32 → Int32 → Int64 → Int32 → (Nat → Int64) → Option ((Nat → Int64))) (x1 : Int32) (x2 : Int32) (x3 : Int64) (x5 : Int32) (t_firsts : Nat → Int64) : Option ((Nat → Int64)) :=
  if t_ties ≤ x5 then (some t_firsts) else (if ((x2 >>> (x5 &&& 31)) &&& (1 : Int32)) = 0 then (bX3_addFirsts_L37 F t_ties t_firstsN k3 x1 x2 x3 x5 t_firsts) else (if ((x5 * (14 : Int32)) + x1) < 0 ∨ t_firstsN ≤ ((x5 * (14 : Int32)) + x1).toNatClampNeg then none else (if ((x5 * (14 : Int32)) + x1) < 0 ∨ t_firstsN ≤ ((x5 * (14 : Int32)) + x1).toNatClampNeg then none else (bX3_addFirsts_L37 F t_ties t_firstsN k3 x1 x2 x3 x5 (vp_updL t_firsts ((x5 * (14 : Int32)) + x1).toNatClampNeg ((t_firsts ((x5 * (14 : Int32)) + x1).toNatClampNeg) + x3))))))
theorem vbX3_addFirsts_L3 {l : Launch} {D : va_G} {cy : Nat → ClassId} {av : List Value} {ws0 : va_W} {Q : Option Value → va_W → Prop} (F : Nat) (tA : Nat) (t_beforeV : Value) (t_placesV : Value) (t_tiedV : Value) (t_stepsV : Value) (t_doneV : Value) (t_waysToV : Value) (t_waysFromV : Value) (t_ties : Int32) (t_stages : Int32) (t_firstsA : Nat) (t_firstsN : Nat) (k3 : Int32 → Int32 → Int64 → Int32 → (Nat → Int64) → Option ((Nat → Int64))) (hk3 : ∀ (x1 : Int32) (x2 : Int32) (x3 : Int64) (x5 : Int32) (t_firsts : Nat → Int64) (R : (Nat → Int64)), k3 x1 x2 x3 x5 t_firsts = some R → Q none (wX3_addFirsts cy tA t_beforeV t_placesV t_tiedV t_stepsV t_doneV t_waysToV t_waysFromV t_ties t_stages t_firstsA t_firstsN R) → V l D cy MX3_addFirsts 0 0 0 av ws0 Q 3 [(0, .ref tA), (1, .int x1), (2, .int x2), (3, .long x3), (5, .int x5)] [] (wX3_addFirsts cy tA t_beforeV t_placesV t_tiedV t_stepsV t_doneV t_waysToV t_waysFromV t_ties t_stages t_firstsA t_firstsN t_firsts) 0 0) (x1 : Int32) (x2 : Int32) (x3 : Int64) (x5 : Int32) (t_firsts : Nat → Int64) (R : (Nat → Int64)) (h : bX3_addFirsts_L3 F t_ties t_firstsN k3 x1 x2 x3 x5 t_firsts = some R) (hQ : Q none (wX3_addFirsts cy tA t_beforeV t_placesV t_tiedV t_stepsV t_doneV t_waysToV t_waysFromV t_ties t_stages t_firstsA t_firstsN R)) : V l D cy MX3_addFirsts 0 0 0 av ws0 Q 3 [(0, .ref tA), (1, .int x1), (2, .int x2), (3, .long x3), (5, .int x5)] [] (wX3_addFirsts cy tA t_beforeV t_placesV t_tiedV t_stepsV t_doneV t_waysToV t_waysFromV t_ties t_stages t_firstsA t_firstsN t_firsts) 0 0 := by
  unfold bX3_addFirsts_L3 at h
  refine V.iload dX3_addFirsts_3 4 rfl ?_
  refine V.aload_n dX3_addFirsts_5 rfl 0 rfl ?_
  refine V.get kfX3 0 rfl rfl 8 (by decide) klX3_49 rfl dX3_addFirsts_6 ?_
  refine V.icmp_ge (tgt := 43) dX3_addFirsts_9 (by decide) (fun hc9 => ?_) (fun hc9 => ?_)
  · replace h := (if_pos hc9).symm.trans h
    have e9 := Option.some.inj h; subst e9
    exact V.vret rfl dX3_addFirsts_43 (Nat.le_refl _) (Nat.le_refl _) hQ
  · replace h := (if_neg hc9).symm.trans h
    refine V.iload_n dX3_addFirsts_12 rfl 2 rfl ?_
    refine V.iload dX3_addFirsts_13 4 rfl ?_
    refine V.ishr dX3_addFirsts_15 ?_
    refine V.iconst (v := (1 : Int32)) dX3_addFirsts_16 (by decide) ?_
    refine V.iand dX3_addFirsts_17 ?_
    refine V.if_eq (tgt := 37) dX3_addFirsts_18 (by decide) (fun hc18 => ?_) (fun hc18 => ?_)
    · replace h := (if_pos hc18).symm.trans h
      exact vX3_addFirsts_L37 _ _ _ _ _ _ _ _ _ _ _ _ _ _ hk3  _ _ _ _ _ R h hQ
    · replace h := (if_neg hc18).symm.trans h
      refine V.aload_n dX3_addFirsts_21 rfl 0 rfl ?_
      refine V.get kfX3 0 rfl rfl 7 (by decide) klX3_34 rfl dX3_addFirsts_22 ?_
      refine V.iload dX3_addFirsts_25 4 rfl ?_
      refine V.bipush (v := (14 : Int32)) dX3_addFirsts_27 (by decide) ?_
      refine V.imul dX3_addFirsts_29 ?_
      refine V.iload_n dX3_addFirsts_30 rfl 1 rfl ?_
      refine V.iadd dX3_addFirsts_31 ?_
      refine V.dup2 dX3_addFirsts_32 rfl rfl ?_
      by_cases hb33 : ((x5 * (14 : Int32)) + x1) < 0 ∨ t_firstsN ≤ ((x5 * (14 : Int32)) + x1).toNatClampNeg
      · exact vNone ((if_pos hb33).symm.trans h)
      replace h := (if_neg hb33).symm.trans h
      refine V.lald dX3_addFirsts_33 1 rfl hb33 ?_
      refine V.lload_n dX3_addFirsts_34 rfl 3 rfl ?_
      refine V.ladd dX3_addFirsts_35 ?_
      by_cases hb36 : ((x5 * (14 : Int32)) + x1) < 0 ∨ t_firstsN ≤ ((x5 * (14 : Int32)) + x1).toNatClampNeg
      · exact vNone ((if_pos hb36).symm.trans h)
      replace h := (if_neg hb36).symm.trans h
      refine V.last (ws' := (wX3_addFirsts cy tA t_beforeV t_placesV t_tiedV t_stepsV t_doneV t_waysToV t_waysFromV t_ties t_stages t_firstsA t_firstsN (vp_updL t_firsts ((x5 * (14 : Int32)) + x1).toNatClampNeg ((t_firsts ((x5 * (14 : Int32)) + x1).toNatClampNeg) + x3)))) dX3_addFirsts_36 1 rfl hb36 rfl ?_
      exact vX3_addFirsts_L37 _ _ _ _ _ _ _ _ _ _ _ _ _ _ hk3  _ _ _ _ _ R h hQ
noncomputable def fX3_addFirsts_L3 (F : Nat) (t_ties : Int32) (t_firstsN : Nat)  : Nat → Int32 → Int32 → Int64 → Int32 → (Nat → Int64) → Option ((Nat → Int64))
  | 0 => fun _ _ _ _ _ => none
  | n + 1 => bX3_addFirsts_L3 F t_ties t_firstsN (fX3_addFirsts_L3 F t_ties t_firstsN  n)
theorem vX3_addFirsts_L3 {l : Launch} {D : va_G} {cy : Nat → ClassId} {av : List Value} {ws0 : va_W} {Q : Option Value → va_W → Prop} (F : Nat) (tA : Nat) (t_beforeV : Value) (t_placesV : Value) (t_tiedV : Value) (t_stepsV : Value) (t_doneV : Value) (t_waysToV : Value) (t_waysFromV : Value) (t_ties : Int32) (t_stages : Int32) (t_firstsA : Nat) (t_firstsN : Nat)  : ∀ (n : Nat) (x1 : Int32) (x2 : Int32) (x3 : Int64) (x5 : Int32) (t_firsts : Nat → Int64) (R : (Nat → Int64)), fX3_addFirsts_L3 F t_ties t_firstsN  n x1 x2 x3 x5 t_firsts = some R → Q none (wX3_addFirsts cy tA t_beforeV t_placesV t_tiedV t_stepsV t_doneV t_waysToV t_waysFromV t_ties t_stages t_firstsA t_firstsN R) → V l D cy MX3_addFirsts 0 0 0 av ws0 Q 3 [(0, .ref tA), (1, .int x1), (2, .int x2), (3, .long x3), (5, .int x5)] [] (wX3_addFirsts cy tA t_beforeV t_placesV t_tiedV t_stepsV t_doneV t_waysToV t_waysFromV t_ties t_stages t_firstsA t_firstsN t_firsts) 0 0 := by
  intro n
  induction n with
  | zero => intro x1 x2 x3 x5 t_firsts R h; exact vNone h
  | succ n ih => intro x1 x2 x3 x5 t_firsts R h hQ; exact vbX3_addFirsts_L3 F tA t_beforeV t_placesV t_tiedV t_stepsV t_doneV t_waysToV t_waysFromV t_ties t_stages t_firstsA t_firstsN _ ih x1 x2 x3 x5 t_firsts R h hQ
noncomputable def fX3_addFirsts (F : Nat) (t_ties : Int32) (t_firstsN : Nat) (a1 : Int32) (a2 : Int32) (a3 : Int64) (t_firsts : Nat → Int64) : Option ((Nat → Int64)) :=
  fX3_addFirsts_L3 F t_ties t_firstsN F a1 a2 a3 (0 : Int32) t_firsts
theorem CX3_addFirsts {l : Launch} {D : va_G} {cy : Nat → ClassId} (F : Nat) (tA : Nat) (t_beforeV : Value) (t_placesV : Value) (t_tiedV : Value) (t_stepsV : Value) (t_doneV : Value) (t_waysToV : Value) (t_waysFromV : Value) (t_ties : Int32) (t_stages : Int32) (t_firstsA : Nat) (t_firstsN : Nat) (t_firsts : Nat → Int64) (a1 : Int32) (a2 : Int32) (a3 : Int64) (R : (Nat → Int64)) (h : fX3_addFirsts F t_ties t_firstsN a1 a2 a3 t_firsts = some R) : vMet l D cy MX3_addFirsts 0 0 0 [.ref tA, .int a1, .int a2, .long a3] (wX3_addFirsts cy tA t_beforeV t_placesV t_tiedV t_stepsV t_doneV t_waysToV t_waysFromV t_ties t_stages t_firstsA t_firstsN t_firsts) (fun (r : Option Value) (w : va_W) => r = none ∧ w = (wX3_addFirsts cy tA t_beforeV t_placesV t_tiedV t_stepsV t_doneV t_waysToV t_waysFromV t_ties t_stages t_firstsA t_firstsN R)) := by
  refine vMet.start (by decide +kernel) (Nat.le_of_ble_eq_true rfl) ?_
  generalize hQe : (fun (r : Option Value) (w : va_W) => r = none ∧ w = (wX3_addFirsts cy tA t_beforeV t_placesV t_tiedV t_stepsV t_doneV t_waysToV t_waysFromV t_ties t_stages t_firstsA t_firstsN R)) = Q
  have hQ : Q none (wX3_addFirsts cy tA t_beforeV t_placesV t_tiedV t_stepsV t_doneV t_waysToV t_waysFromV t_ties t_stages t_firstsA t_firstsN R) := by rw [← hQe]; exact ⟨rfl, rfl⟩
  show V l D cy MX3_addFirsts 0 0 0 _ _ Q 0 [(0, .ref tA), (1, .int a1), (2, .int a2), (3, .long a3)] [] _ 0 0
  show V l D cy MX3_addFirsts 0 0 0 [.ref tA, .int a1, .int a2, .long a3] _ Q 0 [(0, .ref tA), (1, .int a1), (2, .int a2), (3, .long a3)] [] (wX3_addFirsts cy tA t_beforeV t_placesV t_tiedV t_stepsV t_doneV t_waysToV t_waysFromV t_ties t_stages t_firstsA t_firstsN t_firsts) 0 0
  unfold fX3_addFirsts at h
  refine V.iconst (v := (0 : Int32)) dX3_addFirsts_0 (by decide) ?_
  refine V.istore (lv' := [(5, .int (0 : Int32)), (0, .ref tA), (1, .int a1), (2, .int a2), (3, .long a3)]) dX3_addFirsts_1 (by decide) rfl ?_
  refine V.lvs [1, 2, 3, 4, 0] rfl ?_
  exact vX3_addFirsts_L3 _ _ _ _ _ _ _ _ _ _ _ _ _  _ _ _ _ _ _ R h hQ
theorem dX3_layBefore_0 : decode cX3_layBefore 0 = .ok (.aload_n 2, 1) := by decide +kernel
theorem dX3_layBefore_1 : decode cX3_layBefore 1 = .ok (.getfield 37, 3) := by decide +kernel
theorem dX3_layBefore_4 : decode cX3_layBefore 4 = .ok (.astore_n 3, 1) := by decide +kernel
theorem dX3_layBefore_5 : decode cX3_layBefore 5 = .ok (.iconst 0, 1) := by decide +kernel
theorem dX3_layBefore_6 : decode cX3_layBefore 6 = .ok (.istore 4, 2) := by decide +kernel
theorem dX3_layBefore_8 : decode cX3_layBefore 8 = .ok (.iload 4, 2) := by decide +kernel
theorem dX3_layBefore_10 : decode cX3_layBefore 10 = .ok (.aload_n 0, 1) := by decide +kernel
theorem dX3_layBefore_11 : decode cX3_layBefore 11 = .ok (.getfield 49, 3) := by decide +kernel
theorem dX3_layBefore_14 : decode cX3_layBefore 14 = .ok (.if_icmp .ge 82, 3) := by decide +kernel
theorem dX3_layBefore_17 : decode cX3_layBefore 17 = .ok (.aload_n 0, 1) := by decide +kernel
theorem dX3_layBefore_18 : decode cX3_layBefore 18 = .ok (.getfield 9, 3) := by decide +kernel
theorem dX3_layBefore_21 : decode cX3_layBefore 21 = .ok (.iload 4, 2) := by decide +kernel
theorem dX3_layBefore_23 : decode cX3_layBefore 23 = .ok (.iconst 0, 1) := by decide +kernel
theorem dX3_layBefore_24 : decode cX3_layBefore 24 = .ok (.iastore, 1) := by decide +kernel
theorem dX3_layBefore_25 : decode cX3_layBefore 25 = .ok (.aload_n 1, 1) := by decide +kernel
theorem dX3_layBefore_26 : decode cX3_layBefore 26 = .ok (.getfield 63, 3) := by decide +kernel
theorem dX3_layBefore_29 : decode cX3_layBefore 29 = .ok (.aload_n 3, 1) := by decide +kernel
theorem dX3_layBefore_30 : decode cX3_layBefore 30 = .ok (.getfield 68, 3) := by decide +kernel
theorem dX3_layBefore_33 : decode cX3_layBefore 33 = .ok (.iload 4, 2) := by decide +kernel
theorem dX3_layBefore_35 : decode cX3_layBefore 35 = .ok (.iaload, 1) := by decide +kernel
theorem dX3_layBefore_36 : decode cX3_layBefore 36 = .ok (.invokestatic 70, 3) := by decide +kernel
theorem dX3_layBefore_39 : decode cX3_layBefore 39 = .ok (.iaload, 1) := by decide +kernel
theorem dX3_layBefore_40 : decode cX3_layBefore 40 = .ok (.istore 5, 2) := by decide +kernel
theorem dX3_layBefore_42 : decode cX3_layBefore 42 = .ok (.iconst 0, 1) := by decide +kernel
theorem dX3_layBefore_43 : decode cX3_layBefore 43 = .ok (.istore 6, 2) := by decide +kernel
theorem dX3_layBefore_45 : decode cX3_layBefore 45 = .ok (.iload 6, 2) := by decide +kernel
theorem dX3_layBefore_47 : decode cX3_layBefore 47 = .ok (.iload 4, 2) := by decide +kernel
theorem dX3_layBefore_49 : decode cX3_layBefore 49 = .ok (.if_icmp .ge 41, 3) := by decide +kernel
theorem dX3_layBefore_52 : decode cX3_layBefore 52 = .ok (.iload 5, 2) := by decide +kernel
theorem dX3_layBefore_54 : decode cX3_layBefore 54 = .ok (.aload_n 3, 1) := by decide +kernel
theorem dX3_layBefore_55 : decode cX3_layBefore 55 = .ok (.getfield 68, 3) := by decide +kernel
theorem dX3_layBefore_58 : decode cX3_layBefore 58 = .ok (.iload 6, 2) := by decide +kernel
theorem dX3_layBefore_60 : decode cX3_layBefore 60 = .ok (.iaload, 1) := by decide +kernel
theorem dX3_layBefore_61 : decode cX3_layBefore 61 = .ok (.invokestatic 70, 3) := by decide +kernel
theorem dX3_layBefore_64 : decode cX3_layBefore 64 = .ok (.ishr, 1) := by decide +kernel
theorem dX3_layBefore_65 : decode cX3_layBefore 65 = .ok (.iconst 1, 1) := by decide +kernel
theorem dX3_layBefore_66 : decode cX3_layBefore 66 = .ok (.iand, 1) := by decide +kernel
theorem dX3_layBefore_67 : decode cX3_layBefore 67 = .ok (.ifCond .eq 17, 3) := by decide +kernel
theorem dX3_layBefore_70 : decode cX3_layBefore 70 = .ok (.aload_n 0, 1) := by decide +kernel
theorem dX3_layBefore_71 : decode cX3_layBefore 71 = .ok (.getfield 9, 3) := by decide +kernel
theorem dX3_layBefore_74 : decode cX3_layBefore 74 = .ok (.iload 4, 2) := by decide +kernel
theorem dX3_layBefore_76 : decode cX3_layBefore 76 = .ok (.dup2, 1) := by decide +kernel
theorem dX3_layBefore_77 : decode cX3_layBefore 77 = .ok (.iaload, 1) := by decide +kernel
theorem dX3_layBefore_78 : decode cX3_layBefore 78 = .ok (.iconst 1, 1) := by decide +kernel
theorem dX3_layBefore_79 : decode cX3_layBefore 79 = .ok (.iload 6, 2) := by decide +kernel
theorem dX3_layBefore_81 : decode cX3_layBefore 81 = .ok (.ishl, 1) := by decide +kernel
theorem dX3_layBefore_82 : decode cX3_layBefore 82 = .ok (.ior, 1) := by decide +kernel
theorem dX3_layBefore_83 : decode cX3_layBefore 83 = .ok (.iastore, 1) := by decide +kernel
theorem dX3_layBefore_84 : decode cX3_layBefore 84 = .ok (.iinc 6 1, 3) := by decide +kernel
theorem dX3_layBefore_87 : decode cX3_layBefore 87 = .ok (.goto (-42), 3) := by decide +kernel
theorem dX3_layBefore_90 : decode cX3_layBefore 90 = .ok (.iinc 4 1, 3) := by decide +kernel
theorem dX3_layBefore_93 : decode cX3_layBefore 93 = .ok (.goto (-85), 3) := by decide +kernel
theorem dX3_layBefore_96 : decode cX3_layBefore 96 = .ok (.iconst 0, 1) := by decide +kernel
theorem dX3_layBefore_97 : decode cX3_layBefore 97 = .ok (.istore 4, 2) := by decide +kernel
theorem dX3_layBefore_99 : decode cX3_layBefore 99 = .ok (.iload 4, 2) := by decide +kernel
theorem dX3_layBefore_101 : decode cX3_layBefore 101 = .ok (.aload_n 2, 1) := by decide +kernel
theorem dX3_layBefore_102 : decode cX3_layBefore 102 = .ok (.getfield 74, 3) := by decide +kernel
theorem dX3_layBefore_105 : decode cX3_layBefore 105 = .ok (.if_icmp .ge 51, 3) := by decide +kernel
theorem dX3_layBefore_108 : decode cX3_layBefore 108 = .ok (.aload_n 2, 1) := by decide +kernel
theorem dX3_layBefore_109 : decode cX3_layBefore 109 = .ok (.getfield 77, 3) := by decide +kernel
theorem dX3_layBefore_112 : decode cX3_layBefore 112 = .ok (.iload 4, 2) := by decide +kernel
theorem dX3_layBefore_114 : decode cX3_layBefore 114 = .ok (.iaload, 1) := by decide +kernel
theorem dX3_layBefore_115 : decode cX3_layBefore 115 = .ok (.istore 5, 2) := by decide +kernel
theorem dX3_layBefore_117 : decode cX3_layBefore 117 = .ok (.iload 5, 2) := by decide +kernel
theorem dX3_layBefore_119 : decode cX3_layBefore 119 = .ok (.ifCond .lt 31, 3) := by decide +kernel
theorem dX3_layBefore_122 : decode cX3_layBefore 122 = .ok (.iload 5, 2) := by decide +kernel
theorem dX3_layBefore_124 : decode cX3_layBefore 124 = .ok (.aload_n 0, 1) := by decide +kernel
theorem dX3_layBefore_125 : decode cX3_layBefore 125 = .ok (.getfield 49, 3) := by decide +kernel
theorem dX3_layBefore_128 : decode cX3_layBefore 128 = .ok (.if_icmp .ge 22, 3) := by decide +kernel
theorem dX3_layBefore_131 : decode cX3_layBefore 131 = .ok (.aload_n 0, 1) := by decide +kernel
theorem dX3_layBefore_132 : decode cX3_layBefore 132 = .ok (.getfield 9, 3) := by decide +kernel
theorem dX3_layBefore_135 : decode cX3_layBefore 135 = .ok (.iload 5, 2) := by decide +kernel
theorem dX3_layBefore_137 : decode cX3_layBefore 137 = .ok (.dup2, 1) := by decide +kernel
theorem dX3_layBefore_138 : decode cX3_layBefore 138 = .ok (.iaload, 1) := by decide +kernel
theorem dX3_layBefore_139 : decode cX3_layBefore 139 = .ok (.iconst 1, 1) := by decide +kernel
theorem dX3_layBefore_140 : decode cX3_layBefore 140 = .ok (.aload_n 2, 1) := by decide +kernel
theorem dX3_layBefore_141 : decode cX3_layBefore 141 = .ok (.getfield 80, 3) := by decide +kernel
theorem dX3_layBefore_144 : decode cX3_layBefore 144 = .ok (.iload 4, 2) := by decide +kernel
theorem dX3_layBefore_146 : decode cX3_layBefore 146 = .ok (.iaload, 1) := by decide +kernel
theorem dX3_layBefore_147 : decode cX3_layBefore 147 = .ok (.ishl, 1) := by decide +kernel
theorem dX3_layBefore_148 : decode cX3_layBefore 148 = .ok (.ior, 1) := by decide +kernel
theorem dX3_layBefore_149 : decode cX3_layBefore 149 = .ok (.iastore, 1) := by decide +kernel
theorem dX3_layBefore_150 : decode cX3_layBefore 150 = .ok (.iinc 4 1, 3) := by decide +kernel
theorem dX3_layBefore_153 : decode cX3_layBefore 153 = .ok (.goto (-54), 3) := by decide +kernel
theorem dX3_layBefore_156 : decode cX3_layBefore 156 = .ok (.return_, 1) := by decide +kernel
def wX3_layBefore (cy : Nat → ClassId) (tA : Nat) (t_placesV : Value) (t_tiedV : Value) (t_stepsV : Value) (t_doneV : Value) (t_waysToV : Value) (t_waysFromV : Value) (t_firstsV : Value) (t_ties : Int32) (t_stages : Int32) (t_beforeA : Nat) (t_beforeN : Nat) (t_before : Nat → Int32) (p1A : Nat) (p1_namesV : Value) (p1_kindsV : Value) (p1_kinV : Value) (p1_roundsV : Value) (p1_folks : Int32) (p1_pairs : Int32) (p1_line : Int32) (p1_rope : Int32) (p1_lineTold : Int32) (p1_ropeTold : Int32) (p1_lawV : Value) (p1_takenV : Value) (p1_stopsA : Nat) (p1_stopsN : Nat) (p1_stops : Nat → Int32) (p2A : Nat) (p2_yearV : Value) (p2_otherV : Value) (p2_aheads : Int32) (p2_laid : Int32) (p2_lineA : Nat) (p2_line_size : Int32) (p2_line_tiesA : Nat) (p2_line_tiesN : Nat) (p2_line_ties : Nat → Int32) (p2_earlierA : Nat) (p2_earlierN : Nat) (p2_earlier : Nat → Int32) (p2_laterA : Nat) (p2_laterN : Nat) (p2_later : Nat → Int32) : va_W :=
  [(tA, .inr (3, [.ref t_beforeA, t_placesV, t_tiedV, t_stepsV, t_doneV, t_waysToV, t_waysFromV, t_firstsV, .int t_ties, .int t_stages])), (t_beforeA, .inl (cy 1, t_beforeN, .inl t_before)), (p1A, .inr (2, [p1_namesV, p1_kindsV, p1_kinV, .ref p1_stopsA, p1_roundsV, .int p1_folks, .int p1_pairs, .int p1_line, .int p1_rope, .int p1_lineTold, .int p1_ropeTold, p1_lawV, p1_takenV])), (p1_stopsA, .inl (cy 1, p1_stopsN, .inl p1_stops)), (p2A, .inr (8, [.ref p2_lineA, p2_yearV, p2_otherV, .ref p2_earlierA, .ref p2_laterA, .int p2_aheads, .int p2_laid])), (p2_lineA, .inr (7, [.ref p2_line_tiesA, .int p2_line_size])), (p2_line_tiesA, .inl (cy 1, p2_line_tiesN, .inl p2_line_ties)), (p2_earlierA, .inl (cy 1, p2_earlierN, .inl p2_earlier)), (p2_laterA, .inl (cy 1, p2_laterN, .inl p2_later))]
noncomputable def bX3_layBefore_L150 (F : Nat) (t_ties : Int32) (t_beforeN : Nat) (p1_stopsN : Nat) (p1_stops : Nat → Int32) (p2_aheads : Int32) (p2_line_tiesN : Nat) (p2_line_ties : Nat → Int32) (p2_earlierN : Nat) (p2_earlier : Nat → Int32) (p2_laterN : Nat) (p2_later : Nat → Int32) (k99 : Int32 → (Nat → Int32) → Option ((Nat → Int32))) (x4 : Int32) (t_before : Nat → Int32) : Option ((Nat → Int32)) :=
  k99 (x4 + (1 : Int32)) t_before
theorem vX3_layBefore_L150 {l : Launch} {D : va_G} {cy : Nat → ClassId} {av : List Value} {ws0 : va_W} {Q : Option Value → va_W → Prop} (F : Nat) (tA : Nat) (t_placesV : Value) (t_tiedV : Value) (t_stepsV : Value) (t_doneV : Value) (t_waysToV : Value) (t_waysFromV : Value) (t_firstsV : Value) (t_ties : Int32) (t_stages : Int32) (t_beforeA : Nat) (t_beforeN : Nat) (p1A : Nat) (p1_namesV : Value) (p1_kindsV : Value) (p1_kinV : Value) (p1_roundsV : Value) (p1_folks : Int32) (p1_pairs : Int32) (p1_line : Int32) (p1_rope : Int32) (p1_lineTold : Int32) (p1_ropeTold : Int32) (p1_lawV : Value) (p1_takenV : Value) (p1_stopsA : Nat) (p1_stopsN : Nat) (p1_stops : Nat → Int32) (p2A : Nat) (p2_yearV : Value) (p2_otherV : Value) (p2_aheads : Int32) (p2_laid : Int32) (p2_lineA : Nat) (p2_line_size : Int32) (p2_line_tiesA : Nat) (p2_line_tiesN : Nat) (p2_line_ties : Nat → Int32) (p2_earlierA : Nat) (p2_earlierN : Nat) (p2_earlier : Nat → Int32) (p2_laterA : Nat) (p2_laterN : Nat) (p2_later : Nat → Int32) (k99 : Int32 → (Nat → Int32) → Option ((Nat → Int32))) (hk99 : ∀ (x4 : Int32) (t_before : Nat → Int32) (R : (Nat → Int32)), k99 x4 t_before = some R → Q none (wX3_layBefore cy tA t_placesV t_tiedV t_stepsV t_doneV t_waysToV t_waysFromV t_firstsV t_ties t_stages t_beforeA t_beforeN R p1A p1_namesV p1_kindsV p1_kinV p1_roundsV p1_folks p1_pairs p1_line p1_rope p1_lineTold p1_ropeTold p1_lawV p1_takenV p1_stopsA p1_stopsN p1_stops p2A p2_yearV p2_otherV p2_aheads p2_laid p2_lineA p2_line_size p2_line_tiesA p2_line_tiesN p2_line_ties p2_earlierA p2_earlierN p2_earlier p2_laterA p2_laterN p2_later) → V l D cy MX3_layBefore 1 0 0 av ws0 Q 99 [(0, .ref tA), (2, .ref p2A), (4, .int x4)] [] (wX3_layBefore cy tA t_placesV t_tiedV t_stepsV t_doneV t_waysToV t_waysFromV t_firstsV t_ties t_stages t_beforeA t_beforeN t_before p1A p1_namesV p1_kindsV p1_kinV p1_roundsV p1_folks p1_pairs p1_line p1_rope p1_lineTold p1_ropeTold p1_lawV p1_takenV p1_stopsA p1_stopsN p1_stops p2A p2_yearV p2_otherV p2_aheads p2_laid p2_lineA p2_line_size p2_line_tiesA p2_line_tiesN p2_line_ties p2_earlierA p2_earlierN p2_earlier p2_laterA p2_laterN p2_later) 0 0) (x4 : Int32) (t_before : Nat → Int32) (R : (Nat → Int32)) (h : bX3_layBefore_L150 F t_ties t_beforeN p1_stopsN p1_stops p2_aheads p2_line_tiesN p2_line_ties p2_earlierN p2_earlier p2_laterN p2_later k99 x4 t_before = some R) (hQ : Q none (wX3_layBefore cy tA t_placesV t_tiedV t_stepsV t_doneV t_waysToV t_waysFromV t_firstsV t_ties t_stages t_beforeA t_beforeN R p1A p1_namesV p1_kindsV p1_kinV p1_roundsV p1_folks p1_pairs p1_line p1_rope p1_lineTold p1_ropeTold p1_lawV p1_takenV p1_stopsA p1_stopsN p1_stops p2A p2_yearV p2_otherV p2_aheads p2_laid p2_lineA p2_line_size p2_line_tiesA p2_line_tiesN p2_line_ties p2_earlierA p2_earlierN p2_earlier p2_laterA p2_laterN p2_later)) : V l D cy MX3_layBefore 1 0 0 av ws0 Q 150 [(0, .ref tA), (2, .ref p2A), (4, .int x4)] [] (wX3_layBefore cy tA t_placesV t_tiedV t_stepsV t_doneV t_waysToV t_waysFromV t_firstsV t_ties t_stages t_beforeA t_beforeN t_before p1A p1_namesV p1_kindsV p1_kinV p1_roundsV p1_folks p1_pairs p1_line p1_rope p1_lineTold p1_ropeTold p1_lawV p1_takenV p1_stopsA p1_stopsN p1_stops p2A p2_yearV p2_otherV p2_aheads p2_laid p2_lineA p2_line_size p2_line_tiesA p2_line_tiesN p2_line_ties p2_earlierA p2_earlierN p2_earlier p2_laterA p2_laterN p2_later) 0 0 := by
  unfold bX3_layBefore_L150 at h
  refine V.iinc (v := x4 + (1 : Int32)) (lv' := [(4, .int (x4 + (1 : Int32))), (0, .ref tA), (2, .ref p2A)]) dX3_layBefore_150 2 rfl rfl (by decide) rfl ?_
  refine V.goto (tgt := 99) dX3_layBefore_153 (by decide) ?_
  refine V.lvs [1, 2, 0] rfl ?_
  exact hk99 _ _ R h hQ
noncomputable def bX3_layBefore_L99 (F : Nat) (t_ties : Int32) (t_beforeN : Nat) (p1_stopsN : Nat) (p1_stops : Nat → Int32) (p2_aheads : Int32) (p2_line_tiesN : Nat) (p2_line_ties : Nat → Int32) (p2_earlierN : Nat) (p2_earlier : Nat → Int32) (p2_laterN : Nat) (p2_later : Nat → Int32) (k99 : Int32 → (Nat → Int32) → Option ((Nat → Int32))) (x4 : Int32) (t_before : Nat → Int32) : Option ((Nat → Int32)) :=
  if p2_aheads ≤ x4 then (some t_before) else (if x4 < 0 ∨ p2_laterN ≤ x4.toNatClampNeg then none else (if (p2_later (x4).toNatClampNeg) < 0 then (bX3_layBefore_L150 F t_ties t_beforeN p1_stopsN p1_stops p2_aheads p2_line_tiesN p2_line_ties p2_earlierN p2_earlier p2_laterN p2_later k99 x4 t_before) else (if t_ties ≤ (p2_later (x4).toNatClampNeg) then (bX3_layBefore_L150 F t_ties t_beforeN p1_stopsN p1_stops p2_aheads p2_line_tiesN p2_line_ties p2_earlierN p2_earlier p2_laterN p2_later k99 x4 t_before) else (if (p2_later (x4).toNatClampNeg) < 0 ∨ t_beforeN ≤ (p2_later (x4).toNatClampNeg).toNatClampNeg then none else (if x4 < 0 ∨ p2_earlierN ≤ x4.toNatClampNeg then none else (if (p2_later (x4).toNatClampNeg) < 0 ∨ t_beforeN ≤ (p2_later (x4).toNatClampNeg).toNatClampNeg then none else (bX3_layBefore_L150 F t_ties t_beforeN p1_stopsN p1_stops p2_aheads p2_line_tiesN p2_line_ties p2_earlierN p2_earlier p2_laterN p2_later k99 x4 (upd t_before (p2_later (x4).toNatClampNeg).toNatClampNeg ((t_before (p2_later (x4).toNatClampNeg).toNatClampNeg) ||| ((1 : Int32) <<< ((p2_earlier (x4).toNatClampNeg) &&& 31)))))))))))
theorem vbX3_layBefore_L99 {l : Launch} {D : va_G} {cy : Nat → ClassId} {av : List Value} {ws0 : va_W} {Q : Option Value → va_W → Prop} (F : Nat) (tA : Nat) (t_placesV : Value) (t_tiedV : Value) (t_stepsV : Value) (t_doneV : Value) (t_waysToV : Value) (t_waysFromV : Value) (t_firstsV : Value) (t_ties : Int32) (t_stages : Int32) (t_beforeA : Nat) (t_beforeN : Nat) (p1A : Nat) (p1_namesV : Value) (p1_kindsV : Value) (p1_kinV : Value) (p1_roundsV : Value) (p1_folks : Int32) (p1_pairs : Int32) (p1_line : Int32) (p1_rope : Int32) (p1_lineTold : Int32) (p1_ropeTold : Int32) (p1_lawV : Value) (p1_takenV : Value) (p1_stopsA : Nat) (p1_stopsN : Nat) (p1_stops : Nat → Int32) (p2A : Nat) (p2_yearV : Value) (p2_otherV : Value) (p2_aheads : Int32) (p2_laid : Int32) (p2_lineA : Nat) (p2_line_size : Int32) (p2_line_tiesA : Nat) (p2_line_tiesN : Nat) (p2_line_ties : Nat → Int32) (p2_earlierA : Nat) (p2_earlierN : Nat) (p2_earlier : Nat → Int32) (p2_laterA : Nat) (p2_laterN : Nat) (p2_later : Nat → Int32) (k99 : Int32 → (Nat → Int32) → Option ((Nat → Int32))) (hk99 : ∀ (x4 : Int32) (t_before : Nat → Int32) (R : (Nat → Int32)), k99 x4 t_before = some R → Q none (wX3_layBefore cy tA t_placesV t_tiedV t_stepsV t_doneV t_waysToV t_waysFromV t_firstsV t_ties t_stages t_beforeA t_beforeN R p1A p1_namesV p1_kindsV p1_kinV p1_roundsV p1_folks p1_pairs p1_line p1_rope p1_lineTold p1_ropeTold p1_lawV p1_takenV p1_stopsA p1_stopsN p1_stops p2A p2_yearV p2_otherV p2_aheads p2_laid p2_lineA p2_line_size p2_line_tiesA p2_line_tiesN p2_line_ties p2_earlierA p2_earlierN p2_earlier p2_laterA p2_laterN p2_later) → V l D cy MX3_layBefore 1 0 0 av ws0 Q 99 [(0, .ref tA), (2, .ref p2A), (4, .int x4)] [] (wX3_layBefore cy tA t_placesV t_tiedV t_stepsV t_doneV t_waysToV t_waysFromV t_firstsV t_ties t_stages t_beforeA t_beforeN t_before p1A p1_namesV p1_kindsV p1_kinV p1_roundsV p1_folks p1_pairs p1_line p1_rope p1_lineTold p1_ropeTold p1_lawV p1_takenV p1_stopsA p1_stopsN p1_stops p2A p2_yearV p2_otherV p2_aheads p2_laid p2_lineA p2_line_size p2_line_tiesA p2_line_tiesN p2_line_ties p2_earlierA p2_earlierN p2_earlier p2_laterA p2_laterN p2_later) 0 0) (x4 : Int32) (t_before : Nat → Int32) (R : (Nat → Int32)) (h : bX3_layBefore_L99 F t_ties t_beforeN p1_stopsN p1_stops p2_aheads p2_line_tiesN p2_line_ties p2_earlierN p2_earlier p2_laterN p2_later k99 x4 t_before = some R) (hQ : Q none (wX3_layBefore cy tA t_placesV t_tiedV t_stepsV t_doneV t_waysToV t_waysFromV t_firstsV t_ties t_stages t_beforeA t_beforeN R p1A p1_namesV p1_kindsV p1_kinV p1_roundsV p1_folks p1_pairs p1_line p1_rope p1_lineTold p1_ropeTold p1_lawV p1_takenV p1_stopsA p1_stopsN p1_stops p2A p2_yearV p2_otherV p2_aheads p2_laid p2_lineA p2_line_size p2_line_tiesA p2_line_tiesN p2_line_ties p2_earlierA p2_earlierN p2_earlier p2_laterA p2_laterN p2_later)) : V l D cy MX3_layBefore 1 0 0 av ws0 Q 99 [(0, .ref tA), (2, .ref p2A), (4, .int x4)] [] (wX3_layBefore cy tA t_placesV t_tiedV t_stepsV t_doneV t_waysToV t_waysFromV t_firstsV t_ties t_stages t_beforeA t_beforeN t_before p1A p1_namesV p1_kindsV p1_kinV p1_roundsV p1_folks p1_pairs p1_line p1_rope p1_lineTold p1_ropeTold p1_lawV p1_takenV p1_stopsA p1_stopsN p1_stops p2A p2_yearV p2_otherV p2_aheads p2_laid p2_lineA p2_line_size p2_line_tiesA p2_line_tiesN p2_line_ties p2_earlierA p2_earlierN p2_earlier p2_laterA p2_laterN p2_later) 0 0 := by
  unfold bX3_layBefore_L99 at h
  refine V.iload dX3_layBefore_99 2 rfl ?_
  refine V.aload_n dX3_layBefore_101 rfl 1 rfl ?_
  refine V.get kfX8 4 rfl rfl 5 (by decide) klX3_74 rfl dX3_layBefore_102 ?_
  refine V.icmp_ge (tgt := 156) dX3_layBefore_105 (by decide) (fun hc105 => ?_) (fun hc105 => ?_)
  · replace h := (if_pos hc105).symm.trans h
    have e9 := Option.some.inj h; subst e9
    exact V.vret rfl dX3_layBefore_156 (Nat.le_refl _) (Nat.le_refl _) hQ
  · replace h := (if_neg hc105).symm.trans h
    refine V.aload_n dX3_layBefore_108 rfl 1 rfl ?_
    refine V.get kfX8 4 rfl rfl 4 (by decide) klX3_77 rfl dX3_layBefore_109 ?_
    refine V.iload dX3_layBefore_112 2 rfl ?_
    by_cases hb114 : x4 < 0 ∨ p2_laterN ≤ x4.toNatClampNeg
    · exact vNone ((if_pos hb114).symm.trans h)
    replace h := (if_neg hb114).symm.trans h
    refine V.iald dX3_layBefore_114 8 rfl hb114 ?_
    refine V.istore (lv' := [(5, .int (p2_later (x4).toNatClampNeg)), (0, .ref tA), (2, .ref p2A), (4, .int x4)]) dX3_layBefore_115 (by decide) rfl ?_
    refine V.iload dX3_layBefore_117 0 rfl ?_
    refine V.if_lt (tgt := 150) dX3_layBefore_119 (by decide) (fun hc119 => ?_) (fun hc119 => ?_)
    · replace h := (if_pos hc119).symm.trans h
      refine V.lvs [1, 2, 3] rfl ?_
      exact vX3_layBefore_L150 _ _ _ _ _ _ _ _ _ _ _ _ _ _ _ _ _ _ _ _ _ _ _ _ _ _ _ _ _ _ _ _ _ _ _ _ _ _ _ _ _ _ _ _ _ _ hk99  _ _ R h hQ
    · replace h := (if_neg hc119).symm.trans h
      refine V.iload dX3_layBefore_122 0 rfl ?_
      refine V.aload_n dX3_layBefore_124 rfl 1 rfl ?_
      refine V.get kfX3 0 rfl rfl 8 (by decide) klX3_49 rfl dX3_layBefore_125 ?_
      refine V.icmp_ge (tgt := 150) dX3_layBefore_128 (by decide) (fun hc128 => ?_) (fun hc128 => ?_)
      · replace h := (if_pos hc128).symm.trans h
        refine V.lvs [1, 2, 3] rfl ?_
        exact vX3_layBefore_L150 _ _ _ _ _ _ _ _ _ _ _ _ _ _ _ _ _ _ _ _ _ _ _ _ _ _ _ _ _ _ _ _ _ _ _ _ _ _ _ _ _ _ _ _ _ _ hk99  _ _ R h hQ
      · replace h := (if_neg hc128).symm.trans h
        refine V.aload_n dX3_layBefore_131 rfl 1 rfl ?_
        refine V.get kfX3 0 rfl rfl 0 (by decide) klX3_9 rfl dX3_layBefore_132 ?_
        refine V.iload dX3_layBefore_135 0 rfl ?_
        refine V.dup2 dX3_layBefore_137 rfl rfl ?_
        by_cases hb138 : (p2_later (x4).toNatClampNeg) < 0 ∨ t_beforeN ≤ (p2_later (x4).toNatClampNeg).toNatClampNeg
        · exact vNone ((if_pos hb138).symm.trans h)
        replace h := (if_neg hb138).symm.trans h
        refine V.iald dX3_layBefore_138 1 rfl hb138 ?_
        refine V.iconst (v := (1 : Int32)) dX3_layBefore_139 (by decide) ?_
        refine V.aload_n dX3_layBefore_140 rfl 2 rfl ?_
        refine V.get kfX8 4 rfl rfl 3 (by decide) klX3_80 rfl dX3_layBefore_141 ?_
        refine V.iload dX3_layBefore_144 3 rfl ?_
        by_cases hb146 : x4 < 0 ∨ p2_earlierN ≤ x4.toNatClampNeg
        · exact vNone ((if_pos hb146).symm.trans h)
        replace h := (if_neg hb146).symm.trans h
        refine V.iald dX3_layBefore_146 7 rfl hb146 ?_
        refine V.ishl dX3_layBefore_147 ?_
        refine V.ior dX3_layBefore_148 ?_
        by_cases hb149 : (p2_later (x4).toNatClampNeg) < 0 ∨ t_beforeN ≤ (p2_later (x4).toNatClampNeg).toNatClampNeg
        · exact vNone ((if_pos hb149).symm.trans h)
        replace h := (if_neg hb149).symm.trans h
        refine V.iast (ws' := (wX3_layBefore cy tA t_placesV t_tiedV t_stepsV t_doneV t_waysToV t_waysFromV t_firstsV t_ties t_stages t_beforeA t_beforeN (upd t_before (p2_later (x4).toNatClampNeg).toNatClampNeg ((t_before (p2_later (x4).toNatClampNeg).toNatClampNeg) ||| ((1 : Int32) <<< ((p2_earlier (x4).toNatClampNeg) &&& 31)))) p1A p1_namesV p1_kindsV p1_kinV p1_roundsV p1_folks p1_pairs p1_line p1_rope p1_lineTold p1_ropeTold p1_lawV p1_takenV p1_stopsA p1_stopsN p1_stops p2A p2_yearV p2_otherV p2_aheads p2_laid p2_lineA p2_line_size p2_line_tiesA p2_line_tiesN p2_line_ties p2_earlierA p2_earlierN p2_earlier p2_laterA p2_laterN p2_later)) dX3_layBefore_149 1 rfl hb149 rfl ?_
        refine V.lvs [1, 2, 3] rfl ?_
        exact vX3_layBefore_L150 _ _ _ _ _ _ _ _ _ _ _ _ _ _ _ _ _ _ _ _ _ _ _ _ _ _ _ _ _ _ _ _ _ _ _ _ _ _ _ _ _ _ _ _ _ _ hk99  _ _ R h hQ
noncomputable def fX3_layBefore_L99 (F : Nat) (t_ties : Int32) (t_beforeN : Nat) (p1_stopsN : Nat) (p1_stops : Nat → Int32) (p2_aheads : Int32) (p2_line_tiesN : Nat) (p2_line_ties : Nat → Int32) (p2_earlierN : Nat) (p2_earlier : Nat → Int32) (p2_laterN : Nat) (p2_later : Nat → Int32)  : Nat → Int32 → (Nat → Int32) → Option ((Nat → Int32))
  | 0 => fun _ _ => none
  | n + 1 => bX3_layBefore_L99 F t_ties t_beforeN p1_stopsN p1_stops p2_aheads p2_line_tiesN p2_line_ties p2_earlierN p2_earlier p2_laterN p2_later (fX3_layBefore_L99 F t_ties t_beforeN p1_stopsN p1_stops p2_aheads p2_line_tiesN p2_line_ties p2_earlierN p2_earlier p2_laterN p2_later  n)
theorem vX3_layBefore_L99 {l : Launch} {D : va_G} {cy : Nat → ClassId} {av : List Value} {ws0 : va_W} {Q : Option Value → va_W → Prop} (F : Nat) (tA : Nat) (t_placesV : Value) (t_tiedV : Value) (t_stepsV : Value) (t_doneV : Value) (t_waysToV : Value) (t_waysFromV : Value) (t_firstsV : Value) (t_ties : Int32) (t_stages : Int32) (t_beforeA : Nat) (t_beforeN : Nat) (p1A : Nat) (p1_namesV : Value) (p1_kindsV : Value) (p1_kinV : Value) (p1_roundsV : Value) (p1_folks : Int32) (p1_pairs : Int32) (p1_line : Int32) (p1_rope : Int32) (p1_lineTold : Int32) (p1_ropeTold : Int32) (p1_lawV : Value) (p1_takenV : Value) (p1_stopsA : Nat) (p1_stopsN : Nat) (p1_stops : Nat → Int32) (p2A : Nat) (p2_yearV : Value) (p2_otherV : Value) (p2_aheads : Int32) (p2_laid : Int32) (p2_lineA : Nat) (p2_line_size : Int32) (p2_line_tiesA : Nat) (p2_line_tiesN : Nat) (p2_line_ties : Nat → Int32) (p2_earlierA : Nat) (p2_earlierN : Nat) (p2_earlier : Nat → Int32) (p2_laterA : Nat) (p2_laterN : Nat) (p2_later : Nat → Int32)  : ∀ (n : Nat) (x4 : Int32) (t_before : Nat → Int32) (R : (Nat → Int32)), fX3_layBefore_L99 F t_ties t_beforeN p1_stopsN p1_stops p2_aheads p2_line_tiesN p2_line_ties p2_earlierN p2_earlier p2_laterN p2_later  n x4 t_before = some R → Q none (wX3_layBefore cy tA t_placesV t_tiedV t_stepsV t_doneV t_waysToV t_waysFromV t_firstsV t_ties t_stages t_beforeA t_beforeN R p1A p1_namesV p1_kindsV p1_kinV p1_roundsV p1_folks p1_pairs p1_line p1_rope p1_lineTold p1_ropeTold p1_lawV p1_takenV p1_stopsA p1_stopsN p1_stops p2A p2_yearV p2_otherV p2_aheads p2_laid p2_lineA p2_line_size p2_line_tiesA p2_line_tiesN p2_line_ties p2_earlierA p2_earlierN p2_earlier p2_laterA p2_laterN p2_later) → V l D cy MX3_layBefore 1 0 0 av ws0 Q 99 [(0, .ref tA), (2, .ref p2A), (4, .int x4)] [] (wX3_layBefore cy tA t_placesV t_tiedV t_stepsV t_doneV t_waysToV t_waysFromV t_firstsV t_ties t_stages t_beforeA t_beforeN t_before p1A p1_namesV p1_kindsV p1_kinV p1_roundsV p1_folks p1_pairs p1_line p1_rope p1_lineTold p1_ropeTold p1_lawV p1_takenV p1_stopsA p1_stopsN p1_stops p2A p2_yearV p2_otherV p2_aheads p2_laid p2_lineA p2_line_size p2_line_tiesA p2_line_tiesN p2_line_ties p2_earlierA p2_earlierN p2_earlier p2_laterA p2_laterN p2_later) 0 0 := by
  intro n
  induction n with
  | zero => intro x4 t_before R h; exact vNone h
  | succ n ih => intro x4 t_before R h hQ; exact vbX3_layBefore_L99 F tA t_placesV t_tiedV t_stepsV t_doneV t_waysToV t_waysFromV t_firstsV t_ties t_stages t_beforeA t_beforeN p1A p1_namesV p1_kindsV p1_kinV p1_roundsV p1_folks p1_pairs p1_line p1_rope p1_lineTold p1_ropeTold p1_lawV p1_takenV p1_stopsA p1_stopsN p1_stops p2A p2_yearV p2_otherV p2_aheads p2_laid p2_lineA p2_line_size p2_line_tiesA p2_line_tiesN p2_line_ties p2_earlierA p2_earlierN p2_earlier p2_laterA p2_laterN p2_later _ ih x4 t_before R h hQ
noncomputable def bX3_layBefore_L84 (F : Nat) (t_ties : Int32) (t_beforeN : Nat) (p1_stopsN : Nat) (p1_stops : Nat → Int32) (p2_aheads : Int32) (p2_line_tiesN : Nat) (p2_line_ties : Nat → Int32) (p2_earlierN : Nat) (p2_earlier : Nat → Int32) (p2_laterN : Nat) (p2_later : Nat → Int32) (k45 : Int32 → Int32 → Int32 → (Nat → Int32) → Option ((Nat → Int32))) (x4 : Int32) (x5 : Int32) (x6 : Int32) (t_before : Nat → Int32) : Option ((Nat → Int32)) :=
  k45 x4 x5 (x6 + (1 : Int32)) t_before
theorem vX3_layBefore_L84 {l : Launch} {D : va_G} {cy : Nat → ClassId} {av : List Value} {ws0 : va_W} {Q : Option Value → va_W → Prop} (F : Nat) (tA : Nat) (t_placesV : Value) (t_tiedV : Value) (t_stepsV : Value) (t_doneV : Value) (t_waysToV : Value) (t_waysFromV : Value) (t_firstsV : Value) (t_ties : Int32) (t_stages : Int32) (t_beforeA : Nat) (t_beforeN : Nat) (p1A : Nat) (p1_namesV : Value) (p1_kindsV : Value) (p1_kinV : Value) (p1_roundsV : Value) (p1_folks : Int32) (p1_pairs : Int32) (p1_line : Int32) (p1_rope : Int32) (p1_lineTold : Int32) (p1_ropeTold : Int32) (p1_lawV : Value) (p1_takenV : Value) (p1_stopsA : Nat) (p1_stopsN : Nat) (p1_stops : Nat → Int32) (p2A : Nat) (p2_yearV : Value) (p2_otherV : Value) (p2_aheads : Int32) (p2_laid : Int32) (p2_lineA : Nat) (p2_line_size : Int32) (p2_line_tiesA : Nat) (p2_line_tiesN : Nat) (p2_line_ties : Nat → Int32) (p2_earlierA : Nat) (p2_earlierN : Nat) (p2_earlier : Nat → Int32) (p2_laterA : Nat) (p2_laterN : Nat) (p2_later : Nat → Int32) (k45 : Int32 → Int32 → Int32 → (Nat → Int32) → Option ((Nat → Int32))) (hk45 : ∀ (x4 : Int32) (x5 : Int32) (x6 : Int32) (t_before : Nat → Int32) (R : (Nat → Int32)), k45 x4 x5 x6 t_before = some R → Q none (wX3_layBefore cy tA t_placesV t_tiedV t_stepsV t_doneV t_waysToV t_waysFromV t_firstsV t_ties t_stages t_beforeA t_beforeN R p1A p1_namesV p1_kindsV p1_kinV p1_roundsV p1_folks p1_pairs p1_line p1_rope p1_lineTold p1_ropeTold p1_lawV p1_takenV p1_stopsA p1_stopsN p1_stops p2A p2_yearV p2_otherV p2_aheads p2_laid p2_lineA p2_line_size p2_line_tiesA p2_line_tiesN p2_line_ties p2_earlierA p2_earlierN p2_earlier p2_laterA p2_laterN p2_later) → V l D cy MX3_layBefore 1 0 0 av ws0 Q 45 [(0, .ref tA), (1, .ref p1A), (2, .ref p2A), (3, .ref p2_lineA), (4, .int x4), (5, .int x5), (6, .int x6)] [] (wX3_layBefore cy tA t_placesV t_tiedV t_stepsV t_doneV t_waysToV t_waysFromV t_firstsV t_ties t_stages t_beforeA t_beforeN t_before p1A p1_namesV p1_kindsV p1_kinV p1_roundsV p1_folks p1_pairs p1_line p1_rope p1_lineTold p1_ropeTold p1_lawV p1_takenV p1_stopsA p1_stopsN p1_stops p2A p2_yearV p2_otherV p2_aheads p2_laid p2_lineA p2_line_size p2_line_tiesA p2_line_tiesN p2_line_ties p2_earlierA p2_earlierN p2_earlier p2_laterA p2_laterN p2_later) 0 0) (x4 : Int32) (x5 : Int32) (x6 : Int32) (t_before : Nat → Int32) (R : (Nat → Int32)) (h : bX3_layBefore_L84 F t_ties t_beforeN p1_stopsN p1_stops p2_aheads p2_line_tiesN p2_line_ties p2_earlierN p2_earlier p2_laterN p2_later k45 x4 x5 x6 t_before = some R) (hQ : Q none (wX3_layBefore cy tA t_placesV t_tiedV t_stepsV t_doneV t_waysToV t_waysFromV t_firstsV t_ties t_stages t_beforeA t_beforeN R p1A p1_namesV p1_kindsV p1_kinV p1_roundsV p1_folks p1_pairs p1_line p1_rope p1_lineTold p1_ropeTold p1_lawV p1_takenV p1_stopsA p1_stopsN p1_stops p2A p2_yearV p2_otherV p2_aheads p2_laid p2_lineA p2_line_size p2_line_tiesA p2_line_tiesN p2_line_ties p2_earlierA p2_earlierN p2_earlier p2_laterA p2_laterN p2_later)) : V l D cy MX3_layBefore 1 0 0 av ws0 Q 84 [(0, .ref tA), (1, .ref p1A), (2, .ref p2A), (3, .ref p2_lineA), (4, .int x4), (5, .int x5), (6, .int x6)] [] (wX3_layBefore cy tA t_placesV t_tiedV t_stepsV t_doneV t_waysToV t_waysFromV t_firstsV t_ties t_stages t_beforeA t_beforeN t_before p1A p1_namesV p1_kindsV p1_kinV p1_roundsV p1_folks p1_pairs p1_line p1_rope p1_lineTold p1_ropeTold p1_lawV p1_takenV p1_stopsA p1_stopsN p1_stops p2A p2_yearV p2_otherV p2_aheads p2_laid p2_lineA p2_line_size p2_line_tiesA p2_line_tiesN p2_line_ties p2_earlierA p2_earlierN p2_earlier p2_laterA p2_laterN p2_later) 0 0 := by
  unfold bX3_layBefore_L84 at h
  refine V.iinc (v := x6 + (1 : Int32)) (lv' := [(6, .int (x6 + (1 : Int32))), (0, .ref tA), (1, .ref p1A), (2, .ref p2A), (3, .ref p2_lineA), (4, .int x4), (5, .int x5)]) dX3_layBefore_84 6 rfl rfl (by decide) rfl ?_
  refine V.goto (tgt := 45) dX3_layBefore_87 (by decide) ?_
  refine V.lvs [1, 2, 3, 4, 5, 6, 0] rfl ?_
  exact hk45 _ _ _ _ R h hQ
noncomputable def bX3_layBefore_L45 (F : Nat) (t_ties : Int32) (t_beforeN : Nat) (p1_stopsN : Nat) (p1_stops : Nat → Int32) (p2_aheads : Int32) (p2_line_tiesN : Nat) (p2_line_ties : Nat → Int32) (p2_earlierN : Nat) (p2_earlier : Nat → Int32) (p2_laterN : Nat) (p2_later : Nat → Int32) (k8 : Int32 → (Nat → Int32) → Option ((Nat → Int32))) (k45 : Int32 → Int32 → Int32 → (Nat → Int32) → Option ((Nat → Int32))) (x4 : Int32) (x5 : Int32) (x6 : Int32) (t_before : Nat → Int32) : Option ((Nat → Int32)) :=
  if x4 ≤ x6 then (k8 (x4 + (1 : Int32)) t_before) else (if x6 < 0 ∨ p2_line_tiesN ≤ x6.toNatClampNeg then none else ((fX7_folkOf F (p2_line_ties (x6).toNatClampNeg)).bind fun R61 => (if ((x5 >>> (R61 &&& 31)) &&& (1 : Int32)) = 0 then (bX3_layBefore_L84 F t_ties t_beforeN p1_stopsN p1_stops p2_aheads p2_line_tiesN p2_line_ties p2_earlierN p2_earlier p2_laterN p2_later k45 x4 x5 x6 t_before) else (if x4 < 0 ∨ t_beforeN ≤ x4.toNatClampNeg then none else (if x4 < 0 ∨ t_beforeN ≤ x4.toNatClampNeg then none else (bX3_layBefore_L84 F t_ties t_beforeN p1_stopsN p1_stops p2_aheads p2_line_tiesN p2_line_ties p2_earlierN p2_earlier p2_laterN p2_later k45 x4 x5 x6 (upd t_before x4.toNatClampNeg ((t_before (x4).toNatClampNeg) ||| ((1 : Int32) <<< (x6 &&& 31))))))))))
theorem vbX3_layBefore_L45 {l : Launch} {D : va_G} {cy : Nat → ClassId} {av : List Value} {ws0 : va_W} {Q : Option Value → va_W → Prop} (F : Nat) (tA : Nat) (t_placesV : Value) (t_tiedV : Value) (t_stepsV : Value) (t_doneV : Value) (t_waysToV : Value) (t_waysFromV : Value) (t_firstsV : Value) (t_ties : Int32) (t_stages : Int32) (t_beforeA : Nat) (t_beforeN : Nat) (p1A : Nat) (p1_namesV : Value) (p1_kindsV : Value) (p1_kinV : Value) (p1_roundsV : Value) (p1_folks : Int32) (p1_pairs : Int32) (p1_line : Int32) (p1_rope : Int32) (p1_lineTold : Int32) (p1_ropeTold : Int32) (p1_lawV : Value) (p1_takenV : Value) (p1_stopsA : Nat) (p1_stopsN : Nat) (p1_stops : Nat → Int32) (p2A : Nat) (p2_yearV : Value) (p2_otherV : Value) (p2_aheads : Int32) (p2_laid : Int32) (p2_lineA : Nat) (p2_line_size : Int32) (p2_line_tiesA : Nat) (p2_line_tiesN : Nat) (p2_line_ties : Nat → Int32) (p2_earlierA : Nat) (p2_earlierN : Nat) (p2_earlier : Nat → Int32) (p2_laterA : Nat) (p2_laterN : Nat) (p2_later : Nat → Int32) (k8 : Int32 → (Nat → Int32) → Option ((Nat → Int32))) (hk8 : ∀ (x4 : Int32) (t_before : Nat → Int32) (R : (Nat → Int32)), k8 x4 t_before = some R → Q none (wX3_layBefore cy tA t_placesV t_tiedV t_stepsV t_doneV t_waysToV t_waysFromV t_firstsV t_ties t_stages t_beforeA t_beforeN R p1A p1_namesV p1_kindsV p1_kinV p1_roundsV p1_folks p1_pairs p1_line p1_rope p1_lineTold p1_ropeTold p1_lawV p1_takenV p1_stopsA p1_stopsN p1_stops p2A p2_yearV p2_otherV p2_aheads p2_laid p2_lineA p2_line_size p2_line_tiesA p2_line_tiesN p2_line_ties p2_earlierA p2_earlierN p2_earlier p2_laterA p2_laterN p2_later) → V l D cy MX3_layBefore 1 0 0 av ws0 Q 8 [(0, .ref tA), (1, .ref p1A), (2, .ref p2A), (3, .ref p2_lineA), (4, .int x4)] [] (wX3_layBefore cy tA t_placesV t_tiedV t_stepsV t_doneV t_waysToV t_waysFromV t_firstsV t_ties t_stages t_beforeA t_beforeN t_before p1A p1_namesV p1_kindsV p1_kinV p1_roundsV p1_folks p1_pairs p1_line p1_rope p1_lineTold p1_ropeTold p1_lawV p1_takenV p1_stopsA p1_stopsN p1_stops p2A p2_yearV p2_otherV p2_aheads p2_laid p2_lineA p2_line_size p2_line_tiesA p2_line_tiesN p2_line_ties p2_earlierA p2_earlierN p2_earlier p2_laterA p2_laterN p2_later) 0 0) (k45 : Int32 → Int32 → Int32 → (Nat → Int32) → Option ((Nat → Int32))) (hk45 : ∀ (x4 : Int32) (x5 : Int32) (x6 : Int32) (t_before : Nat → Int32) (R : (Nat → Int32)), k45 x4 x5 x6 t_before = some R → Q none (wX3_layBefore cy tA t_placesV t_tiedV t_stepsV t_doneV t_waysToV t_waysFromV t_firstsV t_ties t_stages t_beforeA t_beforeN R p1A p1_namesV p1_kindsV p1_kinV p1_roundsV p1_folks p1_pairs p1_line p1_rope p1_lineTold p1_ropeTold p1_lawV p1_takenV p1_stopsA p1_stopsN p1_stops p2A p2_yearV p2_otherV p2_aheads p2_laid p2_lineA p2_line_size p2_line_tiesA p2_line_tiesN p2_line_ties p2_earlierA p2_earlierN p2_earlier p2_laterA p2_laterN p2_later) → V l D cy MX3_layBefore 1 0 0 av ws0 Q 45 [(0, .ref tA), (1, .ref p1A), (2, .ref p2A), (3, .ref p2_lineA), (4, .int x4), (5, .int x5), (6, .int x6)] [] (wX3_layBefore cy tA t_placesV t_tiedV t_stepsV t_doneV t_waysToV t_waysFromV t_firstsV t_ties t_stages t_beforeA t_beforeN t_before p1A p1_namesV p1_kindsV p1_kinV p1_roundsV p1_folks p1_pairs p1_line p1_rope p1_lineTold p1_ropeTold p1_lawV p1_takenV p1_stopsA p1_stopsN p1_stops p2A p2_yearV p2_otherV p2_aheads p2_laid p2_lineA p2_line_size p2_line_tiesA p2_line_tiesN p2_line_ties p2_earlierA p2_earlierN p2_earlier p2_laterA p2_laterN p2_later) 0 0) (x4 : Int32) (x5 : Int32) (x6 : Int32) (t_before : Nat → Int32) (R : (Nat → Int32)) (h : bX3_layBefore_L45 F t_ties t_beforeN p1_stopsN p1_stops p2_aheads p2_line_tiesN p2_line_ties p2_earlierN p2_earlier p2_laterN p2_later k8 k45 x4 x5 x6 t_before = some R) (hQ : Q none (wX3_layBefore cy tA t_placesV t_tiedV t_stepsV t_doneV t_waysToV t_waysFromV t_firstsV t_ties t_stages t_beforeA t_beforeN R p1A p1_namesV p1_kindsV p1_kinV p1_roundsV p1_folks p1_pairs p1_line p1_rope p1_lineTold p1_ropeTold p1_lawV p1_takenV p1_stopsA p1_stopsN p1_stops p2A p2_yearV p2_otherV p2_aheads p2_laid p2_lineA p2_line_size p2_line_tiesA p2_line_tiesN p2_line_ties p2_earlierA p2_earlierN p2_earlier p2_laterA p2_laterN p2_later)) : V l D cy MX3_layBefore 1 0 0 av ws0 Q 45 [(0, .ref tA), (1, .ref p1A), (2, .ref p2A), (3, .ref p2_lineA), (4, .int x4), (5, .int x5), (6, .int x6)] [] (wX3_layBefore cy tA t_placesV t_tiedV t_stepsV t_doneV t_waysToV t_waysFromV t_firstsV t_ties t_stages t_beforeA t_beforeN t_before p1A p1_namesV p1_kindsV p1_kinV p1_roundsV p1_folks p1_pairs p1_line p1_rope p1_lineTold p1_ropeTold p1_lawV p1_takenV p1_stopsA p1_stopsN p1_stops p2A p2_yearV p2_otherV p2_aheads p2_laid p2_lineA p2_line_size p2_line_tiesA p2_line_tiesN p2_line_ties p2_earlierA p2_earlierN p2_earlier p2_laterA p2_laterN p2_later) 0 0 := by
  unfold bX3_layBefore_L45 at h
  refine V.iload dX3_layBefore_45 6 rfl ?_
  refine V.iload dX3_layBefore_47 4 rfl ?_
  refine V.icmp_ge (tgt := 90) dX3_layBefore_49 (by decide) (fun hc49 => ?_) (fun hc49 => ?_)
  · replace h := (if_pos hc49).symm.trans h
    refine V.iinc (v := x4 + (1 : Int32)) (lv' := [(4, .int (x4 + (1 : Int32))), (0, .ref tA), (1, .ref p1A), (2, .ref p2A), (3, .ref p2_lineA), (5, .int x5), (6, .int x6)]) dX3_layBefore_90 4 rfl rfl (by decide) rfl ?_
    refine V.goto (tgt := 8) dX3_layBefore_93 (by decide) ?_
    refine V.lvs [1, 2, 3, 4, 0] rfl ?_
    exact hk8 _ _ R h hQ
  · replace h := (if_neg hc49).symm.trans h
    refine V.iload dX3_layBefore_52 5 rfl ?_
    refine V.aload_n dX3_layBefore_54 rfl 3 rfl ?_
    refine V.get kfX7 5 rfl rfl 0 (by decide) klX3_68 rfl dX3_layBefore_55 ?_
    refine V.iload dX3_layBefore_58 6 rfl ?_
    by_cases hb60 : x6 < 0 ∨ p2_line_tiesN ≤ x6.toNatClampNeg
    · exact vNone ((if_pos hb60).symm.trans h)
    replace h := (if_neg hb60).symm.trans h
    refine V.iald dX3_layBefore_60 6 rfl hb60 ?_
    obtain ⟨R61, hg61, h⟩ := Option.bind_eq_some_iff.mp h
    refine V.callS (As := [.int (p2_line_ties (x6).toNatClampNeg)]) (rest := [.int x5]) (wc := (wX7_folkOf cy )) (wr := [(tA, .inr (3, [.ref t_beforeA, t_placesV, t_tiedV, t_stepsV, t_doneV, t_waysToV, t_waysFromV, t_firstsV, .int t_ties, .int t_stages])), (t_beforeA, .inl (cy 1, t_beforeN, .inl t_before)), (p1A, .inr (2, [p1_namesV, p1_kindsV, p1_kinV, .ref p1_stopsA, p1_roundsV, .int p1_folks, .int p1_pairs, .int p1_line, .int p1_rope, .int p1_lineTold, .int p1_ropeTold, p1_lawV, p1_takenV])), (p1_stopsA, .inl (cy 1, p1_stopsN, .inl p1_stops)), (p2A, .inr (8, [.ref p2_lineA, p2_yearV, p2_otherV, .ref p2_earlierA, .ref p2_laterA, .int p2_aheads, .int p2_laid])), (p2_lineA, .inr (7, [.ref p2_line_tiesA, .int p2_line_size])), (p2_line_tiesA, .inl (cy 1, p2_line_tiesN, .inl p2_line_ties)), (p2_earlierA, .inl (cy 1, p2_earlierN, .inl p2_earlier)), (p2_laterA, .inl (cy 1, p2_laterN, .inl p2_later))]) (CX7_folkOf F (p2_line_ties (x6).toNatClampNeg) R61 hg61) kvX7_folkOf klX3_70 [] [0, 1, 2, 3, 4, 5, 6, 7, 8] rfl rfl (by decide) (by decide) (by decide) rfl dX3_layBefore_61 ⟨by decide, by decide, by decide, by decide⟩ (Nat.le_of_ble_eq_true rfl) (fun r w1 hq => ?_)
    obtain ⟨rfl, rfl⟩ := hq
    refine V.cells (ws' := (wX3_layBefore cy tA t_placesV t_tiedV t_stepsV t_doneV t_waysToV t_waysFromV t_firstsV t_ties t_stages t_beforeA t_beforeN t_before p1A p1_namesV p1_kindsV p1_kinV p1_roundsV p1_folks p1_pairs p1_line p1_rope p1_lineTold p1_ropeTold p1_lawV p1_takenV p1_stopsA p1_stopsN p1_stops p2A p2_yearV p2_otherV p2_aheads p2_laid p2_lineA p2_line_size p2_line_tiesA p2_line_tiesN p2_line_ties p2_earlierA p2_earlierN p2_earlier p2_laterA p2_laterN p2_later)) [0, 1, 2, 3, 4, 5, 6, 7, 8] (by decide) rfl ?_
    show V l D cy MX3_layBefore 1 0 0 _ _ _ 64 [(0, .ref tA), (1, .ref p1A), (2, .ref p2A), (3, .ref p2_lineA), (4, .int x4), (5, .int x5), (6, .int x6)] [.int R61, .int x5] (wX3_layBefore cy tA t_placesV t_tiedV t_stepsV t_doneV t_waysToV t_waysFromV t_firstsV t_ties t_stages t_beforeA t_beforeN t_before p1A p1_namesV p1_kindsV p1_kinV p1_roundsV p1_folks p1_pairs p1_line p1_rope p1_lineTold p1_ropeTold p1_lawV p1_takenV p1_stopsA p1_stopsN p1_stops p2A p2_yearV p2_otherV p2_aheads p2_laid p2_lineA p2_line_size p2_line_tiesA p2_line_tiesN p2_line_ties p2_earlierA p2_earlierN p2_earlier p2_laterA p2_laterN p2_later) 0 0
    refine V.ishr dX3_layBefore_64 ?_
    refine V.iconst (v := (1 : Int32)) dX3_layBefore_65 (by decide) ?_
    refine V.iand dX3_layBefore_66 ?_
    refine V.if_eq (tgt := 84) dX3_layBefore_67 (by decide) (fun hc67 => ?_) (fun hc67 => ?_)
    · replace h := (if_pos hc67).symm.trans h
      exact vX3_layBefore_L84 _ _ _ _ _ _ _ _ _ _ _ _ _ _ _ _ _ _ _ _ _ _ _ _ _ _ _ _ _ _ _ _ _ _ _ _ _ _ _ _ _ _ _ _ _ _ hk45  _ _ _ _ R h hQ
    · replace h := (if_neg hc67).symm.trans h
      refine V.aload_n dX3_layBefore_70 rfl 0 rfl ?_
      refine V.get kfX3 0 rfl rfl 0 (by decide) klX3_9 rfl dX3_layBefore_71 ?_
      refine V.iload dX3_layBefore_74 4 rfl ?_
      refine V.dup2 dX3_layBefore_76 rfl rfl ?_
      by_cases hb77 : x4 < 0 ∨ t_beforeN ≤ x4.toNatClampNeg
      · exact vNone ((if_pos hb77).symm.trans h)
      replace h := (if_neg hb77).symm.trans h
      refine V.iald dX3_layBefore_77 1 rfl hb77 ?_
      refine V.iconst (v := (1 : Int32)) dX3_layBefore_78 (by decide) ?_
      refine V.iload dX3_layBefore_79 6 rfl ?_
      refine V.ishl dX3_layBefore_81 ?_
      refine V.ior dX3_layBefore_82 ?_
      by_cases hb83 : x4 < 0 ∨ t_beforeN ≤ x4.toNatClampNeg
      · exact vNone ((if_pos hb83).symm.trans h)
      replace h := (if_neg hb83).symm.trans h
      refine V.iast (ws' := (wX3_layBefore cy tA t_placesV t_tiedV t_stepsV t_doneV t_waysToV t_waysFromV t_firstsV t_ties t_stages t_beforeA t_beforeN (upd t_before x4.toNatClampNeg ((t_before (x4).toNatClampNeg) ||| ((1 : Int32) <<< (x6 &&& 31)))) p1A p1_namesV p1_kindsV p1_kinV p1_roundsV p1_folks p1_pairs p1_line p1_rope p1_lineTold p1_ropeTold p1_lawV p1_takenV p1_stopsA p1_stopsN p1_stops p2A p2_yearV p2_otherV p2_aheads p2_laid p2_lineA p2_line_size p2_line_tiesA p2_line_tiesN p2_line_ties p2_earlierA p2_earlierN p2_earlier p2_laterA p2_laterN p2_later)) dX3_layBefore_83 1 rfl hb83 rfl ?_
      exact vX3_layBefore_L84 _ _ _ _ _ _ _ _ _ _ _ _ _ _ _ _ _ _ _ _ _ _ _ _ _ _ _ _ _ _ _ _ _ _ _ _ _ _ _ _ _ _ _ _ _ _ hk45  _ _ _ _ R h hQ
noncomputable def fX3_layBefore_L45 (F : Nat) (t_ties : Int32) (t_beforeN : Nat) (p1_stopsN : Nat) (p1_stops : Nat → Int32) (p2_aheads : Int32) (p2_line_tiesN : Nat) (p2_line_ties : Nat → Int32) (p2_earlierN : Nat) (p2_earlier : Nat → Int32) (p2_laterN : Nat) (p2_later : Nat → Int32) (k8 : Int32 → (Nat → Int32) → Option ((Nat → Int32))) : Nat → Int32 → Int32 → Int32 → (Nat → Int32) → Option ((Nat → Int32))
  | 0 => fun _ _ _ _ => none
  | n + 1 => bX3_layBefore_L45 F t_ties t_beforeN p1_stopsN p1_stops p2_aheads p2_line_tiesN p2_line_ties p2_earlierN p2_earlier p2_laterN p2_later k8 (fX3_layBefore_L45 F t_ties t_beforeN p1_stopsN p1_stops p2_aheads p2_line_tiesN p2_line_ties p2_earlierN p2_earlier p2_laterN p2_later k8 n)
theorem vX3_layBefore_L45 {l : Launch} {D : va_G} {cy : Nat → ClassId} {av : List Value} {ws0 : va_W} {Q : Option Value → va_W → Prop} (F : Nat) (tA : Nat) (t_placesV : Value) (t_tiedV : Value) (t_stepsV : Value) (t_doneV : Value) (t_waysToV : Value) (t_waysFromV : Value) (t_firstsV : Value) (t_ties : Int32) (t_stages : Int32) (t_beforeA : Nat) (t_beforeN : Nat) (p1A : Nat) (p1_namesV : Value) (p1_kindsV : Value) (p1_kinV : Value) (p1_roundsV : Value) (p1_folks : Int32) (p1_pairs : Int32) (p1_line : Int32) (p1_rope : Int32) (p1_lineTold : Int32) (p1_ropeTold : Int32) (p1_lawV : Value) (p1_takenV : Value) (p1_stopsA : Nat) (p1_stopsN : Nat) (p1_stops : Nat → Int32) (p2A : Nat) (p2_yearV : Value) (p2_otherV : Value) (p2_aheads : Int32) (p2_laid : Int32) (p2_lineA : Nat) (p2_line_size : Int32) (p2_line_tiesA : Nat) (p2_line_tiesN : Nat) (p2_line_ties : Nat → Int32) (p2_earlierA : Nat) (p2_earlierN : Nat) (p2_earlier : Nat → Int32) (p2_laterA : Nat) (p2_laterN : Nat) (p2_later : Nat → Int32) (k8 : Int32 → (Nat → Int32) → Option ((Nat → Int32))) (hk8 : ∀ (x4 : Int32) (t_before : Nat → Int32) (R : (Nat → Int32)), k8 x4 t_before = some R → Q none (wX3_layBefore cy tA t_placesV t_tiedV t_stepsV t_doneV t_waysToV t_waysFromV t_firstsV t_ties t_stages t_beforeA t_beforeN R p1A p1_namesV p1_kindsV p1_kinV p1_roundsV p1_folks p1_pairs p1_line p1_rope p1_lineTold p1_ropeTold p1_lawV p1_takenV p1_stopsA p1_stopsN p1_stops p2A p2_yearV p2_otherV p2_aheads p2_laid p2_lineA p2_line_size p2_line_tiesA p2_line_tiesN p2_line_ties p2_earlierA p2_earlierN p2_earlier p2_laterA p2_laterN p2_later) → V l D cy MX3_layBefore 1 0 0 av ws0 Q 8 [(0, .ref tA), (1, .ref p1A), (2, .ref p2A), (3, .ref p2_lineA), (4, .int x4)] [] (wX3_layBefore cy tA t_placesV t_tiedV t_stepsV t_doneV t_waysToV t_waysFromV t_firstsV t_ties t_stages t_beforeA t_beforeN t_before p1A p1_namesV p1_kindsV p1_kinV p1_roundsV p1_folks p1_pairs p1_line p1_rope p1_lineTold p1_ropeTold p1_lawV p1_takenV p1_stopsA p1_stopsN p1_stops p2A p2_yearV p2_otherV p2_aheads p2_laid p2_lineA p2_line_size p2_line_tiesA p2_line_tiesN p2_line_ties p2_earlierA p2_earlierN p2_earlier p2_laterA p2_laterN p2_later) 0 0) : ∀ (n : Nat) (x4 : Int32) (x5 : Int32) (x6 : Int32) (t_before : Nat → Int32) (R : (Nat → Int32)), fX3_layBefore_L45 F t_ties t_beforeN p1_stopsN p1_stops p2_aheads p2_line_tiesN p2_line_ties p2_earlierN p2_earlier p2_laterN p2_later k8 n x4 x5 x6 t_before = some R → Q none (wX3_layBefore cy tA t_placesV t_tiedV t_stepsV t_doneV t_waysToV t_waysFromV t_firstsV t_ties t_stages t_beforeA t_beforeN R p1A p1_namesV p1_kindsV p1_kinV p1_roundsV p1_folks p1_pairs p1_line p1_rope p1_lineTold p1_ropeTold p1_lawV p1_takenV p1_stopsA p1_stopsN p1_stops p2A p2_yearV p2_otherV p2_aheads p2_laid p2_lineA p2_line_size p2_line_tiesA p2_line_tiesN p2_line_ties p2_earlierA p2_earlierN p2_earlier p2_laterA p2_laterN p2_later) → V l D cy MX3_layBefore 1 0 0 av ws0 Q 45 [(0, .ref tA), (1, .ref p1A), (2, .ref p2A), (3, .ref p2_lineA), (4, .int x4), (5, .int x5), (6, .int x6)] [] (wX3_layBefore cy tA t_placesV t_tiedV t_stepsV t_doneV t_waysToV t_waysFromV t_firstsV t_ties t_stages t_beforeA t_beforeN t_before p1A p1_namesV p1_kindsV p1_kinV p1_roundsV p1_folks p1_pairs p1_line p1_rope p1_lineTold p1_ropeTold p1_lawV p1_takenV p1_stopsA p1_stopsN p1_stops p2A p2_yearV p2_otherV p2_aheads p2_laid p2_lineA p2_line_size p2_line_tiesA p2_line_tiesN p2_line_ties p2_earlierA p2_earlierN p2_earlier p2_laterA p2_laterN p2_later) 0 0 := by
  intro n
  induction n with
  | zero => intro x4 x5 x6 t_before R h; exact vNone h
  | succ n ih => intro x4 x5 x6 t_before R h hQ; exact vbX3_layBefore_L45 F tA t_placesV t_tiedV t_stepsV t_doneV t_waysToV t_waysFromV t_firstsV t_ties t_stages t_beforeA t_beforeN p1A p1_namesV p1_kindsV p1_kinV p1_roundsV p1_folks p1_pairs p1_line p1_rope p1_lineTold p1_ropeTold p1_lawV p1_takenV p1_stopsA p1_stopsN p1_stops p2A p2_yearV p2_otherV p2_aheads p2_laid p2_lineA p2_line_size p2_line_tiesA p2_line_tiesN p2_line_ties p2_earlierA p2_earlierN p2_earlier p2_laterA p2_laterN p2_later _ hk8 _ ih x4 x5 x6 t_before R h hQ
noncomputable def bX3_layBefore_L8 (F : Nat) (t_ties : Int32) (t_beforeN : Nat) (p1_stopsN : Nat) (p1_stops : Nat → Int32) (p2_aheads : Int32) (p2_line_tiesN : Nat) (p2_line_ties : Nat → Int32) (p2_earlierN : Nat) (p2_earlier : Nat → Int32) (p2_laterN : Nat) (p2_later : Nat → Int32) (k8 : Int32 → (Nat → Int32) → Option ((Nat → Int32))) (x4 : Int32) (t_before : Nat → Int32) : Option ((Nat → Int32)) :=
  if t_ties ≤ x4 then (fX3_layBefore_L99 F t_ties t_beforeN p1_stopsN p1_stops p2_aheads p2_line_tiesN p2_line_ties p2_earlierN p2_earlier p2_laterN p2_later F (0 : Int32) t_before) else (if x4 < 0 ∨ t_beforeN ≤ x4.toNatClampNeg then none else (if x4 < 0 ∨ p2_line_tiesN ≤ x4.toNatClampNeg then none else ((fX7_folkOf F (p2_line_ties (x4).toNatClampNeg)).bind fun R36 => (if R36 < 0 ∨ p1_stopsN ≤ R36.toNatClampNeg then none else (fX3_layBefore_L45 F t_ties t_beforeN p1_stopsN p1_stops p2_aheads p2_line_tiesN p2_line_ties p2_earlierN p2_earlier p2_laterN p2_later k8 F x4 (p1_stops (R36).toNatClampNeg) (0 : Int32) (upd t_before x4.toNatClampNeg (0 : Int32)))))))
theorem vbX3_layBefore_L8 {l : Launch} {D : va_G} {cy : Nat → ClassId} {av : List Value} {ws0 : va_W} {Q : Option Value → va_W → Prop} (F : Nat) (tA : Nat) (t_placesV : Value) (t_tiedV : Value) (t_stepsV : Value) (t_doneV : Value) (t_waysToV : Value) (t_waysFromV : Value) (t_firstsV : Value) (t_ties : Int32) (t_stages : Int32) (t_beforeA : Nat) (t_beforeN : Nat) (p1A : Nat) (p1_namesV : Value) (p1_kindsV : Value) (p1_kinV : Value) (p1_roundsV : Value) (p1_folks : Int32) (p1_pairs : Int32) (p1_line : Int32) (p1_rope : Int32) (p1_lineTold : Int32) (p1_ropeTold : Int32) (p1_lawV : Value) (p1_takenV : Value) (p1_stopsA : Nat) (p1_stopsN : Nat) (p1_stops : Nat → Int32) (p2A : Nat) (p2_yearV : Value) (p2_otherV : Value) (p2_aheads : Int32) (p2_laid : Int32) (p2_lineA : Nat) (p2_line_size : Int32) (p2_line_tiesA : Nat) (p2_line_tiesN : Nat) (p2_line_ties : Nat → Int32) (p2_earlierA : Nat) (p2_earlierN : Nat) (p2_earlier : Nat → Int32) (p2_laterA : Nat) (p2_laterN : Nat) (p2_later : Nat → Int32) (k8 : Int32 → (Nat → Int32) → Option ((Nat → Int32))) (hk8 : ∀ (x4 : Int32) (t_before : Nat → Int32) (R : (Nat → Int32)), k8 x4 t_before = some R → Q none (wX3_layBefore cy tA t_placesV t_tiedV t_stepsV t_doneV t_waysToV t_waysFromV t_firstsV t_ties t_stages t_beforeA t_beforeN R p1A p1_namesV p1_kindsV p1_kinV p1_roundsV p1_folks p1_pairs p1_line p1_rope p1_lineTold p1_ropeTold p1_lawV p1_takenV p1_stopsA p1_stopsN p1_stops p2A p2_yearV p2_otherV p2_aheads p2_laid p2_lineA p2_line_size p2_line_tiesA p2_line_tiesN p2_line_ties p2_earlierA p2_earlierN p2_earlier p2_laterA p2_laterN p2_later) → V l D cy MX3_layBefore 1 0 0 av ws0 Q 8 [(0, .ref tA), (1, .ref p1A), (2, .ref p2A), (3, .ref p2_lineA), (4, .int x4)] [] (wX3_layBefore cy tA t_placesV t_tiedV t_stepsV t_doneV t_waysToV t_waysFromV t_firstsV t_ties t_stages t_beforeA t_beforeN t_before p1A p1_namesV p1_kindsV p1_kinV p1_roundsV p1_folks p1_pairs p1_line p1_rope p1_lineTold p1_ropeTold p1_lawV p1_takenV p1_stopsA p1_stopsN p1_stops p2A p2_yearV p2_otherV p2_aheads p2_laid p2_lineA p2_line_size p2_line_tiesA p2_line_tiesN p2_line_ties p2_earlierA p2_earlierN p2_earlier p2_laterA p2_laterN p2_later) 0 0) (x4 : Int32) (t_before : Nat → Int32) (R : (Nat → Int32)) (h : bX3_layBefore_L8 F t_ties t_beforeN p1_stopsN p1_stops p2_aheads p2_line_tiesN p2_line_ties p2_earlierN p2_earlier p2_laterN p2_later k8 x4 t_before = some R) (hQ : Q none (wX3_layBefore cy tA t_placesV t_tiedV t_stepsV t_doneV t_waysToV t_waysFromV t_firstsV t_ties t_stages t_beforeA t_beforeN R p1A p1_namesV p1_kindsV p1_kinV p1_roundsV p1_folks p1_pairs p1_line p1_rope p1_lineTold p1_ropeTold p1_lawV p1_takenV p1_stopsA p1_stopsN p1_stops p2A p2_yearV p2_otherV p2_aheads p2_laid p2_lineA p2_line_size p2_line_tiesA p2_line_tiesN p2_line_ties p2_earlierA p2_earlierN p2_earlier p2_laterA p2_laterN p2_later)) : V l D cy MX3_layBefore 1 0 0 av ws0 Q 8 [(0, .ref tA), (1, .ref p1A), (2, .ref p2A), (3, .ref p2_lineA), (4, .int x4)] [] (wX3_layBefore cy tA t_placesV t_tiedV t_stepsV t_doneV t_waysToV t_waysFromV t_firstsV t_ties t_stages t_beforeA t_beforeN t_before p1A p1_namesV p1_kindsV p1_kinV p1_roundsV p1_folks p1_pairs p1_line p1_rope p1_lineTold p1_ropeTold p1_lawV p1_takenV p1_stopsA p1_stopsN p1_stops p2A p2_yearV p2_otherV p2_aheads p2_laid p2_lineA p2_line_size p2_line_tiesA p2_line_tiesN p2_line_ties p2_earlierA p2_earlierN p2_earlier p2_laterA p2_laterN p2_later) 0 0 := by
  unfold bX3_layBefore_L8 at h
  refine V.iload dX3_layBefore_8 4 rfl ?_
  refine V.aload_n dX3_layBefore_10 rfl 0 rfl ?_
  refine V.get kfX3 0 rfl rfl 8 (by decide) klX3_49 rfl dX3_layBefore_11 ?_
  refine V.icmp_ge (tgt := 96) dX3_layBefore_14 (by decide) (fun hc14 => ?_) (fun hc14 => ?_)
  · replace h := (if_pos hc14).symm.trans h
    refine V.iconst (v := (0 : Int32)) dX3_layBefore_96 (by decide) ?_
    refine V.istore (lv' := [(4, .int (0 : Int32)), (0, .ref tA), (1, .ref p1A), (2, .ref p2A), (3, .ref p2_lineA)]) dX3_layBefore_97 (by decide) rfl ?_
    refine V.lvs [1, 3, 0] rfl ?_
    exact vX3_layBefore_L99 _ _ _ _ _ _ _ _ _ _ _ _ _ _ _ _ _ _ _ _ _ _ _ _ _ _ _ _ _ _ _ _ _ _ _ _ _ _ _ _ _ _ _ _ _  _ _ _ R h hQ
  · replace h := (if_neg hc14).symm.trans h
    refine V.aload_n dX3_layBefore_17 rfl 0 rfl ?_
    refine V.get kfX3 0 rfl rfl 0 (by decide) klX3_9 rfl dX3_layBefore_18 ?_
    refine V.iload dX3_layBefore_21 4 rfl ?_
    refine V.iconst (v := (0 : Int32)) dX3_layBefore_23 (by decide) ?_
    by_cases hb24 : x4 < 0 ∨ t_beforeN ≤ x4.toNatClampNeg
    · exact vNone ((if_pos hb24).symm.trans h)
    replace h := (if_neg hb24).symm.trans h
    refine V.iast (ws' := (wX3_layBefore cy tA t_placesV t_tiedV t_stepsV t_doneV t_waysToV t_waysFromV t_firstsV t_ties t_stages t_beforeA t_beforeN (upd t_before x4.toNatClampNeg (0 : Int32)) p1A p1_namesV p1_kindsV p1_kinV p1_roundsV p1_folks p1_pairs p1_line p1_rope p1_lineTold p1_ropeTold p1_lawV p1_takenV p1_stopsA p1_stopsN p1_stops p2A p2_yearV p2_otherV p2_aheads p2_laid p2_lineA p2_line_size p2_line_tiesA p2_line_tiesN p2_line_ties p2_earlierA p2_earlierN p2_earlier p2_laterA p2_laterN p2_later)) dX3_layBefore_24 1 rfl hb24 rfl ?_
    refine V.aload_n dX3_layBefore_25 rfl 1 rfl ?_
    refine V.get kfX2 2 rfl rfl 3 (by decide) klX3_63 rfl dX3_layBefore_26 ?_
    refine V.aload_n dX3_layBefore_29 rfl 3 rfl ?_
    refine V.get kfX7 5 rfl rfl 0 (by decide) klX3_68 rfl dX3_layBefore_30 ?_
    refine V.iload dX3_layBefore_33 4 rfl ?_
    by_cases hb35 : x4 < 0 ∨ p2_line_tiesN ≤ x4.toNatClampNeg
    · exact vNone ((if_pos hb35).symm.trans h)
    replace h := (if_neg hb35).symm.trans h
    refine V.iald dX3_layBefore_35 6 rfl hb35 ?_
    obtain ⟨R36, hg36, h⟩ := Option.bind_eq_some_iff.mp h
    refine V.callS (As := [.int (p2_line_ties (x4).toNatClampNeg)]) (rest := [.ref p1_stopsA]) (wc := (wX7_folkOf cy )) (wr := [(tA, .inr (3, [.ref t_beforeA, t_placesV, t_tiedV, t_stepsV, t_doneV, t_waysToV, t_waysFromV, t_firstsV, .int t_ties, .int t_stages])), (t_beforeA, .inl (cy 1, t_beforeN, .inl (upd t_before x4.toNatClampNeg (0 : Int32)))), (p1A, .inr (2, [p1_namesV, p1_kindsV, p1_kinV, .ref p1_stopsA, p1_roundsV, .int p1_folks, .int p1_pairs, .int p1_line, .int p1_rope, .int p1_lineTold, .int p1_ropeTold, p1_lawV, p1_takenV])), (p1_stopsA, .inl (cy 1, p1_stopsN, .inl p1_stops)), (p2A, .inr (8, [.ref p2_lineA, p2_yearV, p2_otherV, .ref p2_earlierA, .ref p2_laterA, .int p2_aheads, .int p2_laid])), (p2_lineA, .inr (7, [.ref p2_line_tiesA, .int p2_line_size])), (p2_line_tiesA, .inl (cy 1, p2_line_tiesN, .inl p2_line_ties)), (p2_earlierA, .inl (cy 1, p2_earlierN, .inl p2_earlier)), (p2_laterA, .inl (cy 1, p2_laterN, .inl p2_later))]) (CX7_folkOf F (p2_line_ties (x4).toNatClampNeg) R36 hg36) kvX7_folkOf klX3_70 [] [0, 1, 2, 3, 4, 5, 6, 7, 8] rfl rfl (by decide) (by decide) (by decide) rfl dX3_layBefore_36 ⟨by decide, by decide, by decide, by decide⟩ (Nat.le_of_ble_eq_true rfl) (fun r w1 hq => ?_)
    obtain ⟨rfl, rfl⟩ := hq
    refine V.cells (ws' := (wX3_layBefore cy tA t_placesV t_tiedV t_stepsV t_doneV t_waysToV t_waysFromV t_firstsV t_ties t_stages t_beforeA t_beforeN (upd t_before x4.toNatClampNeg (0 : Int32)) p1A p1_namesV p1_kindsV p1_kinV p1_roundsV p1_folks p1_pairs p1_line p1_rope p1_lineTold p1_ropeTold p1_lawV p1_takenV p1_stopsA p1_stopsN p1_stops p2A p2_yearV p2_otherV p2_aheads p2_laid p2_lineA p2_line_size p2_line_tiesA p2_line_tiesN p2_line_ties p2_earlierA p2_earlierN p2_earlier p2_laterA p2_laterN p2_later)) [0, 1, 2, 3, 4, 5, 6, 7, 8] (by decide) rfl ?_
    show V l D cy MX3_layBefore 1 0 0 _ _ _ 39 [(0, .ref tA), (1, .ref p1A), (2, .ref p2A), (3, .ref p2_lineA), (4, .int x4)] [.int R36, .ref p1_stopsA] (wX3_layBefore cy tA t_placesV t_tiedV t_stepsV t_doneV t_waysToV t_waysFromV t_firstsV t_ties t_stages t_beforeA t_beforeN (upd t_before x4.toNatClampNeg (0 : Int32)) p1A p1_namesV p1_kindsV p1_kinV p1_roundsV p1_folks p1_pairs p1_line p1_rope p1_lineTold p1_ropeTold p1_lawV p1_takenV p1_stopsA p1_stopsN p1_stops p2A p2_yearV p2_otherV p2_aheads p2_laid p2_lineA p2_line_size p2_line_tiesA p2_line_tiesN p2_line_ties p2_earlierA p2_earlierN p2_earlier p2_laterA p2_laterN p2_later) 0 0
    by_cases hb39 : R36 < 0 ∨ p1_stopsN ≤ R36.toNatClampNeg
    · exact vNone ((if_pos hb39).symm.trans h)
    replace h := (if_neg hb39).symm.trans h
    refine V.iald dX3_layBefore_39 3 rfl hb39 ?_
    refine V.istore (lv' := [(5, .int (p1_stops (R36).toNatClampNeg)), (0, .ref tA), (1, .ref p1A), (2, .ref p2A), (3, .ref p2_lineA), (4, .int x4)]) dX3_layBefore_40 (by decide) rfl ?_
    refine V.iconst (v := (0 : Int32)) dX3_layBefore_42 (by decide) ?_
    refine V.istore (lv' := [(6, .int (0 : Int32)), (5, .int (p1_stops (R36).toNatClampNeg)), (0, .ref tA), (1, .ref p1A), (2, .ref p2A), (3, .ref p2_lineA), (4, .int x4)]) dX3_layBefore_43 (by decide) rfl ?_
    refine V.lvs [2, 3, 4, 5, 6, 1, 0] rfl ?_
    exact vX3_layBefore_L45 _ _ _ _ _ _ _ _ _ _ _ _ _ _ _ _ _ _ _ _ _ _ _ _ _ _ _ _ _ _ _ _ _ _ _ _ _ _ _ _ _ _ _ _ _ _ hk8 _ _ _ _ _ R h hQ
noncomputable def fX3_layBefore_L8 (F : Nat) (t_ties : Int32) (t_beforeN : Nat) (p1_stopsN : Nat) (p1_stops : Nat → Int32) (p2_aheads : Int32) (p2_line_tiesN : Nat) (p2_line_ties : Nat → Int32) (p2_earlierN : Nat) (p2_earlier : Nat → Int32) (p2_laterN : Nat) (p2_later : Nat → Int32)  : Nat → Int32 → (Nat → Int32) → Option ((Nat → Int32))
  | 0 => fun _ _ => none
  | n + 1 => bX3_layBefore_L8 F t_ties t_beforeN p1_stopsN p1_stops p2_aheads p2_line_tiesN p2_line_ties p2_earlierN p2_earlier p2_laterN p2_later (fX3_layBefore_L8 F t_ties t_beforeN p1_stopsN p1_stops p2_aheads p2_line_tiesN p2_line_ties p2_earlierN p2_earlier p2_laterN p2_later  n)
theorem vX3_layBefore_L8 {l : Launch} {D : va_G} {cy : Nat → ClassId} {av : List Value} {ws0 : va_W} {Q : Option Value → va_W → Prop} (F : Nat) (tA : Nat) (t_placesV : Value) (t_tiedV : Value) (t_stepsV : Value) (t_doneV : Value) (t_waysToV : Value) (t_waysFromV : Value) (t_firstsV : Value) (t_ties : Int32) (t_stages : Int32) (t_beforeA : Nat) (t_beforeN : Nat) (p1A : Nat) (p1_namesV : Value) (p1_kindsV : Value) (p1_kinV : Value) (p1_roundsV : Value) (p1_folks : Int32) (p1_pairs : Int32) (p1_line : Int32) (p1_rope : Int32) (p1_lineTold : Int32) (p1_ropeTold : Int32) (p1_lawV : Value) (p1_takenV : Value) (p1_stopsA : Nat) (p1_stopsN : Nat) (p1_stops : Nat → Int32) (p2A : Nat) (p2_yearV : Value) (p2_otherV : Value) (p2_aheads : Int32) (p2_laid : Int32) (p2_lineA : Nat) (p2_line_size : Int32) (p2_line_tiesA : Nat) (p2_line_tiesN : Nat) (p2_line_ties : Nat → Int32) (p2_earlierA : Nat) (p2_earlierN : Nat) (p2_earlier : Nat → Int32) (p2_laterA : Nat) (p2_laterN : Nat) (p2_later : Nat → Int32)  : ∀ (n : Nat) (x4 : Int32) (t_before : Nat → Int32) (R : (Nat → Int32)), fX3_layBefore_L8 F t_ties t_beforeN p1_stopsN p1_stops p2_aheads p2_line_tiesN p2_line_ties p2_earlierN p2_earlier p2_laterN p2_later  n x4 t_before = some R → Q none (wX3_layBefore cy tA t_placesV t_tiedV t_stepsV t_doneV t_waysToV t_waysFromV t_firstsV t_ties t_stages t_beforeA t_beforeN R p1A p1_namesV p1_kindsV p1_kinV p1_roundsV p1_folks p1_pairs p1_line p1_rope p1_lineTold p1_ropeTold p1_lawV p1_takenV p1_stopsA p1_stopsN p1_stops p2A p2_yearV p2_otherV p2_aheads p2_laid p2_lineA p2_line_size p2_line_tiesA p2_line_tiesN p2_line_ties p2_earlierA p2_earlierN p2_earlier p2_laterA p2_laterN p2_later) → V l D cy MX3_layBefore 1 0 0 av ws0 Q 8 [(0, .ref tA), (1, .ref p1A), (2, .ref p2A), (3, .ref p2_lineA), (4, .int x4)] [] (wX3_layBefore cy tA t_placesV t_tiedV t_stepsV t_doneV t_waysToV t_waysFromV t_firstsV t_ties t_stages t_beforeA t_beforeN t_before p1A p1_namesV p1_kindsV p1_kinV p1_roundsV p1_folks p1_pairs p1_line p1_rope p1_lineTold p1_ropeTold p1_lawV p1_takenV p1_stopsA p1_stopsN p1_stops p2A p2_yearV p2_otherV p2_aheads p2_laid p2_lineA p2_line_size p2_line_tiesA p2_line_tiesN p2_line_ties p2_earlierA p2_earlierN p2_earlier p2_laterA p2_laterN p2_later) 0 0 := by
  intro n
  induction n with
  | zero => intro x4 t_before R h; exact vNone h
  | succ n ih => intro x4 t_before R h hQ; exact vbX3_layBefore_L8 F tA t_placesV t_tiedV t_stepsV t_doneV t_waysToV t_waysFromV t_firstsV t_ties t_stages t_beforeA t_beforeN p1A p1_namesV p1_kindsV p1_kinV p1_roundsV p1_folks p1_pairs p1_line p1_rope p1_lineTold p1_ropeTold p1_lawV p1_takenV p1_stopsA p1_stopsN p1_stops p2A p2_yearV p2_otherV p2_aheads p2_laid p2_lineA p2_line_size p2_line_tiesA p2_line_tiesN p2_line_ties p2_earlierA p2_earlierN p2_earlier p2_laterA p2_laterN p2_later _ ih x4 t_before R h hQ
noncomputable def fX3_layBefore (F : Nat) (t_ties : Int32) (t_beforeN : Nat) (p1_stopsN : Nat) (p1_stops : Nat → Int32) (p2_aheads : Int32) (p2_line_tiesN : Nat) (p2_line_ties : Nat → Int32) (p2_earlierN : Nat) (p2_earlier : Nat → Int32) (p2_laterN : Nat) (p2_later : Nat → Int32) (t_before : Nat → Int32) : Option ((Nat → Int32)) :=
  fX3_layBefore_L8 F t_ties t_beforeN p1_stopsN p1_stops p2_aheads p2_line_tiesN p2_line_ties p2_earlierN p2_earlier p2_laterN p2_later F (0 : Int32) t_before
theorem CX3_layBefore {l : Launch} {D : va_G} {cy : Nat → ClassId} (F : Nat) (tA : Nat) (t_placesV : Value) (t_tiedV : Value) (t_stepsV : Value) (t_doneV : Value) (t_waysToV : Value) (t_waysFromV : Value) (t_firstsV : Value) (t_ties : Int32) (t_stages : Int32) (t_beforeA : Nat) (t_beforeN : Nat) (t_before : Nat → Int32) (p1A : Nat) (p1_namesV : Value) (p1_kindsV : Value) (p1_kinV : Value) (p1_roundsV : Value) (p1_folks : Int32) (p1_pairs : Int32) (p1_line : Int32) (p1_rope : Int32) (p1_lineTold : Int32) (p1_ropeTold : Int32) (p1_lawV : Value) (p1_takenV : Value) (p1_stopsA : Nat) (p1_stopsN : Nat) (p1_stops : Nat → Int32) (p2A : Nat) (p2_yearV : Value) (p2_otherV : Value) (p2_aheads : Int32) (p2_laid : Int32) (p2_lineA : Nat) (p2_line_size : Int32) (p2_line_tiesA : Nat) (p2_line_tiesN : Nat) (p2_line_ties : Nat → Int32) (p2_earlierA : Nat) (p2_earlierN : Nat) (p2_earlier : Nat → Int32) (p2_laterA : Nat) (p2_laterN : Nat) (p2_later : Nat → Int32) (R : (Nat → Int32)) (h : fX3_layBefore F t_ties t_beforeN p1_stopsN p1_stops p2_aheads p2_line_tiesN p2_line_ties p2_earlierN p2_earlier p2_laterN p2_later t_before = some R) : vMet l D cy MX3_layBefore 1 0 0 [.ref tA, .ref p1A, .ref p2A] (wX3_layBefore cy tA t_placesV t_tiedV t_stepsV t_doneV t_waysToV t_waysFromV t_firstsV t_ties t_stages t_beforeA t_beforeN t_before p1A p1_namesV p1_kindsV p1_kinV p1_roundsV p1_folks p1_pairs p1_line p1_rope p1_lineTold p1_ropeTold p1_lawV p1_takenV p1_stopsA p1_stopsN p1_stops p2A p2_yearV p2_otherV p2_aheads p2_laid p2_lineA p2_line_size p2_line_tiesA p2_line_tiesN p2_line_ties p2_earlierA p2_earlierN p2_earlier p2_laterA p2_laterN p2_later) (fun (r : Option Value) (w : va_W) => r = none ∧ w = (wX3_layBefore cy tA t_placesV t_tiedV t_stepsV t_doneV t_waysToV t_waysFromV t_firstsV t_ties t_stages t_beforeA t_beforeN R p1A p1_namesV p1_kindsV p1_kinV p1_roundsV p1_folks p1_pairs p1_line p1_rope p1_lineTold p1_ropeTold p1_lawV p1_takenV p1_stopsA p1_stopsN p1_stops p2A p2_yearV p2_otherV p2_aheads p2_laid p2_lineA p2_line_size p2_line_tiesA p2_line_tiesN p2_line_ties p2_earlierA p2_earlierN p2_earlier p2_laterA p2_laterN p2_later)) := by
  refine vMet.start (by decide +kernel) (Nat.le_of_ble_eq_true rfl) ?_
  generalize hQe : (fun (r : Option Value) (w : va_W) => r = none ∧ w = (wX3_layBefore cy tA t_placesV t_tiedV t_stepsV t_doneV t_waysToV t_waysFromV t_firstsV t_ties t_stages t_beforeA t_beforeN R p1A p1_namesV p1_kindsV p1_kinV p1_roundsV p1_folks p1_pairs p1_line p1_rope p1_lineTold p1_ropeTold p1_lawV p1_takenV p1_stopsA p1_stopsN p1_stops p2A p2_yearV p2_otherV p2_aheads p2_laid p2_lineA p2_line_size p2_line_tiesA p2_line_tiesN p2_line_ties p2_earlierA p2_earlierN p2_earlier p2_laterA p2_laterN p2_later)) = Q
  have hQ : Q none (wX3_layBefore cy tA t_placesV t_tiedV t_stepsV t_doneV t_waysToV t_waysFromV t_firstsV t_ties t_stages t_beforeA t_beforeN R p1A p1_namesV p1_kindsV p1_kinV p1_roundsV p1_folks p1_pairs p1_line p1_rope p1_lineTold p1_ropeTold p1_lawV p1_takenV p1_stopsA p1_stopsN p1_stops p2A p2_yearV p2_otherV p2_aheads p2_laid p2_lineA p2_line_size p2_line_tiesA p2_line_tiesN p2_line_ties p2_earlierA p2_earlierN p2_earlier p2_laterA p2_laterN p2_later) := by rw [← hQe]; exact ⟨rfl, rfl⟩
  show V l D cy MX3_layBefore 1 0 0 _ _ Q 0 [(0, .ref tA), (1, .ref p1A), (2, .ref p2A)] [] _ 0 0
  show V l D cy MX3_layBefore 1 0 0 [.ref tA, .ref p1A, .ref p2A] _ Q 0 [(0, .ref tA), (1, .ref p1A), (2, .ref p2A)] [] (wX3_layBefore cy tA t_placesV t_tiedV t_stepsV t_doneV t_waysToV t_waysFromV t_firstsV t_ties t_stages t_beforeA t_beforeN t_before p1A p1_namesV p1_kindsV p1_kinV p1_roundsV p1_folks p1_pairs p1_line p1_rope p1_lineTold p1_ropeTold p1_lawV p1_takenV p1_stopsA p1_stopsN p1_stops p2A p2_yearV p2_otherV p2_aheads p2_laid p2_lineA p2_line_size p2_line_tiesA p2_line_tiesN p2_line_ties p2_earlierA p2_earlierN p2_earlier p2_laterA p2_laterN p2_later) 0 0
  unfold fX3_layBefore at h
  refine V.aload_n dX3_layBefore_0 rfl 2 rfl ?_
  refine V.get kfX8 4 rfl rfl 0 (by decide) klX3_37 rfl dX3_layBefore_1 ?_
  refine V.astore_n (lv' := [(3, .ref p2_lineA), (0, .ref tA), (1, .ref p1A), (2, .ref p2A)]) dX3_layBefore_4 rfl (by decide) rfl ?_
  refine V.iconst (v := (0 : Int32)) dX3_layBefore_5 (by decide) ?_
  refine V.istore (lv' := [(4, .int (0 : Int32)), (3, .ref p2_lineA), (0, .ref tA), (1, .ref p1A), (2, .ref p2A)]) dX3_layBefore_6 (by decide) rfl ?_
  refine V.lvs [2, 3, 4, 1, 0] rfl ?_
  exact vX3_layBefore_L8 _ _ _ _ _ _ _ _ _ _ _ _ _ _ _ _ _ _ _ _ _ _ _ _ _ _ _ _ _ _ _ _ _ _ _ _ _ _ _ _ _ _ _ _ _  _ _ _ R h hQ
theorem dX3_doneAt_0 : decode cX3_doneAt 0 = .ok (.iconst 0, 1) := by decide +kernel
theorem dX3_doneAt_1 : decode cX3_doneAt 1 = .ok (.istore_n 2, 1) := by decide +kernel
theorem dX3_doneAt_2 : decode cX3_doneAt 2 = .ok (.iconst 0, 1) := by decide +kernel
theorem dX3_doneAt_3 : decode cX3_doneAt 3 = .ok (.istore_n 3, 1) := by decide +kernel
theorem dX3_doneAt_4 : decode cX3_doneAt 4 = .ok (.iload_n 3, 1) := by decide +kernel
theorem dX3_doneAt_5 : decode cX3_doneAt 5 = .ok (.bipush 6, 2) := by decide +kernel
theorem dX3_doneAt_7 : decode cX3_doneAt 7 = .ok (.if_icmp .ge 50, 3) := by decide +kernel
theorem dX3_doneAt_10 : decode cX3_doneAt 10 = .ok (.aload_n 0, 1) := by decide +kernel
theorem dX3_doneAt_11 : decode cX3_doneAt 11 = .ok (.iload_n 1, 1) := by decide +kernel
theorem dX3_doneAt_12 : decode cX3_doneAt 12 = .ok (.iload_n 3, 1) := by decide +kernel
theorem dX3_doneAt_13 : decode cX3_doneAt 13 = .ok (.invokevirtual 104, 3) := by decide +kernel
theorem dX3_doneAt_16 : decode cX3_doneAt 16 = .ok (.istore 4, 2) := by decide +kernel
theorem dX3_doneAt_18 : decode cX3_doneAt 18 = .ok (.iconst 0, 1) := by decide +kernel
theorem dX3_doneAt_19 : decode cX3_doneAt 19 = .ok (.istore 5, 2) := by decide +kernel
theorem dX3_doneAt_21 : decode cX3_doneAt 21 = .ok (.iload 5, 2) := by decide +kernel
theorem dX3_doneAt_23 : decode cX3_doneAt 23 = .ok (.iload 4, 2) := by decide +kernel
theorem dX3_doneAt_25 : decode cX3_doneAt 25 = .ok (.if_icmp .ge 26, 3) := by decide +kernel
theorem dX3_doneAt_28 : decode cX3_doneAt 28 = .ok (.iload_n 2, 1) := by decide +kernel
theorem dX3_doneAt_29 : decode cX3_doneAt 29 = .ok (.iconst 1, 1) := by decide +kernel
theorem dX3_doneAt_30 : decode cX3_doneAt 30 = .ok (.aload_n 0, 1) := by decide +kernel
theorem dX3_doneAt_31 : decode cX3_doneAt 31 = .ok (.getfield 15, 3) := by decide +kernel
theorem dX3_doneAt_34 : decode cX3_doneAt 34 = .ok (.iload_n 3, 1) := by decide +kernel
theorem dX3_doneAt_35 : decode cX3_doneAt 35 = .ok (.bipush 14, 2) := by decide +kernel
theorem dX3_doneAt_37 : decode cX3_doneAt 37 = .ok (.imul, 1) := by decide +kernel
theorem dX3_doneAt_38 : decode cX3_doneAt 38 = .ok (.iload 5, 2) := by decide +kernel
theorem dX3_doneAt_40 : decode cX3_doneAt 40 = .ok (.iadd, 1) := by decide +kernel
theorem dX3_doneAt_41 : decode cX3_doneAt 41 = .ok (.iaload, 1) := by decide +kernel
theorem dX3_doneAt_42 : decode cX3_doneAt 42 = .ok (.ishl, 1) := by decide +kernel
theorem dX3_doneAt_43 : decode cX3_doneAt 43 = .ok (.ior, 1) := by decide +kernel
theorem dX3_doneAt_44 : decode cX3_doneAt 44 = .ok (.istore_n 2, 1) := by decide +kernel
theorem dX3_doneAt_45 : decode cX3_doneAt 45 = .ok (.iinc 5 1, 3) := by decide +kernel
theorem dX3_doneAt_48 : decode cX3_doneAt 48 = .ok (.goto (-27), 3) := by decide +kernel
theorem dX3_doneAt_51 : decode cX3_doneAt 51 = .ok (.iinc 3 1, 3) := by decide +kernel
theorem dX3_doneAt_54 : decode cX3_doneAt 54 = .ok (.goto (-50), 3) := by decide +kernel
theorem dX3_doneAt_57 : decode cX3_doneAt 57 = .ok (.iload_n 2, 1) := by decide +kernel
theorem dX3_doneAt_58 : decode cX3_doneAt 58 = .ok (.ireturn, 1) := by decide +kernel
def wX3_doneAt (cy : Nat → ClassId) (tA : Nat) (t_beforeV : Value) (t_doneV : Value) (t_waysToV : Value) (t_waysFromV : Value) (t_firstsV : Value) (t_ties : Int32) (t_stages : Int32) (t_placesA : Nat) (t_placesN : Nat) (t_places : Nat → Int32) (t_tiedA : Nat) (t_tiedN : Nat) (t_tied : Nat → Int32) (t_stepsA : Nat) (t_stepsN : Nat) (t_steps : Nat → Int32) : va_W :=
  [(tA, .inr (3, [t_beforeV, .ref t_placesA, .ref t_tiedA, .ref t_stepsA, t_doneV, t_waysToV, t_waysFromV, t_firstsV, .int t_ties, .int t_stages])), (t_placesA, .inl (cy 1, t_placesN, .inl t_places)), (t_tiedA, .inl (cy 1, t_tiedN, .inl t_tied)), (t_stepsA, .inl (cy 1, t_stepsN, .inl t_steps))]
noncomputable def bX3_doneAt_L21 (F : Nat) (t_placesN : Nat) (t_places : Nat → Int32) (t_tiedN : Nat) (t_tied : Nat → Int32) (t_stepsN : Nat) (t_steps : Nat → Int32) (k4 : Int32 → Int32 → Int32 → Option (Int32)) (k21 : Int32 → Int32 → Int32 → Int32 → Int32 → Option (Int32)) (x1 : Int32) (x2 : Int32) (x3 : Int32) (x4 : Int32) (x5 : Int32) : Option (Int32) :=
  if x4 ≤ x5 then (k4 x1 x2 (x3 + (1 : Int32))) else (if ((x3 * (14 : Int32)) + x5) < 0 ∨ t_placesN ≤ ((x3 * (14 : Int32)) + x5).toNatClampNeg then none else (k21 x1 (x2 ||| ((1 : Int32) <<< ((t_places ((x3 * (14 : Int32)) + x5).toNatClampNeg) &&& 31))) x3 x4 (x5 + (1 : Int32))))
theorem vbX3_doneAt_L21 {l : Launch} {D : va_G} {cy : Nat → ClassId} {av : List Value} {ws0 : va_W} {Q : Option Value → va_W → Prop} (F : Nat) (tA : Nat) (t_beforeV : Value) (t_doneV : Value) (t_waysToV : Value) (t_waysFromV : Value) (t_firstsV : Value) (t_ties : Int32) (t_stages : Int32) (t_placesA : Nat) (t_placesN : Nat) (t_places : Nat → Int32) (t_tiedA : Nat) (t_tiedN : Nat) (t_tied : Nat → Int32) (t_stepsA : Nat) (t_stepsN : Nat) (t_steps : Nat → Int32) (k4 : Int32 → Int32 → Int32 → Option (Int32)) (hk4 : ∀ (x1 : Int32) (x2 : Int32) (x3 : Int32) (R : Int32), k4 x1 x2 x3 = some R → Q (some (.int R)) (wX3_doneAt cy tA t_beforeV t_doneV t_waysToV t_waysFromV t_firstsV t_ties t_stages t_placesA t_placesN t_places t_tiedA t_tiedN t_tied t_stepsA t_stepsN t_steps) → V l D cy MX3_doneAt 1 0 0 av ws0 Q 4 [(0, .ref tA), (1, .int x1), (2, .int x2), (3, .int x3)] [] (wX3_doneAt cy tA t_beforeV t_doneV t_waysToV t_waysFromV t_firstsV t_ties t_stages t_placesA t_placesN t_places t_tiedA t_tiedN t_tied t_stepsA t_stepsN t_steps) 0 0) (k21 : Int32 → Int32 → Int32 → Int32 → Int32 → Option (Int32)) (hk21 : ∀ (x1 : Int32) (x2 : Int32) (x3 : Int32) (x4 : Int32) (x5 : Int32) (R : Int32), k21 x1 x2 x3 x4 x5 = some R → Q (some (.int R)) (wX3_doneAt cy tA t_beforeV t_doneV t_waysToV t_waysFromV t_firstsV t_ties t_stages t_placesA t_placesN t_places t_tiedA t_tiedN t_tied t_stepsA t_stepsN t_steps) → V l D cy MX3_doneAt 1 0 0 av ws0 Q 21 [(0, .ref tA), (1, .int x1), (2, .int x2), (3, .int x3), (4, .int x4), (5, .int x5)] [] (wX3_doneAt cy tA t_beforeV t_doneV t_waysToV t_waysFromV t_firstsV t_ties t_stages t_placesA t_placesN t_places t_tiedA t_tiedN t_tied t_stepsA t_stepsN t_steps) 0 0) (x1 : Int32) (x2 : Int32) (x3 : Int32) (x4 : Int32) (x5 : Int32) (R : Int32) (h : bX3_doneAt_L21 F t_placesN t_places t_tiedN t_tied t_stepsN t_steps k4 k21 x1 x2 x3 x4 x5 = some R) (hQ : Q (some (.int R)) (wX3_doneAt cy tA t_beforeV t_doneV t_waysToV t_waysFromV t_firstsV t_ties t_stages t_placesA t_placesN t_places t_tiedA t_tiedN t_tied t_stepsA t_stepsN t_steps)) : V l D cy MX3_doneAt 1 0 0 av ws0 Q 21 [(0, .ref tA), (1, .int x1), (2, .int x2), (3, .int x3), (4, .int x4), (5, .int x5)] [] (wX3_doneAt cy tA t_beforeV t_doneV t_waysToV t_waysFromV t_firstsV t_ties t_stages t_placesA t_placesN t_places t_tiedA t_tiedN t_tied t_stepsA t_stepsN t_steps) 0 0 := by
  unfold bX3_doneAt_L21 at h
  refine V.iload dX3_doneAt_21 5 rfl ?_
  refine V.iload dX3_doneAt_23 4 rfl ?_
  refine V.icmp_ge (tgt := 51) dX3_doneAt_25 (by decide) (fun hc25 => ?_) (fun hc25 => ?_)
  · replace h := (if_pos hc25).symm.trans h
    refine V.iinc (v := x3 + (1 : Int32)) (lv' := [(3, .int (x3 + (1 : Int32))), (0, .ref tA), (1, .int x1), (2, .int x2), (4, .int x4), (5, .int x5)]) dX3_doneAt_51 3 rfl rfl (by decide) rfl ?_
    refine V.goto (tgt := 4) dX3_doneAt_54 (by decide) ?_
    refine V.lvs [1, 2, 3, 0] rfl ?_
    exact hk4 _ _ _ R h hQ
  · replace h := (if_neg hc25).symm.trans h
    refine V.iload_n dX3_doneAt_28 rfl 2 rfl ?_
    refine V.iconst (v := (1 : Int32)) dX3_doneAt_29 (by decide) ?_
    refine V.aload_n dX3_doneAt_30 rfl 0 rfl ?_
    refine V.get kfX3 0 rfl rfl 1 (by decide) klX3_15 rfl dX3_doneAt_31 ?_
    refine V.iload_n dX3_doneAt_34 rfl 3 rfl ?_
    refine V.bipush (v := (14 : Int32)) dX3_doneAt_35 (by decide) ?_
    refine V.imul dX3_doneAt_37 ?_
    refine V.iload dX3_doneAt_38 5 rfl ?_
    refine V.iadd dX3_doneAt_40 ?_
    by_cases hb41 : ((x3 * (14 : Int32)) + x5) < 0 ∨ t_placesN ≤ ((x3 * (14 : Int32)) + x5).toNatClampNeg
    · exact vNone ((if_pos hb41).symm.trans h)
    replace h := (if_neg hb41).symm.trans h
    refine V.iald dX3_doneAt_41 1 rfl hb41 ?_
    refine V.ishl dX3_doneAt_42 ?_
    refine V.ior dX3_doneAt_43 ?_
    refine V.istore_n (lv' := [(2, .int (x2 ||| ((1 : Int32) <<< ((t_places ((x3 * (14 : Int32)) + x5).toNatClampNeg) &&& 31)))), (0, .ref tA), (1, .int x1), (3, .int x3), (4, .int x4), (5, .int x5)]) dX3_doneAt_44 rfl (by decide) rfl ?_
    refine V.iinc (v := x5 + (1 : Int32)) (lv' := [(5, .int (x5 + (1 : Int32))), (2, .int (x2 ||| ((1 : Int32) <<< ((t_places ((x3 * (14 : Int32)) + x5).toNatClampNeg) &&& 31)))), (0, .ref tA), (1, .int x1), (3, .int x3), (4, .int x4)]) dX3_doneAt_45 5 rfl rfl (by decide) rfl ?_
    refine V.goto (tgt := 21) dX3_doneAt_48 (by decide) ?_
    refine V.lvs [2, 3, 1, 4, 5, 0] rfl ?_
    exact hk21 _ _ _ _ _ R h hQ
noncomputable def fX3_doneAt_L21 (F : Nat) (t_placesN : Nat) (t_places : Nat → Int32) (t_tiedN : Nat) (t_tied : Nat → Int32) (t_stepsN : Nat) (t_steps : Nat → Int32) (k4 : Int32 → Int32 → Int32 → Option (Int32)) : Nat → Int32 → Int32 → Int32 → Int32 → Int32 → Option (Int32)
  | 0 => fun _ _ _ _ _ => none
  | n + 1 => bX3_doneAt_L21 F t_placesN t_places t_tiedN t_tied t_stepsN t_steps k4 (fX3_doneAt_L21 F t_placesN t_places t_tiedN t_tied t_stepsN t_steps k4 n)
theorem vX3_doneAt_L21 {l : Launch} {D : va_G} {cy : Nat → ClassId} {av : List Value} {ws0 : va_W} {Q : Option Value → va_W → Prop} (F : Nat) (tA : Nat) (t_beforeV : Value) (t_doneV : Value) (t_waysToV : Value) (t_waysFromV : Value) (t_firstsV : Value) (t_ties : Int32) (t_stages : Int32) (t_placesA : Nat) (t_placesN : Nat) (t_places : Nat → Int32) (t_tiedA : Nat) (t_tiedN : Nat) (t_tied : Nat → Int32) (t_stepsA : Nat) (t_stepsN : Nat) (t_steps : Nat → Int32) (k4 : Int32 → Int32 → Int32 → Option (Int32)) (hk4 : ∀ (x1 : Int32) (x2 : Int32) (x3 : Int32) (R : Int32), k4 x1 x2 x3 = some R → Q (some (.int R)) (wX3_doneAt cy tA t_beforeV t_doneV t_waysToV t_waysFromV t_firstsV t_ties t_stages t_placesA t_placesN t_places t_tiedA t_tiedN t_tied t_stepsA t_stepsN t_steps) → V l D cy MX3_doneAt 1 0 0 av ws0 Q 4 [(0, .ref tA), (1, .int x1), (2, .int x2), (3, .int x3)] [] (wX3_doneAt cy tA t_beforeV t_doneV t_waysToV t_waysFromV t_firstsV t_ties t_stages t_placesA t_placesN t_places t_tiedA t_tiedN t_tied t_stepsA t_stepsN t_steps) 0 0) : ∀ (n : Nat) (x1 : Int32) (x2 : Int32) (x3 : Int32) (x4 : Int32) (x5 : Int32) (R : Int32), fX3_doneAt_L21 F t_placesN t_places t_tiedN t_tied t_stepsN t_steps k4 n x1 x2 x3 x4 x5 = some R → Q (some (.int R)) (wX3_doneAt cy tA t_beforeV t_doneV t_waysToV t_waysFromV t_firstsV t_ties t_stages t_placesA t_placesN t_places t_tiedA t_tiedN t_tied t_stepsA t_stepsN t_steps) → V l D cy MX3_doneAt 1 0 0 av ws0 Q 21 [(0, .ref tA), (1, .int x1), (2, .int x2), (3, .int x3), (4, .int x4), (5, .int x5)] [] (wX3_doneAt cy tA t_beforeV t_doneV t_waysToV t_waysFromV t_firstsV t_ties t_stages t_placesA t_placesN t_places t_tiedA t_tiedN t_tied t_stepsA t_stepsN t_steps) 0 0 := by
  intro n
  induction n with
  | zero => intro x1 x2 x3 x4 x5 R h; exact vNone h
  | succ n ih => intro x1 x2 x3 x4 x5 R h hQ; exact vbX3_doneAt_L21 F tA t_beforeV t_doneV t_waysToV t_waysFromV t_firstsV t_ties t_stages t_placesA t_placesN t_places t_tiedA t_tiedN t_tied t_stepsA t_stepsN t_steps _ hk4 _ ih x1 x2 x3 x4 x5 R h hQ
noncomputable def bX3_doneAt_L4 (F : Nat) (t_placesN : Nat) (t_places : Nat → Int32) (t_tiedN : Nat) (t_tied : Nat → Int32) (t_stepsN : Nat) (t_steps : Nat → Int32) (k4 : Int32 → Int32 → Int32 → Option (Int32)) (x1 : Int32) (x2 : Int32) (x3 : Int32) : Option (Int32) :=
  if (6 : Int32) ≤ x3 then (some x2) else ((fX3_tiedAt F t_tiedN t_tied t_stepsN t_steps x1 x3).bind fun R13 => (fX3_doneAt_L21 F t_placesN t_places t_tiedN t_tied t_stepsN t_steps k4 F x1 x2 x3 R13 (0 : Int32)))
theorem vbX3_doneAt_L4 {l : Launch} {D : va_G} {cy : Nat → ClassId} {av : List Value} {ws0 : va_W} {Q : Option Value → va_W → Prop} (F : Nat) (tA : Nat) (t_beforeV : Value) (t_doneV : Value) (t_waysToV : Value) (t_waysFromV : Value) (t_firstsV : Value) (t_ties : Int32) (t_stages : Int32) (t_placesA : Nat) (t_placesN : Nat) (t_places : Nat → Int32) (t_tiedA : Nat) (t_tiedN : Nat) (t_tied : Nat → Int32) (t_stepsA : Nat) (t_stepsN : Nat) (t_steps : Nat → Int32) (k4 : Int32 → Int32 → Int32 → Option (Int32)) (hk4 : ∀ (x1 : Int32) (x2 : Int32) (x3 : Int32) (R : Int32), k4 x1 x2 x3 = some R → Q (some (.int R)) (wX3_doneAt cy tA t_beforeV t_doneV t_waysToV t_waysFromV t_firstsV t_ties t_stages t_placesA t_placesN t_places t_tiedA t_tiedN t_tied t_stepsA t_stepsN t_steps) → V l D cy MX3_doneAt 1 0 0 av ws0 Q 4 [(0, .ref tA), (1, .int x1), (2, .int x2), (3, .int x3)] [] (wX3_doneAt cy tA t_beforeV t_doneV t_waysToV t_waysFromV t_firstsV t_ties t_stages t_placesA t_placesN t_places t_tiedA t_tiedN t_tied t_stepsA t_stepsN t_steps) 0 0) (x1 : Int32) (x2 : Int32) (x3 : Int32) (R : Int32) (h : bX3_doneAt_L4 F t_placesN t_places t_tiedN t_tied t_stepsN t_steps k4 x1 x2 x3 = some R) (hQ : Q (some (.int R)) (wX3_doneAt cy tA t_beforeV t_doneV t_waysToV t_waysFromV t_firstsV t_ties t_stages t_placesA t_placesN t_places t_tiedA t_tiedN t_tied t_stepsA t_stepsN t_steps)) : V l D cy MX3_doneAt 1 0 0 av ws0 Q 4 [(0, .ref tA), (1, .int x1), (2, .int x2), (3, .int x3)] [] (wX3_doneAt cy tA t_beforeV t_doneV t_waysToV t_waysFromV t_firstsV t_ties t_stages t_placesA t_placesN t_places t_tiedA t_tiedN t_tied t_stepsA t_stepsN t_steps) 0 0 := by
  unfold bX3_doneAt_L4 at h
  refine V.iload_n dX3_doneAt_4 rfl 3 rfl ?_
  refine V.bipush (v := (6 : Int32)) dX3_doneAt_5 (by decide) ?_
  refine V.icmp_ge (tgt := 57) dX3_doneAt_7 (by decide) (fun hc7 => ?_) (fun hc7 => ?_)
  · replace h := (if_pos hc7).symm.trans h
    refine V.iload_n dX3_doneAt_57 rfl 2 rfl ?_
    have e9 := Option.some.inj h; subst e9
    exact V.iret (ty := .int) rfl rfl dX3_doneAt_58 (Nat.le_refl _) (Nat.le_refl _) hQ
  · replace h := (if_neg hc7).symm.trans h
    refine V.aload_n dX3_doneAt_10 rfl 0 rfl ?_
    refine V.iload_n dX3_doneAt_11 rfl 1 rfl ?_
    refine V.iload_n dX3_doneAt_12 rfl 3 rfl ?_
    obtain ⟨R13, hg13, h⟩ := Option.bind_eq_some_iff.mp h
    refine V.callV (As := [.int x1, .int x3]) (rest := []) (wc := (wX3_tiedAt cy tA t_beforeV (.ref t_placesA) t_doneV t_waysToV t_waysFromV t_firstsV t_ties t_stages t_tiedA t_tiedN t_tied t_stepsA t_stepsN t_steps)) (wr := [(t_placesA, .inl (cy 1, t_placesN, .inl t_places))]) (q0 := 0) (CX3_tiedAt F tA t_beforeV (.ref t_placesA) t_doneV t_waysToV t_waysFromV t_firstsV t_ties t_stages t_tiedA t_tiedN t_tied t_stepsA t_stepsN t_steps x1 x3 R13 hg13) kvX3_tiedAt klX3_104 [0, 2, 3] [1] rfl rfl (by decide) (by decide) (by decide) rfl rfl rfl rfl dX3_doneAt_13 ⟨by decide, by decide, by decide, by decide⟩ (Nat.le_of_ble_eq_true rfl) (fun r w1 hq => ?_)
    obtain ⟨rfl, rfl⟩ := hq
    refine V.cells (ws' := (wX3_doneAt cy tA t_beforeV t_doneV t_waysToV t_waysFromV t_firstsV t_ties t_stages t_placesA t_placesN t_places t_tiedA t_tiedN t_tied t_stepsA t_stepsN t_steps)) [1, 0, 2, 3] (by decide) rfl ?_
    show V l D cy MX3_doneAt 1 0 0 _ _ _ 16 [(0, .ref tA), (1, .int x1), (2, .int x2), (3, .int x3)] [.int R13] (wX3_doneAt cy tA t_beforeV t_doneV t_waysToV t_waysFromV t_firstsV t_ties t_stages t_placesA t_placesN t_places t_tiedA t_tiedN t_tied t_stepsA t_stepsN t_steps) 0 0
    refine V.istore (lv' := [(4, .int R13), (0, .ref tA), (1, .int x1), (2, .int x2), (3, .int x3)]) dX3_doneAt_16 (by decide) rfl ?_
    refine V.iconst (v := (0 : Int32)) dX3_doneAt_18 (by decide) ?_
    refine V.istore (lv' := [(5, .int (0 : Int32)), (4, .int R13), (0, .ref tA), (1, .int x1), (2, .int x2), (3, .int x3)]) dX3_doneAt_19 (by decide) rfl ?_
    refine V.lvs [2, 3, 4, 5, 1, 0] rfl ?_
    exact vX3_doneAt_L21 _ _ _ _ _ _ _ _ _ _ _ _ _ _ _ _ _ _ _ hk4 _ _ _ _ _ _ R h hQ
noncomputable def fX3_doneAt_L4 (F : Nat) (t_placesN : Nat) (t_places : Nat → Int32) (t_tiedN : Nat) (t_tied : Nat → Int32) (t_stepsN : Nat) (t_steps : Nat → Int32)  : Nat → Int32 → Int32 → Int32 → Option (Int32)
  | 0 => fun _ _ _ => none
  | n + 1 => bX3_doneAt_L4 F t_placesN t_places t_tiedN t_tied t_stepsN t_steps (fX3_doneAt_L4 F t_placesN t_places t_tiedN t_tied t_stepsN t_steps  n)
theorem vX3_doneAt_L4 {l : Launch} {D : va_G} {cy : Nat → ClassId} {av : List Value} {ws0 : va_W} {Q : Option Value → va_W → Prop} (F : Nat) (tA : Nat) (t_beforeV : Value) (t_doneV : Value) (t_waysToV : Value) (t_waysFromV : Value) (t_firstsV : Value) (t_ties : Int32) (t_stages : Int32) (t_placesA : Nat) (t_placesN : Nat) (t_places : Nat → Int32) (t_tiedA : Nat) (t_tiedN : Nat) (t_tied : Nat → Int32) (t_stepsA : Nat) (t_stepsN : Nat) (t_steps : Nat → Int32)  : ∀ (n : Nat) (x1 : Int32) (x2 : Int32) (x3 : Int32) (R : Int32), fX3_doneAt_L4 F t_placesN t_places t_tiedN t_tied t_stepsN t_steps  n x1 x2 x3 = some R → Q (some (.int R)) (wX3_doneAt cy tA t_beforeV t_doneV t_waysToV t_waysFromV t_firstsV t_ties t_stages t_placesA t_placesN t_places t_tiedA t_tiedN t_tied t_stepsA t_stepsN t_steps) → V l D cy MX3_doneAt 1 0 0 av ws0 Q 4 [(0, .ref tA), (1, .int x1), (2, .int x2), (3, .int x3)] [] (wX3_doneAt cy tA t_beforeV t_doneV t_waysToV t_waysFromV t_firstsV t_ties t_stages t_placesA t_placesN t_places t_tiedA t_tiedN t_tied t_stepsA t_stepsN t_steps) 0 0 := by
  intro n
  induction n with
  | zero => intro x1 x2 x3 R h; exact vNone h
  | succ n ih => intro x1 x2 x3 R h hQ; exact vbX3_doneAt_L4 F tA t_beforeV t_doneV t_waysToV t_waysFromV t_firstsV t_ties t_stages t_placesA t_placesN t_places t_tiedA t_tiedN t_tied t_stepsA t_stepsN t_steps _ ih x1 x2 x3 R h hQ
noncomputable def fX3_doneAt (F : Nat) (t_placesN : Nat) (t_places : Nat → Int32) (t_tiedN : Nat) (t_tied : Nat → Int32) (t_stepsN : Nat) (t_steps : Nat → Int32) (a1 : Int32) : Option (Int32) :=
  fX3_doneAt_L4 F t_placesN t_places t_tiedN t_tied t_stepsN t_steps F a1 (0 : Int32) (0 : Int32)
theorem CX3_doneAt {l : Launch} {D : va_G} {cy : Nat → ClassId} (F : Nat) (tA : Nat) (t_beforeV : Value) (t_doneV : Value) (t_waysToV : Value) (t_waysFromV : Value) (t_firstsV : Value) (t_ties : Int32) (t_stages : Int32) (t_placesA : Nat) (t_placesN : Nat) (t_places : Nat → Int32) (t_tiedA : Nat) (t_tiedN : Nat) (t_tied : Nat → Int32) (t_stepsA : Nat) (t_stepsN : Nat) (t_steps : Nat → Int32) (a1 : Int32) (R : Int32) (h : fX3_doneAt F t_placesN t_places t_tiedN t_tied t_stepsN t_steps a1 = some R) : vMet l D cy MX3_doneAt 1 0 0 [.ref tA, .int a1] (wX3_doneAt cy tA t_beforeV t_doneV t_waysToV t_waysFromV t_firstsV t_ties t_stages t_placesA t_placesN t_places t_tiedA t_tiedN t_tied t_stepsA t_stepsN t_steps) (fun (r : Option Value) (w : va_W) => r = (some (.int R)) ∧ w = (wX3_doneAt cy tA t_beforeV t_doneV t_waysToV t_waysFromV t_firstsV t_ties t_stages t_placesA t_placesN t_places t_tiedA t_tiedN t_tied t_stepsA t_stepsN t_steps)) := by
  refine vMet.start (by decide +kernel) (Nat.le_of_ble_eq_true rfl) ?_
  generalize hQe : (fun (r : Option Value) (w : va_W) => r = (some (.int R)) ∧ w = (wX3_doneAt cy tA t_beforeV t_doneV t_waysToV t_waysFromV t_firstsV t_ties t_stages t_placesA t_placesN t_places t_tiedA t_tiedN t_tied t_stepsA t_stepsN t_steps)) = Q
  have hQ : Q (some (.int R)) (wX3_doneAt cy tA t_beforeV t_doneV t_waysToV t_waysFromV t_firstsV t_ties t_stages t_placesA t_placesN t_places t_tiedA t_tiedN t_tied t_stepsA t_stepsN t_steps) := by rw [← hQe]; exact ⟨rfl, rfl⟩
  show V l D cy MX3_doneAt 1 0 0 _ _ Q 0 [(0, .ref tA), (1, .int a1)] [] _ 0 0
  show V l D cy MX3_doneAt 1 0 0 [.ref tA, .int a1] _ Q 0 [(0, .ref tA), (1, .int a1)] [] (wX3_doneAt cy tA t_beforeV t_doneV t_waysToV t_waysFromV t_firstsV t_ties t_stages t_placesA t_placesN t_places t_tiedA t_tiedN t_tied t_stepsA t_stepsN t_steps) 0 0
  unfold fX3_doneAt at h
  refine V.iconst (v := (0 : Int32)) dX3_doneAt_0 (by decide) ?_
  refine V.istore_n (lv' := [(2, .int (0 : Int32)), (0, .ref tA), (1, .int a1)]) dX3_doneAt_1 rfl (by decide) rfl ?_
  refine V.iconst (v := (0 : Int32)) dX3_doneAt_2 (by decide) ?_
  refine V.istore_n (lv' := [(3, .int (0 : Int32)), (2, .int (0 : Int32)), (0, .ref tA), (1, .int a1)]) dX3_doneAt_3 rfl (by decide) rfl ?_
  refine V.lvs [2, 3, 1, 0] rfl ?_
  exact vX3_doneAt_L4 _ _ _ _ _ _ _ _ _ _ _ _ _ _ _ _ _ _  _ _ _ _ R h hQ
theorem dX3_countWays_0 : decode cX3_countWays 0 = .ok (.aload_n 0, 1) := by decide +kernel
theorem dX3_countWays_1 : decode cX3_countWays 1 = .ok (.getfield 27, 3) := by decide +kernel
theorem dX3_countWays_4 : decode cX3_countWays 4 = .ok (.lconst 0, 1) := by decide +kernel
theorem dX3_countWays_5 : decode cX3_countWays 5 = .ok (.invokestatic 107, 3) := by decide +kernel
theorem dX3_countWays_8 : decode cX3_countWays 8 = .ok (.aload_n 0, 1) := by decide +kernel
theorem dX3_countWays_9 : decode cX3_countWays 9 = .ok (.getfield 27, 3) := by decide +kernel
theorem dX3_countWays_12 : decode cX3_countWays 12 = .ok (.iconst 0, 1) := by decide +kernel
theorem dX3_countWays_13 : decode cX3_countWays 13 = .ok (.lconst 1, 1) := by decide +kernel
theorem dX3_countWays_14 : decode cX3_countWays 14 = .ok (.lastore, 1) := by decide +kernel
theorem dX3_countWays_15 : decode cX3_countWays 15 = .ok (.iconst 0, 1) := by decide +kernel
theorem dX3_countWays_16 : decode cX3_countWays 16 = .ok (.istore_n 1, 1) := by decide +kernel
theorem dX3_countWays_17 : decode cX3_countWays 17 = .ok (.iload_n 1, 1) := by decide +kernel
theorem dX3_countWays_18 : decode cX3_countWays 18 = .ok (.aload_n 0, 1) := by decide +kernel
theorem dX3_countWays_19 : decode cX3_countWays 19 = .ok (.getfield 92, 3) := by decide +kernel
theorem dX3_countWays_22 : decode cX3_countWays 22 = .ok (.if_icmp .ge 66, 3) := by decide +kernel
theorem dX3_countWays_25 : decode cX3_countWays 25 = .ok (.iconst 0, 1) := by decide +kernel
theorem dX3_countWays_26 : decode cX3_countWays 26 = .ok (.istore_n 2, 1) := by decide +kernel
theorem dX3_countWays_27 : decode cX3_countWays 27 = .ok (.iload_n 2, 1) := by decide +kernel
theorem dX3_countWays_28 : decode cX3_countWays 28 = .ok (.bipush 6, 2) := by decide +kernel
theorem dX3_countWays_30 : decode cX3_countWays 30 = .ok (.if_icmp .ge 52, 3) := by decide +kernel
theorem dX3_countWays_33 : decode cX3_countWays 33 = .ok (.aload_n 0, 1) := by decide +kernel
theorem dX3_countWays_34 : decode cX3_countWays 34 = .ok (.getfield 27, 3) := by decide +kernel
theorem dX3_countWays_37 : decode cX3_countWays 37 = .ok (.iload_n 1, 1) := by decide +kernel
theorem dX3_countWays_38 : decode cX3_countWays 38 = .ok (.laload, 1) := by decide +kernel
theorem dX3_countWays_39 : decode cX3_countWays 39 = .ok (.lconst 0, 1) := by decide +kernel
theorem dX3_countWays_40 : decode cX3_countWays 40 = .ok (.lcmp, 1) := by decide +kernel
theorem dX3_countWays_41 : decode cX3_countWays 41 = .ok (.ifCond .eq 41, 3) := by decide +kernel
theorem dX3_countWays_44 : decode cX3_countWays 44 = .ok (.aload_n 0, 1) := by decide +kernel
theorem dX3_countWays_45 : decode cX3_countWays 45 = .ok (.iload_n 1, 1) := by decide +kernel
theorem dX3_countWays_46 : decode cX3_countWays 46 = .ok (.iload_n 2, 1) := by decide +kernel
theorem dX3_countWays_47 : decode cX3_countWays 47 = .ok (.invokevirtual 110, 3) := by decide +kernel
theorem dX3_countWays_50 : decode cX3_countWays 50 = .ok (.iconst (-1), 1) := by decide +kernel
theorem dX3_countWays_51 : decode cX3_countWays 51 = .ok (.if_icmp .eq 25, 3) := by decide +kernel
theorem dX3_countWays_54 : decode cX3_countWays 54 = .ok (.aload_n 0, 1) := by decide +kernel
theorem dX3_countWays_55 : decode cX3_countWays 55 = .ok (.getfield 27, 3) := by decide +kernel
theorem dX3_countWays_58 : decode cX3_countWays 58 = .ok (.iload_n 1, 1) := by decide +kernel
theorem dX3_countWays_59 : decode cX3_countWays 59 = .ok (.aload_n 0, 1) := by decide +kernel
theorem dX3_countWays_60 : decode cX3_countWays 60 = .ok (.getfield 21, 3) := by decide +kernel
theorem dX3_countWays_63 : decode cX3_countWays 63 = .ok (.iload_n 2, 1) := by decide +kernel
theorem dX3_countWays_64 : decode cX3_countWays 64 = .ok (.iaload, 1) := by decide +kernel
theorem dX3_countWays_65 : decode cX3_countWays 65 = .ok (.iadd, 1) := by decide +kernel
theorem dX3_countWays_66 : decode cX3_countWays 66 = .ok (.dup2, 1) := by decide +kernel
theorem dX3_countWays_67 : decode cX3_countWays 67 = .ok (.laload, 1) := by decide +kernel
theorem dX3_countWays_68 : decode cX3_countWays 68 = .ok (.aload_n 0, 1) := by decide +kernel
theorem dX3_countWays_69 : decode cX3_countWays 69 = .ok (.getfield 27, 3) := by decide +kernel
theorem dX3_countWays_72 : decode cX3_countWays 72 = .ok (.iload_n 1, 1) := by decide +kernel
theorem dX3_countWays_73 : decode cX3_countWays 73 = .ok (.laload, 1) := by decide +kernel
theorem dX3_countWays_74 : decode cX3_countWays 74 = .ok (.ladd, 1) := by decide +kernel
theorem dX3_countWays_75 : decode cX3_countWays 75 = .ok (.lastore, 1) := by decide +kernel
theorem dX3_countWays_76 : decode cX3_countWays 76 = .ok (.iinc 2 1, 3) := by decide +kernel
theorem dX3_countWays_79 : decode cX3_countWays 79 = .ok (.goto (-52), 3) := by decide +kernel
theorem dX3_countWays_82 : decode cX3_countWays 82 = .ok (.iinc 1 1, 3) := by decide +kernel
theorem dX3_countWays_85 : decode cX3_countWays 85 = .ok (.goto (-68), 3) := by decide +kernel
theorem dX3_countWays_88 : decode cX3_countWays 88 = .ok (.return_, 1) := by decide +kernel
def wX3_countWays (cy : Nat → ClassId) (tA : Nat) (t_waysFromV : Value) (t_firstsV : Value) (t_ties : Int32) (t_stages : Int32) (t_beforeA : Nat) (t_beforeN : Nat) (t_before : Nat → Int32) (t_placesA : Nat) (t_placesN : Nat) (t_places : Nat → Int32) (t_tiedA : Nat) (t_tiedN : Nat) (t_tied : Nat → Int32) (t_stepsA : Nat) (t_stepsN : Nat) (t_steps : Nat → Int32) (t_doneA : Nat) (t_doneN : Nat) (t_done : Nat → Int32) (t_waysToA : Nat) (t_waysToN : Nat) (t_waysTo : Nat → Int64) : va_W :=
  [(tA, .inr (3, [.ref t_beforeA, .ref t_placesA, .ref t_tiedA, .ref t_stepsA, .ref t_doneA, .ref t_waysToA, t_waysFromV, t_firstsV, .int t_ties, .int t_stages])), (t_beforeA, .inl (cy 1, t_beforeN, .inl t_before)), (t_placesA, .inl (cy 1, t_placesN, .inl t_places)), (t_tiedA, .inl (cy 1, t_tiedN, .inl t_tied)), (t_stepsA, .inl (cy 1, t_stepsN, .inl t_steps)), (t_doneA, .inl (cy 1, t_doneN, .inl t_done)), (t_waysToA, .inl (cy 2, t_waysToN, .inr (.inl t_waysTo)))]
noncomputable def bX3_countWays_L82 (F : Nat) (t_stages : Int32) (t_beforeN : Nat) (t_before : Nat → Int32) (t_placesN : Nat) (t_places : Nat → Int32) (t_tiedN : Nat) (t_tied : Nat → Int32) (t_stepsN : Nat) (t_steps : Nat → Int32) (t_doneN : Nat) (t_done : Nat → Int32) (t_waysToN : Nat) (k17 : Int32 → (Nat → Int64) → Option ((Nat → Int64))) (x1 : Int32) (t_waysTo : Nat → Int64) : Option ((Nat → Int64)) :=
  k17 (x1 + (1 : Int32)) t_waysTo
theorem vX3_countWays_L82 {l : Launch} {D : va_G} {cy : Nat → ClassId} {av : List Value} {ws0 : va_W} {Q : Option Value → va_W → Prop} (F : Nat) (tA : Nat) (t_waysFromV : Value) (t_firstsV : Value) (t_ties : Int32) (t_stages : Int32) (t_beforeA : Nat) (t_beforeN : Nat) (t_before : Nat → Int32) (t_placesA : Nat) (t_placesN : Nat) (t_places : Nat → Int32) (t_tiedA : Nat) (t_tiedN : Nat) (t_tied : Nat → Int32) (t_stepsA : Nat) (t_stepsN : Nat) (t_steps : Nat → Int32) (t_doneA : Nat) (t_doneN : Nat) (t_done : Nat → Int32) (t_waysToA : Nat) (t_waysToN : Nat) (k17 : Int32 → (Nat → Int64) → Option ((Nat → Int64))) (hk17 : ∀ (x1 : Int32) (t_waysTo : Nat → Int64) (R : (Nat → Int64)), k17 x1 t_waysTo = some R → Q none (wX3_countWays cy tA t_waysFromV t_firstsV t_ties t_stages t_beforeA t_beforeN t_before t_placesA t_placesN t_places t_tiedA t_tiedN t_tied t_stepsA t_stepsN t_steps t_doneA t_doneN t_done t_waysToA t_waysToN R) → V l D cy MX3_countWays 2 0 0 av ws0 Q 17 [(0, .ref tA), (1, .int x1)] [] (wX3_countWays cy tA t_waysFromV t_firstsV t_ties t_stages t_beforeA t_beforeN t_before t_placesA t_placesN t_places t_tiedA t_tiedN t_tied t_stepsA t_stepsN t_steps t_doneA t_doneN t_done t_waysToA t_waysToN t_waysTo) 0 0) (x1 : Int32) (t_waysTo : Nat → Int64) (R : (Nat → Int64)) (h : bX3_countWays_L82 F t_stages t_beforeN t_before t_placesN t_places t_tiedN t_tied t_stepsN t_steps t_doneN t_done t_waysToN k17 x1 t_waysTo = some R) (hQ : Q none (wX3_countWays cy tA t_waysFromV t_firstsV t_ties t_stages t_beforeA t_beforeN t_before t_placesA t_placesN t_places t_tiedA t_tiedN t_tied t_stepsA t_stepsN t_steps t_doneA t_doneN t_done t_waysToA t_waysToN R)) : V l D cy MX3_countWays 2 0 0 av ws0 Q 82 [(0, .ref tA), (1, .int x1)] [] (wX3_countWays cy tA t_waysFromV t_firstsV t_ties t_stages t_beforeA t_beforeN t_before t_placesA t_placesN t_places t_tiedA t_tiedN t_tied t_stepsA t_stepsN t_steps t_doneA t_doneN t_done t_waysToA t_waysToN t_waysTo) 0 0 := by
  unfold bX3_countWays_L82 at h
  refine V.iinc (v := x1 + (1 : Int32)) (lv' := [(1, .int (x1 + (1 : Int32))), (0, .ref tA)]) dX3_countWays_82 1 rfl rfl (by decide) rfl ?_
  refine V.goto (tgt := 17) dX3_countWays_85 (by decide) ?_
  refine V.lvs [1, 0] rfl ?_
  exact hk17 _ _ R h hQ
noncomputable def bX3_countWays_L76 (F : Nat) (t_stages : Int32) (t_beforeN : Nat) (t_before : Nat → Int32) (t_placesN : Nat) (t_places : Nat → Int32) (t_tiedN : Nat) (t_tied : Nat → Int32) (t_stepsN : Nat) (t_steps : Nat → Int32) (t_doneN : Nat) (t_done : Nat → Int32) (t_waysToN : Nat) (k27 : Int32 → Int32 → (Nat → Int64) → Option ((Nat → Int64))) (x1 : Int32) (x2 : Int32) (t_waysTo : Nat → Int64) : Option ((Nat → Int64)) :=
  k27 x1 (x2 + (1 : Int32)) t_waysTo
theorem vX3_countWays_L76 {l : Launch} {D : va_G} {cy : Nat → ClassId} {av : List Value} {ws0 : va_W} {Q : Option Value → va_W → Prop} (F : Nat) (tA : Nat) (t_waysFromV : Value) (t_firstsV : Value) (t_ties : Int32) (t_stages : Int32) (t_beforeA : Nat) (t_beforeN : Nat) (t_before : Nat → Int32) (t_placesA : Nat) (t_placesN : Nat) (t_places : Nat → Int32) (t_tiedA : Nat) (t_tiedN : Nat) (t_tied : Nat → Int32) (t_stepsA : Nat) (t_stepsN : Nat) (t_steps : Nat → Int32) (t_doneA : Nat) (t_doneN : Nat) (t_done : Nat → Int32) (t_waysToA : Nat) (t_waysToN : Nat) (k27 : Int32 → Int32 → (Nat → Int64) → Option ((Nat → Int64))) (hk27 : ∀ (x1 : Int32) (x2 : Int32) (t_waysTo : Nat → Int64) (R : (Nat → Int64)), k27 x1 x2 t_waysTo = some R → Q none (wX3_countWays cy tA t_waysFromV t_firstsV t_ties t_stages t_beforeA t_beforeN t_before t_placesA t_placesN t_places t_tiedA t_tiedN t_tied t_stepsA t_stepsN t_steps t_doneA t_doneN t_done t_waysToA t_waysToN R) → V l D cy MX3_countWays 2 0 0 av ws0 Q 27 [(0, .ref tA), (1, .int x1), (2, .int x2)] [] (wX3_countWays cy tA t_waysFromV t_firstsV t_ties t_stages t_beforeA t_beforeN t_before t_placesA t_placesN t_places t_tiedA t_tiedN t_tied t_stepsA t_stepsN t_steps t_doneA t_doneN t_done t_waysToA t_waysToN t_waysTo) 0 0) (x1 : Int32) (x2 : Int32) (t_waysTo : Nat → Int64) (R : (Nat → Int64)) (h : bX3_countWays_L76 F t_stages t_beforeN t_before t_placesN t_places t_tiedN t_tied t_stepsN t_steps t_doneN t_done t_waysToN k27 x1 x2 t_waysTo = some R) (hQ : Q none (wX3_countWays cy tA t_waysFromV t_firstsV t_ties t_stages t_beforeA t_beforeN t_before t_placesA t_placesN t_places t_tiedA t_tiedN t_tied t_stepsA t_stepsN t_steps t_doneA t_doneN t_done t_waysToA t_waysToN R)) : V l D cy MX3_countWays 2 0 0 av ws0 Q 76 [(0, .ref tA), (1, .int x1), (2, .int x2)] [] (wX3_countWays cy tA t_waysFromV t_firstsV t_ties t_stages t_beforeA t_beforeN t_before t_placesA t_placesN t_places t_tiedA t_tiedN t_tied t_stepsA t_stepsN t_steps t_doneA t_doneN t_done t_waysToA t_waysToN t_waysTo) 0 0 := by
  unfold bX3_countWays_L76 at h
  refine V.iinc (v := x2 + (1 : Int32)) (lv' := [(2, .int (x2 + (1 : Int32))), (0, .ref tA), (1, .int x1)]) dX3_countWays_76 2 rfl rfl (by decide) rfl ?_
  refine V.goto (tgt := 27) dX3_countWays_79 (by decide) ?_
  refine V.lvs [1, 2, 0] rfl ?_
  exact hk27 _ _ _ R h hQ
noncomputable def bX3_countWays_L27 (F : Nat) (t_stages : Int32) (t_beforeN : Nat) (t_before : Nat → Int32) (t_placesN : Nat) (t_places : Nat → Int32) (t_tiedN : Nat) (t_tied : Nat → Int32) (t_stepsN : Nat) (t_steps : Nat → Int32) (t_doneN : Nat) (t_done : Nat → Int32) (t_waysToN : Nat) (k17 : Int32 → (Nat → Int64) → Option ((Nat → Int64))) (k27 : Int32 → Int32 → (Nat → Int64) → Option ((Nat → Int64))) (x1 : Int32) (x2 : Int32) (t_waysTo : Nat → Int64) : Option ((Nat → Int64)) :=
  if (6 : Int32) ≤ x2 then (bX3_countWays_L82 F t_stages t_beforeN t_before t_placesN t_places t_tiedN t_tied t_stepsN t_steps t_doneN t_done t_waysToN k17 x1 t_waysTo) else (if x1 < 0 ∨ t_waysToN ≤ x1.toNatClampNeg then none else (if (lg_cmp (t_waysTo (x1).toNatClampNeg) (0 : Int64)) = 0 then (bX3_countWays_L82 F t_stages t_beforeN t_before t_placesN t_places t_tiedN t_tied t_stepsN t_steps t_doneN t_done t_waysToN k17 x1 t_waysTo) else ((fX3_nextPlace F t_stages t_beforeN t_before t_placesN t_places t_tiedN t_tied t_stepsN t_steps t_doneN t_done x1 x2).bind fun R47 => (if R47 = (-1 : Int32) then (bX3_countWays_L76 F t_stages t_beforeN t_before t_placesN t_places t_tiedN t_tied t_stepsN t_steps t_doneN t_done t_waysToN k27 x1 x2 t_waysTo) else (if x2 < 0 ∨ t_stepsN ≤ x2.toNatClampNeg then none else (if (x1 + (t_steps (x2).toNatClampNeg)) < 0 ∨ t_waysToN ≤ (x1 + (t_steps (x2).toNatClampNeg)).toNatClampNeg then none else (if x1 < 0 ∨ t_waysToN ≤ x1.toNatClampNeg then none else (if (x1 + (t_steps (x2).toNatClampNeg)) < 0 ∨ t_waysToN ≤ (x1 + (t_steps (x2).toNatClampNeg)).toNatClampNeg then none else (bX3_countWays_L76 F t_stages t_beforeN t_before t_placesN t_places t_tiedN t_tied t_stepsN t_steps t_doneN t_done t_waysToN k27 x1 x2 (vp_updL t_waysTo (x1 + (t_steps (x2).toNatClampNeg)).toNatClampNeg ((t_waysTo (x1 + (t_steps (x2).toNatClampNeg)).toNatClampNeg) + (t_waysTo (x1).toNatClampNeg))))))))))))
theorem vbX3_countWays_L27 {l : Launch} {D : va_G} {cy : Nat → ClassId} {av : List Value} {ws0 : va_W} {Q : Option Value → va_W → Prop} (F : Nat) (tA : Nat) (t_waysFromV : Value) (t_firstsV : Value) (t_ties : Int32) (t_stages : Int32) (t_beforeA : Nat) (t_beforeN : Nat) (t_before : Nat → Int32) (t_placesA : Nat) (t_placesN : Nat) (t_places : Nat → Int32) (t_tiedA : Nat) (t_tiedN : Nat) (t_tied : Nat → Int32) (t_stepsA : Nat) (t_stepsN : Nat) (t_steps : Nat → Int32) (t_doneA : Nat) (t_doneN : Nat) (t_done : Nat → Int32) (t_waysToA : Nat) (t_waysToN : Nat) (k17 : Int32 → (Nat → Int64) → Option ((Nat → Int64))) (hk17 : ∀ (x1 : Int32) (t_waysTo : Nat → Int64) (R : (Nat → Int64)), k17 x1 t_waysTo = some R → Q none (wX3_countWays cy tA t_waysFromV t_firstsV t_ties t_stages t_beforeA t_beforeN t_before t_placesA t_placesN t_places t_tiedA t_tiedN t_tied t_stepsA t_stepsN t_steps t_doneA t_doneN t_done t_waysToA t_waysToN R) → V l D cy MX3_countWays 2 0 0 av ws0 Q 17 [(0, .ref tA), (1, .int x1)] [] (wX3_countWays cy tA t_waysFromV t_firstsV t_ties t_stages t_beforeA t_beforeN t_before t_placesA t_placesN t_places t_tiedA t_tiedN t_tied t_stepsA t_stepsN t_steps t_doneA t_doneN t_done t_waysToA t_waysToN t_waysTo) 0 0) (k27 : Int32 → Int32 → (Nat → Int64) → Option ((Nat → Int64))) (hk27 : ∀ (x1 : Int32) (x2 : Int32) (t_waysTo : Nat → Int64) (R : (Nat → Int64)), k27 x1 x2 t_waysTo = some R → Q none (wX3_countWays cy tA t_waysFromV t_firstsV t_ties t_stages t_beforeA t_beforeN t_before t_placesA t_placesN t_places t_tiedA t_tiedN t_tied t_stepsA t_stepsN t_steps t_doneA t_doneN t_done t_waysToA t_waysToN R) → V l D cy MX3_countWays 2 0 0 av ws0 Q 27 [(0, .ref tA), (1, .int x1), (2, .int x2)] [] (wX3_countWays cy tA t_waysFromV t_firstsV t_ties t_stages t_beforeA t_beforeN t_before t_placesA t_placesN t_places t_tiedA t_tiedN t_tied t_stepsA t_stepsN t_steps t_doneA t_doneN t_done t_waysToA t_waysToN t_waysTo) 0 0) (x1 : Int32) (x2 : Int32) (t_waysTo : Nat → Int64) (R : (Nat → Int64)) (h : bX3_countWays_L27 F t_stages t_beforeN t_before t_placesN t_places t_tiedN t_tied t_stepsN t_steps t_doneN t_done t_waysToN k17 k27 x1 x2 t_waysTo = some R) (hQ : Q none (wX3_countWays cy tA t_waysFromV t_firstsV t_ties t_stages t_beforeA t_beforeN t_before t_placesA t_placesN t_places t_tiedA t_tiedN t_tied t_stepsA t_stepsN t_steps t_doneA t_doneN t_done t_waysToA t_waysToN R)) : V l D cy MX3_countWays 2 0 0 av ws0 Q 27 [(0, .ref tA), (1, .int x1), (2, .int x2)] [] (wX3_countWays cy tA t_waysFromV t_firstsV t_ties t_stages t_beforeA t_beforeN t_before t_placesA t_placesN t_places t_tiedA t_tiedN t_tied t_stepsA t_stepsN t_steps t_doneA t_doneN t_done t_waysToA t_waysToN t_waysTo) 0 0 := by
  unfold bX3_countWays_L27 at h
  refine V.iload_n dX3_countWays_27 rfl 2 rfl ?_
  refine V.bipush (v := (6 : Int32)) dX3_countWays_28 (by decide) ?_
  refine V.icmp_ge (tgt := 82) dX3_countWays_30 (by decide) (fun hc30 => ?_) (fun hc30 => ?_)
  · replace h := (if_pos hc30).symm.trans h
    refine V.lvs [0, 1] rfl ?_
    exact vX3_countWays_L82 _ _ _ _ _ _ _ _ _ _ _ _ _ _ _ _ _ _ _ _ _ _ _ _ hk17  _ _ R h hQ
  · replace h := (if_neg hc30).symm.trans h
    refine V.aload_n dX3_countWays_33 rfl 0 rfl ?_
    refine V.get kfX3 0 rfl rfl 5 (by decide) klX3_27 rfl dX3_countWays_34 ?_
    refine V.iload_n dX3_countWays_37 rfl 1 rfl ?_
    by_cases hb38 : x1 < 0 ∨ t_waysToN ≤ x1.toNatClampNeg
    · exact vNone ((if_pos hb38).symm.trans h)
    replace h := (if_neg hb38).symm.trans h
    refine V.lald dX3_countWays_38 6 rfl hb38 ?_
    refine V.lconst (v := (0 : Int64)) dX3_countWays_39 (by decide) ?_
    refine V.lcmp dX3_countWays_40 ?_
    refine V.if_eq (tgt := 82) dX3_countWays_41 (by decide) (fun hc41 => ?_) (fun hc41 => ?_)
    · replace h := (if_pos hc41).symm.trans h
      refine V.lvs [0, 1] rfl ?_
      exact vX3_countWays_L82 _ _ _ _ _ _ _ _ _ _ _ _ _ _ _ _ _ _ _ _ _ _ _ _ hk17  _ _ R h hQ
    · replace h := (if_neg hc41).symm.trans h
      refine V.aload_n dX3_countWays_44 rfl 0 rfl ?_
      refine V.iload_n dX3_countWays_45 rfl 1 rfl ?_
      refine V.iload_n dX3_countWays_46 rfl 2 rfl ?_
      obtain ⟨R47, hg47, h⟩ := Option.bind_eq_some_iff.mp h
      refine V.callV (As := [.int x1, .int x2]) (rest := []) (wc := (wX3_nextPlace cy tA (.ref t_waysToA) t_waysFromV t_firstsV t_ties t_stages t_beforeA t_beforeN t_before t_placesA t_placesN t_places t_tiedA t_tiedN t_tied t_stepsA t_stepsN t_steps t_doneA t_doneN t_done)) (wr := [(t_waysToA, .inl (cy 2, t_waysToN, .inr (.inl t_waysTo)))]) (q0 := 0) (CX3_nextPlace F tA (.ref t_waysToA) t_waysFromV t_firstsV t_ties t_stages t_beforeA t_beforeN t_before t_placesA t_placesN t_places t_tiedA t_tiedN t_tied t_stepsA t_stepsN t_steps t_doneA t_doneN t_done x1 x2 R47 hg47) kvX3_nextPlace klX3_110 [0, 1, 2, 3, 4, 5] [6] rfl rfl (by decide) (by decide) (by decide) rfl rfl rfl rfl dX3_countWays_47 ⟨by decide, by decide, by decide, by decide⟩ (Nat.le_of_ble_eq_true rfl) (fun r w1 hq => ?_)
      obtain ⟨rfl, rfl⟩ := hq
      refine V.cells (ws' := (wX3_countWays cy tA t_waysFromV t_firstsV t_ties t_stages t_beforeA t_beforeN t_before t_placesA t_placesN t_places t_tiedA t_tiedN t_tied t_stepsA t_stepsN t_steps t_doneA t_doneN t_done t_waysToA t_waysToN t_waysTo)) [1, 2, 3, 4, 5, 6, 0] (by decide) rfl ?_
      show V l D cy MX3_countWays 2 0 0 _ _ _ 50 [(0, .ref tA), (1, .int x1), (2, .int x2)] [.int R47] (wX3_countWays cy tA t_waysFromV t_firstsV t_ties t_stages t_beforeA t_beforeN t_before t_placesA t_placesN t_places t_tiedA t_tiedN t_tied t_stepsA t_stepsN t_steps t_doneA t_doneN t_done t_waysToA t_waysToN t_waysTo) 0 0
      refine V.iconst (v := (-1 : Int32)) dX3_countWays_50 (by decide) ?_
      refine V.icmp_eq (tgt := 76) dX3_countWays_51 (by decide) (fun hc51 => ?_) (fun hc51 => ?_)
      · replace h := (if_pos hc51).symm.trans h
        exact vX3_countWays_L76 _ _ _ _ _ _ _ _ _ _ _ _ _ _ _ _ _ _ _ _ _ _ _ _ hk27  _ _ _ R h hQ
      · replace h := (if_neg hc51).symm.trans h
        refine V.aload_n dX3_countWays_54 rfl 0 rfl ?_
        refine V.get kfX3 0 rfl rfl 5 (by decide) klX3_27 rfl dX3_countWays_55 ?_
        refine V.iload_n dX3_countWays_58 rfl 1 rfl ?_
        refine V.aload_n dX3_countWays_59 rfl 0 rfl ?_
        refine V.get kfX3 0 rfl rfl 3 (by decide) klX3_21 rfl dX3_countWays_60 ?_
        refine V.iload_n dX3_countWays_63 rfl 2 rfl ?_
        by_cases hb64 : x2 < 0 ∨ t_stepsN ≤ x2.toNatClampNeg
        · exact vNone ((if_pos hb64).symm.trans h)
        replace h := (if_neg hb64).symm.trans h
        refine V.iald dX3_countWays_64 4 rfl hb64 ?_
        refine V.iadd dX3_countWays_65 ?_
        refine V.dup2 dX3_countWays_66 rfl rfl ?_
        by_cases hb67 : (x1 + (t_steps (x2).toNatClampNeg)) < 0 ∨ t_waysToN ≤ (x1 + (t_steps (x2).toNatClampNeg)).toNatClampNeg
        · exact vNone ((if_pos hb67).symm.trans h)
        replace h := (if_neg hb67).symm.trans h
        refine V.lald dX3_countWays_67 6 rfl hb67 ?_
        refine V.aload_n dX3_countWays_68 rfl 0 rfl ?_
        refine V.get kfX3 0 rfl rfl 5 (by decide) klX3_27 rfl dX3_countWays_69 ?_
        refine V.iload_n dX3_countWays_72 rfl 1 rfl ?_
        by_cases hb73 : x1 < 0 ∨ t_waysToN ≤ x1.toNatClampNeg
        · exact vNone ((if_pos hb73).symm.trans h)
        replace h := (if_neg hb73).symm.trans h
        refine V.lald dX3_countWays_73 6 rfl hb73 ?_
        refine V.ladd dX3_countWays_74 ?_
        by_cases hb75 : (x1 + (t_steps (x2).toNatClampNeg)) < 0 ∨ t_waysToN ≤ (x1 + (t_steps (x2).toNatClampNeg)).toNatClampNeg
        · exact vNone ((if_pos hb75).symm.trans h)
        replace h := (if_neg hb75).symm.trans h
        refine V.last (ws' := (wX3_countWays cy tA t_waysFromV t_firstsV t_ties t_stages t_beforeA t_beforeN t_before t_placesA t_placesN t_places t_tiedA t_tiedN t_tied t_stepsA t_stepsN t_steps t_doneA t_doneN t_done t_waysToA t_waysToN (vp_updL t_waysTo (x1 + (t_steps (x2).toNatClampNeg)).toNatClampNeg ((t_waysTo (x1 + (t_steps (x2).toNatClampNeg)).toNatClampNeg) + (t_waysTo (x1).toNatClampNeg))))) dX3_countWays_75 6 rfl hb75 rfl ?_
        exact vX3_countWays_L76 _ _ _ _ _ _ _ _ _ _ _ _ _ _ _ _ _ _ _ _ _ _ _ _ hk27  _ _ _ R h hQ
noncomputable def fX3_countWays_L27 (F : Nat) (t_stages : Int32) (t_beforeN : Nat) (t_before : Nat → Int32) (t_placesN : Nat) (t_places : Nat → Int32) (t_tiedN : Nat) (t_tied : Nat → Int32) (t_stepsN : Nat) (t_steps : Nat → Int32) (t_doneN : Nat) (t_done : Nat → Int32) (t_waysToN : Nat) (k17 : Int32 → (Nat → Int64) → Option ((Nat → Int64))) : Nat → Int32 → Int32 → (Nat → Int64) → Option ((Nat → Int64))
  | 0 => fun _ _ _ => none
  | n + 1 => bX3_countWays_L27 F t_stages t_beforeN t_before t_placesN t_places t_tiedN t_tied t_stepsN t_steps t_doneN t_done t_waysToN k17 (fX3_countWays_L27 F t_stages t_beforeN t_before t_placesN t_places t_tiedN t_tied t_stepsN t_steps t_doneN t_done t_waysToN k17 n)
theorem vX3_countWays_L27 {l : Launch} {D : va_G} {cy : Nat → ClassId} {av : List Value} {ws0 : va_W} {Q : Option Value → va_W → Prop} (F : Nat) (tA : Nat) (t_waysFromV : Value) (t_firstsV : Value) (t_ties : Int32) (t_stages : Int32) (t_beforeA : Nat) (t_beforeN : Nat) (t_before : Nat → Int32) (t_placesA : Nat) (t_placesN : Nat) (t_places : Nat → Int32) (t_tiedA : Nat) (t_tiedN : Nat) (t_tied : Nat → Int32) (t_stepsA : Nat) (t_stepsN : Nat) (t_steps : Nat → Int32) (t_doneA : Nat) (t_doneN : Nat) (t_done : Nat → Int32) (t_waysToA : Nat) (t_waysToN : Nat) (k17 : Int32 → (Nat → Int64) → Option ((Nat → Int64))) (hk17 : ∀ (x1 : Int32) (t_waysTo : Nat → Int64) (R : (Nat → Int64)), k17 x1 t_waysTo = some R → Q none (wX3_countWays cy tA t_waysFromV t_firstsV t_ties t_stages t_beforeA t_beforeN t_before t_placesA t_placesN t_places t_tiedA t_tiedN t_tied t_stepsA t_stepsN t_steps t_doneA t_doneN t_done t_waysToA t_waysToN R) → V l D cy MX3_countWays 2 0 0 av ws0 Q 17 [(0, .ref tA), (1, .int x1)] [] (wX3_countWays cy tA t_waysFromV t_firstsV t_ties t_stages t_beforeA t_beforeN t_before t_placesA t_placesN t_places t_tiedA t_tiedN t_tied t_stepsA t_stepsN t_steps t_doneA t_doneN t_done t_waysToA t_waysToN t_waysTo) 0 0) : ∀ (n : Nat) (x1 : Int32) (x2 : Int32) (t_waysTo : Nat → Int64) (R : (Nat → Int64)), fX3_countWays_L27 F t_stages t_beforeN t_before t_placesN t_places t_tiedN t_tied t_stepsN t_steps t_doneN t_done t_waysToN k17 n x1 x2 t_waysTo = some R → Q none (wX3_countWays cy tA t_waysFromV t_firstsV t_ties t_stages t_beforeA t_beforeN t_before t_placesA t_placesN t_places t_tiedA t_tiedN t_tied t_stepsA t_stepsN t_steps t_doneA t_doneN t_done t_waysToA t_waysToN R) → V l D cy MX3_countWays 2 0 0 av ws0 Q 27 [(0, .ref tA), (1, .int x1), (2, .int x2)] [] (wX3_countWays cy tA t_waysFromV t_firstsV t_ties t_stages t_beforeA t_beforeN t_before t_placesA t_placesN t_places t_tiedA t_tiedN t_tied t_stepsA t_stepsN t_steps t_doneA t_doneN t_done t_waysToA t_waysToN t_waysTo) 0 0 := by
  intro n
  induction n with
  | zero => intro x1 x2 t_waysTo R h; exact vNone h
  | succ n ih => intro x1 x2 t_waysTo R h hQ; exact vbX3_countWays_L27 F tA t_waysFromV t_firstsV t_ties t_stages t_beforeA t_beforeN t_before t_placesA t_placesN t_places t_tiedA t_tiedN t_tied t_stepsA t_stepsN t_steps t_doneA t_doneN t_done t_waysToA t_waysToN _ hk17 _ ih x1 x2 t_waysTo R h hQ
noncomputable def bX3_countWays_L17 (F : Nat) (t_stages : Int32) (t_beforeN : Nat) (t_before : Nat → Int32) (t_placesN : Nat) (t_places : Nat → Int32) (t_tiedN : Nat) (t_tied : Nat → Int32) (t_stepsN : Nat) (t_steps : Nat → Int32) (t_doneN : Nat) (t_done : Nat → Int32) (t_waysToN : Nat) (k17 : Int32 → (Nat → Int64) → Option ((Nat → Int64))) (x1 : Int32) (t_waysTo : Nat → Int64) : Option ((Nat → Int64)) :=
  if t_stages ≤ x1 then (some t_waysTo) else (fX3_countWays_L27 F t_stages t_beforeN t_before t_placesN t_places t_tiedN t_tied t_stepsN t_steps t_doneN t_done t_waysToN k17 F x1 (0 : Int32) t_waysTo)
theorem vbX3_countWays_L17 {l : Launch} {D : va_G} {cy : Nat → ClassId} {av : List Value} {ws0 : va_W} {Q : Option Value → va_W → Prop} (F : Nat) (tA : Nat) (t_waysFromV : Value) (t_firstsV : Value) (t_ties : Int32) (t_stages : Int32) (t_beforeA : Nat) (t_beforeN : Nat) (t_before : Nat → Int32) (t_placesA : Nat) (t_placesN : Nat) (t_places : Nat → Int32) (t_tiedA : Nat) (t_tiedN : Nat) (t_tied : Nat → Int32) (t_stepsA : Nat) (t_stepsN : Nat) (t_steps : Nat → Int32) (t_doneA : Nat) (t_doneN : Nat) (t_done : Nat → Int32) (t_waysToA : Nat) (t_waysToN : Nat) (k17 : Int32 → (Nat → Int64) → Option ((Nat → Int64))) (hk17 : ∀ (x1 : Int32) (t_waysTo : Nat → Int64) (R : (Nat → Int64)), k17 x1 t_waysTo = some R → Q none (wX3_countWays cy tA t_waysFromV t_firstsV t_ties t_stages t_beforeA t_beforeN t_before t_placesA t_placesN t_places t_tiedA t_tiedN t_tied t_stepsA t_stepsN t_steps t_doneA t_doneN t_done t_waysToA t_waysToN R) → V l D cy MX3_countWays 2 0 0 av ws0 Q 17 [(0, .ref tA), (1, .int x1)] [] (wX3_countWays cy tA t_waysFromV t_firstsV t_ties t_stages t_beforeA t_beforeN t_before t_placesA t_placesN t_places t_tiedA t_tiedN t_tied t_stepsA t_stepsN t_steps t_doneA t_doneN t_done t_waysToA t_waysToN t_waysTo) 0 0) (x1 : Int32) (t_waysTo : Nat → Int64) (R : (Nat → Int64)) (h : bX3_countWays_L17 F t_stages t_beforeN t_before t_placesN t_places t_tiedN t_tied t_stepsN t_steps t_doneN t_done t_waysToN k17 x1 t_waysTo = some R) (hQ : Q none (wX3_countWays cy tA t_waysFromV t_firstsV t_ties t_stages t_beforeA t_beforeN t_before t_placesA t_placesN t_places t_tiedA t_tiedN t_tied t_stepsA t_stepsN t_steps t_doneA t_doneN t_done t_waysToA t_waysToN R)) : V l D cy MX3_countWays 2 0 0 av ws0 Q 17 [(0, .ref tA), (1, .int x1)] [] (wX3_countWays cy tA t_waysFromV t_firstsV t_ties t_stages t_beforeA t_beforeN t_before t_placesA t_placesN t_places t_tiedA t_tiedN t_tied t_stepsA t_stepsN t_steps t_doneA t_doneN t_done t_waysToA t_waysToN t_waysTo) 0 0 := by
  unfold bX3_countWays_L17 at h
  refine V.iload_n dX3_countWays_17 rfl 1 rfl ?_
  refine V.aload_n dX3_countWays_18 rfl 0 rfl ?_
  refine V.get kfX3 0 rfl rfl 9 (by decide) klX3_92 rfl dX3_countWays_19 ?_
  refine V.icmp_ge (tgt := 88) dX3_countWays_22 (by decide) (fun hc22 => ?_) (fun hc22 => ?_)
  · replace h := (if_pos hc22).symm.trans h
    have e9 := Option.some.inj h; subst e9
    exact V.vret rfl dX3_countWays_88 (Nat.le_refl _) (Nat.le_refl _) hQ
  · replace h := (if_neg hc22).symm.trans h
    refine V.iconst (v := (0 : Int32)) dX3_countWays_25 (by decide) ?_
    refine V.istore_n (lv' := [(2, .int (0 : Int32)), (0, .ref tA), (1, .int x1)]) dX3_countWays_26 rfl (by decide) rfl ?_
    refine V.lvs [1, 2, 0] rfl ?_
    exact vX3_countWays_L27 _ _ _ _ _ _ _ _ _ _ _ _ _ _ _ _ _ _ _ _ _ _ _ _ hk17 _ _ _ _ R h hQ
noncomputable def fX3_countWays_L17 (F : Nat) (t_stages : Int32) (t_beforeN : Nat) (t_before : Nat → Int32) (t_placesN : Nat) (t_places : Nat → Int32) (t_tiedN : Nat) (t_tied : Nat → Int32) (t_stepsN : Nat) (t_steps : Nat → Int32) (t_doneN : Nat) (t_done : Nat → Int32) (t_waysToN : Nat)  : Nat → Int32 → (Nat → Int64) → Option ((Nat → Int64))
  | 0 => fun _ _ => none
  | n + 1 => bX3_countWays_L17 F t_stages t_beforeN t_before t_placesN t_places t_tiedN t_tied t_stepsN t_steps t_doneN t_done t_waysToN (fX3_countWays_L17 F t_stages t_beforeN t_before t_placesN t_places t_tiedN t_tied t_stepsN t_steps t_doneN t_done t_waysToN  n)
theorem vX3_countWays_L17 {l : Launch} {D : va_G} {cy : Nat → ClassId} {av : List Value} {ws0 : va_W} {Q : Option Value → va_W → Prop} (F : Nat) (tA : Nat) (t_waysFromV : Value) (t_firstsV : Value) (t_ties : Int32) (t_stages : Int32) (t_beforeA : Nat) (t_beforeN : Nat) (t_before : Nat → Int32) (t_placesA : Nat) (t_placesN : Nat) (t_places : Nat → Int32) (t_tiedA : Nat) (t_tiedN : Nat) (t_tied : Nat → Int32) (t_stepsA : Nat) (t_stepsN : Nat) (t_steps : Nat → Int32) (t_doneA : Nat) (t_doneN : Nat) (t_done : Nat → Int32) (t_waysToA : Nat) (t_waysToN : Nat)  : ∀ (n : Nat) (x1 : Int32) (t_waysTo : Nat → Int64) (R : (Nat → Int64)), fX3_countWays_L17 F t_stages t_beforeN t_before t_placesN t_places t_tiedN t_tied t_stepsN t_steps t_doneN t_done t_waysToN  n x1 t_waysTo = some R → Q none (wX3_countWays cy tA t_waysFromV t_firstsV t_ties t_stages t_beforeA t_beforeN t_before t_placesA t_placesN t_places t_tiedA t_tiedN t_tied t_stepsA t_stepsN t_steps t_doneA t_doneN t_done t_waysToA t_waysToN R) → V l D cy MX3_countWays 2 0 0 av ws0 Q 17 [(0, .ref tA), (1, .int x1)] [] (wX3_countWays cy tA t_waysFromV t_firstsV t_ties t_stages t_beforeA t_beforeN t_before t_placesA t_placesN t_places t_tiedA t_tiedN t_tied t_stepsA t_stepsN t_steps t_doneA t_doneN t_done t_waysToA t_waysToN t_waysTo) 0 0 := by
  intro n
  induction n with
  | zero => intro x1 t_waysTo R h; exact vNone h
  | succ n ih => intro x1 t_waysTo R h hQ; exact vbX3_countWays_L17 F tA t_waysFromV t_firstsV t_ties t_stages t_beforeA t_beforeN t_before t_placesA t_placesN t_places t_tiedA t_tiedN t_tied t_stepsA t_stepsN t_steps t_doneA t_doneN t_done t_waysToA t_waysToN _ ih x1 t_waysTo R h hQ
noncomputable def fX3_countWays (F : Nat) (t_stages : Int32) (t_beforeN : Nat) (t_before : Nat → Int32) (t_placesN : Nat) (t_places : Nat → Int32) (t_tiedN : Nat) (t_tied : Nat → Int32) (t_stepsN : Nat) (t_steps : Nat → Int32) (t_doneN : Nat) (t_done : Nat → Int32) (t_waysToN : Nat) (t_waysTo : Nat → Int64) : Option ((Nat → Int64)) :=
  (fJ7_fill_d0a16 F t_waysToN (0 : Int64) t_waysTo).bind fun R5 => (if (0 : Int32) < 0 ∨ t_waysToN ≤ (0 : Int32).toNatClampNeg then none else (fX3_countWays_L17 F t_stages t_beforeN t_before t_placesN t_places t_tiedN t_tied t_stepsN t_steps t_doneN t_done t_waysToN F (0 : Int32) (vp_updL R5 (0 : Int32).toNatClampNeg (1 : Int64))))
theorem CX3_countWays {l : Launch} {D : va_G} {cy : Nat → ClassId} (F : Nat) (tA : Nat) (t_waysFromV : Value) (t_firstsV : Value) (t_ties : Int32) (t_stages : Int32) (t_beforeA : Nat) (t_beforeN : Nat) (t_before : Nat → Int32) (t_placesA : Nat) (t_placesN : Nat) (t_places : Nat → Int32) (t_tiedA : Nat) (t_tiedN : Nat) (t_tied : Nat → Int32) (t_stepsA : Nat) (t_stepsN : Nat) (t_steps : Nat → Int32) (t_doneA : Nat) (t_doneN : Nat) (t_done : Nat → Int32) (t_waysToA : Nat) (t_waysToN : Nat) (t_waysTo : Nat → Int64) (R : (Nat → Int64)) (h : fX3_countWays F t_stages t_beforeN t_before t_placesN t_places t_tiedN t_tied t_stepsN t_steps t_doneN t_done t_waysToN t_waysTo = some R) : vMet l D cy MX3_countWays 2 0 0 [.ref tA] (wX3_countWays cy tA t_waysFromV t_firstsV t_ties t_stages t_beforeA t_beforeN t_before t_placesA t_placesN t_places t_tiedA t_tiedN t_tied t_stepsA t_stepsN t_steps t_doneA t_doneN t_done t_waysToA t_waysToN t_waysTo) (fun (r : Option Value) (w : va_W) => r = none ∧ w = (wX3_countWays cy tA t_waysFromV t_firstsV t_ties t_stages t_beforeA t_beforeN t_before t_placesA t_placesN t_places t_tiedA t_tiedN t_tied t_stepsA t_stepsN t_steps t_doneA t_doneN t_done t_waysToA t_waysToN R)) := by
  refine vMet.start (by decide +kernel) (Nat.le_of_ble_eq_true rfl) ?_
  generalize hQe : (fun (r : Option Value) (w : va_W) => r = none ∧ w = (wX3_countWays cy tA t_waysFromV t_firstsV t_ties t_stages t_beforeA t_beforeN t_before t_placesA t_placesN t_places t_tiedA t_tiedN t_tied t_stepsA t_stepsN t_steps t_doneA t_doneN t_done t_waysToA t_waysToN R)) = Q
  have hQ : Q none (wX3_countWays cy tA t_waysFromV t_firstsV t_ties t_stages t_beforeA t_beforeN t_before t_placesA t_placesN t_places t_tiedA t_tiedN t_tied t_stepsA t_stepsN t_steps t_doneA t_doneN t_done t_waysToA t_waysToN R) := by rw [← hQe]; exact ⟨rfl, rfl⟩
  show V l D cy MX3_countWays 2 0 0 _ _ Q 0 [(0, .ref tA)] [] _ 0 0
  show V l D cy MX3_countWays 2 0 0 [.ref tA] _ Q 0 [(0, .ref tA)] [] (wX3_countWays cy tA t_waysFromV t_firstsV t_ties t_stages t_beforeA t_beforeN t_before t_placesA t_placesN t_places t_tiedA t_tiedN t_tied t_stepsA t_stepsN t_steps t_doneA t_doneN t_done t_waysToA t_waysToN t_waysTo) 0 0
  unfold fX3_countWays at h
  refine V.aload_n dX3_countWays_0 rfl 0 rfl ?_
  refine V.get kfX3 0 rfl rfl 5 (by decide) klX3_27 rfl dX3_countWays_1 ?_
  refine V.lconst (v := (0 : Int64)) dX3_countWays_4 (by decide) ?_
  obtain ⟨R5, hg5, h⟩ := Option.bind_eq_some_iff.mp h
  refine V.callS (As := [.ref t_waysToA, .long (0 : Int64)]) (rest := []) (wc := (wJ7_fill_d0a16 cy t_waysToA t_waysToN t_waysTo)) (wr := [(tA, .inr (3, [.ref t_beforeA, .ref t_placesA, .ref t_tiedA, .ref t_stepsA, .ref t_doneA, .ref t_waysToA, t_waysFromV, t_firstsV, .int t_ties, .int t_stages])), (t_beforeA, .inl (cy 1, t_beforeN, .inl t_before)), (t_placesA, .inl (cy 1, t_placesN, .inl t_places)), (t_tiedA, .inl (cy 1, t_tiedN, .inl t_tied)), (t_stepsA, .inl (cy 1, t_stepsN, .inl t_steps)), (t_doneA, .inl (cy 1, t_doneN, .inl t_done))]) (CJ7_fill_d0a16 F t_waysToA t_waysToN t_waysTo (0 : Int64) R5 hg5) kvJ7_fill_d0a16 klX3_107 [6] [0, 1, 2, 3, 4, 5] rfl rfl (by decide) (by decide) (by decide) rfl dX3_countWays_5 ⟨by decide, by decide, by decide, by decide⟩ (Nat.le_of_ble_eq_true rfl) (fun r w1 hq => ?_)
  obtain ⟨rfl, rfl⟩ := hq
  refine V.cells (ws' := (wX3_countWays cy tA t_waysFromV t_firstsV t_ties t_stages t_beforeA t_beforeN t_before t_placesA t_placesN t_places t_tiedA t_tiedN t_tied t_stepsA t_stepsN t_steps t_doneA t_doneN t_done t_waysToA t_waysToN R5)) [0, 1, 2, 3, 4, 5, 6] (by decide) rfl ?_
  show V l D cy MX3_countWays 2 0 0 _ _ _ 8 [(0, .ref tA)] [] (wX3_countWays cy tA t_waysFromV t_firstsV t_ties t_stages t_beforeA t_beforeN t_before t_placesA t_placesN t_places t_tiedA t_tiedN t_tied t_stepsA t_stepsN t_steps t_doneA t_doneN t_done t_waysToA t_waysToN R5) 0 0
  refine V.aload_n dX3_countWays_8 rfl 0 rfl ?_
  refine V.get kfX3 0 rfl rfl 5 (by decide) klX3_27 rfl dX3_countWays_9 ?_
  refine V.iconst (v := (0 : Int32)) dX3_countWays_12 (by decide) ?_
  refine V.lconst (v := (1 : Int64)) dX3_countWays_13 (by decide) ?_
  by_cases hb14 : (0 : Int32) < 0 ∨ t_waysToN ≤ (0 : Int32).toNatClampNeg
  · exact vNone ((if_pos hb14).symm.trans h)
  replace h := (if_neg hb14).symm.trans h
  refine V.last (ws' := (wX3_countWays cy tA t_waysFromV t_firstsV t_ties t_stages t_beforeA t_beforeN t_before t_placesA t_placesN t_places t_tiedA t_tiedN t_tied t_stepsA t_stepsN t_steps t_doneA t_doneN t_done t_waysToA t_waysToN (vp_updL R5 (0 : Int32).toNatClampNeg (1 : Int64)))) dX3_countWays_14 6 rfl hb14 rfl ?_
  refine V.iconst (v := (0 : Int32)) dX3_countWays_15 (by decide) ?_
  refine V.istore_n (lv' := [(1, .int (0 : Int32)), (0, .ref tA)]) dX3_countWays_16 rfl (by decide) rfl ?_
  refine V.lvs [1, 0] rfl ?_
  exact vX3_countWays_L17 _ _ _ _ _ _ _ _ _ _ _ _ _ _ _ _ _ _ _ _ _ _ _  _ _ _ R h hQ
theorem dX3_countFirsts_0 : decode cX3_countFirsts 0 = .ok (.aload_n 0, 1) := by decide +kernel
theorem dX3_countFirsts_1 : decode cX3_countFirsts 1 = .ok (.getfield 34, 3) := by decide +kernel
theorem dX3_countFirsts_4 : decode cX3_countFirsts 4 = .ok (.lconst 0, 1) := by decide +kernel
theorem dX3_countFirsts_5 : decode cX3_countFirsts 5 = .ok (.invokestatic 107, 3) := by decide +kernel
theorem dX3_countFirsts_8 : decode cX3_countFirsts 8 = .ok (.iconst 0, 1) := by decide +kernel
theorem dX3_countFirsts_9 : decode cX3_countFirsts 9 = .ok (.istore_n 1, 1) := by decide +kernel
theorem dX3_countFirsts_10 : decode cX3_countFirsts 10 = .ok (.iload_n 1, 1) := by decide +kernel
theorem dX3_countFirsts_11 : decode cX3_countFirsts 11 = .ok (.aload_n 0, 1) := by decide +kernel
theorem dX3_countFirsts_12 : decode cX3_countFirsts 12 = .ok (.getfield 92, 3) := by decide +kernel
theorem dX3_countFirsts_15 : decode cX3_countFirsts 15 = .ok (.if_icmp .ge 77, 3) := by decide +kernel
theorem dX3_countFirsts_18 : decode cX3_countFirsts 18 = .ok (.iconst 0, 1) := by decide +kernel
theorem dX3_countFirsts_19 : decode cX3_countFirsts 19 = .ok (.istore_n 2, 1) := by decide +kernel
theorem dX3_countFirsts_20 : decode cX3_countFirsts 20 = .ok (.iload_n 2, 1) := by decide +kernel
theorem dX3_countFirsts_21 : decode cX3_countFirsts 21 = .ok (.bipush 6, 2) := by decide +kernel
theorem dX3_countFirsts_23 : decode cX3_countFirsts 23 = .ok (.if_icmp .ge 63, 3) := by decide +kernel
theorem dX3_countFirsts_26 : decode cX3_countFirsts 26 = .ok (.aload_n 0, 1) := by decide +kernel
theorem dX3_countFirsts_27 : decode cX3_countFirsts 27 = .ok (.getfield 27, 3) := by decide +kernel
theorem dX3_countFirsts_30 : decode cX3_countFirsts 30 = .ok (.iload_n 1, 1) := by decide +kernel
theorem dX3_countFirsts_31 : decode cX3_countFirsts 31 = .ok (.laload, 1) := by decide +kernel
theorem dX3_countFirsts_32 : decode cX3_countFirsts 32 = .ok (.lconst 0, 1) := by decide +kernel
theorem dX3_countFirsts_33 : decode cX3_countFirsts 33 = .ok (.lcmp, 1) := by decide +kernel
theorem dX3_countFirsts_34 : decode cX3_countFirsts 34 = .ok (.ifCond .eq 52, 3) := by decide +kernel
theorem dX3_countFirsts_37 : decode cX3_countFirsts 37 = .ok (.aload_n 0, 1) := by decide +kernel
theorem dX3_countFirsts_38 : decode cX3_countFirsts 38 = .ok (.iload_n 1, 1) := by decide +kernel
theorem dX3_countFirsts_39 : decode cX3_countFirsts 39 = .ok (.iload_n 2, 1) := by decide +kernel
theorem dX3_countFirsts_40 : decode cX3_countFirsts 40 = .ok (.invokevirtual 110, 3) := by decide +kernel
theorem dX3_countFirsts_43 : decode cX3_countFirsts 43 = .ok (.istore_n 3, 1) := by decide +kernel
theorem dX3_countFirsts_44 : decode cX3_countFirsts 44 = .ok (.iload_n 3, 1) := by decide +kernel
theorem dX3_countFirsts_45 : decode cX3_countFirsts 45 = .ok (.iconst (-1), 1) := by decide +kernel
theorem dX3_countFirsts_46 : decode cX3_countFirsts 46 = .ok (.if_icmp .eq 34, 3) := by decide +kernel
theorem dX3_countFirsts_49 : decode cX3_countFirsts 49 = .ok (.aload_n 0, 1) := by decide +kernel
theorem dX3_countFirsts_50 : decode cX3_countFirsts 50 = .ok (.iload_n 3, 1) := by decide +kernel
theorem dX3_countFirsts_51 : decode cX3_countFirsts 51 = .ok (.aload_n 0, 1) := by decide +kernel
theorem dX3_countFirsts_52 : decode cX3_countFirsts 52 = .ok (.getfield 24, 3) := by decide +kernel
theorem dX3_countFirsts_55 : decode cX3_countFirsts 55 = .ok (.iload_n 1, 1) := by decide +kernel
theorem dX3_countFirsts_56 : decode cX3_countFirsts 56 = .ok (.iaload, 1) := by decide +kernel
theorem dX3_countFirsts_57 : decode cX3_countFirsts 57 = .ok (.aload_n 0, 1) := by decide +kernel
theorem dX3_countFirsts_58 : decode cX3_countFirsts 58 = .ok (.getfield 27, 3) := by decide +kernel
theorem dX3_countFirsts_61 : decode cX3_countFirsts 61 = .ok (.iload_n 1, 1) := by decide +kernel
theorem dX3_countFirsts_62 : decode cX3_countFirsts 62 = .ok (.laload, 1) := by decide +kernel
theorem dX3_countFirsts_63 : decode cX3_countFirsts 63 = .ok (.aload_n 0, 1) := by decide +kernel
theorem dX3_countFirsts_64 : decode cX3_countFirsts 64 = .ok (.getfield 31, 3) := by decide +kernel
theorem dX3_countFirsts_67 : decode cX3_countFirsts 67 = .ok (.iload_n 1, 1) := by decide +kernel
theorem dX3_countFirsts_68 : decode cX3_countFirsts 68 = .ok (.aload_n 0, 1) := by decide +kernel
theorem dX3_countFirsts_69 : decode cX3_countFirsts 69 = .ok (.getfield 21, 3) := by decide +kernel
theorem dX3_countFirsts_72 : decode cX3_countFirsts 72 = .ok (.iload_n 2, 1) := by decide +kernel
theorem dX3_countFirsts_73 : decode cX3_countFirsts 73 = .ok (.iaload, 1) := by decide +kernel
theorem dX3_countFirsts_74 : decode cX3_countFirsts 74 = .ok (.iadd, 1) := by decide +kernel
theorem dX3_countFirsts_75 : decode cX3_countFirsts 75 = .ok (.laload, 1) := by decide +kernel
theorem dX3_countFirsts_76 : decode cX3_countFirsts 76 = .ok (.lmul, 1) := by decide +kernel
theorem dX3_countFirsts_77 : decode cX3_countFirsts 77 = .ok (.invokevirtual 127, 3) := by decide +kernel
theorem dX3_countFirsts_80 : decode cX3_countFirsts 80 = .ok (.iinc 2 1, 3) := by decide +kernel
theorem dX3_countFirsts_83 : decode cX3_countFirsts 83 = .ok (.goto (-63), 3) := by decide +kernel
theorem dX3_countFirsts_86 : decode cX3_countFirsts 86 = .ok (.iinc 1 1, 3) := by decide +kernel
theorem dX3_countFirsts_89 : decode cX3_countFirsts 89 = .ok (.goto (-79), 3) := by decide +kernel
theorem dX3_countFirsts_92 : decode cX3_countFirsts 92 = .ok (.return_, 1) := by decide +kernel
def wX3_countFirsts (cy : Nat → ClassId) (tA : Nat) (t_ties : Int32) (t_stages : Int32) (t_beforeA : Nat) (t_beforeN : Nat) (t_before : Nat → Int32) (t_placesA : Nat) (t_placesN : Nat) (t_places : Nat → Int32) (t_tiedA : Nat) (t_tiedN : Nat) (t_tied : Nat → Int32) (t_stepsA : Nat) (t_stepsN : Nat) (t_steps : Nat → Int32) (t_doneA : Nat) (t_doneN : Nat) (t_done : Nat → Int32) (t_waysToA : Nat) (t_waysToN : Nat) (t_waysTo : Nat → Int64) (t_waysFromA : Nat) (t_waysFromN : Nat) (t_waysFrom : Nat → Int64) (t_firstsA : Nat) (t_firstsN : Nat) (t_firsts : Nat → Int64) : va_W :=
  [(tA, .inr (3, [.ref t_beforeA, .ref t_placesA, .ref t_tiedA, .ref t_stepsA, .ref t_doneA, .ref t_waysToA, .ref t_waysFromA, .ref t_firstsA, .int t_ties, .int t_stages])), (t_beforeA, .inl (cy 1, t_beforeN, .inl t_before)), (t_placesA, .inl (cy 1, t_placesN, .inl t_places)), (t_tiedA, .inl (cy 1, t_tiedN, .inl t_tied)), (t_stepsA, .inl (cy 1, t_stepsN, .inl t_steps)), (t_doneA, .inl (cy 1, t_doneN, .inl t_done)), (t_waysToA, .inl (cy 2, t_waysToN, .inr (.inl t_waysTo))), (t_waysFromA, .inl (cy 2, t_waysFromN, .inr (.inl t_waysFrom))), (t_firstsA, .inl (cy 2, t_firstsN, .inr (.inl t_firsts)))]
noncomputable def bX3_countFirsts_L86 (F : Nat) (t_ties : Int32) (t_stages : Int32) (t_beforeN : Nat) (t_before : Nat → Int32) (t_placesN : Nat) (t_places : Nat → Int32) (t_tiedN : Nat) (t_tied : Nat → Int32) (t_stepsN : Nat) (t_steps : Nat → Int32) (t_doneN : Nat) (t_done : Nat → Int32) (t_waysToN : Nat) (t_waysTo : Nat → Int64) (t_waysFromN : Nat) (t_waysFrom : Nat → Int64) (t_firstsN : Nat) (k10 : Int32 → (Nat → Int64) → Option ((Nat → Int64))) (x1 : Int32) (t_firsts : Nat → Int64) : Option ((Nat → Int64)) :=
  k10 (x1 + (1 : Int32)) t_firsts
theorem vX3_countFirsts_L86 {l : Launch} {D : va_G} {cy : Nat → ClassId} {av : List Value} {ws0 : va_W} {Q : Option Value → va_W → Prop} (F : Nat) (tA : Nat) (t_ties : Int32) (t_stages : Int32) (t_beforeA : Nat) (t_beforeN : Nat) (t_before : Nat → Int32) (t_placesA : Nat) (t_placesN : Nat) (t_places : Nat → Int32) (t_tiedA : Nat) (t_tiedN : Nat) (t_tied : Nat → Int32) (t_stepsA : Nat) (t_stepsN : Nat) (t_steps : Nat → Int32) (t_doneA : Nat) (t_doneN : Nat) (t_done : Nat → Int32) (t_waysToA : Nat) (t_waysToN : Nat) (t_waysTo : Nat → Int64) (t_waysFromA : Nat) (t_waysFromN : Nat) (t_waysFrom : Nat → Int64) (t_firstsA : Nat) (t_firstsN : Nat) (k10 : Int32 → (Nat → Int64) → Option ((Nat → Int64))) (hk10 : ∀ (x1 : Int32) (t_firsts : Nat → Int64) (R : (Nat → Int64)), k10 x1 t_firsts = some R → Q none (wX3_countFirsts cy tA t_ties t_stages t_beforeA t_beforeN t_before t_placesA t_placesN t_places t_tiedA t_tiedN t_tied t_stepsA t_stepsN t_steps t_doneA t_doneN t_done t_waysToA t_waysToN t_waysTo t_waysFromA t_waysFromN t_waysFrom t_firstsA t_firstsN R) → V l D cy MX3_countFirsts 2 0 0 av ws0 Q 10 [(0, .ref tA), (1, .int x1)] [] (wX3_countFirsts cy tA t_ties t_stages t_beforeA t_beforeN t_before t_placesA t_placesN t_places t_tiedA t_tiedN t_tied t_stepsA t_stepsN t_steps t_doneA t_doneN t_done t_waysToA t_waysToN t_waysTo t_waysFromA t_waysFromN t_waysFrom t_firstsA t_firstsN t_firsts) 0 0) (x1 : Int32) (t_firsts : Nat → Int64) (R : (Nat → Int64)) (h : bX3_countFirsts_L86 F t_ties t_stages t_beforeN t_before t_placesN t_places t_tiedN t_tied t_stepsN t_steps t_doneN t_done t_waysToN t_waysTo t_waysFromN t_waysFrom t_firstsN k10 x1 t_firsts = some R) (hQ : Q none (wX3_countFirsts cy tA t_ties t_stages t_beforeA t_beforeN t_before t_placesA t_placesN t_places t_tiedA t_tiedN t_tied t_stepsA t_stepsN t_steps t_doneA t_doneN t_done t_waysToA t_waysToN t_waysTo t_waysFromA t_waysFromN t_waysFrom t_firstsA t_firstsN R)) : V l D cy MX3_countFirsts 2 0 0 av ws0 Q 86 [(0, .ref tA), (1, .int x1)] [] (wX3_countFirsts cy tA t_ties t_stages t_beforeA t_beforeN t_before t_placesA t_placesN t_places t_tiedA t_tiedN t_tied t_stepsA t_stepsN t_steps t_doneA t_doneN t_done t_waysToA t_waysToN t_waysTo t_waysFromA t_waysFromN t_waysFrom t_firstsA t_firstsN t_firsts) 0 0 := by
  unfold bX3_countFirsts_L86 at h
  refine V.iinc (v := x1 + (1 : Int32)) (lv' := [(1, .int (x1 + (1 : Int32))), (0, .ref tA)]) dX3_countFirsts_86 1 rfl rfl (by decide) rfl ?_
  refine V.goto (tgt := 10) dX3_countFirsts_89 (by decide) ?_
  refine V.lvs [1, 0] rfl ?_
  exact hk10 _ _ R h hQ
noncomputable def bX3_countFirsts_L80 (F : Nat) (t_ties : Int32) (t_stages : Int32) (t_beforeN : Nat) (t_before : Nat → Int32) (t_placesN : Nat) (t_places : Nat → Int32) (t_tiedN : Nat) (t_tied : Nat → Int32) (t_stepsN : Nat) (t_steps : Nat → Int32) (t_doneN : Nat) (t_done : Nat → Int32) (t_waysToN : Nat) (t_waysTo : Nat → Int64) (t_waysFromN : Nat) (t_waysFrom : Nat → Int64) (t_firstsN : Nat) (k20 : Int32 → Int32 → (Nat → Int64) → Option ((Nat → Int64))) (x1 : Int32) (x2 : Int32) (t_firsts : Nat → Int64) : Option ((Nat → Int64)) :=
  k20 x1 (x2 + (1 : Int32)) t_firsts
theorem vX3_countFirsts_L80 {l : Launch} {D : va_G} {cy : Nat → ClassId} {av : List Value} {ws0 : va_W} {Q : Option Value → va_W → Prop} (F : Nat) (tA : Nat) (t_ties : Int32) (t_stages : Int32) (t_beforeA : Nat) (t_beforeN : Nat) (t_before : Nat → Int32) (t_placesA : Nat) (t_placesN : Nat) (t_places : Nat → Int32) (t_tiedA : Nat) (t_tiedN : Nat) (t_tied : Nat → Int32) (t_stepsA : Nat) (t_stepsN : Nat) (t_steps : Nat → Int32) (t_doneA : Nat) (t_doneN : Nat) (t_done : Nat → Int32) (t_waysToA : Nat) (t_waysToN : Nat) (t_waysTo : Nat → Int64) (t_waysFromA : Nat) (t_waysFromN : Nat) (t_waysFrom : Nat → Int64) (t_firstsA : Nat) (t_firstsN : Nat) (k20 : Int32 → Int32 → (Nat → Int64) → Option ((Nat → Int64))) (hk20 : ∀ (x1 : Int32) (x2 : Int32) (t_firsts : Nat → Int64) (R : (Nat → Int64)), k20 x1 x2 t_firsts = some R → Q none (wX3_countFirsts cy tA t_ties t_stages t_beforeA t_beforeN t_before t_placesA t_placesN t_places t_tiedA t_tiedN t_tied t_stepsA t_stepsN t_steps t_doneA t_doneN t_done t_waysToA t_waysToN t_waysTo t_waysFromA t_waysFromN t_waysFrom t_firstsA t_firstsN R) → V l D cy MX3_countFirsts 2 0 0 av ws0 Q 20 [(0, .ref tA), (1, .int x1), (2, .int x2)] [] (wX3_countFirsts cy tA t_ties t_stages t_beforeA t_beforeN t_before t_placesA t_placesN t_places t_tiedA t_tiedN t_tied t_stepsA t_stepsN t_steps t_doneA t_doneN t_done t_waysToA t_waysToN t_waysTo t_waysFromA t_waysFromN t_waysFrom t_firstsA t_firstsN t_firsts) 0 0) (x1 : Int32) (x2 : Int32) (t_firsts : Nat → Int64) (R : (Nat → Int64)) (h : bX3_countFirsts_L80 F t_ties t_stages t_beforeN t_before t_placesN t_places t_tiedN t_tied t_stepsN t_steps t_doneN t_done t_waysToN t_waysTo t_waysFromN t_waysFrom t_firstsN k20 x1 x2 t_firsts = some R) (hQ : Q none (wX3_countFirsts cy tA t_ties t_stages t_beforeA t_beforeN t_before t_placesA t_placesN t_places t_tiedA t_tiedN t_tied t_stepsA t_stepsN t_steps t_doneA t_doneN t_done t_waysToA t_waysToN t_waysTo t_waysFromA t_waysFromN t_waysFrom t_firstsA t_firstsN R)) : V l D cy MX3_countFirsts 2 0 0 av ws0 Q 80 [(0, .ref tA), (1, .int x1), (2, .int x2)] [] (wX3_countFirsts cy tA t_ties t_stages t_beforeA t_beforeN t_before t_placesA t_placesN t_places t_tiedA t_tiedN t_tied t_stepsA t_stepsN t_steps t_doneA t_doneN t_done t_waysToA t_waysToN t_waysTo t_waysFromA t_waysFromN t_waysFrom t_firstsA t_firstsN t_firsts) 0 0 := by
  unfold bX3_countFirsts_L80 at h
  refine V.iinc (v := x2 + (1 : Int32)) (lv' := [(2, .int (x2 + (1 : Int32))), (0, .ref tA), (1, .int x1)]) dX3_countFirsts_80 2 rfl rfl (by decide) rfl ?_
  refine V.goto (tgt := 20) dX3_countFirsts_83 (by decide) ?_
  refine V.lvs [1, 2, 0] rfl ?_
  exact hk20 _ _ _ R h hQ
noncomputable def bX3_countFirsts_L20 (F : Nat) (t_ties : Int32) (t_stages : Int32) (t_beforeN : Nat) (t_before : Nat → Int32) (t_placesN : Nat) (t_places : Nat → Int32) (t_tiedN : Nat) (t_tied : Nat → Int32) (t_stepsN : Nat) (t_steps : Nat → Int32) (t_doneN : Nat) (t_done : Nat → Int32) (t_waysToN : Nat) (t_waysTo : Nat → Int64) (t_waysFromN : Nat) (t_waysFrom : Nat → Int64) (t_firstsN : Nat) (k10 : Int32 → (Nat → Int64) → Option ((Nat → Int64))) (k20 : Int32 → Int32 → (Nat → Int64) → Option ((Nat → Int64))) (x1 : Int32) (x2 : Int32) (t_firsts : Nat → Int64) : Option ((Nat → Int64)) :=
  if (6 : Int32) ≤ x2 then (bX3_countFirsts_L86 F t_ties t_stages t_beforeN t_before t_placesN t_places t_tiedN t_tied t_stepsN t_steps t_doneN t_done t_waysToN t_waysTo t_waysFromN t_waysFrom t_firstsN k10 x1 t_firsts) else (if x1 < 0 ∨ t_waysToN ≤ x1.toNatClampNeg then none else (if (lg_cmp (t_waysTo (x1).toNatClampNeg) (0 : Int64)) = 0 then (bX3_countFirsts_L86 F t_ties t_stages t_beforeN t_before t_placesN t_places t_tiedN t_tied t_stepsN t_steps t_doneN t_done t_waysToN t_waysTo t_waysFromN t_waysFrom t_firstsN k10 x1 t_firsts) else ((fX3_nextPlace F t_stages t_beforeN t_before t_placesN t_places t_tiedN t_tied t_stepsN t_steps t_doneN t_done x1 x2).bind fun R40 => (if R40 = (-1 : Int32) then (bX3_countFirsts_L80 F t_ties t_stages t_beforeN t_before t_placesN t_places t_tiedN t_tied t_stepsN t_steps t_doneN t_done t_waysToN t_waysTo t_waysFromN t_waysFrom t_firstsN k20 x1 x2 t_firsts) else (if x1 < 0 ∨ t_doneN ≤ x1.toNatClampNeg then none else (if x1 < 0 ∨ t_waysToN ≤ x1.toNatClampNeg then none else (if x2 < 0 ∨ t_stepsN ≤ x2.toNatClampNeg then none else (if (x1 + (t_steps (x2).toNatClampNeg)) < 0 ∨ t_waysFromN ≤ (x1 + (t_steps (x2).toNatClampNeg)).toNatClampNeg then none else ((fX3_addFirsts F t_ties t_firstsN R40 (t_done (x1).toNatClampNeg) ((t_waysTo (x1).toNatClampNeg) * (t_waysFrom (x1 + (t_steps (x2).toNatClampNeg)).toNatClampNeg)) t_firsts).bind fun R77 => (bX3_countFirsts_L80 F t_ties t_stages t_beforeN t_before t_placesN t_places t_tiedN t_tied t_stepsN t_steps t_doneN t_done t_waysToN t_waysTo t_waysFromN t_waysFrom t_firstsN k20 x1 x2 R77))))))))))
theorem vbX3_countFirsts_L20 {l : Launch} {D : va_G} {cy : Nat → ClassId} {av : List Value} {ws0 : va_W} {Q : Option Value → va_W → Prop} (F : Nat) (tA : Nat) (t_ties : Int32) (t_stages : Int32) (t_beforeA : Nat) (t_beforeN : Nat) (t_before : Nat → Int32) (t_placesA : Nat) (t_placesN : Nat) (t_places : Nat → Int32) (t_tiedA : Nat) (t_tiedN : Nat) (t_tied : Nat → Int32) (t_stepsA : Nat) (t_stepsN : Nat) (t_steps : Nat → Int32) (t_doneA : Nat) (t_doneN : Nat) (t_done : Nat → Int32) (t_waysToA : Nat) (t_waysToN : Nat) (t_waysTo : Nat → Int64) (t_waysFromA : Nat) (t_waysFromN : Nat) (t_waysFrom : Nat → Int64) (t_firstsA : Nat) (t_firstsN : Nat) (k10 : Int32 → (Nat → Int64) → Option ((Nat → Int64))) (hk10 : ∀ (x1 : Int32) (t_firsts : Nat → Int64) (R : (Nat → Int64)), k10 x1 t_firsts = some R → Q none (wX3_countFirsts cy tA t_ties t_stages t_beforeA t_beforeN t_before t_placesA t_placesN t_places t_tiedA t_tiedN t_tied t_stepsA t_stepsN t_steps t_doneA t_doneN t_done t_waysToA t_waysToN t_waysTo t_waysFromA t_waysFromN t_waysFrom t_firstsA t_firstsN R) → V l D cy MX3_countFirsts 2 0 0 av ws0 Q 10 [(0, .ref tA), (1, .int x1)] [] (wX3_countFirsts cy tA t_ties t_stages t_beforeA t_beforeN t_before t_placesA t_placesN t_places t_tiedA t_tiedN t_tied t_stepsA t_stepsN t_steps t_doneA t_doneN t_done t_waysToA t_waysToN t_waysTo t_waysFromA t_waysFromN t_waysFrom t_firstsA t_firstsN t_firsts) 0 0) (k20 : Int32 → Int32 → (Nat → Int64) → Option ((Nat → Int64))) (hk20 : ∀ (x1 : Int32) (x2 : Int32) (t_firsts : Nat → Int64) (R : (Nat → Int64)), k20 x1 x2 t_firsts = some R → Q none (wX3_countFirsts cy tA t_ties t_stages t_beforeA t_beforeN t_before t_placesA t_placesN t_places t_tiedA t_tiedN t_tied t_stepsA t_stepsN t_steps t_doneA t_doneN t_done t_waysToA t_waysToN t_waysTo t_waysFromA t_waysFromN t_waysFrom t_firstsA t_firstsN R) → V l D cy MX3_countFirsts 2 0 0 av ws0 Q 20 [(0, .ref tA), (1, .int x1), (2, .int x2)] [] (wX3_countFirsts cy tA t_ties t_stages t_beforeA t_beforeN t_before t_placesA t_placesN t_places t_tiedA t_tiedN t_tied t_stepsA t_stepsN t_steps t_doneA t_doneN t_done t_waysToA t_waysToN t_waysTo t_waysFromA t_waysFromN t_waysFrom t_firstsA t_firstsN t_firsts) 0 0) (x1 : Int32) (x2 : Int32) (t_firsts : Nat → Int64) (R : (Nat → Int64)) (h : bX3_countFirsts_L20 F t_ties t_stages t_beforeN t_before t_placesN t_places t_tiedN t_tied t_stepsN t_steps t_doneN t_done t_waysToN t_waysTo t_waysFromN t_waysFrom t_firstsN k10 k20 x1 x2 t_firsts = some R) (hQ : Q none (wX3_countFirsts cy tA t_ties t_stages t_beforeA t_beforeN t_before t_placesA t_placesN t_places t_tiedA t_tiedN t_tied t_stepsA t_stepsN t_steps t_doneA t_doneN t_done t_waysToA t_waysToN t_waysTo t_waysFromA t_waysFromN t_waysFrom t_firstsA t_firstsN R)) : V l D cy MX3_countFirsts 2 0 0 av ws0 Q 20 [(0, .ref tA), (1, .int x1), (2, .int x2)] [] (wX3_countFirsts cy tA t_ties t_stages t_beforeA t_beforeN t_before t_placesA t_placesN t_places t_tiedA t_tiedN t_tied t_stepsA t_stepsN t_steps t_doneA t_doneN t_done t_waysToA t_waysToN t_waysTo t_waysFromA t_waysFromN t_waysFrom t_firstsA t_firstsN t_firsts) 0 0 := by
  unfold bX3_countFirsts_L20 at h
  refine V.iload_n dX3_countFirsts_20 rfl 2 rfl ?_
  refine V.bipush (v := (6 : Int32)) dX3_countFirsts_21 (by decide) ?_
  refine V.icmp_ge (tgt := 86) dX3_countFirsts_23 (by decide) (fun hc23 => ?_) (fun hc23 => ?_)
  · replace h := (if_pos hc23).symm.trans h
    refine V.lvs [0, 1] rfl ?_
    exact vX3_countFirsts_L86 _ _ _ _ _ _ _ _ _ _ _ _ _ _ _ _ _ _ _ _ _ _ _ _ _ _ _ _ hk10  _ _ R h hQ
  · replace h := (if_neg hc23).symm.trans h
    refine V.aload_n dX3_countFirsts_26 rfl 0 rfl ?_
    refine V.get kfX3 0 rfl rfl 5 (by decide) klX3_27 rfl dX3_countFirsts_27 ?_
    refine V.iload_n dX3_countFirsts_30 rfl 1 rfl ?_
    by_cases hb31 : x1 < 0 ∨ t_waysToN ≤ x1.toNatClampNeg
    · exact vNone ((if_pos hb31).symm.trans h)
    replace h := (if_neg hb31).symm.trans h
    refine V.lald dX3_countFirsts_31 6 rfl hb31 ?_
    refine V.lconst (v := (0 : Int64)) dX3_countFirsts_32 (by decide) ?_
    refine V.lcmp dX3_countFirsts_33 ?_
    refine V.if_eq (tgt := 86) dX3_countFirsts_34 (by decide) (fun hc34 => ?_) (fun hc34 => ?_)
    · replace h := (if_pos hc34).symm.trans h
      refine V.lvs [0, 1] rfl ?_
      exact vX3_countFirsts_L86 _ _ _ _ _ _ _ _ _ _ _ _ _ _ _ _ _ _ _ _ _ _ _ _ _ _ _ _ hk10  _ _ R h hQ
    · replace h := (if_neg hc34).symm.trans h
      refine V.aload_n dX3_countFirsts_37 rfl 0 rfl ?_
      refine V.iload_n dX3_countFirsts_38 rfl 1 rfl ?_
      refine V.iload_n dX3_countFirsts_39 rfl 2 rfl ?_
      obtain ⟨R40, hg40, h⟩ := Option.bind_eq_some_iff.mp h
      refine V.callV (As := [.int x1, .int x2]) (rest := []) (wc := (wX3_nextPlace cy tA (.ref t_waysToA) (.ref t_waysFromA) (.ref t_firstsA) t_ties t_stages t_beforeA t_beforeN t_before t_placesA t_placesN t_places t_tiedA t_tiedN t_tied t_stepsA t_stepsN t_steps t_doneA t_doneN t_done)) (wr := [(t_waysToA, .inl (cy 2, t_waysToN, .inr (.inl t_waysTo))), (t_waysFromA, .inl (cy 2, t_waysFromN, .inr (.inl t_waysFrom))), (t_firstsA, .inl (cy 2, t_firstsN, .inr (.inl t_firsts)))]) (q0 := 0) (CX3_nextPlace F tA (.ref t_waysToA) (.ref t_waysFromA) (.ref t_firstsA) t_ties t_stages t_beforeA t_beforeN t_before t_placesA t_placesN t_places t_tiedA t_tiedN t_tied t_stepsA t_stepsN t_steps t_doneA t_doneN t_done x1 x2 R40 hg40) kvX3_nextPlace klX3_110 [0, 1, 2, 3, 4, 5] [6, 7, 8] rfl rfl (by decide) (by decide) (by decide) rfl rfl rfl rfl dX3_countFirsts_40 ⟨by decide, by decide, by decide, by decide⟩ (Nat.le_of_ble_eq_true rfl) (fun r w1 hq => ?_)
      obtain ⟨rfl, rfl⟩ := hq
      refine V.cells (ws' := (wX3_countFirsts cy tA t_ties t_stages t_beforeA t_beforeN t_before t_placesA t_placesN t_places t_tiedA t_tiedN t_tied t_stepsA t_stepsN t_steps t_doneA t_doneN t_done t_waysToA t_waysToN t_waysTo t_waysFromA t_waysFromN t_waysFrom t_firstsA t_firstsN t_firsts)) [3, 4, 5, 6, 7, 8, 0, 1, 2] (by decide) rfl ?_
      show V l D cy MX3_countFirsts 2 0 0 _ _ _ 43 [(0, .ref tA), (1, .int x1), (2, .int x2)] [.int R40] (wX3_countFirsts cy tA t_ties t_stages t_beforeA t_beforeN t_before t_placesA t_placesN t_places t_tiedA t_tiedN t_tied t_stepsA t_stepsN t_steps t_doneA t_doneN t_done t_waysToA t_waysToN t_waysTo t_waysFromA t_waysFromN t_waysFrom t_firstsA t_firstsN t_firsts) 0 0
      refine V.istore_n (lv' := [(3, .int R40), (0, .ref tA), (1, .int x1), (2, .int x2)]) dX3_countFirsts_43 rfl (by decide) rfl ?_
      refine V.iload_n dX3_countFirsts_44 rfl 0 rfl ?_
      refine V.iconst (v := (-1 : Int32)) dX3_countFirsts_45 (by decide) ?_
      refine V.icmp_eq (tgt := 80) dX3_countFirsts_46 (by decide) (fun hc46 => ?_) (fun hc46 => ?_)
      · replace h := (if_pos hc46).symm.trans h
        refine V.lvs [1, 2, 3] rfl ?_
        exact vX3_countFirsts_L80 _ _ _ _ _ _ _ _ _ _ _ _ _ _ _ _ _ _ _ _ _ _ _ _ _ _ _ _ hk20  _ _ _ R h hQ
      · replace h := (if_neg hc46).symm.trans h
        refine V.aload_n dX3_countFirsts_49 rfl 1 rfl ?_
        refine V.iload_n dX3_countFirsts_50 rfl 0 rfl ?_
        refine V.aload_n dX3_countFirsts_51 rfl 1 rfl ?_
        refine V.get kfX3 0 rfl rfl 4 (by decide) klX3_24 rfl dX3_countFirsts_52 ?_
        refine V.iload_n dX3_countFirsts_55 rfl 2 rfl ?_
        by_cases hb56 : x1 < 0 ∨ t_doneN ≤ x1.toNatClampNeg
        · exact vNone ((if_pos hb56).symm.trans h)
        replace h := (if_neg hb56).symm.trans h
        refine V.iald dX3_countFirsts_56 5 rfl hb56 ?_
        refine V.aload_n dX3_countFirsts_57 rfl 1 rfl ?_
        refine V.get kfX3 0 rfl rfl 5 (by decide) klX3_27 rfl dX3_countFirsts_58 ?_
        refine V.iload_n dX3_countFirsts_61 rfl 2 rfl ?_
        by_cases hb62 : x1 < 0 ∨ t_waysToN ≤ x1.toNatClampNeg
        · exact vNone ((if_pos hb62).symm.trans h)
        replace h := (if_neg hb62).symm.trans h
        refine V.lald dX3_countFirsts_62 6 rfl hb62 ?_
        refine V.aload_n dX3_countFirsts_63 rfl 1 rfl ?_
        refine V.get kfX3 0 rfl rfl 6 (by decide) klX3_31 rfl dX3_countFirsts_64 ?_
        refine V.iload_n dX3_countFirsts_67 rfl 2 rfl ?_
        refine V.aload_n dX3_countFirsts_68 rfl 1 rfl ?_
        refine V.get kfX3 0 rfl rfl 3 (by decide) klX3_21 rfl dX3_countFirsts_69 ?_
        refine V.iload_n dX3_countFirsts_72 rfl 3 rfl ?_
        by_cases hb73 : x2 < 0 ∨ t_stepsN ≤ x2.toNatClampNeg
        · exact vNone ((if_pos hb73).symm.trans h)
        replace h := (if_neg hb73).symm.trans h
        refine V.iald dX3_countFirsts_73 4 rfl hb73 ?_
        refine V.iadd dX3_countFirsts_74 ?_
        by_cases hb75 : (x1 + (t_steps (x2).toNatClampNeg)) < 0 ∨ t_waysFromN ≤ (x1 + (t_steps (x2).toNatClampNeg)).toNatClampNeg
        · exact vNone ((if_pos hb75).symm.trans h)
        replace h := (if_neg hb75).symm.trans h
        refine V.lald dX3_countFirsts_75 7 rfl hb75 ?_
        refine V.lmul dX3_countFirsts_76 ?_
        obtain ⟨R77, hg77, h⟩ := Option.bind_eq_some_iff.mp h
        refine V.callV (As := [.int R40, .int (t_done (x1).toNatClampNeg), .long ((t_waysTo (x1).toNatClampNeg) * (t_waysFrom (x1 + (t_steps (x2).toNatClampNeg)).toNatClampNeg))]) (rest := []) (wc := (wX3_addFirsts cy tA (.ref t_beforeA) (.ref t_placesA) (.ref t_tiedA) (.ref t_stepsA) (.ref t_doneA) (.ref t_waysToA) (.ref t_waysFromA) t_ties t_stages t_firstsA t_firstsN t_firsts)) (wr := [(t_beforeA, .inl (cy 1, t_beforeN, .inl t_before)), (t_placesA, .inl (cy 1, t_placesN, .inl t_places)), (t_tiedA, .inl (cy 1, t_tiedN, .inl t_tied)), (t_stepsA, .inl (cy 1, t_stepsN, .inl t_steps)), (t_doneA, .inl (cy 1, t_doneN, .inl t_done)), (t_waysToA, .inl (cy 2, t_waysToN, .inr (.inl t_waysTo))), (t_waysFromA, .inl (cy 2, t_waysFromN, .inr (.inl t_waysFrom)))]) (q0 := 0) (CX3_addFirsts F tA (.ref t_beforeA) (.ref t_placesA) (.ref t_tiedA) (.ref t_stepsA) (.ref t_doneA) (.ref t_waysToA) (.ref t_waysFromA) t_ties t_stages t_firstsA t_firstsN t_firsts R40 (t_done (x1).toNatClampNeg) ((t_waysTo (x1).toNatClampNeg) * (t_waysFrom (x1 + (t_steps (x2).toNatClampNeg)).toNatClampNeg)) R77 hg77) kvX3_addFirsts klX3_127 [0, 8] [1, 2, 3, 4, 5, 6, 7] rfl rfl (by decide) (by decide) (by decide) rfl rfl rfl rfl dX3_countFirsts_77 ⟨by decide, by decide, by decide, by decide⟩ (Nat.le_of_ble_eq_true rfl) (fun r w1 hq => ?_)
        obtain ⟨rfl, rfl⟩ := hq
        refine V.cells (ws' := (wX3_countFirsts cy tA t_ties t_stages t_beforeA t_beforeN t_before t_placesA t_placesN t_places t_tiedA t_tiedN t_tied t_stepsA t_stepsN t_steps t_doneA t_doneN t_done t_waysToA t_waysToN t_waysTo t_waysFromA t_waysFromN t_waysFrom t_firstsA t_firstsN R77)) [7, 0, 1, 2, 3, 4, 5, 6, 8] (by decide) rfl ?_
        show V l D cy MX3_countFirsts 2 0 0 _ _ _ 80 [(3, .int R40), (0, .ref tA), (1, .int x1), (2, .int x2)] [] (wX3_countFirsts cy tA t_ties t_stages t_beforeA t_beforeN t_before t_placesA t_placesN t_places t_tiedA t_tiedN t_tied t_stepsA t_stepsN t_steps t_doneA t_doneN t_done t_waysToA t_waysToN t_waysTo t_waysFromA t_waysFromN t_waysFrom t_firstsA t_firstsN R77) 0 0
        refine V.lvs [1, 2, 3] rfl ?_
        exact vX3_countFirsts_L80 _ _ _ _ _ _ _ _ _ _ _ _ _ _ _ _ _ _ _ _ _ _ _ _ _ _ _ _ hk20  _ _ _ R h hQ
noncomputable def fX3_countFirsts_L20 (F : Nat) (t_ties : Int32) (t_stages : Int32) (t_beforeN : Nat) (t_before : Nat → Int32) (t_placesN : Nat) (t_places : Nat → Int32) (t_tiedN : Nat) (t_tied : Nat → Int32) (t_stepsN : Nat) (t_steps : Nat → Int32) (t_doneN : Nat) (t_done : Nat → Int32) (t_waysToN : Nat) (t_waysTo : Nat → Int64) (t_waysFromN : Nat) (t_waysFrom : Nat → Int64) (t_firstsN : Nat) (k10 : Int32 → (Nat → Int64) → Option ((Nat → Int64))) : Nat → Int32 → Int32 → (Nat → Int64) → Option ((Nat → Int64))
  | 0 => fun _ _ _ => none
  | n + 1 => bX3_countFirsts_L20 F t_ties t_stages t_beforeN t_before t_placesN t_places t_tiedN t_tied t_stepsN t_steps t_doneN t_done t_waysToN t_waysTo t_waysFromN t_waysFrom t_firstsN k10 (fX3_countFirsts_L20 F t_ties t_stages t_beforeN t_before t_placesN t_places t_tiedN t_tied t_stepsN t_steps t_doneN t_done t_waysToN t_waysTo t_waysFromN t_waysFrom t_firstsN k10 n)
theorem vX3_countFirsts_L20 {l : Launch} {D : va_G} {cy : Nat → ClassId} {av : List Value} {ws0 : va_W} {Q : Option Value → va_W → Prop} (F : Nat) (tA : Nat) (t_ties : Int32) (t_stages : Int32) (t_beforeA : Nat) (t_beforeN : Nat) (t_before : Nat → Int32) (t_placesA : Nat) (t_placesN : Nat) (t_places : Nat → Int32) (t_tiedA : Nat) (t_tiedN : Nat) (t_tied : Nat → Int32) (t_stepsA : Nat) (t_stepsN : Nat) (t_steps : Nat → Int32) (t_doneA : Nat) (t_doneN : Nat) (t_done : Nat → Int32) (t_waysToA : Nat) (t_waysToN : Nat) (t_waysTo : Nat → Int64) (t_waysFromA : Nat) (t_waysFromN : Nat) (t_waysFrom : Nat → Int64) (t_firstsA : Nat) (t_firstsN : Nat) (k10 : Int32 → (Nat → Int64) → Option ((Nat → Int64))) (hk10 : ∀ (x1 : Int32) (t_firsts : Nat → Int64) (R : (Nat → Int64)), k10 x1 t_firsts = some R → Q none (wX3_countFirsts cy tA t_ties t_stages t_beforeA t_beforeN t_before t_placesA t_placesN t_places t_tiedA t_tiedN t_tied t_stepsA t_stepsN t_steps t_doneA t_doneN t_done t_waysToA t_waysToN t_waysTo t_waysFromA t_waysFromN t_waysFrom t_firstsA t_firstsN R) → V l D cy MX3_countFirsts 2 0 0 av ws0 Q 10 [(0, .ref tA), (1, .int x1)] [] (wX3_countFirsts cy tA t_ties t_stages t_beforeA t_beforeN t_before t_placesA t_placesN t_places t_tiedA t_tiedN t_tied t_stepsA t_stepsN t_steps t_doneA t_doneN t_done t_waysToA t_waysToN t_waysTo t_waysFromA t_waysFromN t_waysFrom t_firstsA t_firstsN t_firsts) 0 0) : ∀ (n : Nat) (x1 : Int32) (x2 : Int32) (t_firsts : Nat → Int64) (R : (Nat → Int64)), fX3_countFirsts_L20 F t_ties t_stages t_beforeN t_before t_placesN t_places t_tiedN t_tied t_stepsN t_steps t_doneN t_done t_waysToN t_waysTo t_waysFromN t_waysFrom t_firstsN k10 n x1 x2 t_firsts = some R → Q none (wX3_countFirsts cy tA t_ties t_stages t_beforeA t_beforeN t_before t_placesA t_placesN t_places t_tiedA t_tiedN t_tied t_stepsA t_stepsN t_steps t_doneA t_doneN t_done t_waysToA t_waysToN t_waysTo t_waysFromA t_waysFromN t_waysFrom t_firstsA t_firstsN R) → V l D cy MX3_countFirsts 2 0 0 av ws0 Q 20 [(0, .ref tA), (1, .int x1), (2, .int x2)] [] (wX3_countFirsts cy tA t_ties t_stages t_beforeA t_beforeN t_before t_placesA t_placesN t_places t_tiedA t_tiedN t_tied t_stepsA t_stepsN t_steps t_doneA t_doneN t_done t_waysToA t_waysToN t_waysTo t_waysFromA t_waysFromN t_waysFrom t_firstsA t_firstsN t_firsts) 0 0 := by
  intro n
  induction n with
  | zero => intro x1 x2 t_firsts R h; exact vNone h
  | succ n ih => intro x1 x2 t_firsts R h hQ; exact vbX3_countFirsts_L20 F tA t_ties t_stages t_beforeA t_beforeN t_before t_placesA t_placesN t_places t_tiedA t_tiedN t_tied t_stepsA t_stepsN t_steps t_doneA t_doneN t_done t_waysToA t_waysToN t_waysTo t_waysFromA t_waysFromN t_waysFrom t_firstsA t_firstsN _ hk10 _ ih x1 x2 t_firsts R h hQ
noncomputable def bX3_countFirsts_L10 (F : Nat) (t_ties : Int32) (t_stages : Int32) (t_beforeN : Nat) (t_before : Nat → Int32) (t_placesN : Nat) (t_places : Nat → Int32) (t_tiedN : Nat) (t_tied : Nat → Int32) (t_stepsN : Nat) (t_steps : Nat → Int32) (t_doneN : Nat) (t_done : Nat → Int32) (t_waysToN : Nat) (t_waysTo : Nat → Int64) (t_waysFromN : Nat) (t_waysFrom : Nat → Int64) (t_firstsN : Nat) (k10 : Int32 → (Nat → Int64) → Option ((Nat → Int64))) (x1 : Int32) (t_firsts : Nat → Int64) : Option ((Nat → Int64)) :=
  if t_stages ≤ x1 then (some t_firsts) else (fX3_countFirsts_L20 F t_ties t_stages t_beforeN t_before t_placesN t_places t_tiedN t_tied t_stepsN t_steps t_doneN t_done t_waysToN t_waysTo t_waysFromN t_waysFrom t_firstsN k10 F x1 (0 : Int32) t_firsts)
theorem vbX3_countFirsts_L10 {l : Launch} {D : va_G} {cy : Nat → ClassId} {av : List Value} {ws0 : va_W} {Q : Option Value → va_W → Prop} (F : Nat) (tA : Nat) (t_ties : Int32) (t_stages : Int32) (t_beforeA : Nat) (t_beforeN : Nat) (t_before : Nat → Int32) (t_placesA : Nat) (t_placesN : Nat) (t_places : Nat → Int32) (t_tiedA : Nat) (t_tiedN : Nat) (t_tied : Nat → Int32) (t_stepsA : Nat) (t_stepsN : Nat) (t_steps : Nat → Int32) (t_doneA : Nat) (t_doneN : Nat) (t_done : Nat → Int32) (t_waysToA : Nat) (t_waysToN : Nat) (t_waysTo : Nat → Int64) (t_waysFromA : Nat) (t_waysFromN : Nat) (t_waysFrom : Nat → Int64) (t_firstsA : Nat) (t_firstsN : Nat) (k10 : Int32 → (Nat → Int64) → Option ((Nat → Int64))) (hk10 : ∀ (x1 : Int32) (t_firsts : Nat → Int64) (R : (Nat → Int64)), k10 x1 t_firsts = some R → Q none (wX3_countFirsts cy tA t_ties t_stages t_beforeA t_beforeN t_before t_placesA t_placesN t_places t_tiedA t_tiedN t_tied t_stepsA t_stepsN t_steps t_doneA t_doneN t_done t_waysToA t_waysToN t_waysTo t_waysFromA t_waysFromN t_waysFrom t_firstsA t_firstsN R) → V l D cy MX3_countFirsts 2 0 0 av ws0 Q 10 [(0, .ref tA), (1, .int x1)] [] (wX3_countFirsts cy tA t_ties t_stages t_beforeA t_beforeN t_before t_placesA t_placesN t_places t_tiedA t_tiedN t_tied t_stepsA t_stepsN t_steps t_doneA t_doneN t_done t_waysToA t_waysToN t_waysTo t_waysFromA t_waysFromN t_waysFrom t_firstsA t_firstsN t_firsts) 0 0) (x1 : Int32) (t_firsts : Nat → Int64) (R : (Nat → Int64)) (h : bX3_countFirsts_L10 F t_ties t_stages t_beforeN t_before t_placesN t_places t_tiedN t_tied t_stepsN t_steps t_doneN t_done t_waysToN t_waysTo t_waysFromN t_waysFrom t_firstsN k10 x1 t_firsts = some R) (hQ : Q none (wX3_countFirsts cy tA t_ties t_stages t_beforeA t_beforeN t_before t_placesA t_placesN t_places t_tiedA t_tiedN t_tied t_stepsA t_stepsN t_steps t_doneA t_doneN t_done t_waysToA t_waysToN t_waysTo t_waysFromA t_waysFromN t_waysFrom t_firstsA t_firstsN R)) : V l D cy MX3_countFirsts 2 0 0 av ws0 Q 10 [(0, .ref tA), (1, .int x1)] [] (wX3_countFirsts cy tA t_ties t_stages t_beforeA t_beforeN t_before t_placesA t_placesN t_places t_tiedA t_tiedN t_tied t_stepsA t_stepsN t_steps t_doneA t_doneN t_done t_waysToA t_waysToN t_waysTo t_waysFromA t_waysFromN t_waysFrom t_firstsA t_firstsN t_firsts) 0 0 := by
  unfold bX3_countFirsts_L10 at h
  refine V.iload_n dX3_countFirsts_10 rfl 1 rfl ?_
  refine V.aload_n dX3_countFirsts_11 rfl 0 rfl ?_
  refine V.get kfX3 0 rfl rfl 9 (by decide) klX3_92 rfl dX3_countFirsts_12 ?_
  refine V.icmp_ge (tgt := 92) dX3_countFirsts_15 (by decide) (fun hc15 => ?_) (fun hc15 => ?_)
  · replace h := (if_pos hc15).symm.trans h
    have e9 := Option.some.inj h; subst e9
    exact V.vret rfl dX3_countFirsts_92 (Nat.le_refl _) (Nat.le_refl _) hQ
  · replace h := (if_neg hc15).symm.trans h
    refine V.iconst (v := (0 : Int32)) dX3_countFirsts_18 (by decide) ?_
    refine V.istore_n (lv' := [(2, .int (0 : Int32)), (0, .ref tA), (1, .int x1)]) dX3_countFirsts_19 rfl (by decide) rfl ?_
    refine V.lvs [1, 2, 0] rfl ?_
    exact vX3_countFirsts_L20 _ _ _ _ _ _ _ _ _ _ _ _ _ _ _ _ _ _ _ _ _ _ _ _ _ _ _ _ hk10 _ _ _ _ R h hQ
noncomputable def fX3_countFirsts_L10 (F : Nat) (t_ties : Int32) (t_stages : Int32) (t_beforeN : Nat) (t_before : Nat → Int32) (t_placesN : Nat) (t_places : Nat → Int32) (t_tiedN : Nat) (t_tied : Nat → Int32) (t_stepsN : Nat) (t_steps : Nat → Int32) (t_doneN : Nat) (t_done : Nat → Int32) (t_waysToN : Nat) (t_waysTo : Nat → Int64) (t_waysFromN : Nat) (t_waysFrom : Nat → Int64) (t_firstsN : Nat)  : Nat → Int32 → (Nat → Int64) → Option ((Nat → Int64))
  | 0 => fun _ _ => none
  | n + 1 => bX3_countFirsts_L10 F t_ties t_stages t_beforeN t_before t_placesN t_places t_tiedN t_tied t_stepsN t_steps t_doneN t_done t_waysToN t_waysTo t_waysFromN t_waysFrom t_firstsN (fX3_countFirsts_L10 F t_ties t_stages t_beforeN t_before t_placesN t_places t_tiedN t_tied t_stepsN t_steps t_doneN t_done t_waysToN t_waysTo t_waysFromN t_waysFrom t_firstsN  n)
theorem vX3_countFirsts_L10 {l : Launch} {D : va_G} {cy : Nat → ClassId} {av : List Value} {ws0 : va_W} {Q : Option Value → va_W → Prop} (F : Nat) (tA : Nat) (t_ties : Int32) (t_stages : Int32) (t_beforeA : Nat) (t_beforeN : Nat) (t_before : Nat → Int32) (t_placesA : Nat) (t_placesN : Nat) (t_places : Nat → Int32) (t_tiedA : Nat) (t_tiedN : Nat) (t_tied : Nat → Int32) (t_stepsA : Nat) (t_stepsN : Nat) (t_steps : Nat → Int32) (t_doneA : Nat) (t_doneN : Nat) (t_done : Nat → Int32) (t_waysToA : Nat) (t_waysToN : Nat) (t_waysTo : Nat → Int64) (t_waysFromA : Nat) (t_waysFromN : Nat) (t_waysFrom : Nat → Int64) (t_firstsA : Nat) (t_firstsN : Nat)  : ∀ (n : Nat) (x1 : Int32) (t_firsts : Nat → Int64) (R : (Nat → Int64)), fX3_countFirsts_L10 F t_ties t_stages t_beforeN t_before t_placesN t_places t_tiedN t_tied t_stepsN t_steps t_doneN t_done t_waysToN t_waysTo t_waysFromN t_waysFrom t_firstsN  n x1 t_firsts = some R → Q none (wX3_countFirsts cy tA t_ties t_stages t_beforeA t_beforeN t_before t_placesA t_placesN t_places t_tiedA t_tiedN t_tied t_stepsA t_stepsN t_steps t_doneA t_doneN t_done t_waysToA t_waysToN t_waysTo t_waysFromA t_waysFromN t_waysFrom t_firstsA t_firstsN R) → V l D cy MX3_countFirsts 2 0 0 av ws0 Q 10 [(0, .ref tA), (1, .int x1)] [] (wX3_countFirsts cy tA t_ties t_stages t_beforeA t_beforeN t_before t_placesA t_placesN t_places t_tiedA t_tiedN t_tied t_stepsA t_stepsN t_steps t_doneA t_doneN t_done t_waysToA t_waysToN t_waysTo t_waysFromA t_waysFromN t_waysFrom t_firstsA t_firstsN t_firsts) 0 0 := by
  intro n
  induction n with
  | zero => intro x1 t_firsts R h; exact vNone h
  | succ n ih => intro x1 t_firsts R h hQ; exact vbX3_countFirsts_L10 F tA t_ties t_stages t_beforeA t_beforeN t_before t_placesA t_placesN t_places t_tiedA t_tiedN t_tied t_stepsA t_stepsN t_steps t_doneA t_doneN t_done t_waysToA t_waysToN t_waysTo t_waysFromA t_waysFromN t_waysFrom t_firstsA t_firstsN _ ih x1 t_firsts R h hQ
noncomputable def fX3_countFirsts (F : Nat) (t_ties : Int32) (t_stages : Int32) (t_beforeN : Nat) (t_before : Nat → Int32) (t_placesN : Nat) (t_places : Nat → Int32) (t_tiedN : Nat) (t_tied : Nat → Int32) (t_stepsN : Nat) (t_steps : Nat → Int32) (t_doneN : Nat) (t_done : Nat → Int32) (t_waysToN : Nat) (t_waysTo : Nat → Int64) (t_waysFromN : Nat) (t_waysFrom : Nat → Int64) (t_firstsN : Nat) (t_firsts : Nat → Int64) : Option ((Nat → Int64)) :=
  (fJ7_fill_d0a16 F t_firstsN (0 : Int64) t_firsts).bind fun R5 => (fX3_countFirsts_L10 F t_ties t_stages t_beforeN t_before t_placesN t_places t_tiedN t_tied t_stepsN t_steps t_doneN t_done t_waysToN t_waysTo t_waysFromN t_waysFrom t_firstsN F (0 : Int32) R5)
theorem CX3_countFirsts {l : Launch} {D : va_G} {cy : Nat → ClassId} (F : Nat) (tA : Nat) (t_ties : Int32) (t_stages : Int32) (t_beforeA : Nat) (t_beforeN : Nat) (t_before : Nat → Int32) (t_placesA : Nat) (t_placesN : Nat) (t_places : Nat → Int32) (t_tiedA : Nat) (t_tiedN : Nat) (t_tied : Nat → Int32) (t_stepsA : Nat) (t_stepsN : Nat) (t_steps : Nat → Int32) (t_doneA : Nat) (t_doneN : Nat) (t_done : Nat → Int32) (t_waysToA : Nat) (t_waysToN : Nat) (t_waysTo : Nat → Int64) (t_waysFromA : Nat) (t_waysFromN : Nat) (t_waysFrom : Nat → Int64) (t_firstsA : Nat) (t_firstsN : Nat) (t_firsts : Nat → Int64) (R : (Nat → Int64)) (h : fX3_countFirsts F t_ties t_stages t_beforeN t_before t_placesN t_places t_tiedN t_tied t_stepsN t_steps t_doneN t_done t_waysToN t_waysTo t_waysFromN t_waysFrom t_firstsN t_firsts = some R) : vMet l D cy MX3_countFirsts 2 0 0 [.ref tA] (wX3_countFirsts cy tA t_ties t_stages t_beforeA t_beforeN t_before t_placesA t_placesN t_places t_tiedA t_tiedN t_tied t_stepsA t_stepsN t_steps t_doneA t_doneN t_done t_waysToA t_waysToN t_waysTo t_waysFromA t_waysFromN t_waysFrom t_firstsA t_firstsN t_firsts) (fun (r : Option Value) (w : va_W) => r = none ∧ w = (wX3_countFirsts cy tA t_ties t_stages t_beforeA t_beforeN t_before t_placesA t_placesN t_places t_tiedA t_tiedN t_tied t_stepsA t_stepsN t_steps t_doneA t_doneN t_done t_waysToA t_waysToN t_waysTo t_waysFromA t_waysFromN t_waysFrom t_firstsA t_firstsN R)) := by
  refine vMet.start (by decide +kernel) (Nat.le_of_ble_eq_true rfl) ?_
  generalize hQe : (fun (r : Option Value) (w : va_W) => r = none ∧ w = (wX3_countFirsts cy tA t_ties t_stages t_beforeA t_beforeN t_before t_placesA t_placesN t_places t_tiedA t_tiedN t_tied t_stepsA t_stepsN t_steps t_doneA t_doneN t_done t_waysToA t_waysToN t_waysTo t_waysFromA t_waysFromN t_waysFrom t_firstsA t_firstsN R)) = Q
  have hQ : Q none (wX3_countFirsts cy tA t_ties t_stages t_beforeA t_beforeN t_before t_placesA t_placesN t_places t_tiedA t_tiedN t_tied t_stepsA t_stepsN t_steps t_doneA t_doneN t_done t_waysToA t_waysToN t_waysTo t_waysFromA t_waysFromN t_waysFrom t_firstsA t_firstsN R) := by rw [← hQe]; exact ⟨rfl, rfl⟩
  show V l D cy MX3_countFirsts 2 0 0 _ _ Q 0 [(0, .ref tA)] [] _ 0 0
  show V l D cy MX3_countFirsts 2 0 0 [.ref tA] _ Q 0 [(0, .ref tA)] [] (wX3_countFirsts cy tA t_ties t_stages t_beforeA t_beforeN t_before t_placesA t_placesN t_places t_tiedA t_tiedN t_tied t_stepsA t_stepsN t_steps t_doneA t_doneN t_done t_waysToA t_waysToN t_waysTo t_waysFromA t_waysFromN t_waysFrom t_firstsA t_firstsN t_firsts) 0 0
  unfold fX3_countFirsts at h
  refine V.aload_n dX3_countFirsts_0 rfl 0 rfl ?_
  refine V.get kfX3 0 rfl rfl 7 (by decide) klX3_34 rfl dX3_countFirsts_1 ?_
  refine V.lconst (v := (0 : Int64)) dX3_countFirsts_4 (by decide) ?_
  obtain ⟨R5, hg5, h⟩ := Option.bind_eq_some_iff.mp h
  refine V.callS (As := [.ref t_firstsA, .long (0 : Int64)]) (rest := []) (wc := (wJ7_fill_d0a16 cy t_firstsA t_firstsN t_firsts)) (wr := [(tA, .inr (3, [.ref t_beforeA, .ref t_placesA, .ref t_tiedA, .ref t_stepsA, .ref t_doneA, .ref t_waysToA, .ref t_waysFromA, .ref t_firstsA, .int t_ties, .int t_stages])), (t_beforeA, .inl (cy 1, t_beforeN, .inl t_before)), (t_placesA, .inl (cy 1, t_placesN, .inl t_places)), (t_tiedA, .inl (cy 1, t_tiedN, .inl t_tied)), (t_stepsA, .inl (cy 1, t_stepsN, .inl t_steps)), (t_doneA, .inl (cy 1, t_doneN, .inl t_done)), (t_waysToA, .inl (cy 2, t_waysToN, .inr (.inl t_waysTo))), (t_waysFromA, .inl (cy 2, t_waysFromN, .inr (.inl t_waysFrom)))]) (CJ7_fill_d0a16 F t_firstsA t_firstsN t_firsts (0 : Int64) R5 hg5) kvJ7_fill_d0a16 klX3_107 [8] [0, 1, 2, 3, 4, 5, 6, 7] rfl rfl (by decide) (by decide) (by decide) rfl dX3_countFirsts_5 ⟨by decide, by decide, by decide, by decide⟩ (Nat.le_of_ble_eq_true rfl) (fun r w1 hq => ?_)
  obtain ⟨rfl, rfl⟩ := hq
  refine V.cells (ws' := (wX3_countFirsts cy tA t_ties t_stages t_beforeA t_beforeN t_before t_placesA t_placesN t_places t_tiedA t_tiedN t_tied t_stepsA t_stepsN t_steps t_doneA t_doneN t_done t_waysToA t_waysToN t_waysTo t_waysFromA t_waysFromN t_waysFrom t_firstsA t_firstsN R5)) [0, 1, 2, 3, 4, 5, 6, 7, 8] (by decide) rfl ?_
  show V l D cy MX3_countFirsts 2 0 0 _ _ _ 8 [(0, .ref tA)] [] (wX3_countFirsts cy tA t_ties t_stages t_beforeA t_beforeN t_before t_placesA t_placesN t_places t_tiedA t_tiedN t_tied t_stepsA t_stepsN t_steps t_doneA t_doneN t_done t_waysToA t_waysToN t_waysTo t_waysFromA t_waysFromN t_waysFrom t_firstsA t_firstsN R5) 0 0
  refine V.iconst (v := (0 : Int32)) dX3_countFirsts_8 (by decide) ?_
  refine V.istore_n (lv' := [(1, .int (0 : Int32)), (0, .ref tA)]) dX3_countFirsts_9 rfl (by decide) rfl ?_
  refine V.lvs [1, 0] rfl ?_
  exact vX3_countFirsts_L10 _ _ _ _ _ _ _ _ _ _ _ _ _ _ _ _ _ _ _ _ _ _ _ _ _ _ _  _ _ _ R h hQ
theorem dX3_layStages_0 : decode cX3_layStages 0 = .ok (.aload_n 0, 1) := by decide +kernel
theorem dX3_layStages_1 : decode cX3_layStages 1 = .ok (.getfield 18, 3) := by decide +kernel
theorem dX3_layStages_4 : decode cX3_layStages 4 = .ok (.iconst 0, 1) := by decide +kernel
theorem dX3_layStages_5 : decode cX3_layStages 5 = .ok (.invokestatic 83, 3) := by decide +kernel
theorem dX3_layStages_8 : decode cX3_layStages 8 = .ok (.iconst 0, 1) := by decide +kernel
theorem dX3_layStages_9 : decode cX3_layStages 9 = .ok (.istore_n 2, 1) := by decide +kernel
theorem dX3_layStages_10 : decode cX3_layStages 10 = .ok (.iload_n 2, 1) := by decide +kernel
theorem dX3_layStages_11 : decode cX3_layStages 11 = .ok (.aload_n 0, 1) := by decide +kernel
theorem dX3_layStages_12 : decode cX3_layStages 12 = .ok (.getfield 49, 3) := by decide +kernel
theorem dX3_layStages_15 : decode cX3_layStages 15 = .ok (.if_icmp .ge 55, 3) := by decide +kernel
theorem dX3_layStages_18 : decode cX3_layStages 18 = .ok (.aload_n 1, 1) := by decide +kernel
theorem dX3_layStages_19 : decode cX3_layStages 19 = .ok (.iload_n 2, 1) := by decide +kernel
theorem dX3_layStages_20 : decode cX3_layStages 20 = .ok (.invokevirtual 89, 3) := by decide +kernel
theorem dX3_layStages_23 : decode cX3_layStages 23 = .ok (.invokestatic 70, 3) := by decide +kernel
theorem dX3_layStages_26 : decode cX3_layStages 26 = .ok (.istore_n 3, 1) := by decide +kernel
theorem dX3_layStages_27 : decode cX3_layStages 27 = .ok (.iload_n 3, 1) := by decide +kernel
theorem dX3_layStages_28 : decode cX3_layStages 28 = .ok (.ifCond .lt 36, 3) := by decide +kernel
theorem dX3_layStages_31 : decode cX3_layStages 31 = .ok (.iload_n 3, 1) := by decide +kernel
theorem dX3_layStages_32 : decode cX3_layStages 32 = .ok (.bipush 6, 2) := by decide +kernel
theorem dX3_layStages_34 : decode cX3_layStages 34 = .ok (.if_icmp .ge 30, 3) := by decide +kernel
theorem dX3_layStages_37 : decode cX3_layStages 37 = .ok (.aload_n 0, 1) := by decide +kernel
theorem dX3_layStages_38 : decode cX3_layStages 38 = .ok (.getfield 15, 3) := by decide +kernel
theorem dX3_layStages_41 : decode cX3_layStages 41 = .ok (.iload_n 3, 1) := by decide +kernel
theorem dX3_layStages_42 : decode cX3_layStages 42 = .ok (.bipush 14, 2) := by decide +kernel
theorem dX3_layStages_44 : decode cX3_layStages 44 = .ok (.imul, 1) := by decide +kernel
theorem dX3_layStages_45 : decode cX3_layStages 45 = .ok (.aload_n 0, 1) := by decide +kernel
theorem dX3_layStages_46 : decode cX3_layStages 46 = .ok (.getfield 18, 3) := by decide +kernel
theorem dX3_layStages_49 : decode cX3_layStages 49 = .ok (.iload_n 3, 1) := by decide +kernel
theorem dX3_layStages_50 : decode cX3_layStages 50 = .ok (.iaload, 1) := by decide +kernel
theorem dX3_layStages_51 : decode cX3_layStages 51 = .ok (.iadd, 1) := by decide +kernel
theorem dX3_layStages_52 : decode cX3_layStages 52 = .ok (.iload_n 2, 1) := by decide +kernel
theorem dX3_layStages_53 : decode cX3_layStages 53 = .ok (.iastore, 1) := by decide +kernel
theorem dX3_layStages_54 : decode cX3_layStages 54 = .ok (.aload_n 0, 1) := by decide +kernel
theorem dX3_layStages_55 : decode cX3_layStages 55 = .ok (.getfield 18, 3) := by decide +kernel
theorem dX3_layStages_58 : decode cX3_layStages 58 = .ok (.iload_n 3, 1) := by decide +kernel
theorem dX3_layStages_59 : decode cX3_layStages 59 = .ok (.dup2, 1) := by decide +kernel
theorem dX3_layStages_60 : decode cX3_layStages 60 = .ok (.iaload, 1) := by decide +kernel
theorem dX3_layStages_61 : decode cX3_layStages 61 = .ok (.iconst 1, 1) := by decide +kernel
theorem dX3_layStages_62 : decode cX3_layStages 62 = .ok (.iadd, 1) := by decide +kernel
theorem dX3_layStages_63 : decode cX3_layStages 63 = .ok (.iastore, 1) := by decide +kernel
theorem dX3_layStages_64 : decode cX3_layStages 64 = .ok (.iinc 2 1, 3) := by decide +kernel
theorem dX3_layStages_67 : decode cX3_layStages 67 = .ok (.goto (-57), 3) := by decide +kernel
theorem dX3_layStages_70 : decode cX3_layStages 70 = .ok (.aload_n 0, 1) := by decide +kernel
theorem dX3_layStages_71 : decode cX3_layStages 71 = .ok (.iconst 1, 1) := by decide +kernel
theorem dX3_layStages_72 : decode cX3_layStages 72 = .ok (.putfield 92, 3) := by decide +kernel
theorem dX3_layStages_75 : decode cX3_layStages 75 = .ok (.iconst 0, 1) := by decide +kernel
theorem dX3_layStages_76 : decode cX3_layStages 76 = .ok (.istore_n 2, 1) := by decide +kernel
theorem dX3_layStages_77 : decode cX3_layStages 77 = .ok (.iload_n 2, 1) := by decide +kernel
theorem dX3_layStages_78 : decode cX3_layStages 78 = .ok (.bipush 6, 2) := by decide +kernel
theorem dX3_layStages_80 : decode cX3_layStages 80 = .ok (.if_icmp .ge 36, 3) := by decide +kernel
theorem dX3_layStages_83 : decode cX3_layStages 83 = .ok (.aload_n 0, 1) := by decide +kernel
theorem dX3_layStages_84 : decode cX3_layStages 84 = .ok (.getfield 21, 3) := by decide +kernel
theorem dX3_layStages_87 : decode cX3_layStages 87 = .ok (.iload_n 2, 1) := by decide +kernel
theorem dX3_layStages_88 : decode cX3_layStages 88 = .ok (.aload_n 0, 1) := by decide +kernel
theorem dX3_layStages_89 : decode cX3_layStages 89 = .ok (.getfield 92, 3) := by decide +kernel
theorem dX3_layStages_92 : decode cX3_layStages 92 = .ok (.iastore, 1) := by decide +kernel
theorem dX3_layStages_93 : decode cX3_layStages 93 = .ok (.aload_n 0, 1) := by decide +kernel
theorem dX3_layStages_94 : decode cX3_layStages 94 = .ok (.dup, 1) := by decide +kernel
theorem dX3_layStages_95 : decode cX3_layStages 95 = .ok (.getfield 92, 3) := by decide +kernel
theorem dX3_layStages_98 : decode cX3_layStages 98 = .ok (.aload_n 0, 1) := by decide +kernel
theorem dX3_layStages_99 : decode cX3_layStages 99 = .ok (.getfield 18, 3) := by decide +kernel
theorem dX3_layStages_102 : decode cX3_layStages 102 = .ok (.iload_n 2, 1) := by decide +kernel
theorem dX3_layStages_103 : decode cX3_layStages 103 = .ok (.iaload, 1) := by decide +kernel
theorem dX3_layStages_104 : decode cX3_layStages 104 = .ok (.iconst 1, 1) := by decide +kernel
theorem dX3_layStages_105 : decode cX3_layStages 105 = .ok (.iadd, 1) := by decide +kernel
theorem dX3_layStages_106 : decode cX3_layStages 106 = .ok (.imul, 1) := by decide +kernel
theorem dX3_layStages_107 : decode cX3_layStages 107 = .ok (.putfield 92, 3) := by decide +kernel
theorem dX3_layStages_110 : decode cX3_layStages 110 = .ok (.iinc 2 1, 3) := by decide +kernel
theorem dX3_layStages_113 : decode cX3_layStages 113 = .ok (.goto (-36), 3) := by decide +kernel
theorem dX3_layStages_116 : decode cX3_layStages 116 = .ok (.aload_n 0, 1) := by decide +kernel
theorem dX3_layStages_117 : decode cX3_layStages 117 = .ok (.aload_n 0, 1) := by decide +kernel
theorem dX3_layStages_118 : decode cX3_layStages 118 = .ok (.getfield 92, 3) := by decide +kernel
theorem dX3_layStages_121 : decode cX3_layStages 121 = .ok (.sipush 1296, 3) := by decide +kernel
theorem dX3_layStages_124 : decode cX3_layStages 124 = .ok (.invokestatic 95, 3) := by decide +kernel
theorem dX3_layStages_127 : decode cX3_layStages 127 = .ok (.putfield 92, 3) := by decide +kernel
theorem dX3_layStages_130 : decode cX3_layStages 130 = .ok (.iconst 0, 1) := by decide +kernel
theorem dX3_layStages_131 : decode cX3_layStages 131 = .ok (.istore_n 2, 1) := by decide +kernel
theorem dX3_layStages_132 : decode cX3_layStages 132 = .ok (.iload_n 2, 1) := by decide +kernel
theorem dX3_layStages_133 : decode cX3_layStages 133 = .ok (.aload_n 0, 1) := by decide +kernel
theorem dX3_layStages_134 : decode cX3_layStages 134 = .ok (.getfield 92, 3) := by decide +kernel
theorem dX3_layStages_137 : decode cX3_layStages 137 = .ok (.if_icmp .ge 20, 3) := by decide +kernel
theorem dX3_layStages_140 : decode cX3_layStages 140 = .ok (.aload_n 0, 1) := by decide +kernel
theorem dX3_layStages_141 : decode cX3_layStages 141 = .ok (.getfield 24, 3) := by decide +kernel
theorem dX3_layStages_144 : decode cX3_layStages 144 = .ok (.iload_n 2, 1) := by decide +kernel
theorem dX3_layStages_145 : decode cX3_layStages 145 = .ok (.aload_n 0, 1) := by decide +kernel
theorem dX3_layStages_146 : decode cX3_layStages 146 = .ok (.iload_n 2, 1) := by decide +kernel
theorem dX3_layStages_147 : decode cX3_layStages 147 = .ok (.invokevirtual 101, 3) := by decide +kernel
theorem dX3_layStages_150 : decode cX3_layStages 150 = .ok (.iastore, 1) := by decide +kernel
theorem dX3_layStages_151 : decode cX3_layStages 151 = .ok (.iinc 2 1, 3) := by decide +kernel
theorem dX3_layStages_154 : decode cX3_layStages 154 = .ok (.goto (-22), 3) := by decide +kernel
theorem dX3_layStages_157 : decode cX3_layStages 157 = .ok (.return_, 1) := by decide +kernel
def wX3_layStages (cy : Nat → ClassId) (tA : Nat) (t_beforeV : Value) (t_waysToV : Value) (t_waysFromV : Value) (t_firstsV : Value) (t_ties : Int32) (t_stages : Int32) (t_placesA : Nat) (t_placesN : Nat) (t_places : Nat → Int32) (t_tiedA : Nat) (t_tiedN : Nat) (t_tied : Nat → Int32) (t_stepsA : Nat) (t_stepsN : Nat) (t_steps : Nat → Int32) (t_doneA : Nat) (t_doneN : Nat) (t_done : Nat → Int32) (p1A : Nat) (p1_size : Int32) (p1_tiesA : Nat) (p1_tiesN : Nat) (p1_ties : Nat → Int32) : va_W :=
  [(tA, .inr (3, [t_beforeV, .ref t_placesA, .ref t_tiedA, .ref t_stepsA, .ref t_doneA, t_waysToV, t_waysFromV, t_firstsV, .int t_ties, .int t_stages])), (t_placesA, .inl (cy 1, t_placesN, .inl t_places)), (t_tiedA, .inl (cy 1, t_tiedN, .inl t_tied)), (t_stepsA, .inl (cy 1, t_stepsN, .inl t_steps)), (t_doneA, .inl (cy 1, t_doneN, .inl t_done)), (p1A, .inr (7, [.ref p1_tiesA, .int p1_size])), (p1_tiesA, .inl (cy 1, p1_tiesN, .inl p1_ties))]
noncomputable def bX3_layStages_L132 (F : Nat) (t_ties : Int32) (t_placesN : Nat) (t_tiedN : Nat) (t_stepsN : Nat) (t_doneN : Nat) (p1_size : Int32) (p1_tiesN : Nat) (p1_ties : Nat → Int32) (k132 : Int32 → Int32 → (Nat → Int32) → (Nat → Int32) → (Nat → Int32) → (Nat → Int32) → Option ((Int32) × (Nat → Int32) × (Nat → Int32) × (Nat → Int32) × (Nat → Int32))) (x2 : Int32) (t_stages : Int32) (t_places : Nat → Int32) (t_tied : Nat → Int32) (t_steps : Nat → Int32) (t_done : Nat → Int32) : Option ((Int32) × (Nat → Int32) × (Nat → Int32) × (Nat → Int32) × (Nat → Int32)) :=
  if t_stages ≤ x2 then (some (t_stages, t_places, t_tied, t_steps, t_done)) else ((fX3_doneAt F t_placesN t_places t_tiedN t_tied t_stepsN t_steps x2).bind fun R147 => (if x2 < 0 ∨ t_doneN ≤ x2.toNatClampNeg then none else (k132 (x2 + (1 : Int32)) t_stages t_places t_tied t_steps (upd t_done x2.toNatClampNeg R147))))
theorem vbX3_layStages_L132 {l : Launch} {D : va_G} {cy : Nat → ClassId} {av : List Value} {ws0 : va_W} {Q : Option Value → va_W → Prop} (F : Nat) (tA : Nat) (t_beforeV : Value) (t_waysToV : Value) (t_waysFromV : Value) (t_firstsV : Value) (t_ties : Int32) (t_placesA : Nat) (t_placesN : Nat) (t_tiedA : Nat) (t_tiedN : Nat) (t_stepsA : Nat) (t_stepsN : Nat) (t_doneA : Nat) (t_doneN : Nat) (p1A : Nat) (p1_size : Int32) (p1_tiesA : Nat) (p1_tiesN : Nat) (p1_ties : Nat → Int32) (k132 : Int32 → Int32 → (Nat → Int32) → (Nat → Int32) → (Nat → Int32) → (Nat → Int32) → Option ((Int32) × (Nat → Int32) × (Nat → Int32) × (Nat → Int32) × (Nat → Int32))) (hk132 : ∀ (x2 : Int32) (t_stages : Int32) (t_places : Nat → Int32) (t_tied : Nat → Int32) (t_steps : Nat → Int32) (t_done : Nat → Int32) (R : (Int32) × (Nat → Int32) × (Nat → Int32) × (Nat → Int32) × (Nat → Int32)), k132 x2 t_stages t_places t_tied t_steps t_done = some R → Q none (wX3_layStages cy tA t_beforeV t_waysToV t_waysFromV t_firstsV t_ties R.1 t_placesA t_placesN R.2.1 t_tiedA t_tiedN R.2.2.1 t_stepsA t_stepsN R.2.2.2.1 t_doneA t_doneN R.2.2.2.2 p1A p1_size p1_tiesA p1_tiesN p1_ties) → V l D cy MX3_layStages 2 0 0 av ws0 Q 132 [(0, .ref tA), (2, .int x2)] [] (wX3_layStages cy tA t_beforeV t_waysToV t_waysFromV t_firstsV t_ties t_stages t_placesA t_placesN t_places t_tiedA t_tiedN t_tied t_stepsA t_stepsN t_steps t_doneA t_doneN t_done p1A p1_size p1_tiesA p1_tiesN p1_ties) 0 0) (x2 : Int32) (t_stages : Int32) (t_places : Nat → Int32) (t_tied : Nat → Int32) (t_steps : Nat → Int32) (t_done : Nat → Int32) (R : (Int32) × (Nat → Int32) × (Nat → Int32) × (Nat → Int32) × (Nat → Int32)) (h : bX3_layStages_L132 F t_ties t_placesN t_tiedN t_stepsN t_doneN p1_size p1_tiesN p1_ties k132 x2 t_stages t_places t_tied t_steps t_done = some R) (hQ : Q none (wX3_layStages cy tA t_beforeV t_waysToV t_waysFromV t_firstsV t_ties R.1 t_placesA t_placesN R.2.1 t_tiedA t_tiedN R.2.2.1 t_stepsA t_stepsN R.2.2.2.1 t_doneA t_doneN R.2.2.2.2 p1A p1_size p1_tiesA p1_tiesN p1_ties)) : V l D cy MX3_layStages 2 0 0 av ws0 Q 132 [(0, .ref tA), (2, .int x2)] [] (wX3_layStages cy tA t_beforeV t_waysToV t_waysFromV t_firstsV t_ties t_stages t_placesA t_placesN t_places t_tiedA t_tiedN t_tied t_stepsA t_stepsN t_steps t_doneA t_doneN t_done p1A p1_size p1_tiesA p1_tiesN p1_ties) 0 0 := by
  unfold bX3_layStages_L132 at h
  refine V.iload_n dX3_layStages_132 rfl 1 rfl ?_
  refine V.aload_n dX3_layStages_133 rfl 0 rfl ?_
  refine V.get kfX3 0 rfl rfl 9 (by decide) klX3_92 rfl dX3_layStages_134 ?_
  refine V.icmp_ge (tgt := 157) dX3_layStages_137 (by decide) (fun hc137 => ?_) (fun hc137 => ?_)
  · replace h := (if_pos hc137).symm.trans h
    have e9 := Option.some.inj h; subst e9
    exact V.vret rfl dX3_layStages_157 (Nat.le_refl _) (Nat.le_refl _) hQ
  · replace h := (if_neg hc137).symm.trans h
    refine V.aload_n dX3_layStages_140 rfl 0 rfl ?_
    refine V.get kfX3 0 rfl rfl 4 (by decide) klX3_24 rfl dX3_layStages_141 ?_
    refine V.iload_n dX3_layStages_144 rfl 1 rfl ?_
    refine V.aload_n dX3_layStages_145 rfl 0 rfl ?_
    refine V.iload_n dX3_layStages_146 rfl 1 rfl ?_
    obtain ⟨R147, hg147, h⟩ := Option.bind_eq_some_iff.mp h
    refine V.callV (As := [.int x2]) (rest := [.int x2, .ref t_doneA]) (wc := (wX3_doneAt cy tA t_beforeV (.ref t_doneA) t_waysToV t_waysFromV t_firstsV t_ties t_stages t_placesA t_placesN t_places t_tiedA t_tiedN t_tied t_stepsA t_stepsN t_steps)) (wr := [(t_doneA, .inl (cy 1, t_doneN, .inl t_done)), (p1A, .inr (7, [.ref p1_tiesA, .int p1_size])), (p1_tiesA, .inl (cy 1, p1_tiesN, .inl p1_ties))]) (q0 := 0) (CX3_doneAt F tA t_beforeV (.ref t_doneA) t_waysToV t_waysFromV t_firstsV t_ties t_stages t_placesA t_placesN t_places t_tiedA t_tiedN t_tied t_stepsA t_stepsN t_steps x2 R147 hg147) kvX3_doneAt klX3_101 [0, 1, 2, 3] [4, 5, 6] rfl rfl (by decide) (by decide) (by decide) rfl rfl rfl rfl dX3_layStages_147 ⟨by decide, by decide, by decide, by decide⟩ (Nat.le_of_ble_eq_true rfl) (fun r w1 hq => ?_)
    obtain ⟨rfl, rfl⟩ := hq
    refine V.cells (ws' := (wX3_layStages cy tA t_beforeV t_waysToV t_waysFromV t_firstsV t_ties t_stages t_placesA t_placesN t_places t_tiedA t_tiedN t_tied t_stepsA t_stepsN t_steps t_doneA t_doneN t_done p1A p1_size p1_tiesA p1_tiesN p1_ties)) [3, 4, 5, 6, 0, 1, 2] (by decide) rfl ?_
    show V l D cy MX3_layStages 2 0 0 _ _ _ 150 [(0, .ref tA), (2, .int x2)] [.int R147, .int x2, .ref t_doneA] (wX3_layStages cy tA t_beforeV t_waysToV t_waysFromV t_firstsV t_ties t_stages t_placesA t_placesN t_places t_tiedA t_tiedN t_tied t_stepsA t_stepsN t_steps t_doneA t_doneN t_done p1A p1_size p1_tiesA p1_tiesN p1_ties) 0 0
    by_cases hb150 : x2 < 0 ∨ t_doneN ≤ x2.toNatClampNeg
    · exact vNone ((if_pos hb150).symm.trans h)
    replace h := (if_neg hb150).symm.trans h
    refine V.iast (ws' := (wX3_layStages cy tA t_beforeV t_waysToV t_waysFromV t_firstsV t_ties t_stages t_placesA t_placesN t_places t_tiedA t_tiedN t_tied t_stepsA t_stepsN t_steps t_doneA t_doneN (upd t_done x2.toNatClampNeg R147) p1A p1_size p1_tiesA p1_tiesN p1_ties)) dX3_layStages_150 4 rfl hb150 rfl ?_
    refine V.iinc (v := x2 + (1 : Int32)) (lv' := [(2, .int (x2 + (1 : Int32))), (0, .ref tA)]) dX3_layStages_151 1 rfl rfl (by decide) rfl ?_
    refine V.goto (tgt := 132) dX3_layStages_154 (by decide) ?_
    refine V.lvs [1, 0] rfl ?_
    exact hk132 _ _ _ _ _ _ R h hQ
noncomputable def fX3_layStages_L132 (F : Nat) (t_ties : Int32) (t_placesN : Nat) (t_tiedN : Nat) (t_stepsN : Nat) (t_doneN : Nat) (p1_size : Int32) (p1_tiesN : Nat) (p1_ties : Nat → Int32)  : Nat → Int32 → Int32 → (Nat → Int32) → (Nat → Int32) → (Nat → Int32) → (Nat → Int32) → Option ((Int32) × (Nat → Int32) × (Nat → Int32) × (Nat → Int32) × (Nat → Int32))
  | 0 => fun _ _ _ _ _ _ => none
  | n + 1 => bX3_layStages_L132 F t_ties t_placesN t_tiedN t_stepsN t_doneN p1_size p1_tiesN p1_ties (fX3_layStages_L132 F t_ties t_placesN t_tiedN t_stepsN t_doneN p1_size p1_tiesN p1_ties  n)
theorem vX3_layStages_L132 {l : Launch} {D : va_G} {cy : Nat → ClassId} {av : List Value} {ws0 : va_W} {Q : Option Value → va_W → Prop} (F : Nat) (tA : Nat) (t_beforeV : Value) (t_waysToV : Value) (t_waysFromV : Value) (t_firstsV : Value) (t_ties : Int32) (t_placesA : Nat) (t_placesN : Nat) (t_tiedA : Nat) (t_tiedN : Nat) (t_stepsA : Nat) (t_stepsN : Nat) (t_doneA : Nat) (t_doneN : Nat) (p1A : Nat) (p1_size : Int32) (p1_tiesA : Nat) (p1_tiesN : Nat) (p1_ties : Nat → Int32)  : ∀ (n : Nat) (x2 : Int32) (t_stages : Int32) (t_places : Nat → Int32) (t_tied : Nat → Int32) (t_steps : Nat → Int32) (t_done : Nat → Int32) (R : (Int32) × (Nat → Int32) × (Nat → Int32) × (Nat → Int32) × (Nat → Int32)), fX3_layStages_L132 F t_ties t_placesN t_tiedN t_stepsN t_doneN p1_size p1_tiesN p1_ties  n x2 t_stages t_places t_tied t_steps t_done = some R → Q none (wX3_layStages cy tA t_beforeV t_waysToV t_waysFromV t_firstsV t_ties R.1 t_placesA t_placesN R.2.1 t_tiedA t_tiedN R.2.2.1 t_stepsA t_stepsN R.2.2.2.1 t_doneA t_doneN R.2.2.2.2 p1A p1_size p1_tiesA p1_tiesN p1_ties) → V l D cy MX3_layStages 2 0 0 av ws0 Q 132 [(0, .ref tA), (2, .int x2)] [] (wX3_layStages cy tA t_beforeV t_waysToV t_waysFromV t_firstsV t_ties t_stages t_placesA t_placesN t_places t_tiedA t_tiedN t_tied t_stepsA t_stepsN t_steps t_doneA t_doneN t_done p1A p1_size p1_tiesA p1_tiesN p1_ties) 0 0 := by
  intro n
  induction n with
  | zero => intro x2 t_stages t_places t_tied t_steps t_done R h; exact vNone h
  | succ n ih => intro x2 t_stages t_places t_tied t_steps t_done R h hQ; exact vbX3_layStages_L132 F tA t_beforeV t_waysToV t_waysFromV t_firstsV t_ties t_placesA t_placesN t_tiedA t_tiedN t_stepsA t_stepsN t_doneA t_doneN p1A p1_size p1_tiesA p1_tiesN p1_ties _ ih x2 t_stages t_places t_tied t_steps t_done R h hQ
noncomputable def bX3_layStages_L77 (F : Nat) (t_ties : Int32) (t_placesN : Nat) (t_tiedN : Nat) (t_stepsN : Nat) (t_doneN : Nat) (p1_size : Int32) (p1_tiesN : Nat) (p1_ties : Nat → Int32) (k77 : Int32 → Int32 → (Nat → Int32) → (Nat → Int32) → (Nat → Int32) → (Nat → Int32) → Option ((Int32) × (Nat → Int32) × (Nat → Int32) × (Nat → Int32) × (Nat → Int32))) (x2 : Int32) (t_stages : Int32) (t_places : Nat → Int32) (t_tied : Nat → Int32) (t_steps : Nat → Int32) (t_done : Nat → Int32) : Option ((Int32) × (Nat → Int32) × (Nat → Int32) × (Nat → Int32) × (Nat → Int32)) :=
  if (6 : Int32) ≤ x2 then (fX3_layStages_L132 F t_ties t_placesN t_tiedN t_stepsN t_doneN p1_size p1_tiesN p1_ties F (0 : Int32) (if (1296 : Int32) < t_stages then (1296 : Int32) else t_stages) t_places t_tied t_steps t_done) else (if x2 < 0 ∨ t_stepsN ≤ x2.toNatClampNeg then none else (if x2 < 0 ∨ t_tiedN ≤ x2.toNatClampNeg then none else (k77 (x2 + (1 : Int32)) (t_stages * ((t_tied (x2).toNatClampNeg) + (1 : Int32))) t_places t_tied (upd t_steps x2.toNatClampNeg t_stages) t_done)))
theorem vbX3_layStages_L77 {l : Launch} {D : va_G} {cy : Nat → ClassId} {av : List Value} {ws0 : va_W} {Q : Option Value → va_W → Prop} (F : Nat) (tA : Nat) (t_beforeV : Value) (t_waysToV : Value) (t_waysFromV : Value) (t_firstsV : Value) (t_ties : Int32) (t_placesA : Nat) (t_placesN : Nat) (t_tiedA : Nat) (t_tiedN : Nat) (t_stepsA : Nat) (t_stepsN : Nat) (t_doneA : Nat) (t_doneN : Nat) (p1A : Nat) (p1_size : Int32) (p1_tiesA : Nat) (p1_tiesN : Nat) (p1_ties : Nat → Int32) (k77 : Int32 → Int32 → (Nat → Int32) → (Nat → Int32) → (Nat → Int32) → (Nat → Int32) → Option ((Int32) × (Nat → Int32) × (Nat → Int32) × (Nat → Int32) × (Nat → Int32))) (hk77 : ∀ (x2 : Int32) (t_stages : Int32) (t_places : Nat → Int32) (t_tied : Nat → Int32) (t_steps : Nat → Int32) (t_done : Nat → Int32) (R : (Int32) × (Nat → Int32) × (Nat → Int32) × (Nat → Int32) × (Nat → Int32)), k77 x2 t_stages t_places t_tied t_steps t_done = some R → Q none (wX3_layStages cy tA t_beforeV t_waysToV t_waysFromV t_firstsV t_ties R.1 t_placesA t_placesN R.2.1 t_tiedA t_tiedN R.2.2.1 t_stepsA t_stepsN R.2.2.2.1 t_doneA t_doneN R.2.2.2.2 p1A p1_size p1_tiesA p1_tiesN p1_ties) → V l D cy MX3_layStages 2 0 0 av ws0 Q 77 [(0, .ref tA), (2, .int x2)] [] (wX3_layStages cy tA t_beforeV t_waysToV t_waysFromV t_firstsV t_ties t_stages t_placesA t_placesN t_places t_tiedA t_tiedN t_tied t_stepsA t_stepsN t_steps t_doneA t_doneN t_done p1A p1_size p1_tiesA p1_tiesN p1_ties) 0 0) (x2 : Int32) (t_stages : Int32) (t_places : Nat → Int32) (t_tied : Nat → Int32) (t_steps : Nat → Int32) (t_done : Nat → Int32) (R : (Int32) × (Nat → Int32) × (Nat → Int32) × (Nat → Int32) × (Nat → Int32)) (h : bX3_layStages_L77 F t_ties t_placesN t_tiedN t_stepsN t_doneN p1_size p1_tiesN p1_ties k77 x2 t_stages t_places t_tied t_steps t_done = some R) (hQ : Q none (wX3_layStages cy tA t_beforeV t_waysToV t_waysFromV t_firstsV t_ties R.1 t_placesA t_placesN R.2.1 t_tiedA t_tiedN R.2.2.1 t_stepsA t_stepsN R.2.2.2.1 t_doneA t_doneN R.2.2.2.2 p1A p1_size p1_tiesA p1_tiesN p1_ties)) : V l D cy MX3_layStages 2 0 0 av ws0 Q 77 [(0, .ref tA), (2, .int x2)] [] (wX3_layStages cy tA t_beforeV t_waysToV t_waysFromV t_firstsV t_ties t_stages t_placesA t_placesN t_places t_tiedA t_tiedN t_tied t_stepsA t_stepsN t_steps t_doneA t_doneN t_done p1A p1_size p1_tiesA p1_tiesN p1_ties) 0 0 := by
  unfold bX3_layStages_L77 at h
  refine V.iload_n dX3_layStages_77 rfl 1 rfl ?_
  refine V.bipush (v := (6 : Int32)) dX3_layStages_78 (by decide) ?_
  refine V.icmp_ge (tgt := 116) dX3_layStages_80 (by decide) (fun hc80 => ?_) (fun hc80 => ?_)
  · replace h := (if_pos hc80).symm.trans h
    refine V.aload_n dX3_layStages_116 rfl 0 rfl ?_
    refine V.aload_n dX3_layStages_117 rfl 0 rfl ?_
    refine V.get kfX3 0 rfl rfl 9 (by decide) klX3_92 rfl dX3_layStages_118 ?_
    refine V.sipush (v := (1296 : Int32)) dX3_layStages_121 (by decide) ?_
    refine V.mmin klX3_95 dX3_layStages_124 (Nat.le_of_ble_eq_true rfl) ⟨Nat.le_refl _, Nat.le_refl _⟩ ?_
    refine V.put (ws' := (wX3_layStages cy tA t_beforeV t_waysToV t_waysFromV t_firstsV t_ties (if (1296 : Int32) < t_stages then (1296 : Int32) else t_stages) t_placesA t_placesN t_places t_tiedA t_tiedN t_tied t_stepsA t_stepsN t_steps t_doneA t_doneN t_done p1A p1_size p1_tiesA p1_tiesN p1_ties)) kfX3 tyX3 tyX3_ok nmX3 0 rfl rfl 9 (by decide) klX3_92 rfl (tyX3_ok 9 (by decide)) rfl rfl (Nat.le_of_ble_eq_true rfl) dX3_layStages_127 rfl ?_
    refine V.iconst (v := (0 : Int32)) dX3_layStages_130 (by decide) ?_
    refine V.istore_n (lv' := [(2, .int (0 : Int32)), (0, .ref tA)]) dX3_layStages_131 rfl (by decide) rfl ?_
    refine V.lvs [1, 0] rfl ?_
    exact vX3_layStages_L132 _ _ _ _ _ _ _ _ _ _ _ _ _ _ _ _ _ _ _ _  _ _ _ _ _ _ _ R h hQ
  · replace h := (if_neg hc80).symm.trans h
    refine V.aload_n dX3_layStages_83 rfl 0 rfl ?_
    refine V.get kfX3 0 rfl rfl 3 (by decide) klX3_21 rfl dX3_layStages_84 ?_
    refine V.iload_n dX3_layStages_87 rfl 1 rfl ?_
    refine V.aload_n dX3_layStages_88 rfl 0 rfl ?_
    refine V.get kfX3 0 rfl rfl 9 (by decide) klX3_92 rfl dX3_layStages_89 ?_
    by_cases hb92 : x2 < 0 ∨ t_stepsN ≤ x2.toNatClampNeg
    · exact vNone ((if_pos hb92).symm.trans h)
    replace h := (if_neg hb92).symm.trans h
    refine V.iast (ws' := (wX3_layStages cy tA t_beforeV t_waysToV t_waysFromV t_firstsV t_ties t_stages t_placesA t_placesN t_places t_tiedA t_tiedN t_tied t_stepsA t_stepsN (upd t_steps x2.toNatClampNeg t_stages) t_doneA t_doneN t_done p1A p1_size p1_tiesA p1_tiesN p1_ties)) dX3_layStages_92 3 rfl hb92 rfl ?_
    refine V.aload_n dX3_layStages_93 rfl 0 rfl ?_
    refine V.dup dX3_layStages_94 rfl ?_
    refine V.get kfX3 0 rfl rfl 9 (by decide) klX3_92 rfl dX3_layStages_95 ?_
    refine V.aload_n dX3_layStages_98 rfl 0 rfl ?_
    refine V.get kfX3 0 rfl rfl 2 (by decide) klX3_18 rfl dX3_layStages_99 ?_
    refine V.iload_n dX3_layStages_102 rfl 1 rfl ?_
    by_cases hb103 : x2 < 0 ∨ t_tiedN ≤ x2.toNatClampNeg
    · exact vNone ((if_pos hb103).symm.trans h)
    replace h := (if_neg hb103).symm.trans h
    refine V.iald dX3_layStages_103 2 rfl hb103 ?_
    refine V.iconst (v := (1 : Int32)) dX3_layStages_104 (by decide) ?_
    refine V.iadd dX3_layStages_105 ?_
    refine V.imul dX3_layStages_106 ?_
    refine V.put (ws' := (wX3_layStages cy tA t_beforeV t_waysToV t_waysFromV t_firstsV t_ties (t_stages * ((t_tied (x2).toNatClampNeg) + (1 : Int32))) t_placesA t_placesN t_places t_tiedA t_tiedN t_tied t_stepsA t_stepsN (upd t_steps x2.toNatClampNeg t_stages) t_doneA t_doneN t_done p1A p1_size p1_tiesA p1_tiesN p1_ties)) kfX3 tyX3 tyX3_ok nmX3 0 rfl rfl 9 (by decide) klX3_92 rfl (tyX3_ok 9 (by decide)) rfl rfl (Nat.le_of_ble_eq_true rfl) dX3_layStages_107 rfl ?_
    refine V.iinc (v := x2 + (1 : Int32)) (lv' := [(2, .int (x2 + (1 : Int32))), (0, .ref tA)]) dX3_layStages_110 1 rfl rfl (by decide) rfl ?_
    refine V.goto (tgt := 77) dX3_layStages_113 (by decide) ?_
    refine V.lvs [1, 0] rfl ?_
    exact hk77 _ _ _ _ _ _ R h hQ
noncomputable def fX3_layStages_L77 (F : Nat) (t_ties : Int32) (t_placesN : Nat) (t_tiedN : Nat) (t_stepsN : Nat) (t_doneN : Nat) (p1_size : Int32) (p1_tiesN : Nat) (p1_ties : Nat → Int32)  : Nat → Int32 → Int32 → (Nat → Int32) → (Nat → Int32) → (Nat → Int32) → (Nat → Int32) → Option ((Int32) × (Nat → Int32) × (Nat → Int32) × (Nat → Int32) × (Nat → Int32))
  | 0 => fun _ _ _ _ _ _ => none
  | n + 1 => bX3_layStages_L77 F t_ties t_placesN t_tiedN t_stepsN t_doneN p1_size p1_tiesN p1_ties (fX3_layStages_L77 F t_ties t_placesN t_tiedN t_stepsN t_doneN p1_size p1_tiesN p1_ties  n)
theorem vX3_layStages_L77 {l : Launch} {D : va_G} {cy : Nat → ClassId} {av : List Value} {ws0 : va_W} {Q : Option Value → va_W → Prop} (F : Nat) (tA : Nat) (t_beforeV : Value) (t_waysToV : Value) (t_waysFromV : Value) (t_firstsV : Value) (t_ties : Int32) (t_placesA : Nat) (t_placesN : Nat) (t_tiedA : Nat) (t_tiedN : Nat) (t_stepsA : Nat) (t_stepsN : Nat) (t_doneA : Nat) (t_doneN : Nat) (p1A : Nat) (p1_size : Int32) (p1_tiesA : Nat) (p1_tiesN : Nat) (p1_ties : Nat → Int32)  : ∀ (n : Nat) (x2 : Int32) (t_stages : Int32) (t_places : Nat → Int32) (t_tied : Nat → Int32) (t_steps : Nat → Int32) (t_done : Nat → Int32) (R : (Int32) × (Nat → Int32) × (Nat → Int32) × (Nat → Int32) × (Nat → Int32)), fX3_layStages_L77 F t_ties t_placesN t_tiedN t_stepsN t_doneN p1_size p1_tiesN p1_ties  n x2 t_stages t_places t_tied t_steps t_done = some R → Q none (wX3_layStages cy tA t_beforeV t_waysToV t_waysFromV t_firstsV t_ties R.1 t_placesA t_placesN R.2.1 t_tiedA t_tiedN R.2.2.1 t_stepsA t_stepsN R.2.2.2.1 t_doneA t_doneN R.2.2.2.2 p1A p1_size p1_tiesA p1_tiesN p1_ties) → V l D cy MX3_layStages 2 0 0 av ws0 Q 77 [(0, .ref tA), (2, .int x2)] [] (wX3_layStages cy tA t_beforeV t_waysToV t_waysFromV t_firstsV t_ties t_stages t_placesA t_placesN t_places t_tiedA t_tiedN t_tied t_stepsA t_stepsN t_steps t_doneA t_doneN t_done p1A p1_size p1_tiesA p1_tiesN p1_ties) 0 0 := by
  intro n
  induction n with
  | zero => intro x2 t_stages t_places t_tied t_steps t_done R h; exact vNone h
  | succ n ih => intro x2 t_stages t_places t_tied t_steps t_done R h hQ; exact vbX3_layStages_L77 F tA t_beforeV t_waysToV t_waysFromV t_firstsV t_ties t_placesA t_placesN t_tiedA t_tiedN t_stepsA t_stepsN t_doneA t_doneN p1A p1_size p1_tiesA p1_tiesN p1_ties _ ih x2 t_stages t_places t_tied t_steps t_done R h hQ
noncomputable def bX3_layStages_L64 (F : Nat) (t_ties : Int32) (t_placesN : Nat) (t_tiedN : Nat) (t_stepsN : Nat) (t_doneN : Nat) (p1_size : Int32) (p1_tiesN : Nat) (p1_ties : Nat → Int32) (k10 : Int32 → Int32 → (Nat → Int32) → (Nat → Int32) → (Nat → Int32) → (Nat → Int32) → Option ((Int32) × (Nat → Int32) × (Nat → Int32) × (Nat → Int32) × (Nat → Int32))) (x2 : Int32) (t_stages : Int32) (t_places : Nat → Int32) (t_tied : Nat → Int32) (t_steps : Nat → Int32) (t_done : Nat → Int32) : Option ((Int32) × (Nat → Int32) × (Nat → Int32) × (Nat → Int32) × (Nat → Int32)) :=
  k10 (x2 + (1 : Int32)) t_stages t_places t_tied t_steps t_done
theorem vX3_layStages_L64 {l : Launch} {D : va_G} {cy : Nat → ClassId} {av : List Value} {ws0 : va_W} {Q : Option Value → va_W → Prop} (F : Nat) (tA : Nat) (t_beforeV : Value) (t_waysToV : Value) (t_waysFromV : Value) (t_firstsV : Value) (t_ties : Int32) (t_placesA : Nat) (t_placesN : Nat) (t_tiedA : Nat) (t_tiedN : Nat) (t_stepsA : Nat) (t_stepsN : Nat) (t_doneA : Nat) (t_doneN : Nat) (p1A : Nat) (p1_size : Int32) (p1_tiesA : Nat) (p1_tiesN : Nat) (p1_ties : Nat → Int32) (k10 : Int32 → Int32 → (Nat → Int32) → (Nat → Int32) → (Nat → Int32) → (Nat → Int32) → Option ((Int32) × (Nat → Int32) × (Nat → Int32) × (Nat → Int32) × (Nat → Int32))) (hk10 : ∀ (x2 : Int32) (t_stages : Int32) (t_places : Nat → Int32) (t_tied : Nat → Int32) (t_steps : Nat → Int32) (t_done : Nat → Int32) (R : (Int32) × (Nat → Int32) × (Nat → Int32) × (Nat → Int32) × (Nat → Int32)), k10 x2 t_stages t_places t_tied t_steps t_done = some R → Q none (wX3_layStages cy tA t_beforeV t_waysToV t_waysFromV t_firstsV t_ties R.1 t_placesA t_placesN R.2.1 t_tiedA t_tiedN R.2.2.1 t_stepsA t_stepsN R.2.2.2.1 t_doneA t_doneN R.2.2.2.2 p1A p1_size p1_tiesA p1_tiesN p1_ties) → V l D cy MX3_layStages 2 0 0 av ws0 Q 10 [(0, .ref tA), (1, .ref p1A), (2, .int x2)] [] (wX3_layStages cy tA t_beforeV t_waysToV t_waysFromV t_firstsV t_ties t_stages t_placesA t_placesN t_places t_tiedA t_tiedN t_tied t_stepsA t_stepsN t_steps t_doneA t_doneN t_done p1A p1_size p1_tiesA p1_tiesN p1_ties) 0 0) (x2 : Int32) (t_stages : Int32) (t_places : Nat → Int32) (t_tied : Nat → Int32) (t_steps : Nat → Int32) (t_done : Nat → Int32) (R : (Int32) × (Nat → Int32) × (Nat → Int32) × (Nat → Int32) × (Nat → Int32)) (h : bX3_layStages_L64 F t_ties t_placesN t_tiedN t_stepsN t_doneN p1_size p1_tiesN p1_ties k10 x2 t_stages t_places t_tied t_steps t_done = some R) (hQ : Q none (wX3_layStages cy tA t_beforeV t_waysToV t_waysFromV t_firstsV t_ties R.1 t_placesA t_placesN R.2.1 t_tiedA t_tiedN R.2.2.1 t_stepsA t_stepsN R.2.2.2.1 t_doneA t_doneN R.2.2.2.2 p1A p1_size p1_tiesA p1_tiesN p1_ties)) : V l D cy MX3_layStages 2 0 0 av ws0 Q 64 [(0, .ref tA), (1, .ref p1A), (2, .int x2)] [] (wX3_layStages cy tA t_beforeV t_waysToV t_waysFromV t_firstsV t_ties t_stages t_placesA t_placesN t_places t_tiedA t_tiedN t_tied t_stepsA t_stepsN t_steps t_doneA t_doneN t_done p1A p1_size p1_tiesA p1_tiesN p1_ties) 0 0 := by
  unfold bX3_layStages_L64 at h
  refine V.iinc (v := x2 + (1 : Int32)) (lv' := [(2, .int (x2 + (1 : Int32))), (0, .ref tA), (1, .ref p1A)]) dX3_layStages_64 2 rfl rfl (by decide) rfl ?_
  refine V.goto (tgt := 10) dX3_layStages_67 (by decide) ?_
  refine V.lvs [1, 2, 0] rfl ?_
  exact hk10 _ _ _ _ _ _ R h hQ
noncomputable def bX3_layStages_L10 (F : Nat) (t_ties : Int32) (t_placesN : Nat) (t_tiedN : Nat) (t_stepsN : Nat) (t_doneN : Nat) (p1_size : Int32) (p1_tiesN : Nat) (p1_ties : Nat → Int32) (k10 : Int32 → Int32 → (Nat → Int32) → (Nat → Int32) → (Nat → Int32) → (Nat → Int32) → Option ((Int32) × (Nat → Int32) × (Nat → Int32) × (Nat → Int32) × (Nat → Int32))) (x2 : Int32) (t_stages : Int32) (t_places : Nat → Int32) (t_tied : Nat → Int32) (t_steps : Nat → Int32) (t_done : Nat → Int32) : Option ((Int32) × (Nat → Int32) × (Nat → Int32) × (Nat → Int32) × (Nat → Int32)) :=
  if t_ties ≤ x2 then (fX3_layStages_L77 F t_ties t_placesN t_tiedN t_stepsN t_doneN p1_size p1_tiesN p1_ties F (0 : Int32) (1 : Int32) t_places t_tied t_steps t_done) else ((fX7_tieAt F p1_size p1_tiesN p1_ties x2).bind fun R20 => ((fX7_folkOf F R20).bind fun R23 => (if R23 < 0 then (bX3_layStages_L64 F t_ties t_placesN t_tiedN t_stepsN t_doneN p1_size p1_tiesN p1_ties k10 x2 t_stages t_places t_tied t_steps t_done) else (if (6 : Int32) ≤ R23 then (bX3_layStages_L64 F t_ties t_placesN t_tiedN t_stepsN t_doneN p1_size p1_tiesN p1_ties k10 x2 t_stages t_places t_tied t_steps t_done) else (if R23 < 0 ∨ t_tiedN ≤ R23.toNatClampNeg then none else (if ((R23 * (14 : Int32)) + (t_tied (R23).toNatClampNeg)) < 0 ∨ t_placesN ≤ ((R23 * (14 : Int32)) + (t_tied (R23).toNatClampNeg)).toNatClampNeg then none else (if R23 < 0 ∨ t_tiedN ≤ R23.toNatClampNeg then none else (if R23 < 0 ∨ t_tiedN ≤ R23.toNatClampNeg then none else (bX3_layStages_L64 F t_ties t_placesN t_tiedN t_stepsN t_doneN p1_size p1_tiesN p1_ties k10 x2 t_stages (upd t_places ((R23 * (14 : Int32)) + (t_tied (R23).toNatClampNeg)).toNatClampNeg x2) (upd t_tied R23.toNatClampNeg ((t_tied (R23).toNatClampNeg) + (1 : Int32))) t_steps t_done)))))))))
theorem vbX3_layStages_L10 {l : Launch} {D : va_G} {cy : Nat → ClassId} {av : List Value} {ws0 : va_W} {Q : Option Value → va_W → Prop} (F : Nat) (tA : Nat) (t_beforeV : Value) (t_waysToV : Value) (t_waysFromV : Value) (t_firstsV : Value) (t_ties : Int32) (t_placesA : Nat) (t_placesN : Nat) (t_tiedA : Nat) (t_tiedN : Nat) (t_stepsA : Nat) (t_stepsN : Nat) (t_doneA : Nat) (t_doneN : Nat) (p1A : Nat) (p1_size : Int32) (p1_tiesA : Nat) (p1_tiesN : Nat) (p1_ties : Nat → Int32) (k10 : Int32 → Int32 → (Nat → Int32) → (Nat → Int32) → (Nat → Int32) → (Nat → Int32) → Option ((Int32) × (Nat → Int32) × (Nat → Int32) × (Nat → Int32) × (Nat → Int32))) (hk10 : ∀ (x2 : Int32) (t_stages : Int32) (t_places : Nat → Int32) (t_tied : Nat → Int32) (t_steps : Nat → Int32) (t_done : Nat → Int32) (R : (Int32) × (Nat → Int32) × (Nat → Int32) × (Nat → Int32) × (Nat → Int32)), k10 x2 t_stages t_places t_tied t_steps t_done = some R → Q none (wX3_layStages cy tA t_beforeV t_waysToV t_waysFromV t_firstsV t_ties R.1 t_placesA t_placesN R.2.1 t_tiedA t_tiedN R.2.2.1 t_stepsA t_stepsN R.2.2.2.1 t_doneA t_doneN R.2.2.2.2 p1A p1_size p1_tiesA p1_tiesN p1_ties) → V l D cy MX3_layStages 2 0 0 av ws0 Q 10 [(0, .ref tA), (1, .ref p1A), (2, .int x2)] [] (wX3_layStages cy tA t_beforeV t_waysToV t_waysFromV t_firstsV t_ties t_stages t_placesA t_placesN t_places t_tiedA t_tiedN t_tied t_stepsA t_stepsN t_steps t_doneA t_doneN t_done p1A p1_size p1_tiesA p1_tiesN p1_ties) 0 0) (x2 : Int32) (t_stages : Int32) (t_places : Nat → Int32) (t_tied : Nat → Int32) (t_steps : Nat → Int32) (t_done : Nat → Int32) (R : (Int32) × (Nat → Int32) × (Nat → Int32) × (Nat → Int32) × (Nat → Int32)) (h : bX3_layStages_L10 F t_ties t_placesN t_tiedN t_stepsN t_doneN p1_size p1_tiesN p1_ties k10 x2 t_stages t_places t_tied t_steps t_done = some R) (hQ : Q none (wX3_layStages cy tA t_beforeV t_waysToV t_waysFromV t_firstsV t_ties R.1 t_placesA t_placesN R.2.1 t_tiedA t_tiedN R.2.2.1 t_stepsA t_stepsN R.2.2.2.1 t_doneA t_doneN R.2.2.2.2 p1A p1_size p1_tiesA p1_tiesN p1_ties)) : V l D cy MX3_layStages 2 0 0 av ws0 Q 10 [(0, .ref tA), (1, .ref p1A), (2, .int x2)] [] (wX3_layStages cy tA t_beforeV t_waysToV t_waysFromV t_firstsV t_ties t_stages t_placesA t_placesN t_places t_tiedA t_tiedN t_tied t_stepsA t_stepsN t_steps t_doneA t_doneN t_done p1A p1_size p1_tiesA p1_tiesN p1_ties) 0 0 := by
  unfold bX3_layStages_L10 at h
  refine V.iload_n dX3_layStages_10 rfl 2 rfl ?_
  refine V.aload_n dX3_layStages_11 rfl 0 rfl ?_
  refine V.get kfX3 0 rfl rfl 8 (by decide) klX3_49 rfl dX3_layStages_12 ?_
  refine V.icmp_ge (tgt := 70) dX3_layStages_15 (by decide) (fun hc15 => ?_) (fun hc15 => ?_)
  · replace h := (if_pos hc15).symm.trans h
    refine V.aload_n dX3_layStages_70 rfl 0 rfl ?_
    refine V.iconst (v := (1 : Int32)) dX3_layStages_71 (by decide) ?_
    refine V.put (ws' := (wX3_layStages cy tA t_beforeV t_waysToV t_waysFromV t_firstsV t_ties (1 : Int32) t_placesA t_placesN t_places t_tiedA t_tiedN t_tied t_stepsA t_stepsN t_steps t_doneA t_doneN t_done p1A p1_size p1_tiesA p1_tiesN p1_ties)) kfX3 tyX3 tyX3_ok nmX3 0 rfl rfl 9 (by decide) klX3_92 rfl (tyX3_ok 9 (by decide)) rfl rfl (Nat.le_of_ble_eq_true rfl) dX3_layStages_72 rfl ?_
    refine V.iconst (v := (0 : Int32)) dX3_layStages_75 (by decide) ?_
    refine V.istore_n (lv' := [(2, .int (0 : Int32)), (0, .ref tA), (1, .ref p1A)]) dX3_layStages_76 rfl (by decide) rfl ?_
    refine V.lvs [1, 0] rfl ?_
    exact vX3_layStages_L77 _ _ _ _ _ _ _ _ _ _ _ _ _ _ _ _ _ _ _ _  _ _ _ _ _ _ _ R h hQ
  · replace h := (if_neg hc15).symm.trans h
    refine V.aload_n dX3_layStages_18 rfl 1 rfl ?_
    refine V.iload_n dX3_layStages_19 rfl 2 rfl ?_
    obtain ⟨R20, hg20, h⟩ := Option.bind_eq_some_iff.mp h
    refine V.callV (As := [.int x2]) (rest := []) (wc := (wX7_tieAt cy p1A p1_size p1_tiesA p1_tiesN p1_ties)) (wr := [(tA, .inr (3, [t_beforeV, .ref t_placesA, .ref t_tiedA, .ref t_stepsA, .ref t_doneA, t_waysToV, t_waysFromV, t_firstsV, .int t_ties, .int t_stages])), (t_placesA, .inl (cy 1, t_placesN, .inl t_places)), (t_tiedA, .inl (cy 1, t_tiedN, .inl t_tied)), (t_stepsA, .inl (cy 1, t_stepsN, .inl t_steps)), (t_doneA, .inl (cy 1, t_doneN, .inl t_done))]) (q0 := 5) (CX7_tieAt F p1A p1_size p1_tiesA p1_tiesN p1_ties x2 R20 hg20) kvX7_tieAt klX3_89 [5, 6] [0, 1, 2, 3, 4] rfl rfl (by decide) (by decide) (by decide) rfl rfl rfl rfl dX3_layStages_20 ⟨by decide, by decide, by decide, by decide⟩ (Nat.le_of_ble_eq_true rfl) (fun r w1 hq => ?_)
    obtain ⟨rfl, rfl⟩ := hq
    refine V.cells (ws' := (wX3_layStages cy tA t_beforeV t_waysToV t_waysFromV t_firstsV t_ties t_stages t_placesA t_placesN t_places t_tiedA t_tiedN t_tied t_stepsA t_stepsN t_steps t_doneA t_doneN t_done p1A p1_size p1_tiesA p1_tiesN p1_ties)) [0, 1, 2, 3, 4, 5, 6] (by decide) rfl ?_
    show V l D cy MX3_layStages 2 0 0 _ _ _ 23 [(0, .ref tA), (1, .ref p1A), (2, .int x2)] [.int R20] (wX3_layStages cy tA t_beforeV t_waysToV t_waysFromV t_firstsV t_ties t_stages t_placesA t_placesN t_places t_tiedA t_tiedN t_tied t_stepsA t_stepsN t_steps t_doneA t_doneN t_done p1A p1_size p1_tiesA p1_tiesN p1_ties) 0 0
    obtain ⟨R23, hg23, h⟩ := Option.bind_eq_some_iff.mp h
    refine V.callS (As := [.int R20]) (rest := []) (wc := (wX7_folkOf cy )) (wr := [(tA, .inr (3, [t_beforeV, .ref t_placesA, .ref t_tiedA, .ref t_stepsA, .ref t_doneA, t_waysToV, t_waysFromV, t_firstsV, .int t_ties, .int t_stages])), (t_placesA, .inl (cy 1, t_placesN, .inl t_places)), (t_tiedA, .inl (cy 1, t_tiedN, .inl t_tied)), (t_stepsA, .inl (cy 1, t_stepsN, .inl t_steps)), (t_doneA, .inl (cy 1, t_doneN, .inl t_done)), (p1A, .inr (7, [.ref p1_tiesA, .int p1_size])), (p1_tiesA, .inl (cy 1, p1_tiesN, .inl p1_ties))]) (CX7_folkOf F R20 R23 hg23) kvX7_folkOf klX3_70 [] [0, 1, 2, 3, 4, 5, 6] rfl rfl (by decide) (by decide) (by decide) rfl dX3_layStages_23 ⟨by decide, by decide, by decide, by decide⟩ (Nat.le_of_ble_eq_true rfl) (fun r w1 hq => ?_)
    obtain ⟨rfl, rfl⟩ := hq
    refine V.cells (ws' := (wX3_layStages cy tA t_beforeV t_waysToV t_waysFromV t_firstsV t_ties t_stages t_placesA t_placesN t_places t_tiedA t_tiedN t_tied t_stepsA t_stepsN t_steps t_doneA t_doneN t_done p1A p1_size p1_tiesA p1_tiesN p1_ties)) [0, 1, 2, 3, 4, 5, 6] (by decide) rfl ?_
    show V l D cy MX3_layStages 2 0 0 _ _ _ 26 [(0, .ref tA), (1, .ref p1A), (2, .int x2)] [.int R23] (wX3_layStages cy tA t_beforeV t_waysToV t_waysFromV t_firstsV t_ties t_stages t_placesA t_placesN t_places t_tiedA t_tiedN t_tied t_stepsA t_stepsN t_steps t_doneA t_doneN t_done p1A p1_size p1_tiesA p1_tiesN p1_ties) 0 0
    refine V.istore_n (lv' := [(3, .int R23), (0, .ref tA), (1, .ref p1A), (2, .int x2)]) dX3_layStages_26 rfl (by decide) rfl ?_
    refine V.iload_n dX3_layStages_27 rfl 0 rfl ?_
    refine V.if_lt (tgt := 64) dX3_layStages_28 (by decide) (fun hc28 => ?_) (fun hc28 => ?_)
    · replace h := (if_pos hc28).symm.trans h
      refine V.lvs [1, 2, 3] rfl ?_
      exact vX3_layStages_L64 _ _ _ _ _ _ _ _ _ _ _ _ _ _ _ _ _ _ _ _ _ hk10  _ _ _ _ _ _ R h hQ
    · replace h := (if_neg hc28).symm.trans h
      refine V.iload_n dX3_layStages_31 rfl 0 rfl ?_
      refine V.bipush (v := (6 : Int32)) dX3_layStages_32 (by decide) ?_
      refine V.icmp_ge (tgt := 64) dX3_layStages_34 (by decide) (fun hc34 => ?_) (fun hc34 => ?_)
      · replace h := (if_pos hc34).symm.trans h
        refine V.lvs [1, 2, 3] rfl ?_
        exact vX3_layStages_L64 _ _ _ _ _ _ _ _ _ _ _ _ _ _ _ _ _ _ _ _ _ hk10  _ _ _ _ _ _ R h hQ
      · replace h := (if_neg hc34).symm.trans h
        refine V.aload_n dX3_layStages_37 rfl 1 rfl ?_
        refine V.get kfX3 0 rfl rfl 1 (by decide) klX3_15 rfl dX3_layStages_38 ?_
        refine V.iload_n dX3_layStages_41 rfl 0 rfl ?_
        refine V.bipush (v := (14 : Int32)) dX3_layStages_42 (by decide) ?_
        refine V.imul dX3_layStages_44 ?_
        refine V.aload_n dX3_layStages_45 rfl 1 rfl ?_
        refine V.get kfX3 0 rfl rfl 2 (by decide) klX3_18 rfl dX3_layStages_46 ?_
        refine V.iload_n dX3_layStages_49 rfl 0 rfl ?_
        by_cases hb50 : R23 < 0 ∨ t_tiedN ≤ R23.toNatClampNeg
        · exact vNone ((if_pos hb50).symm.trans h)
        replace h := (if_neg hb50).symm.trans h
        refine V.iald dX3_layStages_50 2 rfl hb50 ?_
        refine V.iadd dX3_layStages_51 ?_
        refine V.iload_n dX3_layStages_52 rfl 3 rfl ?_
        by_cases hb53 : ((R23 * (14 : Int32)) + (t_tied (R23).toNatClampNeg)) < 0 ∨ t_placesN ≤ ((R23 * (14 : Int32)) + (t_tied (R23).toNatClampNeg)).toNatClampNeg
        · exact vNone ((if_pos hb53).symm.trans h)
        replace h := (if_neg hb53).symm.trans h
        refine V.iast (ws' := (wX3_layStages cy tA t_beforeV t_waysToV t_waysFromV t_firstsV t_ties t_stages t_placesA t_placesN (upd t_places ((R23 * (14 : Int32)) + (t_tied (R23).toNatClampNeg)).toNatClampNeg x2) t_tiedA t_tiedN t_tied t_stepsA t_stepsN t_steps t_doneA t_doneN t_done p1A p1_size p1_tiesA p1_tiesN p1_ties)) dX3_layStages_53 1 rfl hb53 rfl ?_
        refine V.aload_n dX3_layStages_54 rfl 1 rfl ?_
        refine V.get kfX3 0 rfl rfl 2 (by decide) klX3_18 rfl dX3_layStages_55 ?_
        refine V.iload_n dX3_layStages_58 rfl 0 rfl ?_
        refine V.dup2 dX3_layStages_59 rfl rfl ?_
        by_cases hb60 : R23 < 0 ∨ t_tiedN ≤ R23.toNatClampNeg
        · exact vNone ((if_pos hb60).symm.trans h)
        replace h := (if_neg hb60).symm.trans h
        refine V.iald dX3_layStages_60 2 rfl hb60 ?_
        refine V.iconst (v := (1 : Int32)) dX3_layStages_61 (by decide) ?_
        refine V.iadd dX3_layStages_62 ?_
        by_cases hb63 : R23 < 0 ∨ t_tiedN ≤ R23.toNatClampNeg
        · exact vNone ((if_pos hb63).symm.trans h)
        replace h := (if_neg hb63).symm.trans h
        refine V.iast (ws' := (wX3_layStages cy tA t_beforeV t_waysToV t_waysFromV t_firstsV t_ties t_stages t_placesA t_placesN (upd t_places ((R23 * (14 : Int32)) + (t_tied (R23).toNatClampNeg)).toNatClampNeg x2) t_tiedA t_tiedN (upd t_tied R23.toNatClampNeg ((t_tied (R23).toNatClampNeg) + (1 : Int32))) t_stepsA t_stepsN t_steps t_doneA t_doneN t_done p1A p1_size p1_tiesA p1_tiesN p1_ties)) dX3_layStages_63 2 rfl hb63 rfl ?_
        refine V.lvs [1, 2, 3] rfl ?_
        exact vX3_layStages_L64 _ _ _ _ _ _ _ _ _ _ _ _ _ _ _ _ _ _ _ _ _ hk10  _ _ _ _ _ _ R h hQ
noncomputable def fX3_layStages_L10 (F : Nat) (t_ties : Int32) (t_placesN : Nat) (t_tiedN : Nat) (t_stepsN : Nat) (t_doneN : Nat) (p1_size : Int32) (p1_tiesN : Nat) (p1_ties : Nat → Int32)  : Nat → Int32 → Int32 → (Nat → Int32) → (Nat → Int32) → (Nat → Int32) → (Nat → Int32) → Option ((Int32) × (Nat → Int32) × (Nat → Int32) × (Nat → Int32) × (Nat → Int32))
  | 0 => fun _ _ _ _ _ _ => none
  | n + 1 => bX3_layStages_L10 F t_ties t_placesN t_tiedN t_stepsN t_doneN p1_size p1_tiesN p1_ties (fX3_layStages_L10 F t_ties t_placesN t_tiedN t_stepsN t_doneN p1_size p1_tiesN p1_ties  n)
theorem vX3_layStages_L10 {l : Launch} {D : va_G} {cy : Nat → ClassId} {av : List Value} {ws0 : va_W} {Q : Option Value → va_W → Prop} (F : Nat) (tA : Nat) (t_beforeV : Value) (t_waysToV : Value) (t_waysFromV : Value) (t_firstsV : Value) (t_ties : Int32) (t_placesA : Nat) (t_placesN : Nat) (t_tiedA : Nat) (t_tiedN : Nat) (t_stepsA : Nat) (t_stepsN : Nat) (t_doneA : Nat) (t_doneN : Nat) (p1A : Nat) (p1_size : Int32) (p1_tiesA : Nat) (p1_tiesN : Nat) (p1_ties : Nat → Int32)  : ∀ (n : Nat) (x2 : Int32) (t_stages : Int32) (t_places : Nat → Int32) (t_tied : Nat → Int32) (t_steps : Nat → Int32) (t_done : Nat → Int32) (R : (Int32) × (Nat → Int32) × (Nat → Int32) × (Nat → Int32) × (Nat → Int32)), fX3_layStages_L10 F t_ties t_placesN t_tiedN t_stepsN t_doneN p1_size p1_tiesN p1_ties  n x2 t_stages t_places t_tied t_steps t_done = some R → Q none (wX3_layStages cy tA t_beforeV t_waysToV t_waysFromV t_firstsV t_ties R.1 t_placesA t_placesN R.2.1 t_tiedA t_tiedN R.2.2.1 t_stepsA t_stepsN R.2.2.2.1 t_doneA t_doneN R.2.2.2.2 p1A p1_size p1_tiesA p1_tiesN p1_ties) → V l D cy MX3_layStages 2 0 0 av ws0 Q 10 [(0, .ref tA), (1, .ref p1A), (2, .int x2)] [] (wX3_layStages cy tA t_beforeV t_waysToV t_waysFromV t_firstsV t_ties t_stages t_placesA t_placesN t_places t_tiedA t_tiedN t_tied t_stepsA t_stepsN t_steps t_doneA t_doneN t_done p1A p1_size p1_tiesA p1_tiesN p1_ties) 0 0 := by
  intro n
  induction n with
  | zero => intro x2 t_stages t_places t_tied t_steps t_done R h; exact vNone h
  | succ n ih => intro x2 t_stages t_places t_tied t_steps t_done R h hQ; exact vbX3_layStages_L10 F tA t_beforeV t_waysToV t_waysFromV t_firstsV t_ties t_placesA t_placesN t_tiedA t_tiedN t_stepsA t_stepsN t_doneA t_doneN p1A p1_size p1_tiesA p1_tiesN p1_ties _ ih x2 t_stages t_places t_tied t_steps t_done R h hQ
noncomputable def fX3_layStages (F : Nat) (t_ties : Int32) (t_placesN : Nat) (t_tiedN : Nat) (t_stepsN : Nat) (t_doneN : Nat) (p1_size : Int32) (p1_tiesN : Nat) (p1_ties : Nat → Int32) (t_stages : Int32) (t_places : Nat → Int32) (t_tied : Nat → Int32) (t_steps : Nat → Int32) (t_done : Nat → Int32) : Option ((Int32) × (Nat → Int32) × (Nat → Int32) × (Nat → Int32) × (Nat → Int32)) :=
  (fJ7_fill_53178 F t_tiedN (0 : Int32) t_tied).bind fun R5 => (fX3_layStages_L10 F t_ties t_placesN t_tiedN t_stepsN t_doneN p1_size p1_tiesN p1_ties F (0 : Int32) t_stages t_places R5 t_steps t_done)
theorem CX3_layStages {l : Launch} {D : va_G} {cy : Nat → ClassId} (F : Nat) (tA : Nat) (t_beforeV : Value) (t_waysToV : Value) (t_waysFromV : Value) (t_firstsV : Value) (t_ties : Int32) (t_stages : Int32) (t_placesA : Nat) (t_placesN : Nat) (t_places : Nat → Int32) (t_tiedA : Nat) (t_tiedN : Nat) (t_tied : Nat → Int32) (t_stepsA : Nat) (t_stepsN : Nat) (t_steps : Nat → Int32) (t_doneA : Nat) (t_doneN : Nat) (t_done : Nat → Int32) (p1A : Nat) (p1_size : Int32) (p1_tiesA : Nat) (p1_tiesN : Nat) (p1_ties : Nat → Int32) (R : (Int32) × (Nat → Int32) × (Nat → Int32) × (Nat → Int32) × (Nat → Int32)) (h : fX3_layStages F t_ties t_placesN t_tiedN t_stepsN t_doneN p1_size p1_tiesN p1_ties t_stages t_places t_tied t_steps t_done = some R) : vMet l D cy MX3_layStages 2 0 0 [.ref tA, .ref p1A] (wX3_layStages cy tA t_beforeV t_waysToV t_waysFromV t_firstsV t_ties t_stages t_placesA t_placesN t_places t_tiedA t_tiedN t_tied t_stepsA t_stepsN t_steps t_doneA t_doneN t_done p1A p1_size p1_tiesA p1_tiesN p1_ties) (fun (r : Option Value) (w : va_W) => r = none ∧ w = (wX3_layStages cy tA t_beforeV t_waysToV t_waysFromV t_firstsV t_ties R.1 t_placesA t_placesN R.2.1 t_tiedA t_tiedN R.2.2.1 t_stepsA t_stepsN R.2.2.2.1 t_doneA t_doneN R.2.2.2.2 p1A p1_size p1_tiesA p1_tiesN p1_ties)) := by
  refine vMet.start (by decide +kernel) (Nat.le_of_ble_eq_true rfl) ?_
  generalize hQe : (fun (r : Option Value) (w : va_W) => r = none ∧ w = (wX3_layStages cy tA t_beforeV t_waysToV t_waysFromV t_firstsV t_ties R.1 t_placesA t_placesN R.2.1 t_tiedA t_tiedN R.2.2.1 t_stepsA t_stepsN R.2.2.2.1 t_doneA t_doneN R.2.2.2.2 p1A p1_size p1_tiesA p1_tiesN p1_ties)) = Q
  have hQ : Q none (wX3_layStages cy tA t_beforeV t_waysToV t_waysFromV t_firstsV t_ties R.1 t_placesA t_placesN R.2.1 t_tiedA t_tiedN R.2.2.1 t_stepsA t_stepsN R.2.2.2.1 t_doneA t_doneN R.2.2.2.2 p1A p1_size p1_tiesA p1_tiesN p1_ties) := by rw [← hQe]; exact ⟨rfl, rfl⟩
  show V l D cy MX3_layStages 2 0 0 _ _ Q 0 [(0, .ref tA), (1, .ref p1A)] [] _ 0 0
  show V l D cy MX3_layStages 2 0 0 [.ref tA, .ref p1A] _ Q 0 [(0, .ref tA), (1, .ref p1A)] [] (wX3_layStages cy tA t_beforeV t_waysToV t_waysFromV t_firstsV t_ties t_stages t_placesA t_placesN t_places t_tiedA t_tiedN t_tied t_stepsA t_stepsN t_steps t_doneA t_doneN t_done p1A p1_size p1_tiesA p1_tiesN p1_ties) 0 0
  unfold fX3_layStages at h
  refine V.aload_n dX3_layStages_0 rfl 0 rfl ?_
  refine V.get kfX3 0 rfl rfl 2 (by decide) klX3_18 rfl dX3_layStages_1 ?_
  refine V.iconst (v := (0 : Int32)) dX3_layStages_4 (by decide) ?_
  obtain ⟨R5, hg5, h⟩ := Option.bind_eq_some_iff.mp h
  refine V.callS (As := [.ref t_tiedA, .int (0 : Int32)]) (rest := []) (wc := (wJ7_fill_53178 cy t_tiedA t_tiedN t_tied)) (wr := [(tA, .inr (3, [t_beforeV, .ref t_placesA, .ref t_tiedA, .ref t_stepsA, .ref t_doneA, t_waysToV, t_waysFromV, t_firstsV, .int t_ties, .int t_stages])), (t_placesA, .inl (cy 1, t_placesN, .inl t_places)), (t_stepsA, .inl (cy 1, t_stepsN, .inl t_steps)), (t_doneA, .inl (cy 1, t_doneN, .inl t_done)), (p1A, .inr (7, [.ref p1_tiesA, .int p1_size])), (p1_tiesA, .inl (cy 1, p1_tiesN, .inl p1_ties))]) (CJ7_fill_53178 F t_tiedA t_tiedN t_tied (0 : Int32) R5 hg5) kvJ7_fill_53178 klX3_83 [2] [0, 1, 3, 4, 5, 6] rfl rfl (by decide) (by decide) (by decide) rfl dX3_layStages_5 ⟨by decide, by decide, by decide, by decide⟩ (Nat.le_of_ble_eq_true rfl) (fun r w1 hq => ?_)
  obtain ⟨rfl, rfl⟩ := hq
  refine V.cells (ws' := (wX3_layStages cy tA t_beforeV t_waysToV t_waysFromV t_firstsV t_ties t_stages t_placesA t_placesN t_places t_tiedA t_tiedN R5 t_stepsA t_stepsN t_steps t_doneA t_doneN t_done p1A p1_size p1_tiesA p1_tiesN p1_ties)) [0, 1, 6, 2, 3, 4, 5] (by decide) rfl ?_
  show V l D cy MX3_layStages 2 0 0 _ _ _ 8 [(0, .ref tA), (1, .ref p1A)] [] (wX3_layStages cy tA t_beforeV t_waysToV t_waysFromV t_firstsV t_ties t_stages t_placesA t_placesN t_places t_tiedA t_tiedN R5 t_stepsA t_stepsN t_steps t_doneA t_doneN t_done p1A p1_size p1_tiesA p1_tiesN p1_ties) 0 0
  refine V.iconst (v := (0 : Int32)) dX3_layStages_8 (by decide) ?_
  refine V.istore_n (lv' := [(2, .int (0 : Int32)), (0, .ref tA), (1, .ref p1A)]) dX3_layStages_9 rfl (by decide) rfl ?_
  refine V.lvs [1, 2, 0] rfl ?_
  exact vX3_layStages_L10 _ _ _ _ _ _ _ _ _ _ _ _ _ _ _ _ _ _ _ _  _ _ _ _ _ _ _ R h hQ
theorem dX3_bestToAsk_0 : decode cX3_bestToAsk 0 = .ok (.aload_n 0, 1) := by decide +kernel
theorem dX3_bestToAsk_1 : decode cX3_bestToAsk 1 = .ok (.invokevirtual 113, 3) := by decide +kernel
theorem dX3_bestToAsk_4 : decode cX3_bestToAsk 4 = .ok (.aload_n 0, 1) := by decide +kernel
theorem dX3_bestToAsk_5 : decode cX3_bestToAsk 5 = .ok (.invokevirtual 116, 3) := by decide +kernel
theorem dX3_bestToAsk_8 : decode cX3_bestToAsk 8 = .ok (.aload_n 0, 1) := by decide +kernel
theorem dX3_bestToAsk_9 : decode cX3_bestToAsk 9 = .ok (.invokevirtual 119, 3) := by decide +kernel
theorem dX3_bestToAsk_12 : decode cX3_bestToAsk 12 = .ok (.lstore_n 1, 1) := by decide +kernel
theorem dX3_bestToAsk_13 : decode cX3_bestToAsk 13 = .ok (.iconst (-1), 1) := by decide +kernel
theorem dX3_bestToAsk_14 : decode cX3_bestToAsk 14 = .ok (.istore_n 3, 1) := by decide +kernel
theorem dX3_bestToAsk_15 : decode cX3_bestToAsk 15 = .ok (.iconst 0, 1) := by decide +kernel
theorem dX3_bestToAsk_16 : decode cX3_bestToAsk 16 = .ok (.istore 4, 2) := by decide +kernel
theorem dX3_bestToAsk_18 : decode cX3_bestToAsk 18 = .ok (.iload 4, 2) := by decide +kernel
theorem dX3_bestToAsk_20 : decode cX3_bestToAsk 20 = .ok (.aload_n 0, 1) := by decide +kernel
theorem dX3_bestToAsk_21 : decode cX3_bestToAsk 21 = .ok (.getfield 49, 3) := by decide +kernel
theorem dX3_bestToAsk_24 : decode cX3_bestToAsk 24 = .ok (.if_icmp .ge 78, 3) := by decide +kernel
theorem dX3_bestToAsk_27 : decode cX3_bestToAsk 27 = .ok (.iload 4, 2) := by decide +kernel
theorem dX3_bestToAsk_29 : decode cX3_bestToAsk 29 = .ok (.iconst 1, 1) := by decide +kernel
theorem dX3_bestToAsk_30 : decode cX3_bestToAsk 30 = .ok (.iadd, 1) := by decide +kernel
theorem dX3_bestToAsk_31 : decode cX3_bestToAsk 31 = .ok (.istore 5, 2) := by decide +kernel
theorem dX3_bestToAsk_33 : decode cX3_bestToAsk 33 = .ok (.iload 5, 2) := by decide +kernel
theorem dX3_bestToAsk_35 : decode cX3_bestToAsk 35 = .ok (.aload_n 0, 1) := by decide +kernel
theorem dX3_bestToAsk_36 : decode cX3_bestToAsk 36 = .ok (.getfield 49, 3) := by decide +kernel
theorem dX3_bestToAsk_39 : decode cX3_bestToAsk 39 = .ok (.if_icmp .ge 57, 3) := by decide +kernel
theorem dX3_bestToAsk_42 : decode cX3_bestToAsk 42 = .ok (.aload_n 0, 1) := by decide +kernel
theorem dX3_bestToAsk_43 : decode cX3_bestToAsk 43 = .ok (.getfield 34, 3) := by decide +kernel
theorem dX3_bestToAsk_46 : decode cX3_bestToAsk 46 = .ok (.iload 4, 2) := by decide +kernel
theorem dX3_bestToAsk_48 : decode cX3_bestToAsk 48 = .ok (.bipush 14, 2) := by decide +kernel
theorem dX3_bestToAsk_50 : decode cX3_bestToAsk 50 = .ok (.imul, 1) := by decide +kernel
theorem dX3_bestToAsk_51 : decode cX3_bestToAsk 51 = .ok (.iload 5, 2) := by decide +kernel
theorem dX3_bestToAsk_53 : decode cX3_bestToAsk 53 = .ok (.iadd, 1) := by decide +kernel
theorem dX3_bestToAsk_54 : decode cX3_bestToAsk 54 = .ok (.laload, 1) := by decide +kernel
theorem dX3_bestToAsk_55 : decode cX3_bestToAsk 55 = .ok (.lstore 6, 2) := by decide +kernel
theorem dX3_bestToAsk_57 : decode cX3_bestToAsk 57 = .ok (.lload 6, 2) := by decide +kernel
theorem dX3_bestToAsk_59 : decode cX3_bestToAsk 59 = .ok (.aload_n 0, 1) := by decide +kernel
theorem dX3_bestToAsk_60 : decode cX3_bestToAsk 60 = .ok (.invokevirtual 119, 3) := by decide +kernel
theorem dX3_bestToAsk_63 : decode cX3_bestToAsk 63 = .ok (.lload 6, 2) := by decide +kernel
theorem dX3_bestToAsk_65 : decode cX3_bestToAsk 65 = .ok (.lsub, 1) := by decide +kernel
theorem dX3_bestToAsk_66 : decode cX3_bestToAsk 66 = .ok (.invokestatic 123, 3) := by decide +kernel
theorem dX3_bestToAsk_69 : decode cX3_bestToAsk 69 = .ok (.lstore 8, 2) := by decide +kernel
theorem dX3_bestToAsk_71 : decode cX3_bestToAsk 71 = .ok (.lload 8, 2) := by decide +kernel
theorem dX3_bestToAsk_73 : decode cX3_bestToAsk 73 = .ok (.lload_n 1, 1) := by decide +kernel
theorem dX3_bestToAsk_74 : decode cX3_bestToAsk 74 = .ok (.lcmp, 1) := by decide +kernel
theorem dX3_bestToAsk_75 : decode cX3_bestToAsk 75 = .ok (.ifCond .ge 15, 3) := by decide +kernel
theorem dX3_bestToAsk_78 : decode cX3_bestToAsk 78 = .ok (.lload 8, 2) := by decide +kernel
theorem dX3_bestToAsk_80 : decode cX3_bestToAsk 80 = .ok (.lstore_n 1, 1) := by decide +kernel
theorem dX3_bestToAsk_81 : decode cX3_bestToAsk 81 = .ok (.iload 4, 2) := by decide +kernel
theorem dX3_bestToAsk_83 : decode cX3_bestToAsk 83 = .ok (.bipush 24, 2) := by decide +kernel
theorem dX3_bestToAsk_85 : decode cX3_bestToAsk 85 = .ok (.imul, 1) := by decide +kernel
theorem dX3_bestToAsk_86 : decode cX3_bestToAsk 86 = .ok (.iload 5, 2) := by decide +kernel
theorem dX3_bestToAsk_88 : decode cX3_bestToAsk 88 = .ok (.iadd, 1) := by decide +kernel
theorem dX3_bestToAsk_89 : decode cX3_bestToAsk 89 = .ok (.istore_n 3, 1) := by decide +kernel
theorem dX3_bestToAsk_90 : decode cX3_bestToAsk 90 = .ok (.iinc 5 1, 3) := by decide +kernel
theorem dX3_bestToAsk_93 : decode cX3_bestToAsk 93 = .ok (.goto (-60), 3) := by decide +kernel
theorem dX3_bestToAsk_96 : decode cX3_bestToAsk 96 = .ok (.iinc 4 1, 3) := by decide +kernel
theorem dX3_bestToAsk_99 : decode cX3_bestToAsk 99 = .ok (.goto (-81), 3) := by decide +kernel
theorem dX3_bestToAsk_102 : decode cX3_bestToAsk 102 = .ok (.iload_n 3, 1) := by decide +kernel
theorem dX3_bestToAsk_103 : decode cX3_bestToAsk 103 = .ok (.ireturn, 1) := by decide +kernel
def wX3_bestToAsk (cy : Nat → ClassId) (tA : Nat) (t_ties : Int32) (t_stages : Int32) (t_beforeA : Nat) (t_beforeN : Nat) (t_before : Nat → Int32) (t_placesA : Nat) (t_placesN : Nat) (t_places : Nat → Int32) (t_tiedA : Nat) (t_tiedN : Nat) (t_tied : Nat → Int32) (t_stepsA : Nat) (t_stepsN : Nat) (t_steps : Nat → Int32) (t_doneA : Nat) (t_doneN : Nat) (t_done : Nat → Int32) (t_waysToA : Nat) (t_waysToN : Nat) (t_waysTo : Nat → Int64) (t_waysFromA : Nat) (t_waysFromN : Nat) (t_waysFrom : Nat → Int64) (t_firstsA : Nat) (t_firstsN : Nat) (t_firsts : Nat → Int64) : va_W :=
  [(tA, .inr (3, [.ref t_beforeA, .ref t_placesA, .ref t_tiedA, .ref t_stepsA, .ref t_doneA, .ref t_waysToA, .ref t_waysFromA, .ref t_firstsA, .int t_ties, .int t_stages])), (t_beforeA, .inl (cy 1, t_beforeN, .inl t_before)), (t_placesA, .inl (cy 1, t_placesN, .inl t_places)), (t_tiedA, .inl (cy 1, t_tiedN, .inl t_tied)), (t_stepsA, .inl (cy 1, t_stepsN, .inl t_steps)), (t_doneA, .inl (cy 1, t_doneN, .inl t_done)), (t_waysToA, .inl (cy 2, t_waysToN, .inr (.inl t_waysTo))), (t_waysFromA, .inl (cy 2, t_waysFromN, .inr (.inl t_waysFrom))), (t_firstsA, .inl (cy 2, t_firstsN, .inr (.inl t_firsts)))]
noncomputable def bX3_bestToAsk_L90 (F : Nat) (t_ties : Int32) (t_stages : Int32) (t_beforeN : Nat) (t_before : Nat → Int32) (t_placesN : Nat) (t_places : Nat → Int32) (t_tiedN : Nat) (t_tied : Nat → Int32) (t_stepsN : Nat) (t_steps : Nat → Int32) (t_doneN : Nat) (t_done : Nat → Int32) (t_waysToN : Nat) (t_waysTo : Nat → Int64) (t_waysFromN : Nat) (t_firstsN : Nat) (k33 : Int64 → Int32 → Int32 → Int32 → (Nat → Int64) → (Nat → Int64) → Option (Int32 × (Nat → Int64) × (Nat → Int64))) (x1 : Int64) (x3 : Int32) (x4 : Int32) (x5 : Int32) (t_waysFrom : Nat → Int64) (t_firsts : Nat → Int64) : Option (Int32 × (Nat → Int64) × (Nat → Int64)) :=
  k33 x1 x3 x4 (x5 + (1 : Int32)) t_waysFrom t_firsts
theorem vX3_bestToAsk_L90 {l : Launch} {D : va_G} {cy : Nat → ClassId} {av : List Value} {ws0 : va_W} {Q : Option Value → va_W → Prop} (F : Nat) (tA : Nat) (t_ties : Int32) (t_stages : Int32) (t_beforeA : Nat) (t_beforeN : Nat) (t_before : Nat → Int32) (t_placesA : Nat) (t_placesN : Nat) (t_places : Nat → Int32) (t_tiedA : Nat) (t_tiedN : Nat) (t_tied : Nat → Int32) (t_stepsA : Nat) (t_stepsN : Nat) (t_steps : Nat → Int32) (t_doneA : Nat) (t_doneN : Nat) (t_done : Nat → Int32) (t_waysToA : Nat) (t_waysToN : Nat) (t_waysTo : Nat → Int64) (t_waysFromA : Nat) (t_waysFromN : Nat) (t_firstsA : Nat) (t_firstsN : Nat) (k33 : Int64 → Int32 → Int32 → Int32 → (Nat → Int64) → (Nat → Int64) → Option (Int32 × (Nat → Int64) × (Nat → Int64))) (hk33 : ∀ (x1 : Int64) (x3 : Int32) (x4 : Int32) (x5 : Int32) (t_waysFrom : Nat → Int64) (t_firsts : Nat → Int64) (R : Int32 × (Nat → Int64) × (Nat → Int64)), k33 x1 x3 x4 x5 t_waysFrom t_firsts = some R → Q (some (.int R.1)) (wX3_bestToAsk cy tA t_ties t_stages t_beforeA t_beforeN t_before t_placesA t_placesN t_places t_tiedA t_tiedN t_tied t_stepsA t_stepsN t_steps t_doneA t_doneN t_done t_waysToA t_waysToN t_waysTo t_waysFromA t_waysFromN R.2.1 t_firstsA t_firstsN R.2.2) → V l D cy MX3_bestToAsk 3 0 0 av ws0 Q 33 [(0, .ref tA), (1, .long x1), (3, .int x3), (4, .int x4), (5, .int x5)] [] (wX3_bestToAsk cy tA t_ties t_stages t_beforeA t_beforeN t_before t_placesA t_placesN t_places t_tiedA t_tiedN t_tied t_stepsA t_stepsN t_steps t_doneA t_doneN t_done t_waysToA t_waysToN t_waysTo t_waysFromA t_waysFromN t_waysFrom t_firstsA t_firstsN t_firsts) 0 0) (x1 : Int64) (x3 : Int32) (x4 : Int32) (x5 : Int32) (t_waysFrom : Nat → Int64) (t_firsts : Nat → Int64) (R : Int32 × (Nat → Int64) × (Nat → Int64)) (h : bX3_bestToAsk_L90 F t_ties t_stages t_beforeN t_before t_placesN t_places t_tiedN t_tied t_stepsN t_steps t_doneN t_done t_waysToN t_waysTo t_waysFromN t_firstsN k33 x1 x3 x4 x5 t_waysFrom t_firsts = some R) (hQ : Q (some (.int R.1)) (wX3_bestToAsk cy tA t_ties t_stages t_beforeA t_beforeN t_before t_placesA t_placesN t_places t_tiedA t_tiedN t_tied t_stepsA t_stepsN t_steps t_doneA t_doneN t_done t_waysToA t_waysToN t_waysTo t_waysFromA t_waysFromN R.2.1 t_firstsA t_firstsN R.2.2)) : V l D cy MX3_bestToAsk 3 0 0 av ws0 Q 90 [(0, .ref tA), (1, .long x1), (3, .int x3), (4, .int x4), (5, .int x5)] [] (wX3_bestToAsk cy tA t_ties t_stages t_beforeA t_beforeN t_before t_placesA t_placesN t_places t_tiedA t_tiedN t_tied t_stepsA t_stepsN t_steps t_doneA t_doneN t_done t_waysToA t_waysToN t_waysTo t_waysFromA t_waysFromN t_waysFrom t_firstsA t_firstsN t_firsts) 0 0 := by
  unfold bX3_bestToAsk_L90 at h
  refine V.iinc (v := x5 + (1 : Int32)) (lv' := [(5, .int (x5 + (1 : Int32))), (0, .ref tA), (1, .long x1), (3, .int x3), (4, .int x4)]) dX3_bestToAsk_90 4 rfl rfl (by decide) rfl ?_
  refine V.goto (tgt := 33) dX3_bestToAsk_93 (by decide) ?_
  refine V.lvs [1, 2, 3, 4, 0] rfl ?_
  exact hk33 _ _ _ _ _ _ R h hQ
noncomputable def bX3_bestToAsk_L33 (F : Nat) (t_ties : Int32) (t_stages : Int32) (t_beforeN : Nat) (t_before : Nat → Int32) (t_placesN : Nat) (t_places : Nat → Int32) (t_tiedN : Nat) (t_tied : Nat → Int32) (t_stepsN : Nat) (t_steps : Nat → Int32) (t_doneN : Nat) (t_done : Nat → Int32) (t_waysToN : Nat) (t_waysTo : Nat → Int64) (t_waysFromN : Nat) (t_firstsN : Nat) (k18 : Int64 → Int32 → Int32 → (Nat → Int64) → (Nat → Int64) → Option (Int32 × (Nat → Int64) × (Nat → Int64))) (k33 : Int64 → Int32 → Int32 → Int32 → (Nat → Int64) → (Nat → Int64) → Option (Int32 × (Nat → Int64) × (Nat → Int64))) (x1 : Int64) (x3 : Int32) (x4 : Int32) (x5 : Int32) (t_waysFrom : Nat → Int64) (t_firsts : Nat → Int64) : Option (Int32 × (Nat → Int64) × (Nat → Int64)) :=
  if t_ties ≤ x5 then (k18 x1 x3 (x4 + (1 : Int32)) t_waysFrom t_firsts) else (if ((x4 * (14 : Int32)) + x5) < 0 ∨ t_firstsN ≤ ((x4 * (14 : Int32)) + x5).toNatClampNeg then none else ((fX3_all F t_stages t_waysToN t_waysTo).bind fun R60 => ((fJ9_max_f86c9 F (t_firsts ((x4 * (14 : Int32)) + x5).toNatClampNeg) (R60 - (t_firsts ((x4 * (14 : Int32)) + x5).toNatClampNeg))).bind fun R66 => (if 0 ≤ (lg_cmp R66 x1) then (bX3_bestToAsk_L90 F t_ties t_stages t_beforeN t_before t_placesN t_places t_tiedN t_tied t_stepsN t_steps t_doneN t_done t_waysToN t_waysTo t_waysFromN t_firstsN k33 x1 x3 x4 x5 t_waysFrom t_firsts) else (bX3_bestToAsk_L90 F t_ties t_stages t_beforeN t_before t_placesN t_places t_tiedN t_tied t_stepsN t_steps t_doneN t_done t_waysToN t_waysTo t_waysFromN t_firstsN k33 R66 ((x4 * (24 : Int32)) + x5) x4 x5 t_waysFrom t_firsts)))))
theorem vbX3_bestToAsk_L33 {l : Launch} {D : va_G} {cy : Nat → ClassId} {av : List Value} {ws0 : va_W} {Q : Option Value → va_W → Prop} (F : Nat) (tA : Nat) (t_ties : Int32) (t_stages : Int32) (t_beforeA : Nat) (t_beforeN : Nat) (t_before : Nat → Int32) (t_placesA : Nat) (t_placesN : Nat) (t_places : Nat → Int32) (t_tiedA : Nat) (t_tiedN : Nat) (t_tied : Nat → Int32) (t_stepsA : Nat) (t_stepsN : Nat) (t_steps : Nat → Int32) (t_doneA : Nat) (t_doneN : Nat) (t_done : Nat → Int32) (t_waysToA : Nat) (t_waysToN : Nat) (t_waysTo : Nat → Int64) (t_waysFromA : Nat) (t_waysFromN : Nat) (t_firstsA : Nat) (t_firstsN : Nat) (k18 : Int64 → Int32 → Int32 → (Nat → Int64) → (Nat → Int64) → Option (Int32 × (Nat → Int64) × (Nat → Int64))) (hk18 : ∀ (x1 : Int64) (x3 : Int32) (x4 : Int32) (t_waysFrom : Nat → Int64) (t_firsts : Nat → Int64) (R : Int32 × (Nat → Int64) × (Nat → Int64)), k18 x1 x3 x4 t_waysFrom t_firsts = some R → Q (some (.int R.1)) (wX3_bestToAsk cy tA t_ties t_stages t_beforeA t_beforeN t_before t_placesA t_placesN t_places t_tiedA t_tiedN t_tied t_stepsA t_stepsN t_steps t_doneA t_doneN t_done t_waysToA t_waysToN t_waysTo t_waysFromA t_waysFromN R.2.1 t_firstsA t_firstsN R.2.2) → V l D cy MX3_bestToAsk 3 0 0 av ws0 Q 18 [(0, .ref tA), (1, .long x1), (3, .int x3), (4, .int x4)] [] (wX3_bestToAsk cy tA t_ties t_stages t_beforeA t_beforeN t_before t_placesA t_placesN t_places t_tiedA t_tiedN t_tied t_stepsA t_stepsN t_steps t_doneA t_doneN t_done t_waysToA t_waysToN t_waysTo t_waysFromA t_waysFromN t_waysFrom t_firstsA t_firstsN t_firsts) 0 0) (k33 : Int64 → Int32 → Int32 → Int32 → (Nat → Int64) → (Nat → Int64) → Option (Int32 × (Nat → Int64) × (Nat → Int64))) (hk33 : ∀ (x1 : Int64) (x3 : Int32) (x4 : Int32) (x5 : Int32) (t_waysFrom : Nat → Int64) (t_firsts : Nat → Int64) (R : Int32 × (Nat → Int64) × (Nat → Int64)), k33 x1 x3 x4 x5 t_waysFrom t_firsts = some R → Q (some (.int R.1)) (wX3_bestToAsk cy tA t_ties t_stages t_beforeA t_beforeN t_before t_placesA t_placesN t_places t_tiedA t_tiedN t_tied t_stepsA t_stepsN t_steps t_doneA t_doneN t_done t_waysToA t_waysToN t_waysTo t_waysFromA t_waysFromN R.2.1 t_firstsA t_firstsN R.2.2) → V l D cy MX3_bestToAsk 3 0 0 av ws0 Q 33 [(0, .ref tA), (1, .long x1), (3, .int x3), (4, .int x4), (5, .int x5)] [] (wX3_bestToAsk cy tA t_ties t_stages t_beforeA t_beforeN t_before t_placesA t_placesN t_places t_tiedA t_tiedN t_tied t_stepsA t_stepsN t_steps t_doneA t_doneN t_done t_waysToA t_waysToN t_waysTo t_waysFromA t_waysFromN t_waysFrom t_firstsA t_firstsN t_firsts) 0 0) (x1 : Int64) (x3 : Int32) (x4 : Int32) (x5 : Int32) (t_waysFrom : Nat → Int64) (t_firsts : Nat → Int64) (R : Int32 × (Nat → Int64) × (Nat → Int64)) (h : bX3_bestToAsk_L33 F t_ties t_stages t_beforeN t_before t_placesN t_places t_tiedN t_tied t_stepsN t_steps t_doneN t_done t_waysToN t_waysTo t_waysFromN t_firstsN k18 k33 x1 x3 x4 x5 t_waysFrom t_firsts = some R) (hQ : Q (some (.int R.1)) (wX3_bestToAsk cy tA t_ties t_stages t_beforeA t_beforeN t_before t_placesA t_placesN t_places t_tiedA t_tiedN t_tied t_stepsA t_stepsN t_steps t_doneA t_doneN t_done t_waysToA t_waysToN t_waysTo t_waysFromA t_waysFromN R.2.1 t_firstsA t_firstsN R.2.2)) : V l D cy MX3_bestToAsk 3 0 0 av ws0 Q 33 [(0, .ref tA), (1, .long x1), (3, .int x3), (4, .int x4), (5, .int x5)] [] (wX3_bestToAsk cy tA t_ties t_stages t_beforeA t_beforeN t_before t_placesA t_placesN t_places t_tiedA t_tiedN t_tied t_stepsA t_stepsN t_steps t_doneA t_doneN t_done t_waysToA t_waysToN t_waysTo t_waysFromA t_waysFromN t_waysFrom t_firstsA t_firstsN t_firsts) 0 0 := by
  unfold bX3_bestToAsk_L33 at h
  refine V.iload dX3_bestToAsk_33 4 rfl ?_
  refine V.aload_n dX3_bestToAsk_35 rfl 0 rfl ?_
  refine V.get kfX3 0 rfl rfl 8 (by decide) klX3_49 rfl dX3_bestToAsk_36 ?_
  refine V.icmp_ge (tgt := 96) dX3_bestToAsk_39 (by decide) (fun hc39 => ?_) (fun hc39 => ?_)
  · replace h := (if_pos hc39).symm.trans h
    refine V.iinc (v := x4 + (1 : Int32)) (lv' := [(4, .int (x4 + (1 : Int32))), (0, .ref tA), (1, .long x1), (3, .int x3), (5, .int x5)]) dX3_bestToAsk_96 3 rfl rfl (by decide) rfl ?_
    refine V.goto (tgt := 18) dX3_bestToAsk_99 (by decide) ?_
    refine V.lvs [1, 2, 3, 0] rfl ?_
    exact hk18 _ _ _ _ _ R h hQ
  · replace h := (if_neg hc39).symm.trans h
    refine V.aload_n dX3_bestToAsk_42 rfl 0 rfl ?_
    refine V.get kfX3 0 rfl rfl 7 (by decide) klX3_34 rfl dX3_bestToAsk_43 ?_
    refine V.iload dX3_bestToAsk_46 3 rfl ?_
    refine V.bipush (v := (14 : Int32)) dX3_bestToAsk_48 (by decide) ?_
    refine V.imul dX3_bestToAsk_50 ?_
    refine V.iload dX3_bestToAsk_51 4 rfl ?_
    refine V.iadd dX3_bestToAsk_53 ?_
    by_cases hb54 : ((x4 * (14 : Int32)) + x5) < 0 ∨ t_firstsN ≤ ((x4 * (14 : Int32)) + x5).toNatClampNeg
    · exact vNone ((if_pos hb54).symm.trans h)
    replace h := (if_neg hb54).symm.trans h
    refine V.lald dX3_bestToAsk_54 8 rfl hb54 ?_
    refine V.lstore (lv' := [(6, .long (t_firsts ((x4 * (14 : Int32)) + x5).toNatClampNeg)), (0, .ref tA), (1, .long x1), (3, .int x3), (4, .int x4), (5, .int x5)]) dX3_bestToAsk_55 (by decide) rfl ?_
    refine V.lload dX3_bestToAsk_57 0 rfl ?_
    refine V.aload_n dX3_bestToAsk_59 rfl 1 rfl ?_
    obtain ⟨R60, hg60, h⟩ := Option.bind_eq_some_iff.mp h
    refine V.callV (As := []) (rest := [.long (t_firsts ((x4 * (14 : Int32)) + x5).toNatClampNeg)]) (wc := (wX3_all cy tA (.ref t_beforeA) (.ref t_placesA) (.ref t_tiedA) (.ref t_stepsA) (.ref t_doneA) (.ref t_waysFromA) (.ref t_firstsA) t_ties t_stages t_waysToA t_waysToN t_waysTo)) (wr := [(t_beforeA, .inl (cy 1, t_beforeN, .inl t_before)), (t_placesA, .inl (cy 1, t_placesN, .inl t_places)), (t_tiedA, .inl (cy 1, t_tiedN, .inl t_tied)), (t_stepsA, .inl (cy 1, t_stepsN, .inl t_steps)), (t_doneA, .inl (cy 1, t_doneN, .inl t_done)), (t_waysFromA, .inl (cy 2, t_waysFromN, .inr (.inl t_waysFrom))), (t_firstsA, .inl (cy 2, t_firstsN, .inr (.inl t_firsts)))]) (q0 := 0) (CX3_all F tA (.ref t_beforeA) (.ref t_placesA) (.ref t_tiedA) (.ref t_stepsA) (.ref t_doneA) (.ref t_waysFromA) (.ref t_firstsA) t_ties t_stages t_waysToA t_waysToN t_waysTo R60 hg60) kvX3_all klX3_119 [0, 6] [1, 2, 3, 4, 5, 7, 8] rfl rfl (by decide) (by decide) (by decide) rfl rfl rfl rfl dX3_bestToAsk_60 ⟨by decide, by decide, by decide, by decide⟩ (Nat.le_of_ble_eq_true rfl) (fun r w1 hq => ?_)
    obtain ⟨rfl, rfl⟩ := hq
    refine V.cells (ws' := (wX3_bestToAsk cy tA t_ties t_stages t_beforeA t_beforeN t_before t_placesA t_placesN t_places t_tiedA t_tiedN t_tied t_stepsA t_stepsN t_steps t_doneA t_doneN t_done t_waysToA t_waysToN t_waysTo t_waysFromA t_waysFromN t_waysFrom t_firstsA t_firstsN t_firsts)) [7, 0, 1, 2, 3, 4, 8, 5, 6] (by decide) rfl ?_
    show V l D cy MX3_bestToAsk 3 0 0 _ _ _ 63 [(6, .long (t_firsts ((x4 * (14 : Int32)) + x5).toNatClampNeg)), (0, .ref tA), (1, .long x1), (3, .int x3), (4, .int x4), (5, .int x5)] [.long R60, .long (t_firsts ((x4 * (14 : Int32)) + x5).toNatClampNeg)] (wX3_bestToAsk cy tA t_ties t_stages t_beforeA t_beforeN t_before t_placesA t_placesN t_places t_tiedA t_tiedN t_tied t_stepsA t_stepsN t_steps t_doneA t_doneN t_done t_waysToA t_waysToN t_waysTo t_waysFromA t_waysFromN t_waysFrom t_firstsA t_firstsN t_firsts) 0 0
    refine V.lload dX3_bestToAsk_63 0 rfl ?_
    refine V.lsub dX3_bestToAsk_65 ?_
    obtain ⟨R66, hg66, h⟩ := Option.bind_eq_some_iff.mp h
    refine V.callS (As := [.long (t_firsts ((x4 * (14 : Int32)) + x5).toNatClampNeg), .long (R60 - (t_firsts ((x4 * (14 : Int32)) + x5).toNatClampNeg))]) (rest := []) (wc := (wJ9_max_f86c9 cy )) (wr := [(tA, .inr (3, [.ref t_beforeA, .ref t_placesA, .ref t_tiedA, .ref t_stepsA, .ref t_doneA, .ref t_waysToA, .ref t_waysFromA, .ref t_firstsA, .int t_ties, .int t_stages])), (t_beforeA, .inl (cy 1, t_beforeN, .inl t_before)), (t_placesA, .inl (cy 1, t_placesN, .inl t_places)), (t_tiedA, .inl (cy 1, t_tiedN, .inl t_tied)), (t_stepsA, .inl (cy 1, t_stepsN, .inl t_steps)), (t_doneA, .inl (cy 1, t_doneN, .inl t_done)), (t_waysToA, .inl (cy 2, t_waysToN, .inr (.inl t_waysTo))), (t_waysFromA, .inl (cy 2, t_waysFromN, .inr (.inl t_waysFrom))), (t_firstsA, .inl (cy 2, t_firstsN, .inr (.inl t_firsts)))]) (CJ9_max_f86c9 F (t_firsts ((x4 * (14 : Int32)) + x5).toNatClampNeg) (R60 - (t_firsts ((x4 * (14 : Int32)) + x5).toNatClampNeg)) R66 hg66) kvJ9_max_f86c9 klX3_123 [] [0, 1, 2, 3, 4, 5, 6, 7, 8] rfl rfl (by decide) (by decide) (by decide) rfl dX3_bestToAsk_66 ⟨by decide, by decide, by decide, by decide⟩ (Nat.le_of_ble_eq_true rfl) (fun r w1 hq => ?_)
    obtain ⟨rfl, rfl⟩ := hq
    refine V.cells (ws' := (wX3_bestToAsk cy tA t_ties t_stages t_beforeA t_beforeN t_before t_placesA t_placesN t_places t_tiedA t_tiedN t_tied t_stepsA t_stepsN t_steps t_doneA t_doneN t_done t_waysToA t_waysToN t_waysTo t_waysFromA t_waysFromN t_waysFrom t_firstsA t_firstsN t_firsts)) [0, 1, 2, 3, 4, 5, 6, 7, 8] (by decide) rfl ?_
    show V l D cy MX3_bestToAsk 3 0 0 _ _ _ 69 [(6, .long (t_firsts ((x4 * (14 : Int32)) + x5).toNatClampNeg)), (0, .ref tA), (1, .long x1), (3, .int x3), (4, .int x4), (5, .int x5)] [.long R66] (wX3_bestToAsk cy tA t_ties t_stages t_beforeA t_beforeN t_before t_placesA t_placesN t_places t_tiedA t_tiedN t_tied t_stepsA t_stepsN t_steps t_doneA t_doneN t_done t_waysToA t_waysToN t_waysTo t_waysFromA t_waysFromN t_waysFrom t_firstsA t_firstsN t_firsts) 0 0
    refine V.lstore (lv' := [(8, .long R66), (6, .long (t_firsts ((x4 * (14 : Int32)) + x5).toNatClampNeg)), (0, .ref tA), (1, .long x1), (3, .int x3), (4, .int x4), (5, .int x5)]) dX3_bestToAsk_69 (by decide) rfl ?_
    refine V.lload dX3_bestToAsk_71 0 rfl ?_
    refine V.lload_n dX3_bestToAsk_73 rfl 3 rfl ?_
    refine V.lcmp dX3_bestToAsk_74 ?_
    refine V.if_ge (tgt := 90) dX3_bestToAsk_75 (by decide) (fun hc75 => ?_) (fun hc75 => ?_)
    · replace h := (if_pos hc75).symm.trans h
      refine V.lvs [2, 3, 4, 5, 6] rfl ?_
      exact vX3_bestToAsk_L90 _ _ _ _ _ _ _ _ _ _ _ _ _ _ _ _ _ _ _ _ _ _ _ _ _ _ _ hk33  _ _ _ _ _ _ R h hQ
    · replace h := (if_neg hc75).symm.trans h
      refine V.lload dX3_bestToAsk_78 0 rfl ?_
      refine V.lstore_n (lv' := [(1, .long R66), (8, .long R66), (6, .long (t_firsts ((x4 * (14 : Int32)) + x5).toNatClampNeg)), (0, .ref tA), (3, .int x3), (4, .int x4), (5, .int x5)]) dX3_bestToAsk_80 rfl (by decide) rfl ?_
      refine V.iload dX3_bestToAsk_81 5 rfl ?_
      refine V.bipush (v := (24 : Int32)) dX3_bestToAsk_83 (by decide) ?_
      refine V.imul dX3_bestToAsk_85 ?_
      refine V.iload dX3_bestToAsk_86 6 rfl ?_
      refine V.iadd dX3_bestToAsk_88 ?_
      refine V.istore_n (lv' := [(3, .int ((x4 * (24 : Int32)) + x5)), (1, .long R66), (8, .long R66), (6, .long (t_firsts ((x4 * (14 : Int32)) + x5).toNatClampNeg)), (0, .ref tA), (4, .int x4), (5, .int x5)]) dX3_bestToAsk_89 rfl (by decide) rfl ?_
      refine V.lvs [4, 1, 0, 5, 6] rfl ?_
      exact vX3_bestToAsk_L90 _ _ _ _ _ _ _ _ _ _ _ _ _ _ _ _ _ _ _ _ _ _ _ _ _ _ _ hk33  _ _ _ _ _ _ R h hQ
noncomputable def fX3_bestToAsk_L33 (F : Nat) (t_ties : Int32) (t_stages : Int32) (t_beforeN : Nat) (t_before : Nat → Int32) (t_placesN : Nat) (t_places : Nat → Int32) (t_tiedN : Nat) (t_tied : Nat → Int32) (t_stepsN : Nat) (t_steps : Nat → Int32) (t_doneN : Nat) (t_done : Nat → Int32) (t_waysToN : Nat) (t_waysTo : Nat → Int64) (t_waysFromN : Nat) (t_firstsN : Nat) (k18 : Int64 → Int32 → Int32 → (Nat → Int64) → (Nat → Int64) → Option (Int32 × (Nat → Int64) × (Nat → Int64))) : Nat → Int64 → Int32 → Int32 → Int32 → (Nat → Int64) → (Nat → Int64) → Option (Int32 × (Nat → Int64) × (Nat → Int64))
  | 0 => fun _ _ _ _ _ _ => none
  | n + 1 => bX3_bestToAsk_L33 F t_ties t_stages t_beforeN t_before t_placesN t_places t_tiedN t_tied t_stepsN t_steps t_doneN t_done t_waysToN t_waysTo t_waysFromN t_firstsN k18 (fX3_bestToAsk_L33 F t_ties t_stages t_beforeN t_before t_placesN t_places t_tiedN t_tied t_stepsN t_steps t_doneN t_done t_waysToN t_waysTo t_waysFromN t_firstsN k18 n)
theorem vX3_bestToAsk_L33 {l : Launch} {D : va_G} {cy : Nat → ClassId} {av : List Value} {ws0 : va_W} {Q : Option Value → va_W → Prop} (F : Nat) (tA : Nat) (t_ties : Int32) (t_stages : Int32) (t_beforeA : Nat) (t_beforeN : Nat) (t_before : Nat → Int32) (t_placesA : Nat) (t_placesN : Nat) (t_places : Nat → Int32) (t_tiedA : Nat) (t_tiedN : Nat) (t_tied : Nat → Int32) (t_stepsA : Nat) (t_stepsN : Nat) (t_steps : Nat → Int32) (t_doneA : Nat) (t_doneN : Nat) (t_done : Nat → Int32) (t_waysToA : Nat) (t_waysToN : Nat) (t_waysTo : Nat → Int64) (t_waysFromA : Nat) (t_waysFromN : Nat) (t_firstsA : Nat) (t_firstsN : Nat) (k18 : Int64 → Int32 → Int32 → (Nat → Int64) → (Nat → Int64) → Option (Int32 × (Nat → Int64) × (Nat → Int64))) (hk18 : ∀ (x1 : Int64) (x3 : Int32) (x4 : Int32) (t_waysFrom : Nat → Int64) (t_firsts : Nat → Int64) (R : Int32 × (Nat → Int64) × (Nat → Int64)), k18 x1 x3 x4 t_waysFrom t_firsts = some R → Q (some (.int R.1)) (wX3_bestToAsk cy tA t_ties t_stages t_beforeA t_beforeN t_before t_placesA t_placesN t_places t_tiedA t_tiedN t_tied t_stepsA t_stepsN t_steps t_doneA t_doneN t_done t_waysToA t_waysToN t_waysTo t_waysFromA t_waysFromN R.2.1 t_firstsA t_firstsN R.2.2) → V l D cy MX3_bestToAsk 3 0 0 av ws0 Q 18 [(0, .ref tA), (1, .long x1), (3, .int x3), (4, .int x4)] [] (wX3_bestToAsk cy tA t_ties t_stages t_beforeA t_beforeN t_before t_placesA t_placesN t_places t_tiedA t_tiedN t_tied t_stepsA t_stepsN t_steps t_doneA t_doneN t_done t_waysToA t_waysToN t_waysTo t_waysFromA t_waysFromN t_waysFrom t_firstsA t_firstsN t_firsts) 0 0) : ∀ (n : Nat) (x1 : Int64) (x3 : Int32) (x4 : Int32) (x5 : Int32) (t_waysFrom : Nat → Int64) (t_firsts : Nat → Int64) (R : Int32 × (Nat → Int64) × (Nat → Int64)), fX3_bestToAsk_L33 F t_ties t_stages t_beforeN t_before t_placesN t_places t_tiedN t_tied t_stepsN t_steps t_doneN t_done t_waysToN t_waysTo t_waysFromN t_firstsN k18 n x1 x3 x4 x5 t_waysFrom t_firsts = some R → Q (some (.int R.1)) (wX3_bestToAsk cy tA t_ties t_stages t_beforeA t_beforeN t_before t_placesA t_placesN t_places t_tiedA t_tiedN t_tied t_stepsA t_stepsN t_steps t_doneA t_doneN t_done t_waysToA t_waysToN t_waysTo t_waysFromA t_waysFromN R.2.1 t_firstsA t_firstsN R.2.2) → V l D cy MX3_bestToAsk 3 0 0 av ws0 Q 33 [(0, .ref tA), (1, .long x1), (3, .int x3), (4, .int x4), (5, .int x5)] [] (wX3_bestToAsk cy tA t_ties t_stages t_beforeA t_beforeN t_before t_placesA t_placesN t_places t_tiedA t_tiedN t_tied t_stepsA t_stepsN t_steps t_doneA t_doneN t_done t_waysToA t_waysToN t_waysTo t_waysFromA t_waysFromN t_waysFrom t_firstsA t_firstsN t_firsts) 0 0 := by
  intro n
  induction n with
  | zero => intro x1 x3 x4 x5 t_waysFrom t_firsts R h; exact vNone h
  | succ n ih => intro x1 x3 x4 x5 t_waysFrom t_firsts R h hQ; exact vbX3_bestToAsk_L33 F tA t_ties t_stages t_beforeA t_beforeN t_before t_placesA t_placesN t_places t_tiedA t_tiedN t_tied t_stepsA t_stepsN t_steps t_doneA t_doneN t_done t_waysToA t_waysToN t_waysTo t_waysFromA t_waysFromN t_firstsA t_firstsN _ hk18 _ ih x1 x3 x4 x5 t_waysFrom t_firsts R h hQ
noncomputable def bX3_bestToAsk_L18 (F : Nat) (t_ties : Int32) (t_stages : Int32) (t_beforeN : Nat) (t_before : Nat → Int32) (t_placesN : Nat) (t_places : Nat → Int32) (t_tiedN : Nat) (t_tied : Nat → Int32) (t_stepsN : Nat) (t_steps : Nat → Int32) (t_doneN : Nat) (t_done : Nat → Int32) (t_waysToN : Nat) (t_waysTo : Nat → Int64) (t_waysFromN : Nat) (t_firstsN : Nat) (k18 : Int64 → Int32 → Int32 → (Nat → Int64) → (Nat → Int64) → Option (Int32 × (Nat → Int64) × (Nat → Int64))) (x1 : Int64) (x3 : Int32) (x4 : Int32) (t_waysFrom : Nat → Int64) (t_firsts : Nat → Int64) : Option (Int32 × (Nat → Int64) × (Nat → Int64)) :=
  if t_ties ≤ x4 then (some (x3, t_waysFrom, t_firsts)) else (fX3_bestToAsk_L33 F t_ties t_stages t_beforeN t_before t_placesN t_places t_tiedN t_tied t_stepsN t_steps t_doneN t_done t_waysToN t_waysTo t_waysFromN t_firstsN k18 F x1 x3 x4 (x4 + (1 : Int32)) t_waysFrom t_firsts)
theorem vbX3_bestToAsk_L18 {l : Launch} {D : va_G} {cy : Nat → ClassId} {av : List Value} {ws0 : va_W} {Q : Option Value → va_W → Prop} (F : Nat) (tA : Nat) (t_ties : Int32) (t_stages : Int32) (t_beforeA : Nat) (t_beforeN : Nat) (t_before : Nat → Int32) (t_placesA : Nat) (t_placesN : Nat) (t_places : Nat → Int32) (t_tiedA : Nat) (t_tiedN : Nat) (t_tied : Nat → Int32) (t_stepsA : Nat) (t_stepsN : Nat) (t_steps : Nat → Int32) (t_doneA : Nat) (t_doneN : Nat) (t_done : Nat → Int32) (t_waysToA : Nat) (t_waysToN : Nat) (t_waysTo : Nat → Int64) (t_waysFromA : Nat) (t_waysFromN : Nat) (t_firstsA : Nat) (t_firstsN : Nat) (k18 : Int64 → Int32 → Int32 → (Nat → Int64) → (Nat → Int64) → Option (Int32 × (Nat → Int64) × (Nat → Int64))) (hk18 : ∀ (x1 : Int64) (x3 : Int32) (x4 : Int32) (t_waysFrom : Nat → Int64) (t_firsts : Nat → Int64) (R : Int32 × (Nat → Int64) × (Nat → Int64)), k18 x1 x3 x4 t_waysFrom t_firsts = some R → Q (some (.int R.1)) (wX3_bestToAsk cy tA t_ties t_stages t_beforeA t_beforeN t_before t_placesA t_placesN t_places t_tiedA t_tiedN t_tied t_stepsA t_stepsN t_steps t_doneA t_doneN t_done t_waysToA t_waysToN t_waysTo t_waysFromA t_waysFromN R.2.1 t_firstsA t_firstsN R.2.2) → V l D cy MX3_bestToAsk 3 0 0 av ws0 Q 18 [(0, .ref tA), (1, .long x1), (3, .int x3), (4, .int x4)] [] (wX3_bestToAsk cy tA t_ties t_stages t_beforeA t_beforeN t_before t_placesA t_placesN t_places t_tiedA t_tiedN t_tied t_stepsA t_stepsN t_steps t_doneA t_doneN t_done t_waysToA t_waysToN t_waysTo t_waysFromA t_waysFromN t_waysFrom t_firstsA t_firstsN t_firsts) 0 0) (x1 : Int64) (x3 : Int32) (x4 : Int32) (t_waysFrom : Nat → Int64) (t_firsts : Nat → Int64) (R : Int32 × (Nat → Int64) × (Nat → Int64)) (h : bX3_bestToAsk_L18 F t_ties t_stages t_beforeN t_before t_placesN t_places t_tiedN t_tied t_stepsN t_steps t_doneN t_done t_waysToN t_waysTo t_waysFromN t_firstsN k18 x1 x3 x4 t_waysFrom t_firsts = some R) (hQ : Q (some (.int R.1)) (wX3_bestToAsk cy tA t_ties t_stages t_beforeA t_beforeN t_before t_placesA t_placesN t_places t_tiedA t_tiedN t_tied t_stepsA t_stepsN t_steps t_doneA t_doneN t_done t_waysToA t_waysToN t_waysTo t_waysFromA t_waysFromN R.2.1 t_firstsA t_firstsN R.2.2)) : V l D cy MX3_bestToAsk 3 0 0 av ws0 Q 18 [(0, .ref tA), (1, .long x1), (3, .int x3), (4, .int x4)] [] (wX3_bestToAsk cy tA t_ties t_stages t_beforeA t_beforeN t_before t_placesA t_placesN t_places t_tiedA t_tiedN t_tied t_stepsA t_stepsN t_steps t_doneA t_doneN t_done t_waysToA t_waysToN t_waysTo t_waysFromA t_waysFromN t_waysFrom t_firstsA t_firstsN t_firsts) 0 0 := by
  unfold bX3_bestToAsk_L18 at h
  refine V.iload dX3_bestToAsk_18 3 rfl ?_
  refine V.aload_n dX3_bestToAsk_20 rfl 0 rfl ?_
  refine V.get kfX3 0 rfl rfl 8 (by decide) klX3_49 rfl dX3_bestToAsk_21 ?_
  refine V.icmp_ge (tgt := 102) dX3_bestToAsk_24 (by decide) (fun hc24 => ?_) (fun hc24 => ?_)
  · replace h := (if_pos hc24).symm.trans h
    refine V.iload_n dX3_bestToAsk_102 rfl 2 rfl ?_
    have e9 := Option.some.inj h; subst e9
    exact V.iret (ty := .int) rfl rfl dX3_bestToAsk_103 (Nat.le_refl _) (Nat.le_refl _) hQ
  · replace h := (if_neg hc24).symm.trans h
    refine V.iload dX3_bestToAsk_27 3 rfl ?_
    refine V.iconst (v := (1 : Int32)) dX3_bestToAsk_29 (by decide) ?_
    refine V.iadd dX3_bestToAsk_30 ?_
    refine V.istore (lv' := [(5, .int (x4 + (1 : Int32))), (0, .ref tA), (1, .long x1), (3, .int x3), (4, .int x4)]) dX3_bestToAsk_31 (by decide) rfl ?_
    refine V.lvs [1, 2, 3, 4, 0] rfl ?_
    exact vX3_bestToAsk_L33 _ _ _ _ _ _ _ _ _ _ _ _ _ _ _ _ _ _ _ _ _ _ _ _ _ _ _ hk18 _ _ _ _ _ _ _ R h hQ
noncomputable def fX3_bestToAsk_L18 (F : Nat) (t_ties : Int32) (t_stages : Int32) (t_beforeN : Nat) (t_before : Nat → Int32) (t_placesN : Nat) (t_places : Nat → Int32) (t_tiedN : Nat) (t_tied : Nat → Int32) (t_stepsN : Nat) (t_steps : Nat → Int32) (t_doneN : Nat) (t_done : Nat → Int32) (t_waysToN : Nat) (t_waysTo : Nat → Int64) (t_waysFromN : Nat) (t_firstsN : Nat)  : Nat → Int64 → Int32 → Int32 → (Nat → Int64) → (Nat → Int64) → Option (Int32 × (Nat → Int64) × (Nat → Int64))
  | 0 => fun _ _ _ _ _ => none
  | n + 1 => bX3_bestToAsk_L18 F t_ties t_stages t_beforeN t_before t_placesN t_places t_tiedN t_tied t_stepsN t_steps t_doneN t_done t_waysToN t_waysTo t_waysFromN t_firstsN (fX3_bestToAsk_L18 F t_ties t_stages t_beforeN t_before t_placesN t_places t_tiedN t_tied t_stepsN t_steps t_doneN t_done t_waysToN t_waysTo t_waysFromN t_firstsN  n)
theorem vX3_bestToAsk_L18 {l : Launch} {D : va_G} {cy : Nat → ClassId} {av : List Value} {ws0 : va_W} {Q : Option Value → va_W → Prop} (F : Nat) (tA : Nat) (t_ties : Int32) (t_stages : Int32) (t_beforeA : Nat) (t_beforeN : Nat) (t_before : Nat → Int32) (t_placesA : Nat) (t_placesN : Nat) (t_places : Nat → Int32) (t_tiedA : Nat) (t_tiedN : Nat) (t_tied : Nat → Int32) (t_stepsA : Nat) (t_stepsN : Nat) (t_steps : Nat → Int32) (t_doneA : Nat) (t_doneN : Nat) (t_done : Nat → Int32) (t_waysToA : Nat) (t_waysToN : Nat) (t_waysTo : Nat → Int64) (t_waysFromA : Nat) (t_waysFromN : Nat) (t_firstsA : Nat) (t_firstsN : Nat)  : ∀ (n : Nat) (x1 : Int64) (x3 : Int32) (x4 : Int32) (t_waysFrom : Nat → Int64) (t_firsts : Nat → Int64) (R : Int32 × (Nat → Int64) × (Nat → Int64)), fX3_bestToAsk_L18 F t_ties t_stages t_beforeN t_before t_placesN t_places t_tiedN t_tied t_stepsN t_steps t_doneN t_done t_waysToN t_waysTo t_waysFromN t_firstsN  n x1 x3 x4 t_waysFrom t_firsts = some R → Q (some (.int R.1)) (wX3_bestToAsk cy tA t_ties t_stages t_beforeA t_beforeN t_before t_placesA t_placesN t_places t_tiedA t_tiedN t_tied t_stepsA t_stepsN t_steps t_doneA t_doneN t_done t_waysToA t_waysToN t_waysTo t_waysFromA t_waysFromN R.2.1 t_firstsA t_firstsN R.2.2) → V l D cy MX3_bestToAsk 3 0 0 av ws0 Q 18 [(0, .ref tA), (1, .long x1), (3, .int x3), (4, .int x4)] [] (wX3_bestToAsk cy tA t_ties t_stages t_beforeA t_beforeN t_before t_placesA t_placesN t_places t_tiedA t_tiedN t_tied t_stepsA t_stepsN t_steps t_doneA t_doneN t_done t_waysToA t_waysToN t_waysTo t_waysFromA t_waysFromN t_waysFrom t_firstsA t_firstsN t_firsts) 0 0 := by
  intro n
  induction n with
  | zero => intro x1 x3 x4 t_waysFrom t_firsts R h; exact vNone h
  | succ n ih => intro x1 x3 x4 t_waysFrom t_firsts R h hQ; exact vbX3_bestToAsk_L18 F tA t_ties t_stages t_beforeA t_beforeN t_before t_placesA t_placesN t_places t_tiedA t_tiedN t_tied t_stepsA t_stepsN t_steps t_doneA t_doneN t_done t_waysToA t_waysToN t_waysTo t_waysFromA t_waysFromN t_firstsA t_firstsN _ ih x1 x3 x4 t_waysFrom t_firsts R h hQ
noncomputable def fX3_bestToAsk (F : Nat) (t_ties : Int32) (t_stages : Int32) (t_beforeN : Nat) (t_before : Nat → Int32) (t_placesN : Nat) (t_places : Nat → Int32) (t_tiedN : Nat) (t_tied : Nat → Int32) (t_stepsN : Nat) (t_steps : Nat → Int32) (t_doneN : Nat) (t_done : Nat → Int32) (t_waysToN : Nat) (t_waysTo : Nat → Int64) (t_waysFromN : Nat) (t_firstsN : Nat) (t_waysFrom : Nat → Int64) (t_firsts : Nat → Int64) : Option (Int32 × (Nat → Int64) × (Nat → Int64)) :=
  (fX3_countOnward F t_stages t_beforeN t_before t_placesN t_places t_tiedN t_tied t_stepsN t_steps t_doneN t_done t_waysFromN t_waysFrom).bind fun R1 => ((fX3_countFirsts F t_ties t_stages t_beforeN t_before t_placesN t_places t_tiedN t_tied t_stepsN t_steps t_doneN t_done t_waysToN t_waysTo t_waysFromN R1 t_firstsN t_firsts).bind fun R5 => ((fX3_all F t_stages t_waysToN t_waysTo).bind fun R9 => (fX3_bestToAsk_L18 F t_ties t_stages t_beforeN t_before t_placesN t_places t_tiedN t_tied t_stepsN t_steps t_doneN t_done t_waysToN t_waysTo t_waysFromN t_firstsN F R9 (-1 : Int32) (0 : Int32) R1 R5)))
theorem CX3_bestToAsk {l : Launch} {D : va_G} {cy : Nat → ClassId} (F : Nat) (tA : Nat) (t_ties : Int32) (t_stages : Int32) (t_beforeA : Nat) (t_beforeN : Nat) (t_before : Nat → Int32) (t_placesA : Nat) (t_placesN : Nat) (t_places : Nat → Int32) (t_tiedA : Nat) (t_tiedN : Nat) (t_tied : Nat → Int32) (t_stepsA : Nat) (t_stepsN : Nat) (t_steps : Nat → Int32) (t_doneA : Nat) (t_doneN : Nat) (t_done : Nat → Int32) (t_waysToA : Nat) (t_waysToN : Nat) (t_waysTo : Nat → Int64) (t_waysFromA : Nat) (t_waysFromN : Nat) (t_waysFrom : Nat → Int64) (t_firstsA : Nat) (t_firstsN : Nat) (t_firsts : Nat → Int64) (R : Int32 × (Nat → Int64) × (Nat → Int64)) (h : fX3_bestToAsk F t_ties t_stages t_beforeN t_before t_placesN t_places t_tiedN t_tied t_stepsN t_steps t_doneN t_done t_waysToN t_waysTo t_waysFromN t_firstsN t_waysFrom t_firsts = some R) : vMet l D cy MX3_bestToAsk 3 0 0 [.ref tA] (wX3_bestToAsk cy tA t_ties t_stages t_beforeA t_beforeN t_before t_placesA t_placesN t_places t_tiedA t_tiedN t_tied t_stepsA t_stepsN t_steps t_doneA t_doneN t_done t_waysToA t_waysToN t_waysTo t_waysFromA t_waysFromN t_waysFrom t_firstsA t_firstsN t_firsts) (fun (r : Option Value) (w : va_W) => r = (some (.int R.1)) ∧ w = (wX3_bestToAsk cy tA t_ties t_stages t_beforeA t_beforeN t_before t_placesA t_placesN t_places t_tiedA t_tiedN t_tied t_stepsA t_stepsN t_steps t_doneA t_doneN t_done t_waysToA t_waysToN t_waysTo t_waysFromA t_waysFromN R.2.1 t_firstsA t_firstsN R.2.2)) := by
  refine vMet.start (by decide +kernel) (Nat.le_of_ble_eq_true rfl) ?_
  generalize hQe : (fun (r : Option Value) (w : va_W) => r = (some (.int R.1)) ∧ w = (wX3_bestToAsk cy tA t_ties t_stages t_beforeA t_beforeN t_before t_placesA t_placesN t_places t_tiedA t_tiedN t_tied t_stepsA t_stepsN t_steps t_doneA t_doneN t_done t_waysToA t_waysToN t_waysTo t_waysFromA t_waysFromN R.2.1 t_firstsA t_firstsN R.2.2)) = Q
  have hQ : Q (some (.int R.1)) (wX3_bestToAsk cy tA t_ties t_stages t_beforeA t_beforeN t_before t_placesA t_placesN t_places t_tiedA t_tiedN t_tied t_stepsA t_stepsN t_steps t_doneA t_doneN t_done t_waysToA t_waysToN t_waysTo t_waysFromA t_waysFromN R.2.1 t_firstsA t_firstsN R.2.2) := by rw [← hQe]; exact ⟨rfl, rfl⟩
  show V l D cy MX3_bestToAsk 3 0 0 _ _ Q 0 [(0, .ref tA)] [] _ 0 0
  show V l D cy MX3_bestToAsk 3 0 0 [.ref tA] _ Q 0 [(0, .ref tA)] [] (wX3_bestToAsk cy tA t_ties t_stages t_beforeA t_beforeN t_before t_placesA t_placesN t_places t_tiedA t_tiedN t_tied t_stepsA t_stepsN t_steps t_doneA t_doneN t_done t_waysToA t_waysToN t_waysTo t_waysFromA t_waysFromN t_waysFrom t_firstsA t_firstsN t_firsts) 0 0
  unfold fX3_bestToAsk at h
  refine V.aload_n dX3_bestToAsk_0 rfl 0 rfl ?_
  obtain ⟨R1, hg1, h⟩ := Option.bind_eq_some_iff.mp h
  refine V.callV (As := []) (rest := []) (wc := (wX3_countOnward cy tA (.ref t_waysToA) (.ref t_firstsA) t_ties t_stages t_beforeA t_beforeN t_before t_placesA t_placesN t_places t_tiedA t_tiedN t_tied t_stepsA t_stepsN t_steps t_doneA t_doneN t_done t_waysFromA t_waysFromN t_waysFrom)) (wr := [(t_waysToA, .inl (cy 2, t_waysToN, .inr (.inl t_waysTo))), (t_firstsA, .inl (cy 2, t_firstsN, .inr (.inl t_firsts)))]) (q0 := 0) (CX3_countOnward F tA (.ref t_waysToA) (.ref t_firstsA) t_ties t_stages t_beforeA t_beforeN t_before t_placesA t_placesN t_places t_tiedA t_tiedN t_tied t_stepsA t_stepsN t_steps t_doneA t_doneN t_done t_waysFromA t_waysFromN t_waysFrom R1 hg1) kvX3_countOnward klX3_113 [0, 1, 2, 3, 4, 5, 7] [6, 8] rfl rfl (by decide) (by decide) (by decide) rfl rfl rfl rfl dX3_bestToAsk_1 ⟨by decide, by decide, by decide, by decide⟩ (Nat.le_of_ble_eq_true rfl) (fun r w1 hq => ?_)
  obtain ⟨rfl, rfl⟩ := hq
  refine V.cells (ws' := (wX3_bestToAsk cy tA t_ties t_stages t_beforeA t_beforeN t_before t_placesA t_placesN t_places t_tiedA t_tiedN t_tied t_stepsA t_stepsN t_steps t_doneA t_doneN t_done t_waysToA t_waysToN t_waysTo t_waysFromA t_waysFromN R1 t_firstsA t_firstsN t_firsts)) [2, 3, 4, 5, 6, 7, 0, 8, 1] (by decide) rfl ?_
  show V l D cy MX3_bestToAsk 3 0 0 _ _ _ 4 [(0, .ref tA)] [] (wX3_bestToAsk cy tA t_ties t_stages t_beforeA t_beforeN t_before t_placesA t_placesN t_places t_tiedA t_tiedN t_tied t_stepsA t_stepsN t_steps t_doneA t_doneN t_done t_waysToA t_waysToN t_waysTo t_waysFromA t_waysFromN R1 t_firstsA t_firstsN t_firsts) 0 0
  refine V.aload_n dX3_bestToAsk_4 rfl 0 rfl ?_
  obtain ⟨R5, hg5, h⟩ := Option.bind_eq_some_iff.mp h
  refine V.callV (As := []) (rest := []) (wc := (wX3_countFirsts cy tA t_ties t_stages t_beforeA t_beforeN t_before t_placesA t_placesN t_places t_tiedA t_tiedN t_tied t_stepsA t_stepsN t_steps t_doneA t_doneN t_done t_waysToA t_waysToN t_waysTo t_waysFromA t_waysFromN R1 t_firstsA t_firstsN t_firsts)) (wr := []) (q0 := 0) (CX3_countFirsts F tA t_ties t_stages t_beforeA t_beforeN t_before t_placesA t_placesN t_places t_tiedA t_tiedN t_tied t_stepsA t_stepsN t_steps t_doneA t_doneN t_done t_waysToA t_waysToN t_waysTo t_waysFromA t_waysFromN R1 t_firstsA t_firstsN t_firsts R5 hg5) kvX3_countFirsts klX3_116 [0, 1, 2, 3, 4, 5, 6, 7, 8] [] rfl rfl (by decide) (by decide) (by decide) rfl rfl rfl rfl dX3_bestToAsk_5 ⟨by decide, by decide, by decide, by decide⟩ (Nat.le_of_ble_eq_true rfl) (fun r w1 hq => ?_)
  obtain ⟨rfl, rfl⟩ := hq
  refine V.cells (ws' := (wX3_bestToAsk cy tA t_ties t_stages t_beforeA t_beforeN t_before t_placesA t_placesN t_places t_tiedA t_tiedN t_tied t_stepsA t_stepsN t_steps t_doneA t_doneN t_done t_waysToA t_waysToN t_waysTo t_waysFromA t_waysFromN R1 t_firstsA t_firstsN R5)) [0, 1, 2, 3, 4, 5, 6, 7, 8] (by decide) rfl ?_
  show V l D cy MX3_bestToAsk 3 0 0 _ _ _ 8 [(0, .ref tA)] [] (wX3_bestToAsk cy tA t_ties t_stages t_beforeA t_beforeN t_before t_placesA t_placesN t_places t_tiedA t_tiedN t_tied t_stepsA t_stepsN t_steps t_doneA t_doneN t_done t_waysToA t_waysToN t_waysTo t_waysFromA t_waysFromN R1 t_firstsA t_firstsN R5) 0 0
  refine V.aload_n dX3_bestToAsk_8 rfl 0 rfl ?_
  obtain ⟨R9, hg9, h⟩ := Option.bind_eq_some_iff.mp h
  refine V.callV (As := []) (rest := []) (wc := (wX3_all cy tA (.ref t_beforeA) (.ref t_placesA) (.ref t_tiedA) (.ref t_stepsA) (.ref t_doneA) (.ref t_waysFromA) (.ref t_firstsA) t_ties t_stages t_waysToA t_waysToN t_waysTo)) (wr := [(t_beforeA, .inl (cy 1, t_beforeN, .inl t_before)), (t_placesA, .inl (cy 1, t_placesN, .inl t_places)), (t_tiedA, .inl (cy 1, t_tiedN, .inl t_tied)), (t_stepsA, .inl (cy 1, t_stepsN, .inl t_steps)), (t_doneA, .inl (cy 1, t_doneN, .inl t_done)), (t_waysFromA, .inl (cy 2, t_waysFromN, .inr (.inl R1))), (t_firstsA, .inl (cy 2, t_firstsN, .inr (.inl R5)))]) (q0 := 0) (CX3_all F tA (.ref t_beforeA) (.ref t_placesA) (.ref t_tiedA) (.ref t_stepsA) (.ref t_doneA) (.ref t_waysFromA) (.ref t_firstsA) t_ties t_stages t_waysToA t_waysToN t_waysTo R9 hg9) kvX3_all klX3_119 [0, 6] [1, 2, 3, 4, 5, 7, 8] rfl rfl (by decide) (by decide) (by decide) rfl rfl rfl rfl dX3_bestToAsk_9 ⟨by decide, by decide, by decide, by decide⟩ (Nat.le_of_ble_eq_true rfl) (fun r w1 hq => ?_)
  obtain ⟨rfl, rfl⟩ := hq
  refine V.cells (ws' := (wX3_bestToAsk cy tA t_ties t_stages t_beforeA t_beforeN t_before t_placesA t_placesN t_places t_tiedA t_tiedN t_tied t_stepsA t_stepsN t_steps t_doneA t_doneN t_done t_waysToA t_waysToN t_waysTo t_waysFromA t_waysFromN R1 t_firstsA t_firstsN R5)) [7, 0, 1, 2, 3, 4, 8, 5, 6] (by decide) rfl ?_
  show V l D cy MX3_bestToAsk 3 0 0 _ _ _ 12 [(0, .ref tA)] [.long R9] (wX3_bestToAsk cy tA t_ties t_stages t_beforeA t_beforeN t_before t_placesA t_placesN t_places t_tiedA t_tiedN t_tied t_stepsA t_stepsN t_steps t_doneA t_doneN t_done t_waysToA t_waysToN t_waysTo t_waysFromA t_waysFromN R1 t_firstsA t_firstsN R5) 0 0
  refine V.lstore_n (lv' := [(1, .long R9), (0, .ref tA)]) dX3_bestToAsk_12 rfl (by decide) rfl ?_
  refine V.iconst (v := (-1 : Int32)) dX3_bestToAsk_13 (by decide) ?_
  refine V.istore_n (lv' := [(3, .int (-1 : Int32)), (1, .long R9), (0, .ref tA)]) dX3_bestToAsk_14 rfl (by decide) rfl ?_
  refine V.iconst (v := (0 : Int32)) dX3_bestToAsk_15 (by decide) ?_
  refine V.istore (lv' := [(4, .int (0 : Int32)), (3, .int (-1 : Int32)), (1, .long R9), (0, .ref tA)]) dX3_bestToAsk_16 (by decide) rfl ?_
  refine V.lvs [3, 2, 1, 0] rfl ?_
  exact vX3_bestToAsk_L18 _ _ _ _ _ _ _ _ _ _ _ _ _ _ _ _ _ _ _ _ _ _ _ _ _ _  _ _ _ _ _ _ R h hQ
theorem dX3_prepare_0 : decode cX3_prepare 0 = .ok (.aload_n 0, 1) := by decide +kernel
theorem dX3_prepare_1 : decode cX3_prepare 1 = .ok (.aload_n 2, 1) := by decide +kernel
theorem dX3_prepare_2 : decode cX3_prepare 2 = .ok (.getfield 37, 3) := by decide +kernel
theorem dX3_prepare_5 : decode cX3_prepare 5 = .ok (.getfield 43, 3) := by decide +kernel
theorem dX3_prepare_8 : decode cX3_prepare 8 = .ok (.putfield 49, 3) := by decide +kernel
theorem dX3_prepare_11 : decode cX3_prepare 11 = .ok (.aload_n 0, 1) := by decide +kernel
theorem dX3_prepare_12 : decode cX3_prepare 12 = .ok (.getfield 49, 3) := by decide +kernel
theorem dX3_prepare_15 : decode cX3_prepare 15 = .ok (.bipush 14, 2) := by decide +kernel
theorem dX3_prepare_17 : decode cX3_prepare 17 = .ok (.if_icmp .le 5, 3) := by decide +kernel
theorem dX3_prepare_20 : decode cX3_prepare 20 = .ok (.iconst 0, 1) := by decide +kernel
theorem dX3_prepare_21 : decode cX3_prepare 21 = .ok (.ireturn, 1) := by decide +kernel
theorem dX3_prepare_22 : decode cX3_prepare 22 = .ok (.aload_n 0, 1) := by decide +kernel
theorem dX3_prepare_23 : decode cX3_prepare 23 = .ok (.aload_n 1, 1) := by decide +kernel
theorem dX3_prepare_24 : decode cX3_prepare 24 = .ok (.aload_n 2, 1) := by decide +kernel
theorem dX3_prepare_25 : decode cX3_prepare 25 = .ok (.invokevirtual 52, 3) := by decide +kernel
theorem dX3_prepare_28 : decode cX3_prepare 28 = .ok (.aload_n 0, 1) := by decide +kernel
theorem dX3_prepare_29 : decode cX3_prepare 29 = .ok (.aload_n 2, 1) := by decide +kernel
theorem dX3_prepare_30 : decode cX3_prepare 30 = .ok (.getfield 37, 3) := by decide +kernel
theorem dX3_prepare_33 : decode cX3_prepare 33 = .ok (.invokevirtual 56, 3) := by decide +kernel
theorem dX3_prepare_36 : decode cX3_prepare 36 = .ok (.aload_n 0, 1) := by decide +kernel
theorem dX3_prepare_37 : decode cX3_prepare 37 = .ok (.invokevirtual 60, 3) := by decide +kernel
theorem dX3_prepare_40 : decode cX3_prepare 40 = .ok (.iconst 1, 1) := by decide +kernel
theorem dX3_prepare_41 : decode cX3_prepare 41 = .ok (.ireturn, 1) := by decide +kernel
def wX3_prepare (cy : Nat → ClassId) (tA : Nat) (t_waysFromV : Value) (t_firstsV : Value) (t_ties : Int32) (t_stages : Int32) (t_beforeA : Nat) (t_beforeN : Nat) (t_before : Nat → Int32) (t_placesA : Nat) (t_placesN : Nat) (t_places : Nat → Int32) (t_tiedA : Nat) (t_tiedN : Nat) (t_tied : Nat → Int32) (t_stepsA : Nat) (t_stepsN : Nat) (t_steps : Nat → Int32) (t_doneA : Nat) (t_doneN : Nat) (t_done : Nat → Int32) (t_waysToA : Nat) (t_waysToN : Nat) (t_waysTo : Nat → Int64) (p1A : Nat) (p1_namesV : Value) (p1_kindsV : Value) (p1_kinV : Value) (p1_roundsV : Value) (p1_folks : Int32) (p1_pairs : Int32) (p1_line : Int32) (p1_rope : Int32) (p1_lineTold : Int32) (p1_ropeTold : Int32) (p1_lawV : Value) (p1_takenV : Value) (p1_stopsA : Nat) (p1_stopsN : Nat) (p1_stops : Nat → Int32) (p2A : Nat) (p2_yearV : Value) (p2_otherV : Value) (p2_aheads : Int32) (p2_laid : Int32) (p2_lineA : Nat) (p2_line_size : Int32) (p2_line_tiesA : Nat) (p2_line_tiesN : Nat) (p2_line_ties : Nat → Int32) (p2_earlierA : Nat) (p2_earlierN : Nat) (p2_earlier : Nat → Int32) (p2_laterA : Nat) (p2_laterN : Nat) (p2_later : Nat → Int32) : va_W :=
  [(tA, .inr (3, [.ref t_beforeA, .ref t_placesA, .ref t_tiedA, .ref t_stepsA, .ref t_doneA, .ref t_waysToA, t_waysFromV, t_firstsV, .int t_ties, .int t_stages])), (t_beforeA, .inl (cy 1, t_beforeN, .inl t_before)), (t_placesA, .inl (cy 1, t_placesN, .inl t_places)), (t_tiedA, .inl (cy 1, t_tiedN, .inl t_tied)), (t_stepsA, .inl (cy 1, t_stepsN, .inl t_steps)), (t_doneA, .inl (cy 1, t_doneN, .inl t_done)), (t_waysToA, .inl (cy 2, t_waysToN, .inr (.inl t_waysTo))), (p1A, .inr (2, [p1_namesV, p1_kindsV, p1_kinV, .ref p1_stopsA, p1_roundsV, .int p1_folks, .int p1_pairs, .int p1_line, .int p1_rope, .int p1_lineTold, .int p1_ropeTold, p1_lawV, p1_takenV])), (p1_stopsA, .inl (cy 1, p1_stopsN, .inl p1_stops)), (p2A, .inr (8, [.ref p2_lineA, p2_yearV, p2_otherV, .ref p2_earlierA, .ref p2_laterA, .int p2_aheads, .int p2_laid])), (p2_lineA, .inr (7, [.ref p2_line_tiesA, .int p2_line_size])), (p2_line_tiesA, .inl (cy 1, p2_line_tiesN, .inl p2_line_ties)), (p2_earlierA, .inl (cy 1, p2_earlierN, .inl p2_earlier)), (p2_laterA, .inl (cy 1, p2_laterN, .inl p2_later))]
noncomputable def fX3_prepare (F : Nat) (t_beforeN : Nat) (t_placesN : Nat) (t_tiedN : Nat) (t_stepsN : Nat) (t_doneN : Nat) (t_waysToN : Nat) (p1_stopsN : Nat) (p1_stops : Nat → Int32) (p2_aheads : Int32) (p2_line_size : Int32) (p2_line_tiesN : Nat) (p2_line_ties : Nat → Int32) (p2_earlierN : Nat) (p2_earlier : Nat → Int32) (p2_laterN : Nat) (p2_later : Nat → Int32) (t_ties : Int32) (t_stages : Int32) (t_before : Nat → Int32) (t_places : Nat → Int32) (t_tied : Nat → Int32) (t_steps : Nat → Int32) (t_done : Nat → Int32) (t_waysTo : Nat → Int64) : Option (Int32 × (Int32) × (Int32) × (Nat → Int32) × (Nat → Int32) × (Nat → Int32) × (Nat → Int32) × (Nat → Int32) × (Nat → Int64)) :=
  if p2_line_size ≤ (14 : Int32) then ((fX3_layBefore F p2_line_size t_beforeN p1_stopsN p1_stops p2_aheads p2_line_tiesN p2_line_ties p2_earlierN p2_earlier p2_laterN p2_later t_before).bind fun R25 => ((fX3_layStages F p2_line_size t_placesN t_tiedN t_stepsN t_doneN p2_line_size p2_line_tiesN p2_line_ties t_stages t_places t_tied t_steps t_done).bind fun R33 => ((fX3_countWays F R33.1 t_beforeN R25 t_placesN R33.2.1 t_tiedN R33.2.2.1 t_stepsN R33.2.2.2.1 t_doneN R33.2.2.2.2 t_waysToN t_waysTo).bind fun R37 => (some ((1 : Int32), p2_line_size, R33.1, R25, R33.2.1, R33.2.2.1, R33.2.2.2.1, R33.2.2.2.2, R37))))) else (some ((0 : Int32), p2_line_size, t_stages, t_before, t_places, t_tied, t_steps, t_done, t_waysTo))
theorem CX3_prepare {l : Launch} {D : va_G} {cy : Nat → ClassId} (F : Nat) (tA : Nat) (t_waysFromV : Value) (t_firstsV : Value) (t_ties : Int32) (t_stages : Int32) (t_beforeA : Nat) (t_beforeN : Nat) (t_before : Nat → Int32) (t_placesA : Nat) (t_placesN : Nat) (t_places : Nat → Int32) (t_tiedA : Nat) (t_tiedN : Nat) (t_tied : Nat → Int32) (t_stepsA : Nat) (t_stepsN : Nat) (t_steps : Nat → Int32) (t_doneA : Nat) (t_doneN : Nat) (t_done : Nat → Int32) (t_waysToA : Nat) (t_waysToN : Nat) (t_waysTo : Nat → Int64) (p1A : Nat) (p1_namesV : Value) (p1_kindsV : Value) (p1_kinV : Value) (p1_roundsV : Value) (p1_folks : Int32) (p1_pairs : Int32) (p1_line : Int32) (p1_rope : Int32) (p1_lineTold : Int32) (p1_ropeTold : Int32) (p1_lawV : Value) (p1_takenV : Value) (p1_stopsA : Nat) (p1_stopsN : Nat) (p1_stops : Nat → Int32) (p2A : Nat) (p2_yearV : Value) (p2_otherV : Value) (p2_aheads : Int32) (p2_laid : Int32) (p2_lineA : Nat) (p2_line_size : Int32) (p2_line_tiesA : Nat) (p2_line_tiesN : Nat) (p2_line_ties : Nat → Int32) (p2_earlierA : Nat) (p2_earlierN : Nat) (p2_earlier : Nat → Int32) (p2_laterA : Nat) (p2_laterN : Nat) (p2_later : Nat → Int32) (R : Int32 × (Int32) × (Int32) × (Nat → Int32) × (Nat → Int32) × (Nat → Int32) × (Nat → Int32) × (Nat → Int32) × (Nat → Int64)) (h : fX3_prepare F t_beforeN t_placesN t_tiedN t_stepsN t_doneN t_waysToN p1_stopsN p1_stops p2_aheads p2_line_size p2_line_tiesN p2_line_ties p2_earlierN p2_earlier p2_laterN p2_later t_ties t_stages t_before t_places t_tied t_steps t_done t_waysTo = some R) : vMet l D cy MX3_prepare 3 0 0 [.ref tA, .ref p1A, .ref p2A] (wX3_prepare cy tA t_waysFromV t_firstsV t_ties t_stages t_beforeA t_beforeN t_before t_placesA t_placesN t_places t_tiedA t_tiedN t_tied t_stepsA t_stepsN t_steps t_doneA t_doneN t_done t_waysToA t_waysToN t_waysTo p1A p1_namesV p1_kindsV p1_kinV p1_roundsV p1_folks p1_pairs p1_line p1_rope p1_lineTold p1_ropeTold p1_lawV p1_takenV p1_stopsA p1_stopsN p1_stops p2A p2_yearV p2_otherV p2_aheads p2_laid p2_lineA p2_line_size p2_line_tiesA p2_line_tiesN p2_line_ties p2_earlierA p2_earlierN p2_earlier p2_laterA p2_laterN p2_later) (fun (r : Option Value) (w : va_W) => r = (some (.int R.1)) ∧ w = (wX3_prepare cy tA t_waysFromV t_firstsV R.2.1 R.2.2.1 t_beforeA t_beforeN R.2.2.2.1 t_placesA t_placesN R.2.2.2.2.1 t_tiedA t_tiedN R.2.2.2.2.2.1 t_stepsA t_stepsN R.2.2.2.2.2.2.1 t_doneA t_doneN R.2.2.2.2.2.2.2.1 t_waysToA t_waysToN R.2.2.2.2.2.2.2.2 p1A p1_namesV p1_kindsV p1_kinV p1_roundsV p1_folks p1_pairs p1_line p1_rope p1_lineTold p1_ropeTold p1_lawV p1_takenV p1_stopsA p1_stopsN p1_stops p2A p2_yearV p2_otherV p2_aheads p2_laid p2_lineA p2_line_size p2_line_tiesA p2_line_tiesN p2_line_ties p2_earlierA p2_earlierN p2_earlier p2_laterA p2_laterN p2_later)) := by
  refine vMet.start (by decide +kernel) (Nat.le_of_ble_eq_true rfl) ?_
  generalize hQe : (fun (r : Option Value) (w : va_W) => r = (some (.int R.1)) ∧ w = (wX3_prepare cy tA t_waysFromV t_firstsV R.2.1 R.2.2.1 t_beforeA t_beforeN R.2.2.2.1 t_placesA t_placesN R.2.2.2.2.1 t_tiedA t_tiedN R.2.2.2.2.2.1 t_stepsA t_stepsN R.2.2.2.2.2.2.1 t_doneA t_doneN R.2.2.2.2.2.2.2.1 t_waysToA t_waysToN R.2.2.2.2.2.2.2.2 p1A p1_namesV p1_kindsV p1_kinV p1_roundsV p1_folks p1_pairs p1_line p1_rope p1_lineTold p1_ropeTold p1_lawV p1_takenV p1_stopsA p1_stopsN p1_stops p2A p2_yearV p2_otherV p2_aheads p2_laid p2_lineA p2_line_size p2_line_tiesA p2_line_tiesN p2_line_ties p2_earlierA p2_earlierN p2_earlier p2_laterA p2_laterN p2_later)) = Q
  have hQ : Q (some (.int R.1)) (wX3_prepare cy tA t_waysFromV t_firstsV R.2.1 R.2.2.1 t_beforeA t_beforeN R.2.2.2.1 t_placesA t_placesN R.2.2.2.2.1 t_tiedA t_tiedN R.2.2.2.2.2.1 t_stepsA t_stepsN R.2.2.2.2.2.2.1 t_doneA t_doneN R.2.2.2.2.2.2.2.1 t_waysToA t_waysToN R.2.2.2.2.2.2.2.2 p1A p1_namesV p1_kindsV p1_kinV p1_roundsV p1_folks p1_pairs p1_line p1_rope p1_lineTold p1_ropeTold p1_lawV p1_takenV p1_stopsA p1_stopsN p1_stops p2A p2_yearV p2_otherV p2_aheads p2_laid p2_lineA p2_line_size p2_line_tiesA p2_line_tiesN p2_line_ties p2_earlierA p2_earlierN p2_earlier p2_laterA p2_laterN p2_later) := by rw [← hQe]; exact ⟨rfl, rfl⟩
  show V l D cy MX3_prepare 3 0 0 _ _ Q 0 [(0, .ref tA), (1, .ref p1A), (2, .ref p2A)] [] _ 0 0
  show V l D cy MX3_prepare 3 0 0 [.ref tA, .ref p1A, .ref p2A] _ Q 0 [(0, .ref tA), (1, .ref p1A), (2, .ref p2A)] [] (wX3_prepare cy tA t_waysFromV t_firstsV t_ties t_stages t_beforeA t_beforeN t_before t_placesA t_placesN t_places t_tiedA t_tiedN t_tied t_stepsA t_stepsN t_steps t_doneA t_doneN t_done t_waysToA t_waysToN t_waysTo p1A p1_namesV p1_kindsV p1_kinV p1_roundsV p1_folks p1_pairs p1_line p1_rope p1_lineTold p1_ropeTold p1_lawV p1_takenV p1_stopsA p1_stopsN p1_stops p2A p2_yearV p2_otherV p2_aheads p2_laid p2_lineA p2_line_size p2_line_tiesA p2_line_tiesN p2_line_ties p2_earlierA p2_earlierN p2_earlier p2_laterA p2_laterN p2_later) 0 0
  unfold fX3_prepare at h
  refine V.aload_n dX3_prepare_0 rfl 0 rfl ?_
  refine V.aload_n dX3_prepare_1 rfl 2 rfl ?_
  refine V.get kfX8 9 rfl rfl 0 (by decide) klX3_37 rfl dX3_prepare_2 ?_
  refine V.get kfX7 10 rfl rfl 1 (by decide) klX3_43 rfl dX3_prepare_5 ?_
  refine V.put (ws' := (wX3_prepare cy tA t_waysFromV t_firstsV p2_line_size t_stages t_beforeA t_beforeN t_before t_placesA t_placesN t_places t_tiedA t_tiedN t_tied t_stepsA t_stepsN t_steps t_doneA t_doneN t_done t_waysToA t_waysToN t_waysTo p1A p1_namesV p1_kindsV p1_kinV p1_roundsV p1_folks p1_pairs p1_line p1_rope p1_lineTold p1_ropeTold p1_lawV p1_takenV p1_stopsA p1_stopsN p1_stops p2A p2_yearV p2_otherV p2_aheads p2_laid p2_lineA p2_line_size p2_line_tiesA p2_line_tiesN p2_line_ties p2_earlierA p2_earlierN p2_earlier p2_laterA p2_laterN p2_later)) kfX3 tyX3 tyX3_ok nmX3 0 rfl rfl 8 (by decide) klX3_49 rfl (tyX3_ok 8 (by decide)) rfl rfl (Nat.le_of_ble_eq_true rfl) dX3_prepare_8 rfl ?_
  refine V.aload_n dX3_prepare_11 rfl 0 rfl ?_
  refine V.get kfX3 0 rfl rfl 8 (by decide) klX3_49 rfl dX3_prepare_12 ?_
  refine V.bipush (v := (14 : Int32)) dX3_prepare_15 (by decide) ?_
  refine V.icmp_le (tgt := 22) dX3_prepare_17 (by decide) (fun hc17 => ?_) (fun hc17 => ?_)
  · replace h := (if_pos hc17).symm.trans h
    refine V.aload_n dX3_prepare_22 rfl 0 rfl ?_
    refine V.aload_n dX3_prepare_23 rfl 1 rfl ?_
    refine V.aload_n dX3_prepare_24 rfl 2 rfl ?_
    obtain ⟨R25, hg25, h⟩ := Option.bind_eq_some_iff.mp h
    refine V.callV (As := [.ref p1A, .ref p2A]) (rest := []) (wc := (wX3_layBefore cy tA (.ref t_placesA) (.ref t_tiedA) (.ref t_stepsA) (.ref t_doneA) (.ref t_waysToA) t_waysFromV t_firstsV p2_line_size t_stages t_beforeA t_beforeN t_before p1A p1_namesV p1_kindsV p1_kinV p1_roundsV p1_folks p1_pairs p1_line p1_rope p1_lineTold p1_ropeTold p1_lawV p1_takenV p1_stopsA p1_stopsN p1_stops p2A p2_yearV p2_otherV p2_aheads p2_laid p2_lineA p2_line_size p2_line_tiesA p2_line_tiesN p2_line_ties p2_earlierA p2_earlierN p2_earlier p2_laterA p2_laterN p2_later)) (wr := [(t_placesA, .inl (cy 1, t_placesN, .inl t_places)), (t_tiedA, .inl (cy 1, t_tiedN, .inl t_tied)), (t_stepsA, .inl (cy 1, t_stepsN, .inl t_steps)), (t_doneA, .inl (cy 1, t_doneN, .inl t_done)), (t_waysToA, .inl (cy 2, t_waysToN, .inr (.inl t_waysTo)))]) (q0 := 0) (CX3_layBefore F tA (.ref t_placesA) (.ref t_tiedA) (.ref t_stepsA) (.ref t_doneA) (.ref t_waysToA) t_waysFromV t_firstsV p2_line_size t_stages t_beforeA t_beforeN t_before p1A p1_namesV p1_kindsV p1_kinV p1_roundsV p1_folks p1_pairs p1_line p1_rope p1_lineTold p1_ropeTold p1_lawV p1_takenV p1_stopsA p1_stopsN p1_stops p2A p2_yearV p2_otherV p2_aheads p2_laid p2_lineA p2_line_size p2_line_tiesA p2_line_tiesN p2_line_ties p2_earlierA p2_earlierN p2_earlier p2_laterA p2_laterN p2_later R25 hg25) kvX3_layBefore klX3_52 [0, 1, 7, 8, 9, 10, 11, 12, 13] [2, 3, 4, 5, 6] rfl rfl (by decide) (by decide) (by decide) rfl rfl rfl rfl dX3_prepare_25 ⟨by decide, by decide, by decide, by decide⟩ (Nat.le_of_ble_eq_true rfl) (fun r w1 hq => ?_)
    obtain ⟨rfl, rfl⟩ := hq
    refine V.cells (ws' := (wX3_prepare cy tA t_waysFromV t_firstsV p2_line_size t_stages t_beforeA t_beforeN R25 t_placesA t_placesN t_places t_tiedA t_tiedN t_tied t_stepsA t_stepsN t_steps t_doneA t_doneN t_done t_waysToA t_waysToN t_waysTo p1A p1_namesV p1_kindsV p1_kinV p1_roundsV p1_folks p1_pairs p1_line p1_rope p1_lineTold p1_ropeTold p1_lawV p1_takenV p1_stopsA p1_stopsN p1_stops p2A p2_yearV p2_otherV p2_aheads p2_laid p2_lineA p2_line_size p2_line_tiesA p2_line_tiesN p2_line_ties p2_earlierA p2_earlierN p2_earlier p2_laterA p2_laterN p2_later)) [5, 6, 0, 1, 2, 3, 4, 7, 8, 9, 10, 11, 12, 13] (by decide) rfl ?_
    show V l D cy MX3_prepare 3 0 0 _ _ _ 28 [(0, .ref tA), (1, .ref p1A), (2, .ref p2A)] [] (wX3_prepare cy tA t_waysFromV t_firstsV p2_line_size t_stages t_beforeA t_beforeN R25 t_placesA t_placesN t_places t_tiedA t_tiedN t_tied t_stepsA t_stepsN t_steps t_doneA t_doneN t_done t_waysToA t_waysToN t_waysTo p1A p1_namesV p1_kindsV p1_kinV p1_roundsV p1_folks p1_pairs p1_line p1_rope p1_lineTold p1_ropeTold p1_lawV p1_takenV p1_stopsA p1_stopsN p1_stops p2A p2_yearV p2_otherV p2_aheads p2_laid p2_lineA p2_line_size p2_line_tiesA p2_line_tiesN p2_line_ties p2_earlierA p2_earlierN p2_earlier p2_laterA p2_laterN p2_later) 0 0
    refine V.aload_n dX3_prepare_28 rfl 0 rfl ?_
    refine V.aload_n dX3_prepare_29 rfl 2 rfl ?_
    refine V.get kfX8 9 rfl rfl 0 (by decide) klX3_37 rfl dX3_prepare_30 ?_
    obtain ⟨R33, hg33, h⟩ := Option.bind_eq_some_iff.mp h
    refine V.callV (As := [.ref p2_lineA]) (rest := []) (wc := (wX3_layStages cy tA (.ref t_beforeA) (.ref t_waysToA) t_waysFromV t_firstsV p2_line_size t_stages t_placesA t_placesN t_places t_tiedA t_tiedN t_tied t_stepsA t_stepsN t_steps t_doneA t_doneN t_done p2_lineA p2_line_size p2_line_tiesA p2_line_tiesN p2_line_ties)) (wr := [(t_beforeA, .inl (cy 1, t_beforeN, .inl R25)), (t_waysToA, .inl (cy 2, t_waysToN, .inr (.inl t_waysTo))), (p1A, .inr (2, [p1_namesV, p1_kindsV, p1_kinV, .ref p1_stopsA, p1_roundsV, .int p1_folks, .int p1_pairs, .int p1_line, .int p1_rope, .int p1_lineTold, .int p1_ropeTold, p1_lawV, p1_takenV])), (p1_stopsA, .inl (cy 1, p1_stopsN, .inl p1_stops)), (p2A, .inr (8, [.ref p2_lineA, p2_yearV, p2_otherV, .ref p2_earlierA, .ref p2_laterA, .int p2_aheads, .int p2_laid])), (p2_earlierA, .inl (cy 1, p2_earlierN, .inl p2_earlier)), (p2_laterA, .inl (cy 1, p2_laterN, .inl p2_later))]) (q0 := 0) (CX3_layStages F tA (.ref t_beforeA) (.ref t_waysToA) t_waysFromV t_firstsV p2_line_size t_stages t_placesA t_placesN t_places t_tiedA t_tiedN t_tied t_stepsA t_stepsN t_steps t_doneA t_doneN t_done p2_lineA p2_line_size p2_line_tiesA p2_line_tiesN p2_line_ties R33 hg33) kvX3_layStages klX3_56 [0, 2, 3, 4, 5, 10, 11] [1, 6, 7, 8, 9, 12, 13] rfl rfl (by decide) (by decide) (by decide) rfl rfl rfl rfl dX3_prepare_33 ⟨by decide, by decide, by decide, by decide⟩ (Nat.le_of_ble_eq_true rfl) (fun r w1 hq => ?_)
    obtain ⟨rfl, rfl⟩ := hq
    refine V.cells (ws' := (wX3_prepare cy tA t_waysFromV t_firstsV p2_line_size R33.1 t_beforeA t_beforeN R25 t_placesA t_placesN R33.2.1 t_tiedA t_tiedN R33.2.2.1 t_stepsA t_stepsN R33.2.2.2.1 t_doneA t_doneN R33.2.2.2.2 t_waysToA t_waysToN t_waysTo p1A p1_namesV p1_kindsV p1_kinV p1_roundsV p1_folks p1_pairs p1_line p1_rope p1_lineTold p1_ropeTold p1_lawV p1_takenV p1_stopsA p1_stopsN p1_stops p2A p2_yearV p2_otherV p2_aheads p2_laid p2_lineA p2_line_size p2_line_tiesA p2_line_tiesN p2_line_ties p2_earlierA p2_earlierN p2_earlier p2_laterA p2_laterN p2_later)) [7, 0, 8, 9, 10, 11, 1, 2, 3, 4, 12, 13, 5, 6] (by decide) rfl ?_
    show V l D cy MX3_prepare 3 0 0 _ _ _ 36 [(0, .ref tA), (1, .ref p1A), (2, .ref p2A)] [] (wX3_prepare cy tA t_waysFromV t_firstsV p2_line_size R33.1 t_beforeA t_beforeN R25 t_placesA t_placesN R33.2.1 t_tiedA t_tiedN R33.2.2.1 t_stepsA t_stepsN R33.2.2.2.1 t_doneA t_doneN R33.2.2.2.2 t_waysToA t_waysToN t_waysTo p1A p1_namesV p1_kindsV p1_kinV p1_roundsV p1_folks p1_pairs p1_line p1_rope p1_lineTold p1_ropeTold p1_lawV p1_takenV p1_stopsA p1_stopsN p1_stops p2A p2_yearV p2_otherV p2_aheads p2_laid p2_lineA p2_line_size p2_line_tiesA p2_line_tiesN p2_line_ties p2_earlierA p2_earlierN p2_earlier p2_laterA p2_laterN p2_later) 0 0
    refine V.aload_n dX3_prepare_36 rfl 0 rfl ?_
    obtain ⟨R37, hg37, h⟩ := Option.bind_eq_some_iff.mp h
    refine V.callV (As := []) (rest := []) (wc := (wX3_countWays cy tA t_waysFromV t_firstsV p2_line_size R33.1 t_beforeA t_beforeN R25 t_placesA t_placesN R33.2.1 t_tiedA t_tiedN R33.2.2.1 t_stepsA t_stepsN R33.2.2.2.1 t_doneA t_doneN R33.2.2.2.2 t_waysToA t_waysToN t_waysTo)) (wr := [(p1A, .inr (2, [p1_namesV, p1_kindsV, p1_kinV, .ref p1_stopsA, p1_roundsV, .int p1_folks, .int p1_pairs, .int p1_line, .int p1_rope, .int p1_lineTold, .int p1_ropeTold, p1_lawV, p1_takenV])), (p1_stopsA, .inl (cy 1, p1_stopsN, .inl p1_stops)), (p2A, .inr (8, [.ref p2_lineA, p2_yearV, p2_otherV, .ref p2_earlierA, .ref p2_laterA, .int p2_aheads, .int p2_laid])), (p2_lineA, .inr (7, [.ref p2_line_tiesA, .int p2_line_size])), (p2_line_tiesA, .inl (cy 1, p2_line_tiesN, .inl p2_line_ties)), (p2_earlierA, .inl (cy 1, p2_earlierN, .inl p2_earlier)), (p2_laterA, .inl (cy 1, p2_laterN, .inl p2_later))]) (q0 := 0) (CX3_countWays F tA t_waysFromV t_firstsV p2_line_size R33.1 t_beforeA t_beforeN R25 t_placesA t_placesN R33.2.1 t_tiedA t_tiedN R33.2.2.1 t_stepsA t_stepsN R33.2.2.2.1 t_doneA t_doneN R33.2.2.2.2 t_waysToA t_waysToN t_waysTo R37 hg37) kvX3_countWays klX3_60 [0, 1, 2, 3, 4, 5, 6] [7, 8, 9, 10, 11, 12, 13] rfl rfl (by decide) (by decide) (by decide) rfl rfl rfl rfl dX3_prepare_37 ⟨by decide, by decide, by decide, by decide⟩ (Nat.le_of_ble_eq_true rfl) (fun r w1 hq => ?_)
    obtain ⟨rfl, rfl⟩ := hq
    refine V.cells (ws' := (wX3_prepare cy tA t_waysFromV t_firstsV p2_line_size R33.1 t_beforeA t_beforeN R25 t_placesA t_placesN R33.2.1 t_tiedA t_tiedN R33.2.2.1 t_stepsA t_stepsN R33.2.2.2.1 t_doneA t_doneN R33.2.2.2.2 t_waysToA t_waysToN R37 p1A p1_namesV p1_kindsV p1_kinV p1_roundsV p1_folks p1_pairs p1_line p1_rope p1_lineTold p1_ropeTold p1_lawV p1_takenV p1_stopsA p1_stopsN p1_stops p2A p2_yearV p2_otherV p2_aheads p2_laid p2_lineA p2_line_size p2_line_tiesA p2_line_tiesN p2_line_ties p2_earlierA p2_earlierN p2_earlier p2_laterA p2_laterN p2_later)) [7, 8, 9, 10, 11, 12, 13, 0, 1, 2, 3, 4, 5, 6] (by decide) rfl ?_
    show V l D cy MX3_prepare 3 0 0 _ _ _ 40 [(0, .ref tA), (1, .ref p1A), (2, .ref p2A)] [] (wX3_prepare cy tA t_waysFromV t_firstsV p2_line_size R33.1 t_beforeA t_beforeN R25 t_placesA t_placesN R33.2.1 t_tiedA t_tiedN R33.2.2.1 t_stepsA t_stepsN R33.2.2.2.1 t_doneA t_doneN R33.2.2.2.2 t_waysToA t_waysToN R37 p1A p1_namesV p1_kindsV p1_kinV p1_roundsV p1_folks p1_pairs p1_line p1_rope p1_lineTold p1_ropeTold p1_lawV p1_takenV p1_stopsA p1_stopsN p1_stops p2A p2_yearV p2_otherV p2_aheads p2_laid p2_lineA p2_line_size p2_line_tiesA p2_line_tiesN p2_line_ties p2_earlierA p2_earlierN p2_earlier p2_laterA p2_laterN p2_later) 0 0
    refine V.iconst (v := (1 : Int32)) dX3_prepare_40 (by decide) ?_
    have e9 := Option.some.inj h; subst e9
    exact V.iret (ty := .boolean) rfl rfl dX3_prepare_41 (Nat.le_refl _) (Nat.le_refl _) hQ
  · replace h := (if_neg hc17).symm.trans h
    refine V.iconst (v := (0 : Int32)) dX3_prepare_20 (by decide) ?_
    have e9 := Option.some.inj h; subst e9
    exact V.iret (ty := .boolean) rfl rfl dX3_prepare_21 (Nat.le_refl _) (Nat.le_refl _) hQ
