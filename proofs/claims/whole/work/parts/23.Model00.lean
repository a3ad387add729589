theorem dX12_thrown_0 : decode cX12_thrown 0 = .ok (.aload_n 0, 1) := by decide +kernel
theorem dX12_thrown_1 : decode cX12_thrown 1 = .ok (.getfield 138, 3) := by decide +kernel
theorem dX12_thrown_4 : decode cX12_thrown 4 = .ok (.ireturn, 1) := by decide +kernel
def wX12_thrown (cy : Nat → ClassId) (tA : Nat) (t_thrown : Int32) (t_taped : Int32) (t_tapeV : Value) (t_size : Int32) (t_place : Int32) (t_begin : Int32) (t_token : Int32) (t_word : Int64) (t_told : Int32) (t_wrong : Int32) (t_netV : Value) (t_folkNameV : Value) (t_kindV : Value) (t_kinV : Value) (t_lineFromV : Value) (t_lineToV : Value) (t_codesV : Value) (t_code : Int32) (t_toldLines : Int32) (t_openedV : Value) (t_comparedV : Value) (t_keptV : Value) (t_keptByV : Value) (t_aheadV : Value) (t_againstV : Value) (t_sumV : Value) (t_sumByV : Value) (t_termV : Value) (t_termByV : Value) (t_byNotV : Value) (t_valueOfV : Value) (t_given : Int32) (t_sV : Value) (t_asideV : Value) (t_markedV : Value) (t_undoneV : Value) (t_isLaidV : Value) (t_done : Int32) (t_linesV : Value) (t_lineWhatV : Value) (t_lineNV : Value) (t_othersV : Value) (t_otherTieV : Value) (t_aheadsV : Value) (t_aheadOneV : Value) (t_aheadTwoV : Value) (t_blockFolkV : Value) (t_blockCountV : Value) (t_blocks : Int32) (t_tiesV : Value) (t_tiesMany : Int32) (t_formV : Value) (t_formMany : Int32) (t_mustV : Value) (t_waysToV : Value) (t_waysFromV : Value) (t_isAheadV : Value) (t_ringsV : Value) (t_ringsMany : Int32) (t_g : Int64) : va_W :=
  [(tA, .inr (12, [.int t_thrown, .int t_taped, t_tapeV, .int t_size, .int t_place, .int t_begin, .int t_token, .long t_word, .int t_told, .int t_wrong, t_netV, t_folkNameV, t_kindV, t_kinV, t_lineFromV, t_lineToV, t_codesV, .int t_code, .int t_toldLines, t_openedV, t_comparedV, t_keptV, t_keptByV, t_aheadV, t_againstV, t_sumV, t_sumByV, t_termV, t_termByV, t_byNotV, t_valueOfV, .int t_given, t_sV, t_asideV, t_markedV, t_undoneV, t_isLaidV, .int t_done, t_linesV, t_lineWhatV, t_lineNV, t_othersV, t_otherTieV, t_aheadsV, t_aheadOneV, t_aheadTwoV, t_blockFolkV, t_blockCountV, .int t_blocks, t_tiesV, .int t_tiesMany, t_formV, .int t_formMany, t_mustV, t_waysToV, t_waysFromV, t_isAheadV, t_ringsV, .int t_ringsMany, .long t_g]))]
noncomputable def fX12_thrown (F : Nat) (t_thrown : Int32) : Option (Int32) :=
  some t_thrown
theorem CX12_thrown {l : Launch} {D : va_G} {cy : Nat → ClassId} (F : Nat) (tA : Nat) (t_thrown : Int32) (t_taped : Int32) (t_tapeV : Value) (t_size : Int32) (t_place : Int32) (t_begin : Int32) (t_token : Int32) (t_word : Int64) (t_told : Int32) (t_wrong : Int32) (t_netV : Value) (t_folkNameV : Value) (t_kindV : Value) (t_kinV : Value) (t_lineFromV : Value) (t_lineToV : Value) (t_codesV : Value) (t_code : Int32) (t_toldLines : Int32) (t_openedV : Value) (t_comparedV : Value) (t_keptV : Value) (t_keptByV : Value) (t_aheadV : Value) (t_againstV : Value) (t_sumV : Value) (t_sumByV : Value) (t_termV : Value) (t_termByV : Value) (t_byNotV : Value) (t_valueOfV : Value) (t_given : Int32) (t_sV : Value) (t_asideV : Value) (t_markedV : Value) (t_undoneV : Value) (t_isLaidV : Value) (t_done : Int32) (t_linesV : Value) (t_lineWhatV : Value) (t_lineNV : Value) (t_othersV : Value) (t_otherTieV : Value) (t_aheadsV : Value) (t_aheadOneV : Value) (t_aheadTwoV : Value) (t_blockFolkV : Value) (t_blockCountV : Value) (t_blocks : Int32) (t_tiesV : Value) (t_tiesMany : Int32) (t_formV : Value) (t_formMany : Int32) (t_mustV : Value) (t_waysToV : Value) (t_waysFromV : Value) (t_isAheadV : Value) (t_ringsV : Value) (t_ringsMany : Int32) (t_g : Int64) (R : Int32) (h : fX12_thrown F t_thrown = some R) : vMet l D cy MX12_thrown 0 0 0 [.ref tA] (wX12_thrown cy tA t_thrown t_taped t_tapeV t_size t_place t_begin t_token t_word t_told t_wrong t_netV t_folkNameV t_kindV t_kinV t_lineFromV t_lineToV t_codesV t_code t_toldLines t_openedV t_comparedV t_keptV t_keptByV t_aheadV t_againstV t_sumV t_sumByV t_termV t_termByV t_byNotV t_valueOfV t_given t_sV t_asideV t_markedV t_undoneV t_isLaidV t_done t_linesV t_lineWhatV t_lineNV t_othersV t_otherTieV t_aheadsV t_aheadOneV t_aheadTwoV t_blockFolkV t_blockCountV t_blocks t_tiesV t_tiesMany t_formV t_formMany t_mustV t_waysToV t_waysFromV t_isAheadV t_ringsV t_ringsMany t_g) (fun (r : Option Value) (w : va_W) => r = (some (.int R)) ∧ w = (wX12_thrown cy tA t_thrown t_taped t_tapeV t_size t_place t_begin t_token t_word t_told t_wrong t_netV t_folkNameV t_kindV t_kinV t_lineFromV t_lineToV t_codesV t_code t_toldLines t_openedV t_comparedV t_keptV t_keptByV t_aheadV t_againstV t_sumV t_sumByV t_termV t_termByV t_byNotV t_valueOfV t_given t_sV t_asideV t_markedV t_undoneV t_isLaidV t_done t_linesV t_lineWhatV t_lineNV t_othersV t_otherTieV t_aheadsV t_aheadOneV t_aheadTwoV t_blockFolkV t_blockCountV t_blocks t_tiesV t_tiesMany t_formV t_formMany t_mustV t_waysToV t_waysFromV t_isAheadV t_ringsV t_ringsMany t_g)) := by
  refine vMet.start (by decide +kernel) (Nat.le_of_ble_eq_true rfl) ?_
  generalize hQe : (fun (r : Option Value) (w : va_W) => r = (some (.int R)) ∧ w = (wX12_thrown cy tA t_thrown t_taped t_tapeV t_size t_place t_begin t_token t_word t_told t_wrong t_netV t_folkNameV t_kindV t_kinV t_lineFromV t_lineToV t_codesV t_code t_toldLines t_openedV t_comparedV t_keptV t_keptByV t_aheadV t_againstV t_sumV t_sumByV t_termV t_termByV t_byNotV t_valueOfV t_given t_sV t_asideV t_markedV t_undoneV t_isLaidV t_done t_linesV t_lineWhatV t_lineNV t_othersV t_otherTieV t_aheadsV t_aheadOneV t_aheadTwoV t_blockFolkV t_blockCountV t_blocks t_tiesV t_tiesMany t_formV t_formMany t_mustV t_waysToV t_waysFromV t_isAheadV t_ringsV t_ringsMany t_g)) = Q
  have hQ : Q (some (.int R)) (wX12_thrown cy tA t_thrown t_taped t_tapeV t_size t_place t_begin t_token t_word t_told t_wrong t_netV t_folkNameV t_kindV t_kinV t_lineFromV t_lineToV t_codesV t_code t_toldLines t_openedV t_comparedV t_keptV t_keptByV t_aheadV t_againstV t_sumV t_sumByV t_termV t_termByV t_byNotV t_valueOfV t_given t_sV t_asideV t_markedV t_undoneV t_isLaidV t_done t_linesV t_lineWhatV t_lineNV t_othersV t_otherTieV t_aheadsV t_aheadOneV t_aheadTwoV t_blockFolkV t_blockCountV t_blocks t_tiesV t_tiesMany t_formV t_formMany t_mustV t_waysToV t_waysFromV t_isAheadV t_ringsV t_ringsMany t_g) := by rw [← hQe]; exact ⟨rfl, rfl⟩
  show V l D cy MX12_thrown 0 0 0 _ _ Q 0 [(0, .ref tA)] [] _ 0 0
  show V l D cy MX12_thrown 0 0 0 [.ref tA] _ Q 0 [(0, .ref tA)] [] (wX12_thrown cy tA t_thrown t_taped t_tapeV t_size t_place t_begin t_token t_word t_told t_wrong t_netV t_folkNameV t_kindV t_kinV t_lineFromV t_lineToV t_codesV t_code t_toldLines t_openedV t_comparedV t_keptV t_keptByV t_aheadV t_againstV t_sumV t_sumByV t_termV t_termByV t_byNotV t_valueOfV t_given t_sV t_asideV t_markedV t_undoneV t_isLaidV t_done t_linesV t_lineWhatV t_lineNV t_othersV t_otherTieV t_aheadsV t_aheadOneV t_aheadTwoV t_blockFolkV t_blockCountV t_blocks t_tiesV t_tiesMany t_formV t_formMany t_mustV t_waysToV t_waysFromV t_isAheadV t_ringsV t_ringsMany t_g) 0 0
  unfold fX12_thrown at h
  refine V.aload_n dX12_thrown_0 rfl 0 rfl ?_
  refine V.get kfX12 0 rfl rfl 0 (by decide) klX12_138 rfl dX12_thrown_1 ?_
  have e9 := Option.some.inj h; subst e9
  exact V.iret (ty := .int) rfl rfl dX12_thrown_4 (Nat.le_refl _) (Nat.le_refl _) hQ
theorem dX12_within_0 : decode cX12_within 0 = .ok (.iload_n 0, 1) := by decide +kernel
theorem dX12_within_1 : decode cX12_within 1 = .ok (.iload_n 1, 1) := by decide +kernel
theorem dX12_within_2 : decode cX12_within 2 = .ok (.if_icmp .lt 12, 3) := by decide +kernel
theorem dX12_within_5 : decode cX12_within 5 = .ok (.iload_n 0, 1) := by decide +kernel
theorem dX12_within_6 : decode cX12_within 6 = .ok (.iload_n 2, 1) := by decide +kernel
theorem dX12_within_7 : decode cX12_within 7 = .ok (.if_icmp .gt 7, 3) := by decide +kernel
theorem dX12_within_10 : decode cX12_within 10 = .ok (.iconst 1, 1) := by decide +kernel
theorem dX12_within_11 : decode cX12_within 11 = .ok (.goto 4, 3) := by decide +kernel
theorem dX12_within_14 : decode cX12_within 14 = .ok (.iconst 0, 1) := by decide +kernel
theorem dX12_within_15 : decode cX12_within 15 = .ok (.ireturn, 1) := by decide +kernel
def wX12_within (cy : Nat → ClassId)  : va_W :=
  []
noncomputable def bX12_within_L15 (F : Nat)   (s0 : Int32) : Option (Int32) :=
  if s0 = 0 ∨ s0 = 1 then some s0 else none
theorem vX12_within_L15 {l : Launch} {D : va_G} {cy : Nat → ClassId} {av : List Value} {ws0 : va_W} {Q : Option Value → va_W → Prop} (F : Nat)   (s0 : Int32) (R : Int32) (h : bX12_within_L15 F  s0 = some R) (hQ : Q (some (.int R)) (wX12_within cy )) : V l D cy MX12_within 0 0 0 av ws0 Q 15 [] [.int s0] (wX12_within cy ) 0 0 := by
  unfold bX12_within_L15 at h
  by_cases hz15 : s0 = 0 ∨ s0 = 1
  case neg => exact vNone ((if_neg hz15).symm.trans h)
  replace h := (if_pos hz15).symm.trans h
  have e9 := Option.some.inj h; subst e9
  exact V.iret (ty := .boolean) rfl (vBool hz15).1 dX12_within_15 (Nat.le_refl _) (Nat.le_refl _) hQ
noncomputable def bX12_within_L14 (F : Nat)    : Option (Int32) :=
  bX12_within_L15 F (0 : Int32)
theorem vX12_within_L14 {l : Launch} {D : va_G} {cy : Nat → ClassId} {av : List Value} {ws0 : va_W} {Q : Option Value → va_W → Prop} (F : Nat)    (R : Int32) (h : bX12_within_L14 F   = some R) (hQ : Q (some (.int R)) (wX12_within cy )) : V l D cy MX12_within 0 0 0 av ws0 Q 14 [] [] (wX12_within cy ) 0 0 := by
  unfold bX12_within_L14 at h
  refine V.iconst (v := (0 : Int32)) dX12_within_14 (by decide) ?_
  exact vX12_within_L15 _   _ R h hQ
noncomputable def fX12_within (F : Nat) (a0 : Int32) (a1 : Int32) (a2 : Int32) : Option (Int32) :=
  if a0 < a1 then (bX12_within_L14 F) else (if a2 < a0 then (bX12_within_L14 F) else (bX12_within_L15 F (1 : Int32)))
theorem CX12_within {l : Launch} {D : va_G} {cy : Nat → ClassId} (F : Nat) (a0 : Int32) (a1 : Int32) (a2 : Int32) (R : Int32) (h : fX12_within F a0 a1 a2 = some R) : vMet l D cy MX12_within 0 0 0 [.int a0, .int a1, .int a2] (wX12_within cy ) (fun (r : Option Value) (w : va_W) => r = (some (.int R)) ∧ w = (wX12_within cy )) := by
  refine vMet.start (by decide +kernel) (Nat.le_of_ble_eq_true rfl) ?_
  generalize hQe : (fun (r : Option Value) (w : va_W) => r = (some (.int R)) ∧ w = (wX12_within cy )) = Q
  have hQ : Q (some (.int R)) (wX12_within cy ) := by rw [← hQe]; exact ⟨rfl, rfl⟩
  show V l D cy MX12_within 0 0 0 _ _ Q 0 [(0, .int a0), (1, .int a1), (2, .int a2)] [] _ 0 0
  show V l D cy MX12_within 0 0 0 [.int a0, .int a1, .int a2] _ Q 0 [(0, .int a0), (1, .int a1), (2, .int a2)] [] (wX12_within cy ) 0 0
  unfold fX12_within at h
  refine V.iload_n dX12_within_0 rfl 0 rfl ?_
  refine V.iload_n dX12_within_1 rfl 1 rfl ?_
  refine V.icmp_lt (tgt := 14) dX12_within_2 (by decide) (fun hc2 => ?_) (fun hc2 => ?_)
  · replace h := (if_pos hc2).symm.trans h
    refine V.lvs [] rfl ?_
    exact vX12_within_L14 _    R h hQ
  · replace h := (if_neg hc2).symm.trans h
    refine V.iload_n dX12_within_5 rfl 0 rfl ?_
    refine V.iload_n dX12_within_6 rfl 2 rfl ?_
    refine V.icmp_gt (tgt := 14) dX12_within_7 (by decide) (fun hc7 => ?_) (fun hc7 => ?_)
    · replace h := (if_pos hc7).symm.trans h
      refine V.lvs [] rfl ?_
      exact vX12_within_L14 _    R h hQ
    · replace h := (if_neg hc7).symm.trans h
      refine V.iconst (v := (1 : Int32)) dX12_within_10 (by decide) ?_
      refine V.goto (tgt := 15) dX12_within_11 (by decide) ?_
      refine V.lvs [] rfl ?_
      exact vX12_within_L15 _   _ R h hQ
theorem dX12_between_0 : decode cX12_between 0 = .ok (.iload_n 0, 1) := by decide +kernel
theorem dX12_between_1 : decode cX12_between 1 = .ok (.iload_n 1, 1) := by decide +kernel
theorem dX12_between_2 : decode cX12_between 2 = .ok (.if_icmp .ge 7, 3) := by decide +kernel
theorem dX12_between_5 : decode cX12_between 5 = .ok (.iload_n 1, 1) := by decide +kernel
theorem dX12_between_6 : decode cX12_between 6 = .ok (.goto 13, 3) := by decide +kernel
theorem dX12_between_9 : decode cX12_between 9 = .ok (.iload_n 0, 1) := by decide +kernel
theorem dX12_between_10 : decode cX12_between 10 = .ok (.iload_n 2, 1) := by decide +kernel
theorem dX12_between_11 : decode cX12_between 11 = .ok (.if_icmp .le 7, 3) := by decide +kernel
theorem dX12_between_14 : decode cX12_between 14 = .ok (.iload_n 2, 1) := by decide +kernel
theorem dX12_between_15 : decode cX12_between 15 = .ok (.goto 4, 3) := by decide +kernel
theorem dX12_between_18 : decode cX12_between 18 = .ok (.iload_n 0, 1) := by decide +kernel
theorem dX12_between_19 : decode cX12_between 19 = .ok (.ireturn, 1) := by decide +kernel
def wX12_between (cy : Nat → ClassId)  : va_W :=
  []
noncomputable def bX12_between_L19 (F : Nat)   (s0 : Int32) : Option (Int32) :=
  some s0
theorem vX12_between_L19 {l : Launch} {D : va_G} {cy : Nat → ClassId} {av : List Value} {ws0 : va_W} {Q : Option Value → va_W → Prop} (F : Nat)   (s0 : Int32) (R : Int32) (h : bX12_between_L19 F  s0 = some R) (hQ : Q (some (.int R)) (wX12_between cy )) : V l D cy MX12_between 0 0 0 av ws0 Q 19 [] [.int s0] (wX12_between cy ) 0 0 := by
  unfold bX12_between_L19 at h
  have e9 := Option.some.inj h; subst e9
  exact V.iret (ty := .int) rfl rfl dX12_between_19 (Nat.le_refl _) (Nat.le_refl _) hQ
noncomputable def fX12_between (F : Nat) (a0 : Int32) (a1 : Int32) (a2 : Int32) : Option (Int32) :=
  if a1 ≤ a0 then (if a0 ≤ a2 then (bX12_between_L19 F a0) else (bX12_between_L19 F a2)) else (bX12_between_L19 F a1)
theorem CX12_between {l : Launch} {D : va_G} {cy : Nat → ClassId} (F : Nat) (a0 : Int32) (a1 : Int32) (a2 : Int32) (R : Int32) (h : fX12_between F a0 a1 a2 = some R) : vMet l D cy MX12_between 0 0 0 [.int a0, .int a1, .int a2] (wX12_between cy ) (fun (r : Option Value) (w : va_W) => r = (some (.int R)) ∧ w = (wX12_between cy )) := by
  refine vMet.start (by decide +kernel) (Nat.le_of_ble_eq_true rfl) ?_
  generalize hQe : (fun (r : Option Value) (w : va_W) => r = (some (.int R)) ∧ w = (wX12_between cy )) = Q
  have hQ : Q (some (.int R)) (wX12_between cy ) := by rw [← hQe]; exact ⟨rfl, rfl⟩
  show V l D cy MX12_between 0 0 0 _ _ Q 0 [(0, .int a0), (1, .int a1), (2, .int a2)] [] _ 0 0
  show V l D cy MX12_between 0 0 0 [.int a0, .int a1, .int a2] _ Q 0 [(0, .int a0), (1, .int a1), (2, .int a2)] [] (wX12_between cy ) 0 0
  unfold fX12_between at h
  refine V.iload_n dX12_between_0 rfl 0 rfl ?_
  refine V.iload_n dX12_between_1 rfl 1 rfl ?_
  refine V.icmp_ge (tgt := 9) dX12_between_2 (by decide) (fun hc2 => ?_) (fun hc2 => ?_)
  · replace h := (if_pos hc2).symm.trans h
    refine V.iload_n dX12_between_9 rfl 0 rfl ?_
    refine V.iload_n dX12_between_10 rfl 2 rfl ?_
    refine V.icmp_le (tgt := 18) dX12_between_11 (by decide) (fun hc11 => ?_) (fun hc11 => ?_)
    · replace h := (if_pos hc11).symm.trans h
      refine V.iload_n dX12_between_18 rfl 0 rfl ?_
      refine V.lvs [] rfl ?_
      exact vX12_between_L19 _   _ R h hQ
    · replace h := (if_neg hc11).symm.trans h
      refine V.iload_n dX12_between_14 rfl 2 rfl ?_
      refine V.goto (tgt := 19) dX12_between_15 (by decide) ?_
      refine V.lvs [] rfl ?_
      exact vX12_between_L19 _   _ R h hQ
  · replace h := (if_neg hc2).symm.trans h
    refine V.iload_n dX12_between_5 rfl 1 rfl ?_
    refine V.goto (tgt := 19) dX12_between_6 (by decide) ?_
    refine V.lvs [] rfl ?_
    exact vX12_between_L19 _   _ R h hQ
theorem dX12_bits_0 : decode cX12_bits 0 = .ok (.iconst 0, 1) := by decide +kernel
theorem dX12_bits_1 : decode cX12_bits 1 = .ok (.istore_n 1, 1) := by decide +kernel
theorem dX12_bits_2 : decode cX12_bits 2 = .ok (.iconst 0, 1) := by decide +kernel
theorem dX12_bits_3 : decode cX12_bits 3 = .ok (.istore_n 2, 1) := by decide +kernel
theorem dX12_bits_4 : decode cX12_bits 4 = .ok (.iload_n 2, 1) := by decide +kernel
theorem dX12_bits_5 : decode cX12_bits 5 = .ok (.bipush 24, 2) := by decide +kernel
theorem dX12_bits_7 : decode cX12_bits 7 = .ok (.if_icmp .ge 17, 3) := by decide +kernel
theorem dX12_bits_10 : decode cX12_bits 10 = .ok (.iload_n 1, 1) := by decide +kernel
theorem dX12_bits_11 : decode cX12_bits 11 = .ok (.iload_n 0, 1) := by decide +kernel
theorem dX12_bits_12 : decode cX12_bits 12 = .ok (.iload_n 2, 1) := by decide +kernel
theorem dX12_bits_13 : decode cX12_bits 13 = .ok (.ishr, 1) := by decide +kernel
theorem dX12_bits_14 : decode cX12_bits 14 = .ok (.iconst 1, 1) := by decide +kernel
theorem dX12_bits_15 : decode cX12_bits 15 = .ok (.iand, 1) := by decide +kernel
theorem dX12_bits_16 : decode cX12_bits 16 = .ok (.iadd, 1) := by decide +kernel
theorem dX12_bits_17 : decode cX12_bits 17 = .ok (.istore_n 1, 1) := by decide +kernel
theorem dX12_bits_18 : decode cX12_bits 18 = .ok (.iinc 2 1, 3) := by decide +kernel
theorem dX12_bits_21 : decode cX12_bits 21 = .ok (.goto (-17), 3) := by decide +kernel
theorem dX12_bits_24 : decode cX12_bits 24 = .ok (.iload_n 1, 1) := by decide +kernel
theorem dX12_bits_25 : decode cX12_bits 25 = .ok (.ireturn, 1) := by decide +kernel
def wX12_bits (cy : Nat → ClassId)  : va_W :=
  []
noncomputable def bX12_bits_L4 (F : Nat)  (k4 : Int32 → Int32 → Int32 → Option (Int32)) (x0 : Int32) (x1 : Int32) (x2 : Int32) : Option (Int32) :=
  if (24 : Int32) ≤ x2 then (some x1) else (k4 x0 (x1 + ((x0 >>> (x2 &&& 31)) &&& (1 : Int32))) (x2 + (1 : Int32)))
theorem vbX12_bits_L4 {l : Launch} {D : va_G} {cy : Nat → ClassId} {av : List Value} {ws0 : va_W} {Q : Option Value → va_W → Prop} (F : Nat)  (k4 : Int32 → Int32 → Int32 → Option (Int32)) (hk4 : ∀ (x0 : Int32) (x1 : Int32) (x2 : Int32) (R : Int32), k4 x0 x1 x2 = some R → Q (some (.int R)) (wX12_bits cy ) → V l D cy MX12_bits 0 0 0 av ws0 Q 4 [(0, .int x0), (1, .int x1), (2, .int x2)] [] (wX12_bits cy ) 0 0) (x0 : Int32) (x1 : Int32) (x2 : Int32) (R : Int32) (h : bX12_bits_L4 F k4 x0 x1 x2 = some R) (hQ : Q (some (.int R)) (wX12_bits cy )) : V l D cy MX12_bits 0 0 0 av ws0 Q 4 [(0, .int x0), (1, .int x1), (2, .int x2)] [] (wX12_bits cy ) 0 0 := by
  unfold bX12_bits_L4 at h
  refine V.iload_n dX12_bits_4 rfl 2 rfl ?_
  refine V.bipush (v := (24 : Int32)) dX12_bits_5 (by decide) ?_
  refine V.icmp_ge (tgt := 24) dX12_bits_7 (by decide) (fun hc7 => ?_) (fun hc7 => ?_)
  · replace h := (if_pos hc7).symm.trans h
    refine V.iload_n dX12_bits_24 rfl 1 rfl ?_
    have e9 := Option.some.inj h; subst e9
    exact V.iret (ty := .int) rfl rfl dX12_bits_25 (Nat.le_refl _) (Nat.le_refl _) hQ
  · replace h := (if_neg hc7).symm.trans h
    refine V.iload_n dX12_bits_10 rfl 1 rfl ?_
    refine V.iload_n dX12_bits_11 rfl 0 rfl ?_
    refine V.iload_n dX12_bits_12 rfl 2 rfl ?_
    refine V.ishr dX12_bits_13 ?_
    refine V.iconst (v := (1 : Int32)) dX12_bits_14 (by decide) ?_
    refine V.iand dX12_bits_15 ?_
    refine V.iadd dX12_bits_16 ?_
    refine V.istore_n (lv' := [(1, .int (x1 + ((x0 >>> (x2 &&& 31)) &&& (1 : Int32)))), (0, .int x0), (2, .int x2)]) dX12_bits_17 rfl (by decide) rfl ?_
    refine V.iinc (v := x2 + (1 : Int32)) (lv' := [(2, .int (x2 + (1 : Int32))), (1, .int (x1 + ((x0 >>> (x2 &&& 31)) &&& (1 : Int32)))), (0, .int x0)]) dX12_bits_18 2 rfl rfl (by decide) rfl ?_
    refine V.goto (tgt := 4) dX12_bits_21 (by decide) ?_
    refine V.lvs [2, 1, 0] rfl ?_
    exact hk4 _ _ _ R h hQ
noncomputable def fX12_bits_L4 (F : Nat)   : Nat → Int32 → Int32 → Int32 → Option (Int32)
  | 0 => fun _ _ _ => none
  | n + 1 => bX12_bits_L4 F (fX12_bits_L4 F  n)
theorem vX12_bits_L4 {l : Launch} {D : va_G} {cy : Nat → ClassId} {av : List Value} {ws0 : va_W} {Q : Option Value → va_W → Prop} (F : Nat)   : ∀ (n : Nat) (x0 : Int32) (x1 : Int32) (x2 : Int32) (R : Int32), fX12_bits_L4 F  n x0 x1 x2 = some R → Q (some (.int R)) (wX12_bits cy ) → V l D cy MX12_bits 0 0 0 av ws0 Q 4 [(0, .int x0), (1, .int x1), (2, .int x2)] [] (wX12_bits cy ) 0 0 := by
  intro n
  induction n with
  | zero => intro x0 x1 x2 R h; exact vNone h
  | succ n ih => intro x0 x1 x2 R h hQ; exact vbX12_bits_L4 F  _ ih x0 x1 x2 R h hQ
noncomputable def fX12_bits (F : Nat) (a0 : Int32) : Option (Int32) :=
  fX12_bits_L4 F F a0 (0 : Int32) (0 : Int32)
theorem CX12_bits {l : Launch} {D : va_G} {cy : Nat → ClassId} (F : Nat) (a0 : Int32) (R : Int32) (h : fX12_bits F a0 = some R) : vMet l D cy MX12_bits 0 0 0 [.int a0] (wX12_bits cy ) (fun (r : Option Value) (w : va_W) => r = (some (.int R)) ∧ w = (wX12_bits cy )) := by
  refine vMet.start (by decide +kernel) (Nat.le_of_ble_eq_true rfl) ?_
  generalize hQe : (fun (r : Option Value) (w : va_W) => r = (some (.int R)) ∧ w = (wX12_bits cy )) = Q
  have hQ : Q (some (.int R)) (wX12_bits cy ) := by rw [← hQe]; exact ⟨rfl, rfl⟩
  show V l D cy MX12_bits 0 0 0 _ _ Q 0 [(0, .int a0)] [] _ 0 0
  show V l D cy MX12_bits 0 0 0 [.int a0] _ Q 0 [(0, .int a0)] [] (wX12_bits cy ) 0 0
  unfold fX12_bits at h
  refine V.iconst (v := (0 : Int32)) dX12_bits_0 (by decide) ?_
  refine V.istore_n (lv' := [(1, .int (0 : Int32)), (0, .int a0)]) dX12_bits_1 rfl (by decide) rfl ?_
  refine V.iconst (v := (0 : Int32)) dX12_bits_2 (by decide) ?_
  refine V.istore_n (lv' := [(2, .int (0 : Int32)), (1, .int (0 : Int32)), (0, .int a0)]) dX12_bits_3 rfl (by decide) rfl ?_
  refine V.lvs [2, 1, 0] rfl ?_
  exact vX12_bits_L4 _  _ _ _ _ R h hQ
theorem dX12_feed_0 : decode cX12_feed 0 = .ok (.aload_n 0, 1) := by decide +kernel
theorem dX12_feed_1 : decode cX12_feed 1 = .ok (.iconst 0, 1) := by decide +kernel
theorem dX12_feed_2 : decode cX12_feed 2 = .ok (.putfield 138, 3) := by decide +kernel
theorem dX12_feed_5 : decode cX12_feed 5 = .ok (.iconst 0, 1) := by decide +kernel
theorem dX12_feed_6 : decode cX12_feed 6 = .ok (.istore 7, 2) := by decide +kernel
theorem dX12_feed_8 : decode cX12_feed 8 = .ok (.iload 7, 2) := by decide +kernel
theorem dX12_feed_10 : decode cX12_feed 10 = .ok (.bipush 24, 2) := by decide +kernel
theorem dX12_feed_12 : decode cX12_feed 12 = .ok (.if_icmp .ge 108, 3) := by decide +kernel
theorem dX12_feed_15 : decode cX12_feed 15 = .ok (.iload 7, 2) := by decide +kernel
theorem dX12_feed_17 : decode cX12_feed 17 = .ok (.bipush 8, 2) := by decide +kernel
theorem dX12_feed_19 : decode cX12_feed 19 = .ok (.if_icmp .ge 7, 3) := by decide +kernel
theorem dX12_feed_22 : decode cX12_feed 22 = .ok (.lload_n 1, 1) := by decide +kernel
theorem dX12_feed_23 : decode cX12_feed 23 = .ok (.goto 16, 3) := by decide +kernel
theorem dX12_feed_26 : decode cX12_feed 26 = .ok (.iload 7, 2) := by decide +kernel
theorem dX12_feed_28 : decode cX12_feed 28 = .ok (.bipush 16, 2) := by decide +kernel
theorem dX12_feed_30 : decode cX12_feed 30 = .ok (.if_icmp .ge 7, 3) := by decide +kernel
theorem dX12_feed_33 : decode cX12_feed 33 = .ok (.lload_n 3, 1) := by decide +kernel
theorem dX12_feed_34 : decode cX12_feed 34 = .ok (.goto 5, 3) := by decide +kernel
theorem dX12_feed_37 : decode cX12_feed 37 = .ok (.lload 5, 2) := by decide +kernel
theorem dX12_feed_39 : decode cX12_feed 39 = .ok (.lstore 8, 2) := by decide +kernel
theorem dX12_feed_41 : decode cX12_feed 41 = .ok (.lload 8, 2) := by decide +kernel
theorem dX12_feed_43 : decode cX12_feed 43 = .ok (.bipush 56, 2) := by decide +kernel
theorem dX12_feed_45 : decode cX12_feed 45 = .ok (.bipush 8, 2) := by decide +kernel
theorem dX12_feed_47 : decode cX12_feed 47 = .ok (.iload 7, 2) := by decide +kernel
theorem dX12_feed_49 : decode cX12_feed 49 = .ok (.bipush 7, 2) := by decide +kernel
theorem dX12_feed_51 : decode cX12_feed 51 = .ok (.iand, 1) := by decide +kernel
theorem dX12_feed_52 : decode cX12_feed 52 = .ok (.imul, 1) := by decide +kernel
theorem dX12_feed_53 : decode cX12_feed 53 = .ok (.isub, 1) := by decide +kernel
theorem dX12_feed_54 : decode cX12_feed 54 = .ok (.lushr, 1) := by decide +kernel
theorem dX12_feed_55 : decode cX12_feed 55 = .ok (.ldc2_w 142, 3) := by decide +kernel
theorem dX12_feed_58 : decode cX12_feed 58 = .ok (.land, 1) := by decide +kernel
theorem dX12_feed_59 : decode cX12_feed 59 = .ok (.l2i, 1) := by decide +kernel
theorem dX12_feed_60 : decode cX12_feed 60 = .ok (.istore 10, 2) := by decide +kernel
theorem dX12_feed_62 : decode cX12_feed 62 = .ok (.aload_n 0, 1) := by decide +kernel
theorem dX12_feed_63 : decode cX12_feed 63 = .ok (.getfield 144, 3) := by decide +kernel
theorem dX12_feed_66 : decode cX12_feed 66 = .ok (.sipush 1000, 3) := by decide +kernel
theorem dX12_feed_69 : decode cX12_feed 69 = .ok (.if_icmp .ge 45, 3) := by decide +kernel
theorem dX12_feed_72 : decode cX12_feed 72 = .ok (.iload 10, 2) := by decide +kernel
theorem dX12_feed_74 : decode cX12_feed 74 = .ok (.bipush 10, 2) := by decide +kernel
theorem dX12_feed_76 : decode cX12_feed 76 = .ok (.if_icmp .eq 17, 3) := by decide +kernel
theorem dX12_feed_79 : decode cX12_feed 79 = .ok (.iload 10, 2) := by decide +kernel
theorem dX12_feed_81 : decode cX12_feed 81 = .ok (.bipush 32, 2) := by decide +kernel
theorem dX12_feed_83 : decode cX12_feed 83 = .ok (.if_icmp .lt 31, 3) := by decide +kernel
theorem dX12_feed_86 : decode cX12_feed 86 = .ok (.iload 10, 2) := by decide +kernel
theorem dX12_feed_88 : decode cX12_feed 88 = .ok (.bipush 126, 2) := by decide +kernel
theorem dX12_feed_90 : decode cX12_feed 90 = .ok (.if_icmp .gt 24, 3) := by decide +kernel
theorem dX12_feed_93 : decode cX12_feed 93 = .ok (.aload_n 0, 1) := by decide +kernel
theorem dX12_feed_94 : decode cX12_feed 94 = .ok (.getfield 7, 3) := by decide +kernel
theorem dX12_feed_97 : decode cX12_feed 97 = .ok (.aload_n 0, 1) := by decide +kernel
theorem dX12_feed_98 : decode cX12_feed 98 = .ok (.getfield 144, 3) := by decide +kernel
theorem dX12_feed_101 : decode cX12_feed 101 = .ok (.iload 10, 2) := by decide +kernel
theorem dX12_feed_103 : decode cX12_feed 103 = .ok (.iastore, 1) := by decide +kernel
theorem dX12_feed_104 : decode cX12_feed 104 = .ok (.aload_n 0, 1) := by decide +kernel
theorem dX12_feed_105 : decode cX12_feed 105 = .ok (.dup, 1) := by decide +kernel
theorem dX12_feed_106 : decode cX12_feed 106 = .ok (.getfield 144, 3) := by decide +kernel
theorem dX12_feed_109 : decode cX12_feed 109 = .ok (.iconst 1, 1) := by decide +kernel
theorem dX12_feed_110 : decode cX12_feed 110 = .ok (.iadd, 1) := by decide +kernel
theorem dX12_feed_111 : decode cX12_feed 111 = .ok (.putfield 144, 3) := by decide +kernel
theorem dX12_feed_114 : decode cX12_feed 114 = .ok (.iinc 7 1, 3) := by decide +kernel
theorem dX12_feed_117 : decode cX12_feed 117 = .ok (.goto (-109), 3) := by decide +kernel
theorem dX12_feed_120 : decode cX12_feed 120 = .ok (.aload_n 0, 1) := by decide +kernel
theorem dX12_feed_121 : decode cX12_feed 121 = .ok (.getfield 144, 3) := by decide +kernel
theorem dX12_feed_124 : decode cX12_feed 124 = .ok (.ireturn, 1) := by decide +kernel
def wX12_feed (cy : Nat → ClassId) (tA : Nat) (t_thrown : Int32) (t_taped : Int32) (t_size : Int32) (t_place : Int32) (t_begin : Int32) (t_token : Int32) (t_word : Int64) (t_told : Int32) (t_wrong : Int32) (t_netV : Value) (t_folkNameV : Value) (t_kindV : Value) (t_kinV : Value) (t_lineFromV : Value) (t_lineToV : Value) (t_codesV : Value) (t_code : Int32) (t_toldLines : Int32) (t_openedV : Value) (t_comparedV : Value) (t_keptV : Value) (t_keptByV : Value) (t_aheadV : Value) (t_againstV : Value) (t_sumV : Value) (t_sumByV : Value) (t_termV : Value) (t_termByV : Value) (t_byNotV : Value) (t_valueOfV : Value) (t_given : Int32) (t_sV : Value) (t_asideV : Value) (t_markedV : Value) (t_undoneV : Value) (t_isLaidV : Value) (t_done : Int32) (t_linesV : Value) (t_lineWhatV : Value) (t_lineNV : Value) (t_othersV : Value) (t_otherTieV : Value) (t_aheadsV : Value) (t_aheadOneV : Value) (t_aheadTwoV : Value) (t_blockFolkV : Value) (t_blockCountV : Value) (t_blocks : Int32) (t_tiesV : Value) (t_tiesMany : Int32) (t_formV : Value) (t_formMany : Int32) (t_mustV : Value) (t_waysToV : Value) (t_waysFromV : Value) (t_isAheadV : Value) (t_ringsV : Value) (t_ringsMany : Int32) (t_g : Int64) (t_tapeA : Nat) (t_tapeN : Nat) (t_tape : Nat → Int32) : va_W :=
  [(tA, .inr (12, [.int t_thrown, .int t_taped, .ref t_tapeA, .int t_size, .int t_place, .int t_begin, .int t_token, .long t_word, .int t_told, .int t_wrong, t_netV, t_folkNameV, t_kindV, t_kinV, t_lineFromV, t_lineToV, t_codesV, .int t_code, .int t_toldLines, t_openedV, t_comparedV, t_keptV, t_keptByV, t_aheadV, t_againstV, t_sumV, t_sumByV, t_termV, t_termByV, t_byNotV, t_valueOfV, .int t_given, t_sV, t_asideV, t_markedV, t_undoneV, t_isLaidV, .int t_done, t_linesV, t_lineWhatV, t_lineNV, t_othersV, t_otherTieV, t_aheadsV, t_aheadOneV, t_aheadTwoV, t_blockFolkV, t_blockCountV, .int t_blocks, t_tiesV, .int t_tiesMany, t_formV, .int t_formMany, t_mustV, t_waysToV, t_waysFromV, t_isAheadV, t_ringsV, .int t_ringsMany, .long t_g])), (t_tapeA, .inl (cy 1, t_tapeN, .inl t_tape))]
noncomputable def bX12_feed_L114 (F : Nat) (t_tapeN : Nat) (k8 : Int64 → Int64 → Int64 → Int32 → Int32 → Int32 → (Nat → Int32) → Option (Int32 × (Int32) × (Int32) × (Nat → Int32))) (x1 : Int64) (x3 : Int64) (x5 : Int64) (x7 : Int32) (t_thrown : Int32) (t_taped : Int32) (t_tape : Nat → Int32) : Option (Int32 × (Int32) × (Int32) × (Nat → Int32)) :=
  k8 x1 x3 x5 (x7 + (1 : Int32)) t_thrown t_taped t_tape
theorem vX12_feed_L114 {l : Launch} {D : va_G} {cy : Nat → ClassId} {av : List Value} {ws0 : va_W} {Q : Option Value → va_W → Prop} (F : Nat) (tA : Nat) (t_size : Int32) (t_place : Int32) (t_begin : Int32) (t_token : Int32) (t_word : Int64) (t_told : Int32) (t_wrong : Int32) (t_netV : Value) (t_folkNameV : Value) (t_kindV : Value) (t_kinV : Value) (t_lineFromV : Value) (t_lineToV : Value) (t_codesV : Value) (t_code : Int32) (t_toldLines : Int32) (t_openedV : Value) (t_comparedV : Value) (t_keptV : Value) (t_keptByV : Value) (t_aheadV : Value) (t_againstV : Value) (t_sumV : Value) (t_sumByV : Value) (t_termV : Value) (t_termByV : Value) (t_byNotV : Value) (t_valueOfV : Value) (t_given : Int32) (t_sV : Value) (t_asideV : Value) (t_markedV : Value) (t_undoneV : Value) (t_isLaidV : Value) (t_done : Int32) (t_linesV : Value) (t_lineWhatV : Value) (t_lineNV : Value) (t_othersV : Value) (t_otherTieV : Value) (t_aheadsV : Value) (t_aheadOneV : Value) (t_aheadTwoV : Value) (t_blockFolkV : Value) (t_blockCountV : Value) (t_blocks : Int32) (t_tiesV : Value) (t_tiesMany : Int32) (t_formV : Value) (t_formMany : Int32) (t_mustV : Value) (t_waysToV : Value) (t_waysFromV : Value) (t_isAheadV : Value) (t_ringsV : Value) (t_ringsMany : Int32) (t_g : Int64) (t_tapeA : Nat) (t_tapeN : Nat) (k8 : Int64 → Int64 → Int64 → Int32 → Int32 → Int32 → (Nat → Int32) → Option (Int32 × (Int32) × (Int32) × (Nat → Int32))) (hk8 : ∀ (x1 : Int64) (x3 : Int64) (x5 : Int64) (x7 : Int32) (t_thrown : Int32) (t_taped : Int32) (t_tape : Nat → Int32) (R : Int32 × (Int32) × (Int32) × (Nat → Int32)), k8 x1 x3 x5 x7 t_thrown t_taped t_tape = some R → Q (some (.int R.1)) (wX12_feed cy tA R.2.1 R.2.2.1 t_size t_place t_begin t_token t_word t_told t_wrong t_netV t_folkNameV t_kindV t_kinV t_lineFromV t_lineToV t_codesV t_code t_toldLines t_openedV t_comparedV t_keptV t_keptByV t_aheadV t_againstV t_sumV t_sumByV t_termV t_termByV t_byNotV t_valueOfV t_given t_sV t_asideV t_markedV t_undoneV t_isLaidV t_done t_linesV t_lineWhatV t_lineNV t_othersV t_otherTieV t_aheadsV t_aheadOneV t_aheadTwoV t_blockFolkV t_blockCountV t_blocks t_tiesV t_tiesMany t_formV t_formMany t_mustV t_waysToV t_waysFromV t_isAheadV t_ringsV t_ringsMany t_g t_tapeA t_tapeN R.2.2.2) → V l D cy MX12_feed 0 0 0 av ws0 Q 8 [(0, .ref tA), (1, .long x1), (3, .long x3), (5, .long x5), (7, .int x7)] [] (wX12_feed cy tA t_thrown t_taped t_size t_place t_begin t_token t_word t_told t_wrong t_netV t_folkNameV t_kindV t_kinV t_lineFromV t_lineToV t_codesV t_code t_toldLines t_openedV t_comparedV t_keptV t_keptByV t_aheadV t_againstV t_sumV t_sumByV t_termV t_termByV t_byNotV t_valueOfV t_given t_sV t_asideV t_markedV t_undoneV t_isLaidV t_done t_linesV t_lineWhatV t_lineNV t_othersV t_otherTieV t_aheadsV t_aheadOneV t_aheadTwoV t_blockFolkV t_blockCountV t_blocks t_tiesV t_tiesMany t_formV t_formMany t_mustV t_waysToV t_waysFromV t_isAheadV t_ringsV t_ringsMany t_g t_tapeA t_tapeN t_tape) 0 0) (x1 : Int64) (x3 : Int64) (x5 : Int64) (x7 : Int32) (t_thrown : Int32) (t_taped : Int32) (t_tape : Nat → Int32) (R : Int32 × (Int32) × (Int32) × (Nat → Int32)) (h : bX12_feed_L114 F t_tapeN k8 x1 x3 x5 x7 t_thrown t_taped t_tape = some R) (hQ : Q (some (.int R.1)) (wX12_feed cy tA R.2.1 R.2.2.1 t_size t_place t_begin t_token t_word t_told t_wrong t_netV t_folkNameV t_kindV t_kinV t_lineFromV t_lineToV t_codesV t_code t_toldLines t_openedV t_comparedV t_keptV t_keptByV t_aheadV t_againstV t_sumV t_sumByV t_termV t_termByV t_byNotV t_valueOfV t_given t_sV t_asideV t_markedV t_undoneV t_isLaidV t_done t_linesV t_lineWhatV t_lineNV t_othersV t_otherTieV t_aheadsV t_aheadOneV t_aheadTwoV t_blockFolkV t_blockCountV t_blocks t_tiesV t_tiesMany t_formV t_formMany t_mustV t_waysToV t_waysFromV t_isAheadV t_ringsV t_ringsMany t_g t_tapeA t_tapeN R.2.2.2)) : V l D cy MX12_feed 0 0 0 av ws0 Q 114 [(0, .ref tA), (1, .long x1), (3, .long x3), (5, .long x5), (7, .int x7)] [] (wX12_feed cy tA t_thrown t_taped t_size t_place t_begin t_token t_word t_told t_wrong t_netV t_folkNameV t_kindV t_kinV t_lineFromV t_lineToV t_codesV t_code t_toldLines t_openedV t_comparedV t_keptV t_keptByV t_aheadV t_againstV t_sumV t_sumByV t_termV t_termByV t_byNotV t_valueOfV t_given t_sV t_asideV t_markedV t_undoneV t_isLaidV t_done t_linesV t_lineWhatV t_lineNV t_othersV t_otherTieV t_aheadsV t_aheadOneV t_aheadTwoV t_blockFolkV t_blockCountV t_blocks t_tiesV t_tiesMany t_formV t_formMany t_mustV t_waysToV t_waysFromV t_isAheadV t_ringsV t_ringsMany t_g t_tapeA t_tapeN t_tape) 0 0 := by
  unfold bX12_feed_L114 at h
  refine V.iinc (v := x7 + (1 : Int32)) (lv' := [(7, .int (x7 + (1 : Int32))), (0, .ref tA), (1, .long x1), (3, .long x3), (5, .long x5)]) dX12_feed_114 4 rfl rfl (by decide) rfl ?_
  refine V.goto (tgt := 8) dX12_feed_117 (by decide) ?_
  refine V.lvs [1, 2, 3, 4, 0] rfl ?_
  exact hk8 _ _ _ _ _ _ _ R h hQ
noncomputable def bX12_feed_L93 (F : Nat) (t_tapeN : Nat) (k8 : Int64 → Int64 → Int64 → Int32 → Int32 → Int32 → (Nat → Int32) → Option (Int32 × (Int32) × (Int32) × (Nat → Int32))) (x1 : Int64) (x3 : Int64) (x5 : Int64) (x7 : Int32) (x10 : Int32) (t_thrown : Int32) (t_taped : Int32) (t_tape : Nat → Int32) : Option (Int32 × (Int32) × (Int32) × (Nat → Int32)) :=
  if t_taped < 0 ∨ t_tapeN ≤ t_taped.toNatClampNeg then none else (bX12_feed_L114 F t_tapeN k8 x1 x3 x5 x7 t_thrown (t_taped + (1 : Int32)) (upd t_tape t_taped.toNatClampNeg x10))
theorem vX12_feed_L93 {l : Launch} {D : va_G} {cy : Nat → ClassId} {av : List Value} {ws0 : va_W} {Q : Option Value → va_W → Prop} (F : Nat) (tA : Nat) (t_size : Int32) (t_place : Int32) (t_begin : Int32) (t_token : Int32) (t_word : Int64) (t_told : Int32) (t_wrong : Int32) (t_netV : Value) (t_folkNameV : Value) (t_kindV : Value) (t_kinV : Value) (t_lineFromV : Value) (t_lineToV : Value) (t_codesV : Value) (t_code : Int32) (t_toldLines : Int32) (t_openedV : Value) (t_comparedV : Value) (t_keptV : Value) (t_keptByV : Value) (t_aheadV : Value) (t_againstV : Value) (t_sumV : Value) (t_sumByV : Value) (t_termV : Value) (t_termByV : Value) (t_byNotV : Value) (t_valueOfV : Value) (t_given : Int32) (t_sV : Value) (t_asideV : Value) (t_markedV : Value) (t_undoneV : Value) (t_isLaidV : Value) (t_done : Int32) (t_linesV : Value) (t_lineWhatV : Value) (t_lineNV : Value) (t_othersV : Value) (t_otherTieV : Value) (t_aheadsV : Value) (t_aheadOneV : Value) (t_aheadTwoV : Value) (t_blockFolkV : Value) (t_blockCountV : Value) (t_blocks : Int32) (t_tiesV : Value) (t_tiesMany : Int32) (t_formV : Value) (t_formMany : Int32) (t_mustV : Value) (t_waysToV : Value) (t_waysFromV : Value) (t_isAheadV : Value) (t_ringsV : Value) (t_ringsMany : Int32) (t_g : Int64) (t_tapeA : Nat) (t_tapeN : Nat) (k8 : Int64 → Int64 → Int64 → Int32 → Int32 → Int32 → (Nat → Int32) → Option (Int32 × (Int32) × (Int32) × (Nat → Int32))) (hk8 : ∀ (x1 : Int64) (x3 : Int64) (x5 : Int64) (x7 : Int32) (t_thrown : Int32) (t_taped : Int32) (t_tape : Nat → Int32) (R : Int32 × (Int32) × (Int32) × (Nat → Int32)), k8 x1 x3 x5 x7 t_thrown t_taped t_tape = some R → Q (some (.int R.1)) (wX12_feed cy tA R.2.1 R.2.2.1 t_size t_place t_begin t_token t_word t_told t_wrong t_netV t_folkNameV t_kindV t_kinV t_lineFromV t_lineToV t_codesV t_code t_toldLines t_openedV t_comparedV t_keptV t_keptByV t_aheadV t_againstV t_sumV t_sumByV t_termV t_termByV t_byNotV t_valueOfV t_given t_sV t_asideV t_markedV t_undoneV t_isLaidV t_done t_linesV t_lineWhatV t_lineNV t_othersV t_otherTieV t_aheadsV t_aheadOneV t_aheadTwoV t_blockFolkV t_blockCountV t_blocks t_tiesV t_tiesMany t_formV t_formMany t_mustV t_waysToV t_waysFromV t_isAheadV t_ringsV t_ringsMany t_g t_tapeA t_tapeN R.2.2.2) → V l D cy MX12_feed 0 0 0 av ws0 Q 8 [(0, .ref tA), (1, .long x1), (3, .long x3), (5, .long x5), (7, .int x7)] [] (wX12_feed cy tA t_thrown t_taped t_size t_place t_begin t_token t_word t_told t_wrong t_netV t_folkNameV t_kindV t_kinV t_lineFromV t_lineToV t_codesV t_code t_toldLines t_openedV t_comparedV t_keptV t_keptByV t_aheadV t_againstV t_sumV t_sumByV t_termV t_termByV t_byNotV t_valueOfV t_given t_sV t_asideV t_markedV t_undoneV t_isLaidV t_done t_linesV t_lineWhatV t_lineNV t_othersV t_otherTieV t_aheadsV t_aheadOneV t_aheadTwoV t_blockFolkV t_blockCountV t_blocks t_tiesV t_tiesMany t_formV t_formMany t_mustV t_waysToV t_waysFromV t_isAheadV t_ringsV t_ringsMany t_g t_tapeA t_tapeN t_tape) 0 0) (x1 : Int64) (x3 : Int64) (x5 : Int64) (x7 : Int32) (x10 : Int32) (t_thrown : Int32) (t_taped : Int32) (t_tape : Nat → Int32) (R : Int32 × (Int32) × (Int32) × (Nat → Int32)) (h : bX12_feed_L93 F t_tapeN k8 x1 x3 x5 x7 x10 t_thrown t_taped t_tape = some R) (hQ : Q (some (.int R.1)) (wX12_feed cy tA R.2.1 R.2.2.1 t_size t_place t_begin t_token t_word t_told t_wrong t_netV t_folkNameV t_kindV t_kinV t_lineFromV t_lineToV t_codesV t_code t_toldLines t_openedV t_comparedV t_keptV t_keptByV t_aheadV t_againstV t_sumV t_sumByV t_termV t_termByV t_byNotV t_valueOfV t_given t_sV t_asideV t_markedV t_undoneV t_isLaidV t_done t_linesV t_lineWhatV t_lineNV t_othersV t_otherTieV t_aheadsV t_aheadOneV t_aheadTwoV t_blockFolkV t_blockCountV t_blocks t_tiesV t_tiesMany t_formV t_formMany t_mustV t_waysToV t_waysFromV t_isAheadV t_ringsV t_ringsMany t_g t_tapeA t_tapeN R.2.2.2)) : V l D cy MX12_feed 0 0 0 av ws0 Q 93 [(0, .ref tA), (1, .long x1), (3, .long x3), (5, .long x5), (7, .int x7), (10, .int x10)] [] (wX12_feed cy tA t_thrown t_taped t_size t_place t_begin t_token t_word t_told t_wrong t_netV t_folkNameV t_kindV t_kinV t_lineFromV t_lineToV t_codesV t_code t_toldLines t_openedV t_comparedV t_keptV t_keptByV t_aheadV t_againstV t_sumV t_sumByV t_termV t_termByV t_byNotV t_valueOfV t_given t_sV t_asideV t_markedV t_undoneV t_isLaidV t_done t_linesV t_lineWhatV t_lineNV t_othersV t_otherTieV t_aheadsV t_aheadOneV t_aheadTwoV t_blockFolkV t_blockCountV t_blocks t_tiesV t_tiesMany t_formV t_formMany t_mustV t_waysToV t_waysFromV t_isAheadV t_ringsV t_ringsMany t_g t_tapeA t_tapeN t_tape) 0 0 := by
  unfold bX12_feed_L93 at h
  refine V.aload_n dX12_feed_93 rfl 0 rfl ?_
  refine V.get kfX12 0 rfl rfl 2 (by decide) klX12_7 rfl dX12_feed_94 ?_
  refine V.aload_n dX12_feed_97 rfl 0 rfl ?_
  refine V.get kfX12 0 rfl rfl 1 (by decide) klX12_144 rfl dX12_feed_98 ?_
  refine V.iload dX12_feed_101 5 rfl ?_
  by_cases hb103 : t_taped < 0 ∨ t_tapeN ≤ t_taped.toNatClampNeg
  · exact vNone ((if_pos hb103).symm.trans h)
  replace h := (if_neg hb103).symm.trans h
  refine V.iast (ws' := (wX12_feed cy tA t_thrown t_taped t_size t_place t_begin t_token t_word t_told t_wrong t_netV t_folkNameV t_kindV t_kinV t_lineFromV t_lineToV t_codesV t_code t_toldLines t_openedV t_comparedV t_keptV t_keptByV t_aheadV t_againstV t_sumV t_sumByV t_termV t_termByV t_byNotV t_valueOfV t_given t_sV t_asideV t_markedV t_undoneV t_isLaidV t_done t_linesV t_lineWhatV t_lineNV t_othersV t_otherTieV t_aheadsV t_aheadOneV t_aheadTwoV t_blockFolkV t_blockCountV t_blocks t_tiesV t_tiesMany t_formV t_formMany t_mustV t_waysToV t_waysFromV t_isAheadV t_ringsV t_ringsMany t_g t_tapeA t_tapeN (upd t_tape t_taped.toNatClampNeg x10))) dX12_feed_103 1 rfl hb103 rfl ?_
  refine V.aload_n dX12_feed_104 rfl 0 rfl ?_
  refine V.dup dX12_feed_105 rfl ?_
  refine V.get kfX12 0 rfl rfl 1 (by decide) klX12_144 rfl dX12_feed_106 ?_
  refine V.iconst (v := (1 : Int32)) dX12_feed_109 (by decide) ?_
  refine V.iadd dX12_feed_110 ?_
  refine V.put (ws' := (wX12_feed cy tA t_thrown (t_taped + (1 : Int32)) t_size t_place t_begin t_token t_word t_told t_wrong t_netV t_folkNameV t_kindV t_kinV t_lineFromV t_lineToV t_codesV t_code t_toldLines t_openedV t_comparedV t_keptV t_keptByV t_aheadV t_againstV t_sumV t_sumByV t_termV t_termByV t_byNotV t_valueOfV t_given t_sV t_asideV t_markedV t_undoneV t_isLaidV t_done t_linesV t_lineWhatV t_lineNV t_othersV t_otherTieV t_aheadsV t_aheadOneV t_aheadTwoV t_blockFolkV t_blockCountV t_blocks t_tiesV t_tiesMany t_formV t_formMany t_mustV t_waysToV t_waysFromV t_isAheadV t_ringsV t_ringsMany t_g t_tapeA t_tapeN (upd t_tape t_taped.toNatClampNeg x10))) kfX12 tyX12 tyX12_ok nmX12 0 rfl rfl 1 (by decide) klX12_144 rfl (tyX12_ok 1 (by decide)) rfl rfl (Nat.le_of_ble_eq_true rfl) dX12_feed_111 rfl ?_
  refine V.lvs [0, 1, 2, 3, 4] rfl ?_
  exact vX12_feed_L114 _ _ _ _ _ _ _ _ _ _ _ _ _ _ _ _ _ _ _ _ _ _ _ _ _ _ _ _ _ _ _ _ _ _ _ _ _ _ _ _ _ _ _ _ _ _ _ _ _ _ _ _ _ _ _ _ _ _ _ _ _ _ hk8  _ _ _ _ _ _ _ R h hQ
noncomputable def bX12_feed_L39 (F : Nat) (t_tapeN : Nat) (k8 : Int64 → Int64 → Int64 → Int32 → Int32 → Int32 → (Nat → Int32) → Option (Int32 × (Int32) × (Int32) × (Nat → Int32))) (x1 : Int64) (x3 : Int64) (x5 : Int64) (x7 : Int32) (s0 : Int64) (t_thrown : Int32) (t_taped : Int32) (t_tape : Nat → Int32) : Option (Int32 × (Int32) × (Int32) × (Nat → Int32)) :=
  if (1000 : Int32) ≤ t_taped then (bX12_feed_L114 F t_tapeN k8 x1 x3 x5 x7 t_thrown t_taped t_tape) else (if ((((s0.toUInt64 >>> (((56 : Int32) - ((8 : Int32) * (x7 &&& (7 : Int32)))).toInt64.toUInt64 &&& Int64.toUInt64 63)).toInt64) &&& (255 : Int64)).toInt32) = (10 : Int32) then (bX12_feed_L93 F t_tapeN k8 x1 x3 x5 x7 ((((s0.toUInt64 >>> (((56 : Int32) - ((8 : Int32) * (x7 &&& (7 : Int32)))).toInt64.toUInt64 &&& Int64.toUInt64 63)).toInt64) &&& (255 : Int64)).toInt32) t_thrown t_taped t_tape) else (if ((((s0.toUInt64 >>> (((56 : Int32) - ((8 : Int32) * (x7 &&& (7 : Int32)))).toInt64.toUInt64 &&& Int64.toUInt64 63)).toInt64) &&& (255 : Int64)).toInt32) < (32 : Int32) then (bX12_feed_L114 F t_tapeN k8 x1 x3 x5 x7 t_thrown t_taped t_tape) else (if (126 : Int32) < ((((s0.toUInt64 >>> (((56 : Int32) - ((8 : Int32) * (x7 &&& (7 : Int32)))).toInt64.toUInt64 &&& Int64.toUInt64 63)).toInt64) &&& (255 : Int64)).toInt32) then (bX12_feed_L114 F t_tapeN k8 x1 x3 x5 x7 t_thrown t_taped t_tape) else (bX12_feed_L93 F t_tapeN k8 x1 x3 x5 x7 ((((s0.toUInt64 >>> (((56 : Int32) - ((8 : Int32) * (x7 &&& (7 : Int32)))).toInt64.toUInt64 &&& Int64.toUInt64 63)).toInt64) &&& (255 : Int64)).toInt32) t_thrown t_taped t_tape))))
theorem vX12_feed_L39 {l : Launch} {D : va_G} {cy : Nat → ClassId} {av : List Value} {ws0 : va_W} {Q : Option Value → va_W → Prop} (F : Nat) (tA : Nat) (t_size : Int32) (t_place : Int32) (t_begin : Int32) (t_token : Int32) (t_word : Int64) (t_told : Int32) (t_wrong : Int32) (t_netV : Value) (t_folkNameV : Value) (t_kindV : Value) (t_kinV : Value) (t_lineFromV : Value) (t_lineToV : Value) (t_codesV : Value) (t_code : Int32) (t_toldLines : Int32) (t_openedV : Value) (t_comparedV : Value) (t_keptV : Value) (t_keptByV : Value) (t_aheadV : Value) (t_againstV : Value) (t_sumV : Value) (t_sumByV : Value) (t_termV : Value) (t_termByV : Value) (t_byNotV : Value) (t_valueOfV : Value) (t_given : Int32) (t_sV : Value) (t_asideV : Value) (t_markedV : Value) (t_undoneV : Value) (t_isLaidV : Value) (t_done : Int32) (t_linesV : Value) (t_lineWhatV : Value) (t_lineNV : Value) (t_othersV : Value) (t_otherTieV : Value) (t_aheadsV : Value) (t_aheadOneV : Value) (t_aheadTwoV : Value) (t_blockFolkV : Value) (t_blockCountV : Value) (t_blocks : Int32) (t_tiesV : Value) (t_tiesMany : Int32) (t_formV : Value) (t_formMany : Int32) (t_mustV : Value) (t_waysToV : Value) (t_waysFromV : Value) (t_isAheadV : Value) (t_ringsV : Value) (t_ringsMany : Int32) (t_g : Int64) (t_tapeA : Nat) (t_tapeN : Nat) (k8 : Int64 → Int64 → Int64 → Int32 → Int32 → Int32 → (Nat → Int32) → Option (Int32 × (Int32) × (Int32) × (Nat → Int32))) (hk8 : ∀ (x1 : Int64) (x3 : Int64) (x5 : Int64) (x7 : Int32) (t_thrown : Int32) (t_taped : Int32) (t_tape : Nat → Int32) (R : Int32 × (Int32) × (Int32) × (Nat → Int32)), k8 x1 x3 x5 x7 t_thrown t_taped t_tape = some R → Q (some (.int R.1)) (wX12_feed cy tA R.2.1 R.2.2.1 t_size t_place t_begin t_token t_word t_told t_wrong t_netV t_folkNameV t_kindV t_kinV t_lineFromV t_lineToV t_codesV t_code t_toldLines t_openedV t_comparedV t_keptV t_keptByV t_aheadV t_againstV t_sumV t_sumByV t_termV t_termByV t_byNotV t_valueOfV t_given t_sV t_asideV t_markedV t_undoneV t_isLaidV t_done t_linesV t_lineWhatV t_lineNV t_othersV t_otherTieV t_aheadsV t_aheadOneV t_aheadTwoV t_blockFolkV t_blockCountV t_blocks t_tiesV t_tiesMany t_formV t_formMany t_mustV t_waysToV t_waysFromV t_isAheadV t_ringsV t_ringsMany t_g t_tapeA t_tapeN R.2.2.2) → V l D cy MX12_feed 0 0 0 av ws0 Q 8 [(0, .ref tA), (1, .long x1), (3, .long x3), (5, .long x5), (7, .int x7)] [] (wX12_feed cy tA t_thrown t_taped t_size t_place t_begin t_token t_word t_told t_wrong t_netV t_folkNameV t_kindV t_kinV t_lineFromV t_lineToV t_codesV t_code t_toldLines t_openedV t_comparedV t_keptV t_keptByV t_aheadV t_againstV t_sumV t_sumByV t_termV t_termByV t_byNotV t_valueOfV t_given t_sV t_asideV t_markedV t_undoneV t_isLaidV t_done t_linesV t_lineWhatV t_lineNV t_othersV t_otherTieV t_aheadsV t_aheadOneV t_aheadTwoV t_blockFolkV t_blockCountV t_blocks t_tiesV t_tiesMany t_formV t_formMany t_mustV t_waysToV t_waysFromV t_isAheadV t_ringsV t_ringsMany t_g t_tapeA t_tapeN t_tape) 0 0) (x1 : Int64) (x3 : Int64) (x5 : Int64) (x7 : Int32) (s0 : Int64) (t_thrown : Int32) (t_taped : Int32) (t_tape : Nat → Int32) (R : Int32 × (Int32) × (Int32) × (Nat → Int32)) (h : bX12_feed_L39 F t_tapeN k8 x1 x3 x5 x7 s0 t_thrown t_taped t_tape = some R) (hQ : Q (some (.int R.1)) (wX12_feed cy tA R.2.1 R.2.2.1 t_size t_place t_begin t_token t_word t_told t_wrong t_netV t_folkNameV t_kindV t_kinV t_lineFromV t_lineToV t_codesV t_code t_toldLines t_openedV t_comparedV t_keptV t_keptByV t_aheadV t_againstV t_sumV t_sumByV t_termV t_termByV t_byNotV t_valueOfV t_given t_sV t_asideV t_markedV t_undoneV t_isLaidV t_done t_linesV t_lineWhatV t_lineNV t_othersV t_otherTieV t_aheadsV t_aheadOneV t_aheadTwoV t_blockFolkV t_blockCountV t_blocks t_tiesV t_tiesMany t_formV t_formMany t_mustV t_waysToV t_waysFromV t_isAheadV t_ringsV t_ringsMany t_g t_tapeA t_tapeN R.2.2.2)) : V l D cy MX12_feed 0 0 0 av ws0 Q 39 [(0, .ref tA), (1, .long x1), (3, .long x3), (5, .long x5), (7, .int x7)] [.long s0] (wX12_feed cy tA t_thrown t_taped t_size t_place t_begin t_token t_word t_told t_wrong t_netV t_folkNameV t_kindV t_kinV t_lineFromV t_lineToV t_codesV t_code t_toldLines t_openedV t_comparedV t_keptV t_keptByV t_aheadV t_againstV t_sumV t_sumByV t_termV t_termByV t_byNotV t_valueOfV t_given t_sV t_asideV t_markedV t_undoneV t_isLaidV t_done t_linesV t_lineWhatV t_lineNV t_othersV t_otherTieV t_aheadsV t_aheadOneV t_aheadTwoV t_blockFolkV t_blockCountV t_blocks t_tiesV t_tiesMany t_formV t_formMany t_mustV t_waysToV t_waysFromV t_isAheadV t_ringsV t_ringsMany t_g t_tapeA t_tapeN t_tape) 0 0 := by
  unfold bX12_feed_L39 at h
  refine V.lstore (lv' := [(8, .long s0), (0, .ref tA), (1, .long x1), (3, .long x3), (5, .long x5), (7, .int x7)]) dX12_feed_39 (by decide) rfl ?_
  refine V.lload dX12_feed_41 0 rfl ?_
  refine V.bipush (v := (56 : Int32)) dX12_feed_43 (by decide) ?_
  refine V.bipush (v := (8 : Int32)) dX12_feed_45 (by decide) ?_
  refine V.iload dX12_feed_47 5 rfl ?_
  refine V.bipush (v := (7 : Int32)) dX12_feed_49 (by decide) ?_
  refine V.iand dX12_feed_51 ?_
  refine V.imul dX12_feed_52 ?_
  refine V.isub dX12_feed_53 ?_
  refine V.lushr dX12_feed_54 ?_
  refine V.ldc2 (v := (255 : Int64)) klX12_142 dX12_feed_55 ?_
  refine V.land dX12_feed_58 ?_
  refine V.l2i dX12_feed_59 ?_
  refine V.istore (lv' := [(10, .int ((((s0.toUInt64 >>> (((56 : Int32) - ((8 : Int32) * (x7 &&& (7 : Int32)))).toInt64.toUInt64 &&& Int64.toUInt64 63)).toInt64) &&& (255 : Int64)).toInt32)), (8, .long s0), (0, .ref tA), (1, .long x1), (3, .long x3), (5, .long x5), (7, .int x7)]) dX12_feed_60 (by decide) rfl ?_
  refine V.aload_n dX12_feed_62 rfl 2 rfl ?_
  refine V.get kfX12 0 rfl rfl 1 (by decide) klX12_144 rfl dX12_feed_63 ?_
  refine V.sipush (v := (1000 : Int32)) dX12_feed_66 (by decide) ?_
  refine V.icmp_ge (tgt := 114) dX12_feed_69 (by decide) (fun hc69 => ?_) (fun hc69 => ?_)
  · replace h := (if_pos hc69).symm.trans h
    refine V.lvs [2, 3, 4, 5, 6] rfl ?_
    exact vX12_feed_L114 _ _ _ _ _ _ _ _ _ _ _ _ _ _ _ _ _ _ _ _ _ _ _ _ _ _ _ _ _ _ _ _ _ _ _ _ _ _ _ _ _ _ _ _ _ _ _ _ _ _ _ _ _ _ _ _ _ _ _ _ _ _ hk8  _ _ _ _ _ _ _ R h hQ
  · replace h := (if_neg hc69).symm.trans h
    refine V.iload dX12_feed_72 0 rfl ?_
    refine V.bipush (v := (10 : Int32)) dX12_feed_74 (by decide) ?_
    refine V.icmp_eq (tgt := 93) dX12_feed_76 (by decide) (fun hc76 => ?_) (fun hc76 => ?_)
    · replace h := (if_pos hc76).symm.trans h
      refine V.lvs [2, 3, 4, 5, 6, 0] rfl ?_
      exact vX12_feed_L93 _ _ _ _ _ _ _ _ _ _ _ _ _ _ _ _ _ _ _ _ _ _ _ _ _ _ _ _ _ _ _ _ _ _ _ _ _ _ _ _ _ _ _ _ _ _ _ _ _ _ _ _ _ _ _ _ _ _ _ _ _ _ hk8  _ _ _ _ _ _ _ _ R h hQ
    · replace h := (if_neg hc76).symm.trans h
      refine V.iload dX12_feed_79 0 rfl ?_
      refine V.bipush (v := (32 : Int32)) dX12_feed_81 (by decide) ?_
      refine V.icmp_lt (tgt := 114) dX12_feed_83 (by decide) (fun hc83 => ?_) (fun hc83 => ?_)
      · replace h := (if_pos hc83).symm.trans h
        refine V.lvs [2, 3, 4, 5, 6] rfl ?_
        exact vX12_feed_L114 _ _ _ _ _ _ _ _ _ _ _ _ _ _ _ _ _ _ _ _ _ _ _ _ _ _ _ _ _ _ _ _ _ _ _ _ _ _ _ _ _ _ _ _ _ _ _ _ _ _ _ _ _ _ _ _ _ _ _ _ _ _ hk8  _ _ _ _ _ _ _ R h hQ
      · replace h := (if_neg hc83).symm.trans h
        refine V.iload dX12_feed_86 0 rfl ?_
        refine V.bipush (v := (126 : Int32)) dX12_feed_88 (by decide) ?_
        refine V.icmp_gt (tgt := 114) dX12_feed_90 (by decide) (fun hc90 => ?_) (fun hc90 => ?_)
        · replace h := (if_pos hc90).symm.trans h
          refine V.lvs [2, 3, 4, 5, 6] rfl ?_
          exact vX12_feed_L114 _ _ _ _ _ _ _ _ _ _ _ _ _ _ _ _ _ _ _ _ _ _ _ _ _ _ _ _ _ _ _ _ _ _ _ _ _ _ _ _ _ _ _ _ _ _ _ _ _ _ _ _ _ _ _ _ _ _ _ _ _ _ hk8  _ _ _ _ _ _ _ R h hQ
        · replace h := (if_neg hc90).symm.trans h
          refine V.lvs [2, 3, 4, 5, 6, 0] rfl ?_
          exact vX12_feed_L93 _ _ _ _ _ _ _ _ _ _ _ _ _ _ _ _ _ _ _ _ _ _ _ _ _ _ _ _ _ _ _ _ _ _ _ _ _ _ _ _ _ _ _ _ _ _ _ _ _ _ _ _ _ _ _ _ _ _ _ _ _ _ hk8  _ _ _ _ _ _ _ _ R h hQ
noncomputable def bX12_feed_L8 (F : Nat) (t_tapeN : Nat) (k8 : Int64 → Int64 → Int64 → Int32 → Int32 → Int32 → (Nat → Int32) → Option (Int32 × (Int32) × (Int32) × (Nat → Int32))) (x1 : Int64) (x3 : Int64) (x5 : Int64) (x7 : Int32) (t_thrown : Int32) (t_taped : Int32) (t_tape : Nat → Int32) : Option (Int32 × (Int32) × (Int32) × (Nat → Int32)) :=
  if (24 : Int32) ≤ x7 then (some (t_taped, t_thrown, t_taped, t_tape)) else (if (8 : Int32) ≤ x7 then (if (16 : Int32) ≤ x7 then (bX12_feed_L39 F t_tapeN k8 x1 x3 x5 x7 x5 t_thrown t_taped t_tape) else (bX12_feed_L39 F t_tapeN k8 x1 x3 x5 x7 x3 t_thrown t_taped t_tape)) else (bX12_feed_L39 F t_tapeN k8 x1 x3 x5 x7 x1 t_thrown t_taped t_tape))
theorem vbX12_feed_L8 {l : Launch} {D : va_G} {cy : Nat → ClassId} {av : List Value} {ws0 : va_W} {Q : Option Value → va_W → Prop} (F : Nat) (tA : Nat) (t_size : Int32) (t_place : Int32) (t_begin : Int32) (t_token : Int32) (t_word : Int64) (t_told : Int32) (t_wrong : Int32) (t_netV : Value) (t_folkNameV : Value) (t_kindV : Value) (t_kinV : Value) (t_lineFromV : Value) (t_lineToV : Value) (t_codesV : Value) (t_code : Int32) (t_toldLines : Int32) (t_openedV : Value) (t_comparedV : Value) (t_keptV : Value) (t_keptByV : Value) (t_aheadV : Value) (t_againstV : Value) (t_sumV : Value) (t_sumByV : Value) (t_termV : Value) (t_termByV : Value) (t_byNotV : Value) (t_valueOfV : Value) (t_given : Int32) (t_sV : Value) (t_asideV : Value) (t_markedV : Value) (t_undoneV : Value) (t_isLaidV : Value) (t_done : Int32) (t_linesV : Value) (t_lineWhatV : Value) (t_lineNV : Value) (t_othersV : Value) (t_otherTieV : Value) (t_aheadsV : Value) (t_aheadOneV : Value) (t_aheadTwoV : Value) (t_blockFolkV : Value) (t_blockCountV : Value) (t_blocks : Int32) (t_tiesV : Value) (t_tiesMany : Int32) (t_formV : Value) (t_formMany : Int32) (t_mustV : Value) (t_waysToV : Value) (t_waysFromV : Value) (t_isAheadV : Value) (t_ringsV : Value) (t_ringsMany : Int32) (t_g : Int64) (t_tapeA : Nat) (t_tapeN : Nat) (k8 : Int64 → Int64 → Int64 → Int32 → Int32 → Int32 → (Nat → Int32) → Option (Int32 × (Int32) × (Int32) × (Nat → Int32))) (hk8 : ∀ (x1 : Int64) (x3 : Int64) (x5 : Int64) (x7 : Int32) (t_thrown : Int32) (t_taped : Int32) (t_tape : Nat → Int32) (R : Int32 × (Int32) × (Int32) × (Nat → Int32)), k8 x1 x3 x5 x7 t_thrown t_taped t_tape = some R → Q (some (.int R.1)) (wX12_feed cy tA R.2.1 R.2.2.1 t_size t_place t_begin t_token t_word t_told t_wrong t_netV t_folkNameV t_kindV t_kinV t_lineFromV t_lineToV t_codesV t_code t_toldLines t_openedV t_comparedV t_keptV t_keptByV t_aheadV t_againstV t_sumV t_sumByV t_termV t_termByV t_byNotV t_valueOfV t_given t_sV t_asideV t_markedV t_undoneV t_isLaidV t_done t_linesV t_lineWhatV t_lineNV t_othersV t_otherTieV t_aheadsV t_aheadOneV t_aheadTwoV t_blockFolkV t_blockCountV t_blocks t_tiesV t_tiesMany t_formV t_formMany t_mustV t_waysToV t_waysFromV t_isAheadV t_ringsV t_ringsMany t_g t_tapeA t_tapeN R.2.2.2) → V l D cy MX12_feed 0 0 0 av ws0 Q 8 [(0, .ref tA), (1, .long x1), (3, .long x3), (5, .long x5), (7, .int x7)] [] (wX12_feed cy tA t_thrown t_taped t_size t_place t_begin t_token t_word t_told t_wrong t_netV t_folkNameV t_kindV t_kinV t_lineFromV t_lineToV t_codesV t_code t_toldLines t_openedV t_comparedV t_keptV t_keptByV t_aheadV t_againstV t_sumV t_sumByV t_termV t_termByV t_byNotV t_valueOfV t_given t_sV t_asideV t_markedV t_undoneV t_isLaidV t_done t_linesV t_lineWhatV t_lineNV t_othersV t_otherTieV t_aheadsV t_aheadOneV t_aheadTwoV t_blockFolkV t_blockCountV t_blocks t_tiesV t_tiesMany t_formV t_formMany t_mustV t_waysToV t_waysFromV t_isAheadV t_ringsV t_ringsMany t_g t_tapeA t_tapeN t_tape) 0 0) (x1 : Int64) (x3 : Int64) (x5 : Int64) (x7 : Int32) (t_thrown : Int32) (t_taped : Int32) (t_tape : Nat → Int32) (R : Int32 × (Int32) × (Int32) × (Nat → Int32)) (h : bX12_feed_L8 F t_tapeN k8 x1 x3 x5 x7 t_thrown t_taped t_tape = some R) (hQ : Q (some (.int R.1)) (wX12_feed cy tA R.2.1 R.2.2.1 t_size t_place t_begin t_token t_word t_told t_wrong t_netV t_folkNameV t_kindV t_kinV t_lineFromV t_lineToV t_codesV t_code t_toldLines t_openedV t_comparedV t_keptV t_keptByV t_aheadV t_againstV t_sumV t_sumByV t_termV t_termByV t_byNotV t_valueOfV t_given t_sV t_asideV t_markedV t_undoneV t_isLaidV t_done t_linesV t_lineWhatV t_lineNV t_othersV t_otherTieV t_aheadsV t_aheadOneV t_aheadTwoV t_blockFolkV t_blockCountV t_blocks t_tiesV t_tiesMany t_formV t_formMany t_mustV t_waysToV t_waysFromV t_isAheadV t_ringsV t_ringsMany t_g t_tapeA t_tapeN R.2.2.2)) : V l D cy MX12_feed 0 0 0 av ws0 Q 8 [(0, .ref tA), (1, .long x1), (3, .long x3), (5, .long x5), (7, .int x7)] [] (wX12_feed cy tA t_thrown t_taped t_size t_place t_begin t_token t_word t_told t_wrong t_netV t_folkNameV t_kindV t_kinV t_lineFromV t_lineToV t_codesV t_code t_toldLines t_openedV t_comparedV t_keptV t_keptByV t_aheadV t_againstV t_sumV t_sumByV t_termV t_termByV t_byNotV t_valueOfV t_given t_sV t_asideV t_markedV t_undoneV t_isLaidV t_done t_linesV t_lineWhatV t_lineNV t_othersV t_otherTieV t_aheadsV t_aheadOneV t_aheadTwoV t_blockFolkV t_blockCountV t_blocks t_tiesV t_tiesMany t_formV t_formMany t_mustV t_waysToV t_waysFromV t_isAheadV t_ringsV t_ringsMany t_g t_tapeA t_tapeN t_tape) 0 0 := by
  unfold bX12_feed_L8 at h
  refine V.iload dX12_feed_8 4 rfl ?_
  refine V.bipush (v := (24 : Int32)) dX12_feed_10 (by decide) ?_
  refine V.icmp_ge (tgt := 120) dX12_feed_12 (by decide) (fun hc12 => ?_) (fun hc12 => ?_)
  · replace h := (if_pos hc12).symm.trans h
    refine V.aload_n dX12_feed_120 rfl 0 rfl ?_
    refine V.get kfX12 0 rfl rfl 1 (by decide) klX12_144 rfl dX12_feed_121 ?_
    have e9 := Option.some.inj h; subst e9
    exact V.iret (ty := .int) rfl rfl dX12_feed_124 (Nat.le_refl _) (Nat.le_refl _) hQ
  · replace h := (if_neg hc12).symm.trans h
    refine V.iload dX12_feed_15 4 rfl ?_
    refine V.bipush (v := (8 : Int32)) dX12_feed_17 (by decide) ?_
    refine V.icmp_ge (tgt := 26) dX12_feed_19 (by decide) (fun hc19 => ?_) (fun hc19 => ?_)
    · replace h := (if_pos hc19).symm.trans h
      refine V.iload dX12_feed_26 4 rfl ?_
      refine V.bipush (v := (16 : Int32)) dX12_feed_28 (by decide) ?_
      refine V.icmp_ge (tgt := 37) dX12_feed_30 (by decide) (fun hc30 => ?_) (fun hc30 => ?_)
      · replace h := (if_pos hc30).symm.trans h
        refine V.lload dX12_feed_37 3 rfl ?_
        exact vX12_feed_L39 _ _ _ _ _ _ _ _ _ _ _ _ _ _ _ _ _ _ _ _ _ _ _ _ _ _ _ _ _ _ _ _ _ _ _ _ _ _ _ _ _ _ _ _ _ _ _ _ _ _ _ _ _ _ _ _ _ _ _ _ _ _ hk8  _ _ _ _ _ _ _ _ R h hQ
      · replace h := (if_neg hc30).symm.trans h
        refine V.lload_n dX12_feed_33 rfl 2 rfl ?_
        refine V.goto (tgt := 39) dX12_feed_34 (by decide) ?_
        exact vX12_feed_L39 _ _ _ _ _ _ _ _ _ _ _ _ _ _ _ _ _ _ _ _ _ _ _ _ _ _ _ _ _ _ _ _ _ _ _ _ _ _ _ _ _ _ _ _ _ _ _ _ _ _ _ _ _ _ _ _ _ _ _ _ _ _ hk8  _ _ _ _ _ _ _ _ R h hQ
    · replace h := (if_neg hc19).symm.trans h
      refine V.lload_n dX12_feed_22 rfl 1 rfl ?_
      refine V.goto (tgt := 39) dX12_feed_23 (by decide) ?_
      exact vX12_feed_L39 _ _ _ _ _ _ _ _ _ _ _ _ _ _ _ _ _ _ _ _ _ _ _ _ _ _ _ _ _ _ _ _ _ _ _ _ _ _ _ _ _ _ _ _ _ _ _ _ _ _ _ _ _ _ _ _ _ _ _ _ _ _ hk8  _ _ _ _ _ _ _ _ R h hQ
noncomputable def fX12_feed_L8 (F : Nat) (t_tapeN : Nat)  : Nat → Int64 → Int64 → Int64 → Int32 → Int32 → Int32 → (Nat → Int32) → Option (Int32 × (Int32) × (Int32) × (Nat → Int32))
  | 0 => fun _ _ _ _ _ _ _ => none
  | n + 1 => bX12_feed_L8 F t_tapeN (fX12_feed_L8 F t_tapeN  n)
theorem vX12_feed_L8 {l : Launch} {D : va_G} {cy : Nat → ClassId} {av : List Value} {ws0 : va_W} {Q : Option Value → va_W → Prop} (F : Nat) (tA : Nat) (t_size : Int32) (t_place : Int32) (t_begin : Int32) (t_token : Int32) (t_word : Int64) (t_told : Int32) (t_wrong : Int32) (t_netV : Value) (t_folkNameV : Value) (t_kindV : Value) (t_kinV : Value) (t_lineFromV : Value) (t_lineToV : Value) (t_codesV : Value) (t_code : Int32) (t_toldLines : Int32) (t_openedV : Value) (t_comparedV : Value) (t_keptV : Value) (t_keptByV : Value) (t_aheadV : Value) (t_againstV : Value) (t_sumV : Value) (t_sumByV : Value) (t_termV : Value) (t_termByV : Value) (t_byNotV : Value) (t_valueOfV : Value) (t_given : Int32) (t_sV : Value) (t_asideV : Value) (t_markedV : Value) (t_undoneV : Value) (t_isLaidV : Value) (t_done : Int32) (t_linesV : Value) (t_lineWhatV : Value) (t_lineNV : Value) (t_othersV : Value) (t_otherTieV : Value) (t_aheadsV : Value) (t_aheadOneV : Value) (t_aheadTwoV : Value) (t_blockFolkV : Value) (t_blockCountV : Value) (t_blocks : Int32) (t_tiesV : Value) (t_tiesMany : Int32) (t_formV : Value) (t_formMany : Int32) (t_mustV : Value) (t_waysToV : Value) (t_waysFromV : Value) (t_isAheadV : Value) (t_ringsV : Value) (t_ringsMany : Int32) (t_g : Int64) (t_tapeA : Nat) (t_tapeN : Nat)  : ∀ (n : Nat) (x1 : Int64) (x3 : Int64) (x5 : Int64) (x7 : Int32) (t_thrown : Int32) (t_taped : Int32) (t_tape : Nat → Int32) (R : Int32 × (Int32) × (Int32) × (Nat → Int32)), fX12_feed_L8 F t_tapeN  n x1 x3 x5 x7 t_thrown t_taped t_tape = some R → Q (some (.int R.1)) (wX12_feed cy tA R.2.1 R.2.2.1 t_size t_place t_begin t_token t_word t_told t_wrong t_netV t_folkNameV t_kindV t_kinV t_lineFromV t_lineToV t_codesV t_code t_toldLines t_openedV t_comparedV t_keptV t_keptByV t_aheadV t_againstV t_sumV t_sumByV t_termV t_termByV t_byNotV t_valueOfV t_given t_sV t_asideV t_markedV t_undoneV t_isLaidV t_done t_linesV t_lineWhatV t_lineNV t_othersV t_otherTieV t_aheadsV t_aheadOneV t_aheadTwoV t_blockFolkV t_blockCountV t_blocks t_tiesV t_tiesMany t_formV t_formMany t_mustV t_waysToV t_waysFromV t_isAheadV t_ringsV t_ringsMany t_g t_tapeA t_tapeN R.2.2.2) → V l D cy MX12_feed 0 0 0 av ws0 Q 8 [(0, .ref tA), (1, .long x1), (3, .long x3), (5, .long x5), (7, .int x7)] [] (wX12_feed cy tA t_thrown t_taped t_size t_place t_begin t_token t_word t_told t_wrong t_netV t_folkNameV t_kindV t_kinV t_lineFromV t_lineToV t_codesV t_code t_toldLines t_openedV t_comparedV t_keptV t_keptByV t_aheadV t_againstV t_sumV t_sumByV t_termV t_termByV t_byNotV t_valueOfV t_given t_sV t_asideV t_markedV t_undoneV t_isLaidV t_done t_linesV t_lineWhatV t_lineNV t_othersV t_otherTieV t_aheadsV t_aheadOneV t_aheadTwoV t_blockFolkV t_blockCountV t_blocks t_tiesV t_tiesMany t_formV t_formMany t_mustV t_waysToV t_waysFromV t_isAheadV t_ringsV t_ringsMany t_g t_tapeA t_tapeN t_tape) 0 0 := by
  intro n
  induction n with
  | zero => intro x1 x3 x5 x7 t_thrown t_taped t_tape R h; exact vNone h
  | succ n ih => intro x1 x3 x5 x7 t_thrown t_taped t_tape R h hQ; exact vbX12_feed_L8 F tA t_size t_place t_begin t_token t_word t_told t_wrong t_netV t_folkNameV t_kindV t_kinV t_lineFromV t_lineToV t_codesV t_code t_toldLines t_openedV t_comparedV t_keptV t_keptByV t_aheadV t_againstV t_sumV t_sumByV t_termV t_termByV t_byNotV t_valueOfV t_given t_sV t_asideV t_markedV t_undoneV t_isLaidV t_done t_linesV t_lineWhatV t_lineNV t_othersV t_otherTieV t_aheadsV t_aheadOneV t_aheadTwoV t_blockFolkV t_blockCountV t_blocks t_tiesV t_tiesMany t_formV t_formMany t_mustV t_waysToV t_waysFromV t_isAheadV t_ringsV t_ringsMany t_g t_tapeA t_tapeN _ ih x1 x3 x5 x7 t_thrown t_taped t_tape R h hQ
noncomputable def fX12_feed (F : Nat) (t_tapeN : Nat) (a1 : Int64) (a2 : Int64) (a3 : Int64) (t_thrown : Int32) (t_taped : Int32) (t_tape : Nat → Int32) : Option (Int32 × (Int32) × (Int32) × (Nat → Int32)) :=
  fX12_feed_L8 F t_tapeN F a1 a2 a3 (0 : Int32) (0 : Int32) t_taped t_tape
theorem CX12_feed {l : Launch} {D : va_G} {cy : Nat → ClassId} (F : Nat) (tA : Nat) (t_thrown : Int32) (t_taped : Int32) (t_size : Int32) (t_place : Int32) (t_begin : Int32) (t_token : Int32) (t_word : Int64) (t_told : Int32) (t_wrong : Int32) (t_netV : Value) (t_folkNameV : Value) (t_kindV : Value) (t_kinV : Value) (t_lineFromV : Value) (t_lineToV : Value) (t_codesV : Value) (t_code : Int32) (t_toldLines : Int32) (t_openedV : Value) (t_comparedV : Value) (t_keptV : Value) (t_keptByV : Value) (t_aheadV : Value) (t_againstV : Value) (t_sumV : Value) (t_sumByV : Value) (t_termV : Value) (t_termByV : Value) (t_byNotV : Value) (t_valueOfV : Value) (t_given : Int32) (t_sV : Value) (t_asideV : Value) (t_markedV : Value) (t_undoneV : Value) (t_isLaidV : Value) (t_done : Int32) (t_linesV : Value) (t_lineWhatV : Value) (t_lineNV : Value) (t_othersV : Value) (t_otherTieV : Value) (t_aheadsV : Value) (t_aheadOneV : Value) (t_aheadTwoV : Value) (t_blockFolkV : Value) (t_blockCountV : Value) (t_blocks : Int32) (t_tiesV : Value) (t_tiesMany : Int32) (t_formV : Value) (t_formMany : Int32) (t_mustV : Value) (t_waysToV : Value) (t_waysFromV : Value) (t_isAheadV : Value) (t_ringsV : Value) (t_ringsMany : Int32) (t_g : Int64) (t_tapeA : Nat) (t_tapeN : Nat) (t_tape : Nat → Int32) (a1 : Int64) (a2 : Int64) (a3 : Int64) (R : Int32 × (Int32) × (Int32) × (Nat → Int32)) (h : fX12_feed F t_tapeN a1 a2 a3 t_thrown t_taped t_tape = some R) : vMet l D cy MX12_feed 0 0 0 [.ref tA, .long a1, .long a2, .long a3] (wX12_feed cy tA t_thrown t_taped t_size t_place t_begin t_token t_word t_told t_wrong t_netV t_folkNameV t_kindV t_kinV t_lineFromV t_lineToV t_codesV t_code t_toldLines t_openedV t_comparedV t_keptV t_keptByV t_aheadV t_againstV t_sumV t_sumByV t_termV t_termByV t_byNotV t_valueOfV t_given t_sV t_asideV t_markedV t_undoneV t_isLaidV t_done t_linesV t_lineWhatV t_lineNV t_othersV t_otherTieV t_aheadsV t_aheadOneV t_aheadTwoV t_blockFolkV t_blockCountV t_blocks t_tiesV t_tiesMany t_formV t_formMany t_mustV t_waysToV t_waysFromV t_isAheadV t_ringsV t_ringsMany t_g t_tapeA t_tapeN t_tape) (fun (r : Option Value) (w : va_W) => r = (some (.int R.1)) ∧ w = (wX12_feed cy tA R.2.1 R.2.2.1 t_size t_place t_begin t_token t_word t_told t_wrong t_netV t_folkNameV t_kindV t_kinV t_lineFromV t_lineToV t_codesV t_code t_toldLines t_openedV t_comparedV t_keptV t_keptByV t_aheadV t_againstV t_sumV t_sumByV t_termV t_termByV t_byNotV t_valueOfV t_given t_sV t_asideV t_markedV t_undoneV t_isLaidV t_done t_linesV t_lineWhatV t_lineNV t_othersV t_otherTieV t_aheadsV t_aheadOneV t_aheadTwoV t_blockFolkV t_blockCountV t_blocks t_tiesV t_tiesMany t_formV t_formMany t_mustV t_waysToV t_waysFromV t_isAheadV t_ringsV t_ringsMany t_g t_tapeA t_tapeN R.2.2.2)) := by
  refine vMet.start (by decide +kernel) (Nat.le_of_ble_eq_true rfl) ?_
  generalize hQe : (fun (r : Option Value) (w : va_W) => r = (some (.int R.1)) ∧ w = (wX12_feed cy tA R.2.1 R.2.2.1 t_size t_place t_begin t_token t_word t_told t_wrong t_netV t_folkNameV t_kindV t_kinV t_lineFromV t_lineToV t_codesV t_code t_toldLines t_openedV t_comparedV t_keptV t_keptByV t_aheadV t_againstV t_sumV t_sumByV t_termV t_termByV t_byNotV t_valueOfV t_given t_sV t_asideV t_markedV t_undoneV t_isLaidV t_done t_linesV t_lineWhatV t_lineNV t_othersV t_otherTieV t_aheadsV t_aheadOneV t_aheadTwoV t_blockFolkV t_blockCountV t_blocks t_tiesV t_tiesMany t_formV t_formMany t_mustV t_waysToV t_waysFromV t_isAheadV t_ringsV t_ringsMany t_g t_tapeA t_tapeN R.2.2.2)) = Q
  have hQ : Q (some (.int R.1)) (wX12_feed cy tA R.2.1 R.2.2.1 t_size t_place t_begin t_token t_word t_told t_wrong t_netV t_folkNameV t_kindV t_kinV t_lineFromV t_lineToV t_codesV t_code t_toldLines t_openedV t_comparedV t_keptV t_keptByV t_aheadV t_againstV t_sumV t_sumByV t_termV t_termByV t_byNotV t_valueOfV t_given t_sV t_asideV t_markedV t_undoneV t_isLaidV t_done t_linesV t_lineWhatV t_lineNV t_othersV t_otherTieV t_aheadsV t_aheadOneV t_aheadTwoV t_blockFolkV t_blockCountV t_blocks t_tiesV t_tiesMany t_formV t_formMany t_mustV t_waysToV t_waysFromV t_isAheadV t_ringsV t_ringsMany t_g t_tapeA t_tapeN R.2.2.2) := by rw [← hQe]; exact ⟨rfl, rfl⟩
  show V l D cy MX12_feed 0 0 0 _ _ Q 0 [(0, .ref tA), (1, .long a1), (3, .long a2), (5, .long a3)] [] _ 0 0
  show V l D cy MX12_feed 0 0 0 [.ref tA, .long a1, .long a2, .long a3] _ Q 0 [(0, .ref tA), (1, .long a1), (3, .long a2), (5, .long a3)] [] (wX12_feed cy tA t_thrown t_taped t_size t_place t_begin t_token t_word t_told t_wrong t_netV t_folkNameV t_kindV t_kinV t_lineFromV t_lineToV t_codesV t_code t_toldLines t_openedV t_comparedV t_keptV t_keptByV t_aheadV t_againstV t_sumV t_sumByV t_termV t_termByV t_byNotV t_valueOfV t_given t_sV t_asideV t_markedV t_undoneV t_isLaidV t_done t_linesV t_lineWhatV t_lineNV t_othersV t_otherTieV t_aheadsV t_aheadOneV t_aheadTwoV t_blockFolkV t_blockCountV t_blocks t_tiesV t_tiesMany t_formV t_formMany t_mustV t_waysToV t_waysFromV t_isAheadV t_ringsV t_ringsMany t_g t_tapeA t_tapeN t_tape) 0 0
  unfold fX12_feed at h
  refine V.aload_n dX12_feed_0 rfl 0 rfl ?_
  refine V.iconst (v := (0 : Int32)) dX12_feed_1 (by decide) ?_
  refine V.put (ws' := (wX12_feed cy tA (0 : Int32) t_taped t_size t_place t_begin t_token t_word t_told t_wrong t_netV t_folkNameV t_kindV t_kinV t_lineFromV t_lineToV t_codesV t_code t_toldLines t_openedV t_comparedV t_keptV t_keptByV t_aheadV t_againstV t_sumV t_sumByV t_termV t_termByV t_byNotV t_valueOfV t_given t_sV t_asideV t_markedV t_undoneV t_isLaidV t_done t_linesV t_lineWhatV t_lineNV t_othersV t_otherTieV t_aheadsV t_aheadOneV t_aheadTwoV t_blockFolkV t_blockCountV t_blocks t_tiesV t_tiesMany t_formV t_formMany t_mustV t_waysToV t_waysFromV t_isAheadV t_ringsV t_ringsMany t_g t_tapeA t_tapeN t_tape)) kfX12 tyX12 tyX12_ok nmX12 0 rfl rfl 0 (by decide) klX12_138 rfl (tyX12_ok 0 (by decide)) rfl rfl (Nat.le_of_ble_eq_true rfl) dX12_feed_2 rfl ?_
  refine V.iconst (v := (0 : Int32)) dX12_feed_5 (by decide) ?_
  refine V.istore (lv' := [(7, .int (0 : Int32)), (0, .ref tA), (1, .long a1), (3, .long a2), (5, .long a3)]) dX12_feed_6 (by decide) rfl ?_
  refine V.lvs [1, 2, 3, 4, 0] rfl ?_
  exact vX12_feed_L8 _ _ _ _ _ _ _ _ _ _ _ _ _ _ _ _ _ _ _ _ _ _ _ _ _ _ _ _ _ _ _ _ _ _ _ _ _ _ _ _ _ _ _ _ _ _ _ _ _ _ _ _ _ _ _ _ _ _ _ _ _  _ _ _ _ _ _ _ _ R h hQ
theorem dX12_signAt_0 : decode cX12_signAt 0 = .ok (.iload_n 1, 1) := by decide +kernel
theorem dX12_signAt_1 : decode cX12_signAt 1 = .ok (.aload_n 0, 1) := by decide +kernel
theorem dX12_signAt_2 : decode cX12_signAt 2 = .ok (.getfield 147, 3) := by decide +kernel
theorem dX12_signAt_5 : decode cX12_signAt 5 = .ok (.if_icmp .ge 12, 3) := by decide +kernel
theorem dX12_signAt_8 : decode cX12_signAt 8 = .ok (.aload_n 0, 1) := by decide +kernel
theorem dX12_signAt_9 : decode cX12_signAt 9 = .ok (.getfield 7, 3) := by decide +kernel
theorem dX12_signAt_12 : decode cX12_signAt 12 = .ok (.iload_n 1, 1) := by decide +kernel
theorem dX12_signAt_13 : decode cX12_signAt 13 = .ok (.iaload, 1) := by decide +kernel
theorem dX12_signAt_14 : decode cX12_signAt 14 = .ok (.goto 4, 3) := by decide +kernel
theorem dX12_signAt_17 : decode cX12_signAt 17 = .ok (.iconst 0, 1) := by decide +kernel
theorem dX12_signAt_18 : decode cX12_signAt 18 = .ok (.ireturn, 1) := by decide +kernel
def wX12_signAt (cy : Nat → ClassId) (tA : Nat) (t_thrown : Int32) (t_taped : Int32) (t_size : Int32) (t_place : Int32) (t_begin : Int32) (t_token : Int32) (t_word : Int64) (t_told : Int32) (t_wrong : Int32) (t_netV : Value) (t_folkNameV : Value) (t_kindV : Value) (t_kinV : Value) (t_lineFromV : Value) (t_lineToV : Value) (t_codesV : Value) (t_code : Int32) (t_toldLines : Int32) (t_openedV : Value) (t_comparedV : Value) (t_keptV : Value) (t_keptByV : Value) (t_aheadV : Value) (t_againstV : Value) (t_sumV : Value) (t_sumByV : Value) (t_termV : Value) (t_termByV : Value) (t_byNotV : Value) (t_valueOfV : Value) (t_given : Int32) (t_sV : Value) (t_asideV : Value) (t_markedV : Value) (t_undoneV : Value) (t_isLaidV : Value) (t_done : Int32) (t_linesV : Value) (t_lineWhatV : Value) (t_lineNV : Value) (t_othersV : Value) (t_otherTieV : Value) (t_aheadsV : Value) (t_aheadOneV : Value) (t_aheadTwoV : Value) (t_blockFolkV : Value) (t_blockCountV : Value) (t_blocks : Int32) (t_tiesV : Value) (t_tiesMany : Int32) (t_formV : Value) (t_formMany : Int32) (t_mustV : Value) (t_waysToV : Value) (t_waysFromV : Value) (t_isAheadV : Value) (t_ringsV : Value) (t_ringsMany : Int32) (t_g : Int64) (t_tapeA : Nat) (t_tapeN : Nat) (t_tape : Nat → Int32) : va_W :=
  [(tA, .inr (12, [.int t_thrown, .int t_taped, .ref t_tapeA, .int t_size, .int t_place, .int t_begin, .int t_token, .long t_word, .int t_told, .int t_wrong, t_netV, t_folkNameV, t_kindV, t_kinV, t_lineFromV, t_lineToV, t_codesV, .int t_code, .int t_toldLines, t_openedV, t_comparedV, t_keptV, t_keptByV, t_aheadV, t_againstV, t_sumV, t_sumByV, t_termV, t_termByV, t_byNotV, t_valueOfV, .int t_given, t_sV, t_asideV, t_markedV, t_undoneV, t_isLaidV, .int t_done, t_linesV, t_lineWhatV, t_lineNV, t_othersV, t_otherTieV, t_aheadsV, t_aheadOneV, t_aheadTwoV, t_blockFolkV, t_blockCountV, .int t_blocks, t_tiesV, .int t_tiesMany, t_formV, .int t_formMany, t_mustV, t_waysToV, t_waysFromV, t_isAheadV, t_ringsV, .int t_ringsMany, .long t_g])), (t_tapeA, .inl (cy 1, t_tapeN, .inl t_tape))]
noncomputable def bX12_signAt_L18 (F : Nat) (t_size : Int32) (t_tapeN : Nat) (t_tape : Nat → Int32)  (s0 : Int32) : Option (Int32) :=
  some s0
theorem vX12_signAt_L18 {l : Launch} {D : va_G} {cy : Nat → ClassId} {av : List Value} {ws0 : va_W} {Q : Option Value → va_W → Prop} (F : Nat) (tA : Nat) (t_thrown : Int32) (t_taped : Int32) (t_size : Int32) (t_place : Int32) (t_begin : Int32) (t_token : Int32) (t_word : Int64) (t_told : Int32) (t_wrong : Int32) (t_netV : Value) (t_folkNameV : Value) (t_kindV : Value) (t_kinV : Value) (t_lineFromV : Value) (t_lineToV : Value) (t_codesV : Value) (t_code : Int32) (t_toldLines : Int32) (t_openedV : Value) (t_comparedV : Value) (t_keptV : Value) (t_keptByV : Value) (t_aheadV : Value) (t_againstV : Value) (t_sumV : Value) (t_sumByV : Value) (t_termV : Value) (t_termByV : Value) (t_byNotV : Value) (t_valueOfV : Value) (t_given : Int32) (t_sV : Value) (t_asideV : Value) (t_markedV : Value) (t_undoneV : Value) (t_isLaidV : Value) (t_done : Int32) (t_linesV : Value) (t_lineWhatV : Value) (t_lineNV : Value) (t_othersV : Value) (t_otherTieV : Value) (t_aheadsV : Value) (t_aheadOneV : Value) (t_aheadTwoV : Value) (t_blockFolkV : Value) (t_blockCountV : Value) (t_blocks : Int32) (t_tiesV : Value) (t_tiesMany : Int32) (t_formV : Value) (t_formMany : Int32) (t_mustV : Value) (t_waysToV : Value) (t_waysFromV : Value) (t_isAheadV : Value) (t_ringsV : Value) (t_ringsMany : Int32) (t_g : Int64) (t_tapeA : Nat) (t_tapeN : Nat) (t_tape : Nat → Int32)  (s0 : Int32) (R : Int32) (h : bX12_signAt_L18 F t_size t_tapeN t_tape  s0 = some R) (hQ : Q (some (.int R)) (wX12_signAt cy tA t_thrown t_taped t_size t_place t_begin t_token t_word t_told t_wrong t_netV t_folkNameV t_kindV t_kinV t_lineFromV t_lineToV t_codesV t_code t_toldLines t_openedV t_comparedV t_keptV t_keptByV t_aheadV t_againstV t_sumV t_sumByV t_termV t_termByV t_byNotV t_valueOfV t_given t_sV t_asideV t_markedV t_undoneV t_isLaidV t_done t_linesV t_lineWhatV t_lineNV t_othersV t_otherTieV t_aheadsV t_aheadOneV t_aheadTwoV t_blockFolkV t_blockCountV t_blocks t_tiesV t_tiesMany t_formV t_formMany t_mustV t_waysToV t_waysFromV t_isAheadV t_ringsV t_ringsMany t_g t_tapeA t_tapeN t_tape)) : V l D cy MX12_signAt 0 0 0 av ws0 Q 18 [] [.int s0] (wX12_signAt cy tA t_thrown t_taped t_size t_place t_begin t_token t_word t_told t_wrong t_netV t_folkNameV t_kindV t_kinV t_lineFromV t_lineToV t_codesV t_code t_toldLines t_openedV t_comparedV t_keptV t_keptByV t_aheadV t_againstV t_sumV t_sumByV t_termV t_termByV t_byNotV t_valueOfV t_given t_sV t_asideV t_markedV t_undoneV t_isLaidV t_done t_linesV t_lineWhatV t_lineNV t_othersV t_otherTieV t_aheadsV t_aheadOneV t_aheadTwoV t_blockFolkV t_blockCountV t_blocks t_tiesV t_tiesMany t_formV t_formMany t_mustV t_waysToV t_waysFromV t_isAheadV t_ringsV t_ringsMany t_g t_tapeA t_tapeN t_tape) 0 0 := by
  unfold bX12_signAt_L18 at h
  have e9 := Option.some.inj h; subst e9
  exact V.iret (ty := .int) rfl rfl dX12_signAt_18 (Nat.le_refl _) (Nat.le_refl _) hQ
noncomputable def fX12_signAt (F : Nat) (t_size : Int32) (t_tapeN : Nat) (t_tape : Nat → Int32) (a1 : Int32) : Option (Int32) :=
  if t_size ≤ a1 then (bX12_signAt_L18 F t_size t_tapeN t_tape (0 : Int32)) else (if a1 < 0 ∨ t_tapeN ≤ a1.toNatClampNeg then none else (bX12_signAt_L18 F t_size t_tapeN t_tape (t_tape (a1).toNatClampNeg)))
theorem CX12_signAt {l : Launch} {D : va_G} {cy : Nat → ClassId} (F : Nat) (tA : Nat) (t_thrown : Int32) (t_taped : Int32) (t_size : Int32) (t_place : Int32) (t_begin : Int32) (t_token : Int32) (t_word : Int64) (t_told : Int32) (t_wrong : Int32) (t_netV : Value) (t_folkNameV : Value) (t_kindV : Value) (t_kinV : Value) (t_lineFromV : Value) (t_lineToV : Value) (t_codesV : Value) (t_code : Int32) (t_toldLines : Int32) (t_openedV : Value) (t_comparedV : Value) (t_keptV : Value) (t_keptByV : Value) (t_aheadV : Value) (t_againstV : Value) (t_sumV : Value) (t_sumByV : Value) (t_termV : Value) (t_termByV : Value) (t_byNotV : Value) (t_valueOfV : Value) (t_given : Int32) (t_sV : Value) (t_asideV : Value) (t_markedV : Value) (t_undoneV : Value) (t_isLaidV : Value) (t_done : Int32) (t_linesV : Value) (t_lineWhatV : Value) (t_lineNV : Value) (t_othersV : Value) (t_otherTieV : Value) (t_aheadsV : Value) (t_aheadOneV : Value) (t_aheadTwoV : Value) (t_blockFolkV : Value) (t_blockCountV : Value) (t_blocks : Int32) (t_tiesV : Value) (t_tiesMany : Int32) (t_formV : Value) (t_formMany : Int32) (t_mustV : Value) (t_waysToV : Value) (t_waysFromV : Value) (t_isAheadV : Value) (t_ringsV : Value) (t_ringsMany : Int32) (t_g : Int64) (t_tapeA : Nat) (t_tapeN : Nat) (t_tape : Nat → Int32) (a1 : Int32) (R : Int32) (h : fX12_signAt F t_size t_tapeN t_tape a1 = some R) : vMet l D cy MX12_signAt 0 0 0 [.ref tA, .int a1] (wX12_signAt cy tA t_thrown t_taped t_size t_place t_begin t_token t_word t_told t_wrong t_netV t_folkNameV t_kindV t_kinV t_lineFromV t_lineToV t_codesV t_code t_toldLines t_openedV t_comparedV t_keptV t_keptByV t_aheadV t_againstV t_sumV t_sumByV t_termV t_termByV t_byNotV t_valueOfV t_given t_sV t_asideV t_markedV t_undoneV t_isLaidV t_done t_linesV t_lineWhatV t_lineNV t_othersV t_otherTieV t_aheadsV t_aheadOneV t_aheadTwoV t_blockFolkV t_blockCountV t_blocks t_tiesV t_tiesMany t_formV t_formMany t_mustV t_waysToV t_waysFromV t_isAheadV t_ringsV t_ringsMany t_g t_tapeA t_tapeN t_tape) (fun (r : Option Value) (w : va_W) => r = (some (.int R)) ∧ w = (wX12_signAt cy tA t_thrown t_taped t_size t_place t_begin t_token t_word t_told t_wrong t_netV t_folkNameV t_kindV t_kinV t_lineFromV t_lineToV t_codesV t_code t_toldLines t_openedV t_comparedV t_keptV t_keptByV t_aheadV t_againstV t_sumV t_sumByV t_termV t_termByV t_byNotV t_valueOfV t_given t_sV t_asideV t_markedV t_undoneV t_isLaidV t_done t_linesV t_lineWhatV t_lineNV t_othersV t_otherTieV t_aheadsV t_aheadOneV t_aheadTwoV t_blockFolkV t_blockCountV t_blocks t_tiesV t_tiesMany t_formV t_formMany t_mustV t_waysToV t_waysFromV t_isAheadV t_ringsV t_ringsMany t_g t_tapeA t_tapeN t_tape)) := by
  refine vMet.start (by decide +kernel) (Nat.le_of_ble_eq_true rfl) ?_
  generalize hQe : (fun (r : Option Value) (w : va_W) => r = (some (.int R)) ∧ w = (wX12_signAt cy tA t_thrown t_taped t_size t_place t_begin t_token t_word t_told t_wrong t_netV t_folkNameV t_kindV t_kinV t_lineFromV t_lineToV t_codesV t_code t_toldLines t_openedV t_comparedV t_keptV t_keptByV t_aheadV t_againstV t_sumV t_sumByV t_termV t_termByV t_byNotV t_valueOfV t_given t_sV t_asideV t_markedV t_undoneV t_isLaidV t_done t_linesV t_lineWhatV t_lineNV t_othersV t_otherTieV t_aheadsV t_aheadOneV t_aheadTwoV t_blockFolkV t_blockCountV t_blocks t_tiesV t_tiesMany t_formV t_formMany t_mustV t_waysToV t_waysFromV t_isAheadV t_ringsV t_ringsMany t_g t_tapeA t_tapeN t_tape)) = Q
  have hQ : Q (some (.int R)) (wX12_signAt cy tA t_thrown t_taped t_size t_place t_begin t_token t_word t_told t_wrong t_netV t_folkNameV t_kindV t_kinV t_lineFromV t_lineToV t_codesV t_code t_toldLines t_openedV t_comparedV t_keptV t_keptByV t_aheadV t_againstV t_sumV t_sumByV t_termV t_termByV t_byNotV t_valueOfV t_given t_sV t_asideV t_markedV t_undoneV t_isLaidV t_done t_linesV t_lineWhatV t_lineNV t_othersV t_otherTieV t_aheadsV t_aheadOneV t_aheadTwoV t_blockFolkV t_blockCountV t_blocks t_tiesV t_tiesMany t_formV t_formMany t_mustV t_waysToV t_waysFromV t_isAheadV t_ringsV t_ringsMany t_g t_tapeA t_tapeN t_tape) := by rw [← hQe]; exact ⟨rfl, rfl⟩
  show V l D cy MX12_signAt 0 0 0 _ _ Q 0 [(0, .ref tA), (1, .int a1)] [] _ 0 0
  show V l D cy MX12_signAt 0 0 0 [.ref tA, .int a1] _ Q 0 [(0, .ref tA), (1, .int a1)] [] (wX12_signAt cy tA t_thrown t_taped t_size t_place t_begin t_token t_word t_told t_wrong t_netV t_folkNameV t_kindV t_kinV t_lineFromV t_lineToV t_codesV t_code t_toldLines t_openedV t_comparedV t_keptV t_keptByV t_aheadV t_againstV t_sumV t_sumByV t_termV t_termByV t_byNotV t_valueOfV t_given t_sV t_asideV t_markedV t_undoneV t_isLaidV t_done t_linesV t_lineWhatV t_lineNV t_othersV t_otherTieV t_aheadsV t_aheadOneV t_aheadTwoV t_blockFolkV t_blockCountV t_blocks t_tiesV t_tiesMany t_formV t_formMany t_mustV t_waysToV t_waysFromV t_isAheadV t_ringsV t_ringsMany t_g t_tapeA t_tapeN t_tape) 0 0
  unfold fX12_signAt at h
  refine V.iload_n dX12_signAt_0 rfl 1 rfl ?_
  refine V.aload_n dX12_signAt_1 rfl 0 rfl ?_
  refine V.get kfX12 0 rfl rfl 3 (by decide) klX12_147 rfl dX12_signAt_2 ?_
  refine V.icmp_ge (tgt := 17) dX12_signAt_5 (by decide) (fun hc5 => ?_) (fun hc5 => ?_)
  · replace h := (if_pos hc5).symm.trans h
    refine V.iconst (v := (0 : Int32)) dX12_signAt_17 (by decide) ?_
    refine V.lvs [] rfl ?_
    exact vX12_signAt_L18 _ _ _ _ _ _ _ _ _ _ _ _ _ _ _ _ _ _ _ _ _ _ _ _ _ _ _ _ _ _ _ _ _ _ _ _ _ _ _ _ _ _ _ _ _ _ _ _ _ _ _ _ _ _ _ _ _ _ _ _ _ _ _ _   _ R h hQ
  · replace h := (if_neg hc5).symm.trans h
    refine V.aload_n dX12_signAt_8 rfl 0 rfl ?_
    refine V.get kfX12 0 rfl rfl 2 (by decide) klX12_7 rfl dX12_signAt_9 ?_
    refine V.iload_n dX12_signAt_12 rfl 1 rfl ?_
    by_cases hb13 : a1 < 0 ∨ t_tapeN ≤ a1.toNatClampNeg
    · exact vNone ((if_pos hb13).symm.trans h)
    replace h := (if_neg hb13).symm.trans h
    refine V.iald dX12_signAt_13 1 rfl hb13 ?_
    refine V.goto (tgt := 18) dX12_signAt_14 (by decide) ?_
    refine V.lvs [] rfl ?_
    exact vX12_signAt_L18 _ _ _ _ _ _ _ _ _ _ _ _ _ _ _ _ _ _ _ _ _ _ _ _ _ _ _ _ _ _ _ _ _ _ _ _ _ _ _ _ _ _ _ _ _ _ _ _ _ _ _ _ _ _ _ _ _ _ _ _ _ _ _ _   _ R h hQ
