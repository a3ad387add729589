theorem dX12_puts_0 : decode cX12_puts 0 = .ok (.aload_n 0, 1) := by decide +kernel
theorem dX12_puts_1 : decode cX12_puts 1 = .ok (.getfield 32, 3) := by decide +kernel
theorem dX12_puts_4 : decode cX12_puts 4 = .ok (.aload_n 0, 1) := by decide +kernel
theorem dX12_puts_5 : decode cX12_puts 5 = .ok (.getfield 177, 3) := by decide +kernel
theorem dX12_puts_8 : decode cX12_puts 8 = .ok (.iload_n 1, 1) := by decide +kernel
theorem dX12_puts_9 : decode cX12_puts 9 = .ok (.iastore, 1) := by decide +kernel
theorem dX12_puts_10 : decode cX12_puts 10 = .ok (.aload_n 0, 1) := by decide +kernel
theorem dX12_puts_11 : decode cX12_puts 11 = .ok (.dup, 1) := by decide +kernel
theorem dX12_puts_12 : decode cX12_puts 12 = .ok (.getfield 177, 3) := by decide +kernel
theorem dX12_puts_15 : decode cX12_puts 15 = .ok (.iconst 1, 1) := by decide +kernel
theorem dX12_puts_16 : decode cX12_puts 16 = .ok (.iadd, 1) := by decide +kernel
theorem dX12_puts_17 : decode cX12_puts 17 = .ok (.putfield 177, 3) := by decide +kernel
theorem dX12_puts_20 : decode cX12_puts 20 = .ok (.return_, 1) := by decide +kernel
def wX12_puts (cy : Nat → ClassId) (tA : Nat) (t_thrown : Int32) (t_taped : Int32) (t_tapeV : Value) (t_size : Int32) (t_place : Int32) (t_begin : Int32) (t_token : Int32) (t_word : Int64) (t_told : Int32) (t_wrong : Int32) (t_netV : Value) (t_folkNameV : Value) (t_kindV : Value) (t_kinV : Value) (t_lineFromV : Value) (t_lineToV : Value) (t_code : Int32) (t_toldLines : Int32) (t_openedV : Value) (t_comparedV : Value) (t_keptV : Value) (t_keptByV : Value) (t_aheadV : Value) (t_againstV : Value) (t_sumV : Value) (t_sumByV : Value) (t_termV : Value) (t_termByV : Value) (t_byNotV : Value) (t_valueOfV : Value) (t_given : Int32) (t_sV : Value) (t_asideV : Value) (t_markedV : Value) (t_undoneV : Value) (t_isLaidV : Value) (t_done : Int32) (t_linesV : Value) (t_lineWhatV : Value) (t_lineNV : Value) (t_othersV : Value) (t_otherTieV : Value) (t_aheadsV : Value) (t_aheadOneV : Value) (t_aheadTwoV : Value) (t_blockFolkV : Value) (t_blockCountV : Value) (t_blocks : Int32) (t_tiesV : Value) (t_tiesMany : Int32) (t_formV : Value) (t_formMany : Int32) (t_mustV : Value) (t_waysToV : Value) (t_waysFromV : Value) (t_isAheadV : Value) (t_ringsV : Value) (t_ringsMany : Int32) (t_g : Int64) (t_codesA : Nat) (t_codesN : Nat) (t_codes : Nat → Int32) : va_W :=
  [(tA, .inr (12, [.int t_thrown, .int t_taped, t_tapeV, .int t_size, .int t_place, .int t_begin, .int t_token, .long t_word, .int t_told, .int t_wrong, t_netV, t_folkNameV, t_kindV, t_kinV, t_lineFromV, t_lineToV, .ref t_codesA, .int t_code, .int t_toldLines, t_openedV, t_comparedV, t_keptV, t_keptByV, t_aheadV, t_againstV, t_sumV, t_sumByV, t_termV, t_termByV, t_byNotV, t_valueOfV, .int t_given, t_sV, t_asideV, t_markedV, t_undoneV, t_isLaidV, .int t_done, t_linesV, t_lineWhatV, t_lineNV, t_othersV, t_otherTieV, t_aheadsV, t_aheadOneV, t_aheadTwoV, t_blockFolkV, t_blockCountV, .int t_blocks, t_tiesV, .int t_tiesMany, t_formV, .int t_formMany, t_mustV, t_waysToV, t_waysFromV, t_isAheadV, t_ringsV, .int t_ringsMany, .long t_g])), (t_codesA, .inl (cy 1, t_codesN, .inl t_codes))]
noncomputable def fX12_puts (F : Nat) (t_codesN : Nat) (a1 : Int32) (t_code : Int32) (t_codes : Nat → Int32) : Option ((Int32) × (Nat → Int32)) :=
  if t_code < 0 ∨ t_codesN ≤ t_code.toNatClampNeg then none else (some (t_code + (1 : Int32), upd t_codes t_code.toNatClampNeg a1))
theorem CX12_puts {l : Launch} {D : va_G} {cy : Nat → ClassId} (F : Nat) (tA : Nat) (t_thrown : Int32) (t_taped : Int32) (t_tapeV : Value) (t_size : Int32) (t_place : Int32) (t_begin : Int32) (t_token : Int32) (t_word : Int64) (t_told : Int32) (t_wrong : Int32) (t_netV : Value) (t_folkNameV : Value) (t_kindV : Value) (t_kinV : Value) (t_lineFromV : Value) (t_lineToV : Value) (t_code : Int32) (t_toldLines : Int32) (t_openedV : Value) (t_comparedV : Value) (t_keptV : Value) (t_keptByV : Value) (t_aheadV : Value) (t_againstV : Value) (t_sumV : Value) (t_sumByV : Value) (t_termV : Value) (t_termByV : Value) (t_byNotV : Value) (t_valueOfV : Value) (t_given : Int32) (t_sV : Value) (t_asideV : Value) (t_markedV : Value) (t_undoneV : Value) (t_isLaidV : Value) (t_done : Int32) (t_linesV : Value) (t_lineWhatV : Value) (t_lineNV : Value) (t_othersV : Value) (t_otherTieV : Value) (t_aheadsV : Value) (t_aheadOneV : Value) (t_aheadTwoV : Value) (t_blockFolkV : Value) (t_blockCountV : Value) (t_blocks : Int32) (t_tiesV : Value) (t_tiesMany : Int32) (t_formV : Value) (t_formMany : Int32) (t_mustV : Value) (t_waysToV : Value) (t_waysFromV : Value) (t_isAheadV : Value) (t_ringsV : Value) (t_ringsMany : Int32) (t_g : Int64) (t_codesA : Nat) (t_codesN : Nat) (t_codes : Nat → Int32) (a1 : Int32) (R : (Int32) × (Nat → Int32)) (h : fX12_puts F t_codesN a1 t_code t_codes = some R) : vMet l D cy MX12_puts 0 0 0 [.ref tA, .int a1] (wX12_puts cy tA t_thrown t_taped t_tapeV t_size t_place t_begin t_token t_word t_told t_wrong t_netV t_folkNameV t_kindV t_kinV t_lineFromV t_lineToV t_code t_toldLines t_openedV t_comparedV t_keptV t_keptByV t_aheadV t_againstV t_sumV t_sumByV t_termV t_termByV t_byNotV t_valueOfV t_given t_sV t_asideV t_markedV t_undoneV t_isLaidV t_done t_linesV t_lineWhatV t_lineNV t_othersV t_otherTieV t_aheadsV t_aheadOneV t_aheadTwoV t_blockFolkV t_blockCountV t_blocks t_tiesV t_tiesMany t_formV t_formMany t_mustV t_waysToV t_waysFromV t_isAheadV t_ringsV t_ringsMany t_g t_codesA t_codesN t_codes) (fun (r : Option Value) (w : va_W) => r = none ∧ w = (wX12_puts cy tA t_thrown t_taped t_tapeV t_size t_place t_begin t_token t_word t_told t_wrong t_netV t_folkNameV t_kindV t_kinV t_lineFromV t_lineToV R.1 t_toldLines t_openedV t_comparedV t_keptV t_keptByV t_aheadV t_againstV t_sumV t_sumByV t_termV t_termByV t_byNotV t_valueOfV t_given t_sV t_asideV t_markedV t_undoneV t_isLaidV t_done t_linesV t_lineWhatV t_lineNV t_othersV t_otherTieV t_aheadsV t_aheadOneV t_aheadTwoV t_blockFolkV t_blockCountV t_blocks t_tiesV t_tiesMany t_formV t_formMany t_mustV t_waysToV t_waysFromV t_isAheadV t_ringsV t_ringsMany t_g t_codesA t_codesN R.2)) := by
  refine vMet.start (by decide +kernel) (Nat.le_of_ble_eq_true rfl) ?_
  generalize hQe : (fun (r : Option Value) (w : va_W) => r = none ∧ w = (wX12_puts cy tA t_thrown t_taped t_tapeV t_size t_place t_begin t_token t_word t_told t_wrong t_netV t_folkNameV t_kindV t_kinV t_lineFromV t_lineToV R.1 t_toldLines t_openedV t_comparedV t_keptV t_keptByV t_aheadV t_againstV t_sumV t_sumByV t_termV t_termByV t_byNotV t_valueOfV t_given t_sV t_asideV t_markedV t_undoneV t_isLaidV t_done t_linesV t_lineWhatV t_lineNV t_othersV t_otherTieV t_aheadsV t_aheadOneV t_aheadTwoV t_blockFolkV t_blockCountV t_blocks t_tiesV t_tiesMany t_formV t_formMany t_mustV t_waysToV t_waysFromV t_isAheadV t_ringsV t_ringsMany t_g t_codesA t_codesN R.2)) = Q
  have hQ : Q none (wX12_puts cy tA t_thrown t_taped t_tapeV t_size t_place t_begin t_token t_word t_told t_wrong t_netV t_folkNameV t_kindV t_kinV t_lineFromV t_lineToV R.1 t_toldLines t_openedV t_comparedV t_keptV t_keptByV t_aheadV t_againstV t_sumV t_sumByV t_termV t_termByV t_byNotV t_valueOfV t_given t_sV t_asideV t_markedV t_undoneV t_isLaidV t_done t_linesV t_lineWhatV t_lineNV t_othersV t_otherTieV t_aheadsV t_aheadOneV t_aheadTwoV t_blockFolkV t_blockCountV t_blocks t_tiesV t_tiesMany t_formV t_formMany t_mustV t_waysToV t_waysFromV t_isAheadV t_ringsV t_ringsMany t_g t_codesA t_codesN R.2) := by rw [← hQe]; exact ⟨rfl, rfl⟩
  show V l D cy MX12_puts 0 0 0 _ _ Q 0 [(0, .ref tA), (1, .int a1)] [] _ 0 0
  show V l D cy MX12_puts 0 0 0 [.ref tA, .int a1] _ Q 0 [(0, .ref tA), (1, .int a1)] [] (wX12_puts cy tA t_thrown t_taped t_tapeV t_size t_place t_begin t_token t_word t_told t_wrong t_netV t_folkNameV t_kindV t_kinV t_lineFromV t_lineToV t_code t_toldLines t_openedV t_comparedV t_keptV t_keptByV t_aheadV t_againstV t_sumV t_sumByV t_termV t_termByV t_byNotV t_valueOfV t_given t_sV t_asideV t_markedV t_undoneV t_isLaidV t_done t_linesV t_lineWhatV t_lineNV t_othersV t_otherTieV t_aheadsV t_aheadOneV t_aheadTwoV t_blockFolkV t_blockCountV t_blocks t_tiesV t_tiesMany t_formV t_formMany t_mustV t_waysToV t_waysFromV t_isAheadV t_ringsV t_ringsMany t_g t_codesA t_codesN t_codes) 0 0
  unfold fX12_puts at h
  refine V.aload_n dX12_puts_0 rfl 0 rfl ?_
  refine V.get kfX12 0 rfl rfl 16 (by decide) klX12_32 rfl dX12_puts_1 ?_
  refine V.aload_n dX12_puts_4 rfl 0 rfl ?_
  refine V.get kfX12 0 rfl rfl 17 (by decide) klX12_177 rfl dX12_puts_5 ?_
  refine V.iload_n dX12_puts_8 rfl 1 rfl ?_
  by_cases hb9 : t_code < 0 ∨ t_codesN ≤ t_code.toNatClampNeg
  · exact vNone ((if_pos hb9).symm.trans h)
  replace h := (if_neg hb9).symm.trans h
  refine V.iast (ws' := (wX12_puts cy tA t_thrown t_taped t_tapeV t_size t_place t_begin t_token t_word t_told t_wrong t_netV t_folkNameV t_kindV t_kinV t_lineFromV t_lineToV t_code t_toldLines t_openedV t_comparedV t_keptV t_keptByV t_aheadV t_againstV t_sumV t_sumByV t_termV t_termByV t_byNotV t_valueOfV t_given t_sV t_asideV t_markedV t_undoneV t_isLaidV t_done t_linesV t_lineWhatV t_lineNV t_othersV t_otherTieV t_aheadsV t_aheadOneV t_aheadTwoV t_blockFolkV t_blockCountV t_blocks t_tiesV t_tiesMany t_formV t_formMany t_mustV t_waysToV t_waysFromV t_isAheadV t_ringsV t_ringsMany t_g t_codesA t_codesN (upd t_codes t_code.toNatClampNeg a1))) dX12_puts_9 1 rfl hb9 rfl ?_
  refine V.aload_n dX12_puts_10 rfl 0 rfl ?_
  refine V.dup dX12_puts_11 rfl ?_
  refine V.get kfX12 0 rfl rfl 17 (by decide) klX12_177 rfl dX12_puts_12 ?_
  refine V.iconst (v := (1 : Int32)) dX12_puts_15 (by decide) ?_
  refine V.iadd dX12_puts_16 ?_
  refine V.put (ws' := (wX12_puts cy tA t_thrown t_taped t_tapeV t_size t_place t_begin t_token t_word t_told t_wrong t_netV t_folkNameV t_kindV t_kinV t_lineFromV t_lineToV (t_code + (1 : Int32)) t_toldLines t_openedV t_comparedV t_keptV t_keptByV t_aheadV t_againstV t_sumV t_sumByV t_termV t_termByV t_byNotV t_valueOfV t_given t_sV t_asideV t_markedV t_undoneV t_isLaidV t_done t_linesV t_lineWhatV t_lineNV t_othersV t_otherTieV t_aheadsV t_aheadOneV t_aheadTwoV t_blockFolkV t_blockCountV t_blocks t_tiesV t_tiesMany t_formV t_formMany t_mustV t_waysToV t_waysFromV t_isAheadV t_ringsV t_ringsMany t_g t_codesA t_codesN (upd t_codes t_code.toNatClampNeg a1))) kfX12 tyX12 tyX12_ok nmX12 0 rfl rfl 17 (by decide) klX12_177 rfl (tyX12_ok 17 (by decide)) rfl rfl (Nat.le_of_ble_eq_true rfl) dX12_puts_17 rfl ?_
  have e9 := Option.some.inj h; subst e9
  exact V.vret rfl dX12_puts_20 (Nat.le_refl _) (Nat.le_refl _) hQ
theorem dX12_fact_0 : decode cX12_fact 0 = .ok (.aload_n 0, 1) := by decide +kernel
theorem dX12_fact_1 : decode cX12_fact 1 = .ok (.getfield 163, 3) := by decide +kernel
theorem dX12_fact_4 : decode cX12_fact 4 = .ok (.iconst 1, 1) := by decide +kernel
theorem dX12_fact_5 : decode cX12_fact 5 = .ok (.if_icmp .eq 5, 3) := by decide +kernel
theorem dX12_fact_8 : decode cX12_fact 8 = .ok (.iconst 0, 1) := by decide +kernel
theorem dX12_fact_9 : decode cX12_fact 9 = .ok (.ireturn, 1) := by decide +kernel
theorem dX12_fact_10 : decode cX12_fact 10 = .ok (.aload_n 0, 1) := by decide +kernel
theorem dX12_fact_11 : decode cX12_fact 11 = .ok (.getfield 156, 3) := by decide +kernel
theorem dX12_fact_14 : decode cX12_fact 14 = .ok (.ldc2_w 180, 3) := by decide +kernel
theorem dX12_fact_17 : decode cX12_fact 17 = .ok (.lcmp, 1) := by decide +kernel
theorem dX12_fact_18 : decode cX12_fact 18 = .ok (.ifCond .ne 5, 3) := by decide +kernel
theorem dX12_fact_21 : decode cX12_fact 21 = .ok (.iconst 1, 1) := by decide +kernel
theorem dX12_fact_22 : decode cX12_fact 22 = .ok (.ireturn, 1) := by decide +kernel
theorem dX12_fact_23 : decode cX12_fact 23 = .ok (.aload_n 0, 1) := by decide +kernel
theorem dX12_fact_24 : decode cX12_fact 24 = .ok (.getfield 156, 3) := by decide +kernel
theorem dX12_fact_27 : decode cX12_fact 27 = .ok (.ldc2_w 182, 3) := by decide +kernel
theorem dX12_fact_30 : decode cX12_fact 30 = .ok (.lcmp, 1) := by decide +kernel
theorem dX12_fact_31 : decode cX12_fact 31 = .ok (.ifCond .ne 7, 3) := by decide +kernel
theorem dX12_fact_34 : decode cX12_fact 34 = .ok (.iconst 2, 1) := by decide +kernel
theorem dX12_fact_35 : decode cX12_fact 35 = .ok (.goto 34, 3) := by decide +kernel
theorem dX12_fact_38 : decode cX12_fact 38 = .ok (.aload_n 0, 1) := by decide +kernel
theorem dX12_fact_39 : decode cX12_fact 39 = .ok (.getfield 156, 3) := by decide +kernel
theorem dX12_fact_42 : decode cX12_fact 42 = .ok (.ldc2_w 184, 3) := by decide +kernel
theorem dX12_fact_45 : decode cX12_fact 45 = .ok (.lcmp, 1) := by decide +kernel
theorem dX12_fact_46 : decode cX12_fact 46 = .ok (.ifCond .ne 7, 3) := by decide +kernel
theorem dX12_fact_49 : decode cX12_fact 49 = .ok (.iconst 3, 1) := by decide +kernel
theorem dX12_fact_50 : decode cX12_fact 50 = .ok (.goto 19, 3) := by decide +kernel
theorem dX12_fact_53 : decode cX12_fact 53 = .ok (.aload_n 0, 1) := by decide +kernel
theorem dX12_fact_54 : decode cX12_fact 54 = .ok (.getfield 156, 3) := by decide +kernel
theorem dX12_fact_57 : decode cX12_fact 57 = .ok (.ldc2_w 186, 3) := by decide +kernel
theorem dX12_fact_60 : decode cX12_fact 60 = .ok (.lcmp, 1) := by decide +kernel
theorem dX12_fact_61 : decode cX12_fact 61 = .ok (.ifCond .ne 7, 3) := by decide +kernel
theorem dX12_fact_64 : decode cX12_fact 64 = .ok (.iconst 4, 1) := by decide +kernel
theorem dX12_fact_65 : decode cX12_fact 65 = .ok (.goto 4, 3) := by decide +kernel
theorem dX12_fact_68 : decode cX12_fact 68 = .ok (.iconst 0, 1) := by decide +kernel
theorem dX12_fact_69 : decode cX12_fact 69 = .ok (.ireturn, 1) := by decide +kernel
def wX12_fact (cy : Nat → ClassId) (tA : Nat) (t_thrown : Int32) (t_taped : Int32) (t_tapeV : Value) (t_size : Int32) (t_place : Int32) (t_begin : Int32) (t_token : Int32) (t_word : Int64) (t_told : Int32) (t_wrong : Int32) (t_netV : Value) (t_folkNameV : Value) (t_kindV : Value) (t_kinV : Value) (t_lineFromV : Value) (t_lineToV : Value) (t_codesV : Value) (t_code : Int32) (t_toldLines : Int32) (t_openedV : Value) (t_comparedV : Value) (t_keptV : Value) (t_keptByV : Value) (t_aheadV : Value) (t_againstV : Value) (t_sumV : Value) (t_sumByV : Value) (t_termV : Value) (t_termByV : Value) (t_byNotV : Value) (t_valueOfV : Value) (t_given : Int32) (t_sV : Value) (t_asideV : Value) (t_markedV : Value) (t_undoneV : Value) (t_isLaidV : Value) (t_done : Int32) (t_linesV : Value) (t_lineWhatV : Value) (t_lineNV : Value) (t_othersV : Value) (t_otherTieV : Value) (t_aheadsV : Value) (t_aheadOneV : Value) (t_aheadTwoV : Value) (t_blockFolkV : Value) (t_blockCountV : Value) (t_blocks : Int32) (t_tiesV : Value) (t_tiesMany : Int32) (t_formV : Value) (t_formMany : Int32) (t_mustV : Value) (t_waysToV : Value) (t_waysFromV : Value) (t_isAheadV : Value) (t_ringsV : Value) (t_ringsMany : Int32) (t_g : Int64) : va_W :=
  [(tA, .inr (12, [.int t_thrown, .int t_taped, t_tapeV, .int t_size, .int t_place, .int t_begin, .int t_token, .long t_word, .int t_told, .int t_wrong, t_netV, t_folkNameV, t_kindV, t_kinV, t_lineFromV, t_lineToV, t_codesV, .int t_code, .int t_toldLines, t_openedV, t_comparedV, t_keptV, t_keptByV, t_aheadV, t_againstV, t_sumV, t_sumByV, t_termV, t_termByV, t_byNotV, t_valueOfV, .int t_given, t_sV, t_asideV, t_markedV, t_undoneV, t_isLaidV, .int t_done, t_linesV, t_lineWhatV, t_lineNV, t_othersV, t_otherTieV, t_aheadsV, t_aheadOneV, t_aheadTwoV, t_blockFolkV, t_blockCountV, .int t_blocks, t_tiesV, .int t_tiesMany, t_formV, .int t_formMany, t_mustV, t_waysToV, t_waysFromV, t_isAheadV, t_ringsV, .int t_ringsMany, .long t_g]))]
noncomputable def bX12_fact_L69 (F : Nat) (t_token : Int32) (t_word : Int64)  (s0 : Int32) : Option (Int32) :=
  some s0
theorem vX12_fact_L69 {l : Launch} {D : va_G} {cy : Nat → ClassId} {av : List Value} {ws0 : va_W} {Q : Option Value → va_W → Prop} (F : Nat) (tA : Nat) (t_thrown : Int32) (t_taped : Int32) (t_tapeV : Value) (t_size : Int32) (t_place : Int32) (t_begin : Int32) (t_token : Int32) (t_word : Int64) (t_told : Int32) (t_wrong : Int32) (t_netV : Value) (t_folkNameV : Value) (t_kindV : Value) (t_kinV : Value) (t_lineFromV : Value) (t_lineToV : Value) (t_codesV : Value) (t_code : Int32) (t_toldLines : Int32) (t_openedV : Value) (t_comparedV : Value) (t_keptV : Value) (t_keptByV : Value) (t_aheadV : Value) (t_againstV : Value) (t_sumV : Value) (t_sumByV : Value) (t_termV : Value) (t_termByV : Value) (t_byNotV : Value) (t_valueOfV : Value) (t_given : Int32) (t_sV : Value) (t_asideV : Value) (t_markedV : Value) (t_undoneV : Value) (t_isLaidV : Value) (t_done : Int32) (t_linesV : Value) (t_lineWhatV : Value) (t_lineNV : Value) (t_othersV : Value) (t_otherTieV : Value) (t_aheadsV : Value) (t_aheadOneV : Value) (t_aheadTwoV : Value) (t_blockFolkV : Value) (t_blockCountV : Value) (t_blocks : Int32) (t_tiesV : Value) (t_tiesMany : Int32) (t_formV : Value) (t_formMany : Int32) (t_mustV : Value) (t_waysToV : Value) (t_waysFromV : Value) (t_isAheadV : Value) (t_ringsV : Value) (t_ringsMany : Int32) (t_g : Int64)  (s0 : Int32) (R : Int32) (h : bX12_fact_L69 F t_token t_word  s0 = some R) (hQ : Q (some (.int R)) (wX12_fact cy tA t_thrown t_taped t_tapeV t_size t_place t_begin t_token t_word t_told t_wrong t_netV t_folkNameV t_kindV t_kinV t_lineFromV t_lineToV t_codesV t_code t_toldLines t_openedV t_comparedV t_keptV t_keptByV t_aheadV t_againstV t_sumV t_sumByV t_termV t_termByV t_byNotV t_valueOfV t_given t_sV t_asideV t_markedV t_undoneV t_isLaidV t_done t_linesV t_lineWhatV t_lineNV t_othersV t_otherTieV t_aheadsV t_aheadOneV t_aheadTwoV t_blockFolkV t_blockCountV t_blocks t_tiesV t_tiesMany t_formV t_formMany t_mustV t_waysToV t_waysFromV t_isAheadV t_ringsV t_ringsMany t_g)) : V l D cy MX12_fact 0 0 0 av ws0 Q 69 [] [.int s0] (wX12_fact cy tA t_thrown t_taped t_tapeV t_size t_place t_begin t_token t_word t_told t_wrong t_netV t_folkNameV t_kindV t_kinV t_lineFromV t_lineToV t_codesV t_code t_toldLines t_openedV t_comparedV t_keptV t_keptByV t_aheadV t_againstV t_sumV t_sumByV t_termV t_termByV t_byNotV t_valueOfV t_given t_sV t_asideV t_markedV t_undoneV t_isLaidV t_done t_linesV t_lineWhatV t_lineNV t_othersV t_otherTieV t_aheadsV t_aheadOneV t_aheadTwoV t_blockFolkV t_blockCountV t_blocks t_tiesV t_tiesMany t_formV t_formMany t_mustV t_waysToV t_waysFromV t_isAheadV t_ringsV t_ringsMany t_g) 0 0 := by
  unfold bX12_fact_L69 at h
  have e9 := Option.some.inj h; subst e9
  exact V.iret (ty := .int) rfl rfl dX12_fact_69 (Nat.le_refl _) (Nat.le_refl _) hQ
noncomputable def fX12_fact (F : Nat) (t_token : Int32) (t_word : Int64) : Option (Int32) :=
  if t_token = (1 : Int32) then (if (lg_cmp t_word (8740067 : Int64)) = 0 then (some (1 : Int32)) else (if (lg_cmp t_word (385418 : Int64)) = 0 then (bX12_fact_L69 F t_token t_word (2 : Int32)) else (if (lg_cmp t_word (223471 : Int64)) = 0 then (bX12_fact_L69 F t_token t_word (3 : Int32)) else (if (lg_cmp t_word (1170473 : Int64)) = 0 then (bX12_fact_L69 F t_token t_word (4 : Int32)) else (bX12_fact_L69 F t_token t_word (0 : Int32)))))) else (some (0 : Int32))
theorem CX12_fact {l : Launch} {D : va_G} {cy : Nat → ClassId} (F : Nat) (tA : Nat) (t_thrown : Int32) (t_taped : Int32) (t_tapeV : Value) (t_size : Int32) (t_place : Int32) (t_begin : Int32) (t_token : Int32) (t_word : Int64) (t_told : Int32) (t_wrong : Int32) (t_netV : Value) (t_folkNameV : Value) (t_kindV : Value) (t_kinV : Value) (t_lineFromV : Value) (t_lineToV : Value) (t_codesV : Value) (t_code : Int32) (t_toldLines : Int32) (t_openedV : Value) (t_comparedV : Value) (t_keptV : Value) (t_keptByV : Value) (t_aheadV : Value) (t_againstV : Value) (t_sumV : Value) (t_sumByV : Value) (t_termV : Value) (t_termByV : Value) (t_byNotV : Value) (t_valueOfV : Value) (t_given : Int32) (t_sV : Value) (t_asideV : Value) (t_markedV : Value) (t_undoneV : Value) (t_isLaidV : Value) (t_done : Int32) (t_linesV : Value) (t_lineWhatV : Value) (t_lineNV : Value) (t_othersV : Value) (t_otherTieV : Value) (t_aheadsV : Value) (t_aheadOneV : Value) (t_aheadTwoV : Value) (t_blockFolkV : Value) (t_blockCountV : Value) (t_blocks : Int32) (t_tiesV : Value) (t_tiesMany : Int32) (t_formV : Value) (t_formMany : Int32) (t_mustV : Value) (t_waysToV : Value) (t_waysFromV : Value) (t_isAheadV : Value) (t_ringsV : Value) (t_ringsMany : Int32) (t_g : Int64) (R : Int32) (h : fX12_fact F t_token t_word = some R) : vMet l D cy MX12_fact 0 0 0 [.ref tA] (wX12_fact cy tA t_thrown t_taped t_tapeV t_size t_place t_begin t_token t_word t_told t_wrong t_netV t_folkNameV t_kindV t_kinV t_lineFromV t_lineToV t_codesV t_code t_toldLines t_openedV t_comparedV t_keptV t_keptByV t_aheadV t_againstV t_sumV t_sumByV t_termV t_termByV t_byNotV t_valueOfV t_given t_sV t_asideV t_markedV t_undoneV t_isLaidV t_done t_linesV t_lineWhatV t_lineNV t_othersV t_otherTieV t_aheadsV t_aheadOneV t_aheadTwoV t_blockFolkV t_blockCountV t_blocks t_tiesV t_tiesMany t_formV t_formMany t_mustV t_waysToV t_waysFromV t_isAheadV t_ringsV t_ringsMany t_g) (fun (r : Option Value) (w : va_W) => r = (some (.int R)) ∧ w = (wX12_fact cy tA t_thrown t_taped t_tapeV t_size t_place t_begin t_token t_word t_told t_wrong t_netV t_folkNameV t_kindV t_kinV t_lineFromV t_lineToV t_codesV t_code t_toldLines t_openedV t_comparedV t_keptV t_keptByV t_aheadV t_againstV t_sumV t_sumByV t_termV t_termByV t_byNotV t_valueOfV t_given t_sV t_asideV t_markedV t_undoneV t_isLaidV t_done t_linesV t_lineWhatV t_lineNV t_othersV t_otherTieV t_aheadsV t_aheadOneV t_aheadTwoV t_blockFolkV t_blockCountV t_blocks t_tiesV t_tiesMany t_formV t_formMany t_mustV t_waysToV t_waysFromV t_isAheadV t_ringsV t_ringsMany t_g)) := by
  refine vMet.start (by decide +kernel) (Nat.le_of_ble_eq_true rfl) ?_
  generalize hQe : (fun (r : Option Value) (w : va_W) => r = (some (.int R)) ∧ w = (wX12_fact cy tA t_thrown t_taped t_tapeV t_size t_place t_begin t_token t_word t_told t_wrong t_netV t_folkNameV t_kindV t_kinV t_lineFromV t_lineToV t_codesV t_code t_toldLines t_openedV t_comparedV t_keptV t_keptByV t_aheadV t_againstV t_sumV t_sumByV t_termV t_termByV t_byNotV t_valueOfV t_given t_sV t_asideV t_markedV t_undoneV t_isLaidV t_done t_linesV t_lineWhatV t_lineNV t_othersV t_otherTieV t_aheadsV t_aheadOneV t_aheadTwoV t_blockFolkV t_blockCountV t_blocks t_tiesV t_tiesMany t_formV t_formMany t_mustV t_waysToV t_waysFromV t_isAheadV t_ringsV t_ringsMany t_g)) = Q
  have hQ : Q (some (.int R)) (wX12_fact cy tA t_thrown t_taped t_tapeV t_size t_place t_begin t_token t_word t_told t_wrong t_netV t_folkNameV t_kindV t_kinV t_lineFromV t_lineToV t_codesV t_code t_toldLines t_openedV t_comparedV t_keptV t_keptByV t_aheadV t_againstV t_sumV t_sumByV t_termV t_termByV t_byNotV t_valueOfV t_given t_sV t_asideV t_markedV t_undoneV t_isLaidV t_done t_linesV t_lineWhatV t_lineNV t_othersV t_otherTieV t_aheadsV t_aheadOneV t_aheadTwoV t_blockFolkV t_blockCountV t_blocks t_tiesV t_tiesMany t_formV t_formMany t_mustV t_waysToV t_waysFromV t_isAheadV t_ringsV t_ringsMany t_g) := by rw [← hQe]; exact ⟨rfl, rfl⟩
  show V l D cy MX12_fact 0 0 0 _ _ Q 0 [(0, .ref tA)] [] _ 0 0
  show V l D cy MX12_fact 0 0 0 [.ref tA] _ Q 0 [(0, .ref tA)] [] (wX12_fact cy tA t_thrown t_taped t_tapeV t_size t_place t_begin t_token t_word t_told t_wrong t_netV t_folkNameV t_kindV t_kinV t_lineFromV t_lineToV t_codesV t_code t_toldLines t_openedV t_comparedV t_keptV t_keptByV t_aheadV t_againstV t_sumV t_sumByV t_termV t_termByV t_byNotV t_valueOfV t_given t_sV t_asideV t_markedV t_undoneV t_isLaidV t_done t_linesV t_lineWhatV t_lineNV t_othersV t_otherTieV t_aheadsV t_aheadOneV t_aheadTwoV t_blockFolkV t_blockCountV t_blocks t_tiesV t_tiesMany t_formV t_formMany t_mustV t_waysToV t_waysFromV t_isAheadV t_ringsV t_ringsMany t_g) 0 0
  unfold fX12_fact at h
  refine V.aload_n dX12_fact_0 rfl 0 rfl ?_
  refine V.get kfX12 0 rfl rfl 6 (by decide) klX12_163 rfl dX12_fact_1 ?_
  refine V.iconst (v := (1 : Int32)) dX12_fact_4 (by decide) ?_
  refine V.icmp_eq (tgt := 10) dX12_fact_5 (by decide) (fun hc5 => ?_) (fun hc5 => ?_)
  · replace h := (if_pos hc5).symm.trans h
    refine V.aload_n dX12_fact_10 rfl 0 rfl ?_
    refine V.get kfX12 0 rfl rfl 7 (by decide) klX12_156 rfl dX12_fact_11 ?_
    refine V.ldc2 (v := (8740067 : Int64)) klX12_180 dX12_fact_14 ?_
    refine V.lcmp dX12_fact_17 ?_
    refine V.if_ne (tgt := 23) dX12_fact_18 (by decide) (fun hc18 => ?_) (fun hc18 => ?_)
    · replace h := (if_neg hc18).symm.trans h
      refine V.aload_n dX12_fact_23 rfl 0 rfl ?_
      refine V.get kfX12 0 rfl rfl 7 (by decide) klX12_156 rfl dX12_fact_24 ?_
      refine V.ldc2 (v := (385418 : Int64)) klX12_182 dX12_fact_27 ?_
      refine V.lcmp dX12_fact_30 ?_
      refine V.if_ne (tgt := 38) dX12_fact_31 (by decide) (fun hc31 => ?_) (fun hc31 => ?_)
      · replace h := (if_neg hc31).symm.trans h
        refine V.aload_n dX12_fact_38 rfl 0 rfl ?_
        refine V.get kfX12 0 rfl rfl 7 (by decide) klX12_156 rfl dX12_fact_39 ?_
        refine V.ldc2 (v := (223471 : Int64)) klX12_184 dX12_fact_42 ?_
        refine V.lcmp dX12_fact_45 ?_
        refine V.if_ne (tgt := 53) dX12_fact_46 (by decide) (fun hc46 => ?_) (fun hc46 => ?_)
        · replace h := (if_neg hc46).symm.trans h
          refine V.aload_n dX12_fact_53 rfl 0 rfl ?_
          refine V.get kfX12 0 rfl rfl 7 (by decide) klX12_156 rfl dX12_fact_54 ?_
          refine V.ldc2 (v := (1170473 : Int64)) klX12_186 dX12_fact_57 ?_
          refine V.lcmp dX12_fact_60 ?_
          refine V.if_ne (tgt := 68) dX12_fact_61 (by decide) (fun hc61 => ?_) (fun hc61 => ?_)
          · replace h := (if_neg hc61).symm.trans h
            refine V.iconst (v := (0 : Int32)) dX12_fact_68 (by decide) ?_
            refine V.lvs [] rfl ?_
            exact vX12_fact_L69 _ _ _ _ _ _ _ _ _ _ _ _ _ _ _ _ _ _ _ _ _ _ _ _ _ _ _ _ _ _ _ _ _ _ _ _ _ _ _ _ _ _ _ _ _ _ _ _ _ _ _ _ _ _ _ _ _ _ _ _ _ _   _ R h hQ
          · replace h := (if_pos hc61).symm.trans h
            refine V.iconst (v := (4 : Int32)) dX12_fact_64 (by decide) ?_
            refine V.goto (tgt := 69) dX12_fact_65 (by decide) ?_
            refine V.lvs [] rfl ?_
            exact vX12_fact_L69 _ _ _ _ _ _ _ _ _ _ _ _ _ _ _ _ _ _ _ _ _ _ _ _ _ _ _ _ _ _ _ _ _ _ _ _ _ _ _ _ _ _ _ _ _ _ _ _ _ _ _ _ _ _ _ _ _ _ _ _ _ _   _ R h hQ
        · replace h := (if_pos hc46).symm.trans h
          refine V.iconst (v := (3 : Int32)) dX12_fact_49 (by decide) ?_
          refine V.goto (tgt := 69) dX12_fact_50 (by decide) ?_
          refine V.lvs [] rfl ?_
          exact vX12_fact_L69 _ _ _ _ _ _ _ _ _ _ _ _ _ _ _ _ _ _ _ _ _ _ _ _ _ _ _ _ _ _ _ _ _ _ _ _ _ _ _ _ _ _ _ _ _ _ _ _ _ _ _ _ _ _ _ _ _ _ _ _ _ _   _ R h hQ
      · replace h := (if_pos hc31).symm.trans h
        refine V.iconst (v := (2 : Int32)) dX12_fact_34 (by decide) ?_
        refine V.goto (tgt := 69) dX12_fact_35 (by decide) ?_
        refine V.lvs [] rfl ?_
        exact vX12_fact_L69 _ _ _ _ _ _ _ _ _ _ _ _ _ _ _ _ _ _ _ _ _ _ _ _ _ _ _ _ _ _ _ _ _ _ _ _ _ _ _ _ _ _ _ _ _ _ _ _ _ _ _ _ _ _ _ _ _ _ _ _ _ _   _ R h hQ
    · replace h := (if_pos hc18).symm.trans h
      refine V.iconst (v := (1 : Int32)) dX12_fact_21 (by decide) ?_
      have e9 := Option.some.inj h; subst e9
      exact V.iret (ty := .int) rfl rfl dX12_fact_22 (Nat.le_refl _) (Nat.le_refl _) hQ
  · replace h := (if_neg hc5).symm.trans h
    refine V.iconst (v := (0 : Int32)) dX12_fact_8 (by decide) ?_
    have e9 := Option.some.inj h; subst e9
    exact V.iret (ty := .int) rfl rfl dX12_fact_9 (Nat.le_refl _) (Nat.le_refl _) hQ
