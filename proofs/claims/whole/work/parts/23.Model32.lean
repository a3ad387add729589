theorem dX12_draws_0 : decode cX12_draws 0 = .ok (.aload_n 0, 1) := by decide +kernel
theorem dX12_draws_1 : decode cX12_draws 1 = .ok (.aload_n 0, 1) := by decide +kernel
theorem dX12_draws_2 : decode cX12_draws 2 = .ok (.getfield 495, 3) := by decide +kernel
theorem dX12_draws_5 : decode cX12_draws 5 = .ok (.ldc2_w 498, 3) := by decide +kernel
theorem dX12_draws_8 : decode cX12_draws 8 = .ok (.lmul, 1) := by decide +kernel
theorem dX12_draws_9 : decode cX12_draws 9 = .ok (.ldc2_w 500, 3) := by decide +kernel
theorem dX12_draws_12 : decode cX12_draws 12 = .ok (.ladd, 1) := by decide +kernel
theorem dX12_draws_13 : decode cX12_draws 13 = .ok (.ldc2_w 502, 3) := by decide +kernel
theorem dX12_draws_16 : decode cX12_draws 16 = .ok (.lrem, 1) := by decide +kernel
theorem dX12_draws_17 : decode cX12_draws 17 = .ok (.putfield 495, 3) := by decide +kernel
theorem dX12_draws_20 : decode cX12_draws 20 = .ok (.aload_n 0, 1) := by decide +kernel
theorem dX12_draws_21 : decode cX12_draws 21 = .ok (.getfield 495, 3) := by decide +kernel
theorem dX12_draws_24 : decode cX12_draws 24 = .ok (.ldc2_w 504, 3) := by decide +kernel
theorem dX12_draws_27 : decode cX12_draws 27 = .ok (.ldiv, 1) := by decide +kernel
theorem dX12_draws_28 : decode cX12_draws 28 = .ok (.iload_n 1, 1) := by decide +kernel
theorem dX12_draws_29 : decode cX12_draws 29 = .ok (.i2l, 1) := by decide +kernel
theorem dX12_draws_30 : decode cX12_draws 30 = .ok (.lrem, 1) := by decide +kernel
theorem dX12_draws_31 : decode cX12_draws 31 = .ok (.l2i, 1) := by decide +kernel
theorem dX12_draws_32 : decode cX12_draws 32 = .ok (.ireturn, 1) := by decide +kernel
def fX12_draws (F : Nat) (a1 : Int32) (t_g : Int64) : Option (Int32 × (Int64)) :=
  if a1.toInt64 = 0 then none else (some ((((((t_g * (1103515245 : Int64)) + (12345 : Int64)) - ((t_g * (1103515245 : Int64)) + (12345 : Int64)) / (2147483648 : Int64) * (2147483648 : Int64)) / (65536 : Int64)) - ((((t_g * (1103515245 : Int64)) + (12345 : Int64)) - ((t_g * (1103515245 : Int64)) + (12345 : Int64)) / (2147483648 : Int64) * (2147483648 : Int64)) / (65536 : Int64)) / a1.toInt64 * a1.toInt64).toInt32, ((t_g * (1103515245 : Int64)) + (12345 : Int64)) - ((t_g * (1103515245 : Int64)) + (12345 : Int64)) / (2147483648 : Int64) * (2147483648 : Int64)))
theorem CX12_draws {l : Launch} {D : va_G} {cy : Nat → ClassId} (F : Nat) (tA : Nat) (t_thrown : Int32) (t_taped : Int32) (t_tapeV : Value) (t_size : Int32) (t_place : Int32) (t_begin : Int32) (t_token : Int32) (t_word : Int64) (t_told : Int32) (t_wrong : Int32) (t_netV : Value) (t_folkNameV : Value) (t_kindV : Value) (t_kinV : Value) (t_lineFromV : Value) (t_lineToV : Value) (t_codesV : Value) (t_code : Int32) (t_toldLines : Int32) (t_openedV : Value) (t_comparedV : Value) (t_keptV : Value) (t_keptByV : Value) (t_aheadV : Value) (t_againstV : Value) (t_sumV : Value) (t_sumByV : Value) (t_termV : Value) (t_termByV : Value) (t_byNotV : Value) (t_valueOfV : Value) (t_given : Int32) (t_sV : Value) (t_asideV : Value) (t_markedV : Value) (t_undoneV : Value) (t_isLaidV : Value) (t_done : Int32) (t_linesV : Value) (t_lineWhatV : Value) (t_lineNV : Value) (t_othersV : Value) (t_otherTieV : Value) (t_aheadsV : Value) (t_aheadOneV : Value) (t_aheadTwoV : Value) (t_blockFolkV : Value) (t_blockCountV : Value) (t_blocks : Int32) (t_tiesV : Value) (t_tiesMany : Int32) (t_formV : Value) (t_formMany : Int32) (t_mustV : Value) (t_waysToV : Value) (t_waysFromV : Value) (t_isAheadV : Value) (t_ringsV : Value) (t_ringsMany : Int32) (t_g : Int64) (a1 : Int32) (R : Int32 × (Int64)) (h : fX12_draws F a1 t_g = some R) : vMet l D cy MX12_draws 0 0 0 [.ref tA, .int a1] [(tA, .inr (12, [.int t_thrown, .int t_taped, t_tapeV, .int t_size, .int t_place, .int t_begin, .int t_token, .long t_word, .int t_told, .int t_wrong, t_netV, t_folkNameV, t_kindV, t_kinV, t_lineFromV, t_lineToV, t_codesV, .int t_code, .int t_toldLines, t_openedV, t_comparedV, t_keptV, t_keptByV, t_aheadV, t_againstV, t_sumV, t_sumByV, t_termV, t_termByV, t_byNotV, t_valueOfV, .int t_given, t_sV, t_asideV, t_markedV, t_undoneV, t_isLaidV, .int t_done, t_linesV, t_lineWhatV, t_lineNV, t_othersV, t_otherTieV, t_aheadsV, t_aheadOneV, t_aheadTwoV, t_blockFolkV, t_blockCountV, .int t_blocks, t_tiesV, .int t_tiesMany, t_formV, .int t_formMany, t_mustV, t_waysToV, t_waysFromV, t_isAheadV, t_ringsV, .int t_ringsMany, .long t_g]))] (fun (r : Option Value) (w : va_W) => r = (some (.int R.1)) ∧ w = [(tA, .inr (12, [.int t_thrown, .int t_taped, t_tapeV, .int t_size, .int t_place, .int t_begin, .int t_token, .long t_word, .int t_told, .int t_wrong, t_netV, t_folkNameV, t_kindV, t_kinV, t_lineFromV, t_lineToV, t_codesV, .int t_code, .int t_toldLines, t_openedV, t_comparedV, t_keptV, t_keptByV, t_aheadV, t_againstV, t_sumV, t_sumByV, t_termV, t_termByV, t_byNotV, t_valueOfV, .int t_given, t_sV, t_asideV, t_markedV, t_undoneV, t_isLaidV, .int t_done, t_linesV, t_lineWhatV, t_lineNV, t_othersV, t_otherTieV, t_aheadsV, t_aheadOneV, t_aheadTwoV, t_blockFolkV, t_blockCountV, .int t_blocks, t_tiesV, .int t_tiesMany, t_formV, .int t_formMany, t_mustV, t_waysToV, t_waysFromV, t_isAheadV, t_ringsV, .int t_ringsMany, .long R.2]))]) := by
  refine vMet.start (by decide +kernel) (Nat.le_of_ble_eq_true rfl) ?_
  generalize hQe : (fun (r : Option Value) (w : va_W) => r = (some (.int R.1)) ∧ w = [(tA, .inr (12, [.int t_thrown, .int t_taped, t_tapeV, .int t_size, .int t_place, .int t_begin, .int t_token, .long t_word, .int t_told, .int t_wrong, t_netV, t_folkNameV, t_kindV, t_kinV, t_lineFromV, t_lineToV, t_codesV, .int t_code, .int t_toldLines, t_openedV, t_comparedV, t_keptV, t_keptByV, t_aheadV, t_againstV, t_sumV, t_sumByV, t_termV, t_termByV, t_byNotV, t_valueOfV, .int t_given, t_sV, t_asideV, t_markedV, t_undoneV, t_isLaidV, .int t_done, t_linesV, t_lineWhatV, t_lineNV, t_othersV, t_otherTieV, t_aheadsV, t_aheadOneV, t_aheadTwoV, t_blockFolkV, t_blockCountV, .int t_blocks, t_tiesV, .int t_tiesMany, t_formV, .int t_formMany, t_mustV, t_waysToV, t_waysFromV, t_isAheadV, t_ringsV, .int t_ringsMany, .long R.2]))]) = Q
  have hQ : Q (some (.int R.1)) [(tA, .inr (12, [.int t_thrown, .int t_taped, t_tapeV, .int t_size, .int t_place, .int t_begin, .int t_token, .long t_word, .int t_told, .int t_wrong, t_netV, t_folkNameV, t_kindV, t_kinV, t_lineFromV, t_lineToV, t_codesV, .int t_code, .int t_toldLines, t_openedV, t_comparedV, t_keptV, t_keptByV, t_aheadV, t_againstV, t_sumV, t_sumByV, t_termV, t_termByV, t_byNotV, t_valueOfV, .int t_given, t_sV, t_asideV, t_markedV, t_undoneV, t_isLaidV, .int t_done, t_linesV, t_lineWhatV, t_lineNV, t_othersV, t_otherTieV, t_aheadsV, t_aheadOneV, t_aheadTwoV, t_blockFolkV, t_blockCountV, .int t_blocks, t_tiesV, .int t_tiesMany, t_formV, .int t_formMany, t_mustV, t_waysToV, t_waysFromV, t_isAheadV, t_ringsV, .int t_ringsMany, .long R.2]))] := by rw [← hQe]; exact ⟨rfl, rfl⟩
  show V l D cy MX12_draws 0 0 0 _ _ Q 0 [(0, .ref tA), (1, .int a1)] [] _ 0 0
  show V l D cy MX12_draws 0 0 0 [.ref tA, .int a1] _ Q 0 [(0, .ref tA), (1, .int a1)] [] [(tA, .inr (12, [.int t_thrown, .int t_taped, t_tapeV, .int t_size, .int t_place, .int t_begin, .int t_token, .long t_word, .int t_told, .int t_wrong, t_netV, t_folkNameV, t_kindV, t_kinV, t_lineFromV, t_lineToV, t_codesV, .int t_code, .int t_toldLines, t_openedV, t_comparedV, t_keptV, t_keptByV, t_aheadV, t_againstV, t_sumV, t_sumByV, t_termV, t_termByV, t_byNotV, t_valueOfV, .int t_given, t_sV, t_asideV, t_markedV, t_undoneV, t_isLaidV, .int t_done, t_linesV, t_lineWhatV, t_lineNV, t_othersV, t_otherTieV, t_aheadsV, t_aheadOneV, t_aheadTwoV, t_blockFolkV, t_blockCountV, .int t_blocks, t_tiesV, .int t_tiesMany, t_formV, .int t_formMany, t_mustV, t_waysToV, t_waysFromV, t_isAheadV, t_ringsV, .int t_ringsMany, .long t_g]))] 0 0
  unfold fX12_draws at h
  refine V.aload_n dX12_draws_0 rfl 0 rfl ?_
  refine V.aload_n dX12_draws_1 rfl 0 rfl ?_
  refine V.get kfX12 0 rfl rfl 59 (by decide) klX12_495 rfl dX12_draws_2 ?_
  refine V.ldc2 (v := (1103515245 : Int64)) klX12_498 dX12_draws_5 ?_
  refine V.lmul dX12_draws_8 ?_
  refine V.ldc2 (v := (12345 : Int64)) klX12_500 dX12_draws_9 ?_
  refine V.ladd dX12_draws_12 ?_
  refine V.ldc2 (v := (2147483648 : Int64)) klX12_502 dX12_draws_13 ?_
  refine V.lrem dX12_draws_16 (by decide) ?_
  refine V.put (ws' := [(tA, .inr (12, [.int t_thrown, .int t_taped, t_tapeV, .int t_size, .int t_place, .int t_begin, .int t_token, .long t_word, .int t_told, .int t_wrong, t_netV, t_folkNameV, t_kindV, t_kinV, t_lineFromV, t_lineToV, t_codesV, .int t_code, .int t_toldLines, t_openedV, t_comparedV, t_keptV, t_keptByV, t_aheadV, t_againstV, t_sumV, t_sumByV, t_termV, t_termByV, t_byNotV, t_valueOfV, .int t_given, t_sV, t_asideV, t_markedV, t_undoneV, t_isLaidV, .int t_done, t_linesV, t_lineWhatV, t_lineNV, t_othersV, t_otherTieV, t_aheadsV, t_aheadOneV, t_aheadTwoV, t_blockFolkV, t_blockCountV, .int t_blocks, t_tiesV, .int t_tiesMany, t_formV, .int t_formMany, t_mustV, t_waysToV, t_waysFromV, t_isAheadV, t_ringsV, .int t_ringsMany, .long (((t_g * (1103515245 : Int64)) + (12345 : Int64)) - ((t_g * (1103515245 : Int64)) + (12345 : Int64)) / (2147483648 : Int64) * (2147483648 : Int64))]))]) kfX12 tyX12 tyX12_ok nmX12 0 rfl rfl 59 (by decide) klX12_495 rfl (tyX12_ok 59 (by decide)) rfl rfl (Nat.le_of_ble_eq_true rfl) dX12_draws_17 rfl ?_
  refine V.aload_n dX12_draws_20 rfl 0 rfl ?_
  refine V.get kfX12 0 rfl rfl 59 (by decide) klX12_495 rfl dX12_draws_21 ?_
  refine V.ldc2 (v := (65536 : Int64)) klX12_504 dX12_draws_24 ?_
  refine V.ldiv dX12_draws_27 (by decide) ?_
  refine V.iload_n dX12_draws_28 rfl 1 rfl ?_
  refine V.i2l dX12_draws_29 ?_
  by_cases hz30 : a1.toInt64 = 0
  · exact vNone ((if_pos hz30).symm.trans h)
  replace h := (if_neg hz30).symm.trans h
  refine V.lrem dX12_draws_30 hz30 ?_
  refine V.l2i dX12_draws_31 ?_
  have e9 := Option.some.inj h; subst e9
  exact V.iret (ty := .int) rfl rfl dX12_draws_32 (Nat.le_refl _) (Nat.le_refl _) hQ
