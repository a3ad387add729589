theorem dX0_comeBy_0 : decode cX0_comeBy 0 = .ok (.iload_n 1, 1) := by decide +kernel
theorem dX0_comeBy_1 : decode cX0_comeBy 1 = .ok (.ifCond .lt 22, 3) := by decide +kernel
theorem dX0_comeBy_4 : decode cX0_comeBy 4 = .ok (.iload_n 1, 1) := by decide +kernel
theorem dX0_comeBy_5 : decode cX0_comeBy 5 = .ok (.aload_n 0, 1) := by decide +kernel
theorem dX0_comeBy_6 : decode cX0_comeBy 6 = .ok (.getfield 24, 3) := by decide +kernel
theorem dX0_comeBy_9 : decode cX0_comeBy 9 = .ok (.arraylength, 1) := by decide +kernel
theorem dX0_comeBy_10 : decode cX0_comeBy 10 = .ok (.if_icmp .ge 13, 3) := by decide +kernel
theorem dX0_comeBy_13 : decode cX0_comeBy 13 = .ok (.aload_n 0, 1) := by decide +kernel
theorem dX0_comeBy_14 : decode cX0_comeBy 14 = .ok (.getfield 24, 3) := by decide +kernel
theorem dX0_comeBy_17 : decode cX0_comeBy 17 = .ok (.iload_n 1, 1) := by decide +kernel
theorem dX0_comeBy_18 : decode cX0_comeBy 18 = .ok (.dup2, 1) := by decide +kernel
theorem dX0_comeBy_19 : decode cX0_comeBy 19 = .ok (.iaload, 1) := by decide +kernel
theorem dX0_comeBy_20 : decode cX0_comeBy 20 = .ok (.iload_n 2, 1) := by decide +kernel
theorem dX0_comeBy_21 : decode cX0_comeBy 21 = .ok (.iadd, 1) := by decide +kernel
theorem dX0_comeBy_22 : decode cX0_comeBy 22 = .ok (.iastore, 1) := by decide +kernel
theorem dX0_comeBy_23 : decode cX0_comeBy 23 = .ok (.return_, 1) := by decide +kernel
def wX0_comeBy (cy : Nat → ClassId) (tA : Nat) (t_keptV : Value) (t_totalsV : Value) (t_needsV : Value) (t_found : Int32) (t_unseenA : Nat) (t_unseenN : Nat) (t_unseen : Nat → Int32) : va_W :=
  [(tA, .inr (0, [t_keptV, t_totalsV, .ref t_unseenA, t_needsV, .int t_found])), (t_unseenA, .inl (cy 1, t_unseenN, .inl t_unseen))]
noncomputable def bX0_comeBy_L23 (F : Nat) (t_unseenN : Nat)  (t_unseen : Nat → Int32) : Option ((Nat → Int32)) :=
  some t_unseen
theorem vX0_comeBy_L23 {l : Launch} {D : va_G} {cy : Nat → ClassId} {av : List Value} {ws0 : va_W} {Q : Option Value → va_W → Prop} (F : Nat) (tA : Nat) (t_keptV : Value) (t_totalsV : Value) (t_needsV : Value) (t_found : Int32) (t_unseenA : Nat) (t_unseenN : Nat)  (t_unseen : Nat → Int32) (R : (Nat → Int32)) (h : bX0_comeBy_L23 F t_unseenN  t_unseen = some R) (hQ : Q none (wX0_comeBy cy tA t_keptV t_totalsV t_needsV t_found t_unseenA t_unseenN R)) : V l D cy MX0_comeBy 0 0 0 av ws0 Q 23 [] [] (wX0_comeBy cy tA t_keptV t_totalsV t_needsV t_found t_unseenA t_unseenN t_unseen) 0 0 := by
  unfold bX0_comeBy_L23 at h
  have e9 := Option.some.inj h; subst e9
  exact V.vret rfl dX0_comeBy_23 (Nat.le_refl _) (Nat.le_refl _) hQ
noncomputable def fX0_comeBy (F : Nat) (t_unseenN : Nat) (a1 : Int32) (a2 : Int32) (t_unseen : Nat → Int32) : Option ((Nat → Int32)) :=
  if a1 < 0 then (bX0_comeBy_L23 F t_unseenN t_unseen) else (if (Int32.ofNat t_unseenN) ≤ a1 then (bX0_comeBy_L23 F t_unseenN t_unseen) else (if a1 < 0 ∨ t_unseenN ≤ a1.toNatClampNeg then none else (if a1 < 0 ∨ t_unseenN ≤ a1.toNatClampNeg then none else (bX0_comeBy_L23 F t_unseenN (upd t_unseen a1.toNatClampNeg ((t_unseen (a1).toNatClampNeg) + a2))))))
theorem CX0_comeBy {l : Launch} {D : va_G} {cy : Nat → ClassId} (F : Nat) (tA : Nat) (t_keptV : Value) (t_totalsV : Value) (t_needsV : Value) (t_found : Int32) (t_unseenA : Nat) (t_unseenN : Nat) (t_unseen : Nat → Int32) (a1 : Int32) (a2 : Int32) (R : (Nat → Int32)) (h : fX0_comeBy F t_unseenN a1 a2 t_unseen = some R) : vMet l D cy MX0_comeBy 0 0 0 [.ref tA, .int a1, .int a2] (wX0_comeBy cy tA t_keptV t_totalsV t_needsV t_found t_unseenA t_unseenN t_unseen) (fun (r : Option Value) (w : va_W) => r = none ∧ w = (wX0_comeBy cy tA t_keptV t_totalsV t_needsV t_found t_unseenA t_unseenN R)) := by
  refine vMet.start (by decide +kernel) (Nat.le_of_ble_eq_true rfl) ?_
  generalize hQe : (fun (r : Option Value) (w : va_W) => r = none ∧ w = (wX0_comeBy cy tA t_keptV t_totalsV t_needsV t_found t_unseenA t_unseenN R)) = Q
  have hQ : Q none (wX0_comeBy cy tA t_keptV t_totalsV t_needsV t_found t_unseenA t_unseenN R) := by rw [← hQe]; exact ⟨rfl, rfl⟩
  show V l D cy MX0_comeBy 0 0 0 _ _ Q 0 [(0, .ref tA), (1, .int a1), (2, .int a2)] [] _ 0 0
  show V l D cy MX0_comeBy 0 0 0 [.ref tA, .int a1, .int a2] _ Q 0 [(0, .ref tA), (1, .int a1), (2, .int a2)] [] (wX0_comeBy cy tA t_keptV t_totalsV t_needsV t_found t_unseenA t_unseenN t_unseen) 0 0
  unfold fX0_comeBy at h
  refine V.iload_n dX0_comeBy_0 rfl 1 rfl ?_
  refine V.if_lt (tgt := 23) dX0_comeBy_1 (by decide) (fun hc1 => ?_) (fun hc1 => ?_)
  · replace h := (if_pos hc1).symm.trans h
    refine V.lvs [] rfl ?_
    exact vX0_comeBy_L23 _ _ _ _ _ _ _ _   _ R h hQ
  · replace h := (if_neg hc1).symm.trans h
    refine V.iload_n dX0_comeBy_4 rfl 1 rfl ?_
    refine V.aload_n dX0_comeBy_5 rfl 0 rfl ?_
    refine V.get kfX0 0 rfl rfl 2 (by decide) klX0_24 rfl dX0_comeBy_6 ?_
    refine V.alen (v := Int32.ofNat t_unseenN) (t0 := 1) dX0_comeBy_9 1 rfl rfl rfl ?_
    refine V.icmp_ge (tgt := 23) dX0_comeBy_10 (by decide) (fun hc10 => ?_) (fun hc10 => ?_)
    · replace h := (if_pos hc10).symm.trans h
      refine V.lvs [] rfl ?_
      exact vX0_comeBy_L23 _ _ _ _ _ _ _ _   _ R h hQ
    · replace h := (if_neg hc10).symm.trans h
      refine V.aload_n dX0_comeBy_13 rfl 0 rfl ?_
      refine V.get kfX0 0 rfl rfl 2 (by decide) klX0_24 rfl dX0_comeBy_14 ?_
      refine V.iload_n dX0_comeBy_17 rfl 1 rfl ?_
      refine V.dup2 dX0_comeBy_18 rfl rfl ?_
      by_cases hb19 : a1 < 0 ∨ t_unseenN ≤ a1.toNatClampNeg
      · exact vNone ((if_pos hb19).symm.trans h)
      replace h := (if_neg hb19).symm.trans h
      refine V.iald dX0_comeBy_19 1 rfl hb19 ?_
      refine V.iload_n dX0_comeBy_20 rfl 2 rfl ?_
      refine V.iadd dX0_comeBy_21 ?_
      by_cases hb22 : a1 < 0 ∨ t_unseenN ≤ a1.toNatClampNeg
      · exact vNone ((if_pos hb22).symm.trans h)
      replace h := (if_neg hb22).symm.trans h
      refine V.iast (ws' := (wX0_comeBy cy tA t_keptV t_totalsV t_needsV t_found t_unseenA t_unseenN (upd t_unseen a1.toNatClampNeg ((t_unseen (a1).toNatClampNeg) + a2)))) dX0_comeBy_22 1 rfl hb22 rfl ?_
      refine V.lvs [] rfl ?_
      exact vX0_comeBy_L23 _ _ _ _ _ _ _ _   _ R h hQ
theorem dX0_countIn_0 : decode cX0_countIn 0 = .ok (.iload_n 1, 1) := by decide +kernel
theorem dX0_countIn_1 : decode cX0_countIn 1 = .ok (.invokestatic 88, 3) := by decide +kernel
theorem dX0_countIn_4 : decode cX0_countIn 4 = .ok (.istore_n 3, 1) := by decide +kernel
theorem dX0_countIn_5 : decode cX0_countIn 5 = .ok (.iload_n 3, 1) := by decide +kernel
theorem dX0_countIn_6 : decode cX0_countIn 6 = .ok (.ifCond .lt 24, 3) := by decide +kernel
theorem dX0_countIn_9 : decode cX0_countIn 9 = .ok (.iload_n 3, 1) := by decide +kernel
theorem dX0_countIn_10 : decode cX0_countIn 10 = .ok (.bipush 6, 2) := by decide +kernel
theorem dX0_countIn_12 : decode cX0_countIn 12 = .ok (.if_icmp .ge 18, 3) := by decide +kernel
theorem dX0_countIn_15 : decode cX0_countIn 15 = .ok (.aload_n 0, 1) := by decide +kernel
theorem dX0_countIn_16 : decode cX0_countIn 16 = .ok (.getfield 20, 3) := by decide +kernel
theorem dX0_countIn_19 : decode cX0_countIn 19 = .ok (.iload_n 3, 1) := by decide +kernel
theorem dX0_countIn_20 : decode cX0_countIn 20 = .ok (.dup2, 1) := by decide +kernel
theorem dX0_countIn_21 : decode cX0_countIn 21 = .ok (.iaload, 1) := by decide +kernel
theorem dX0_countIn_22 : decode cX0_countIn 22 = .ok (.iload_n 2, 1) := by decide +kernel
theorem dX0_countIn_23 : decode cX0_countIn 23 = .ok (.iload_n 1, 1) := by decide +kernel
theorem dX0_countIn_24 : decode cX0_countIn 24 = .ok (.invokestatic 91, 3) := by decide +kernel
theorem dX0_countIn_27 : decode cX0_countIn 27 = .ok (.imul, 1) := by decide +kernel
theorem dX0_countIn_28 : decode cX0_countIn 28 = .ok (.iadd, 1) := by decide +kernel
theorem dX0_countIn_29 : decode cX0_countIn 29 = .ok (.iastore, 1) := by decide +kernel
theorem dX0_countIn_30 : decode cX0_countIn 30 = .ok (.return_, 1) := by decide +kernel
def wX0_countIn (cy : Nat → ClassId) (tA : Nat) (t_keptV : Value) (t_unseenV : Value) (t_needsV : Value) (t_found : Int32) (t_totalsA : Nat) (t_totalsN : Nat) (t_totals : Nat → Int32) : va_W :=
  [(tA, .inr (0, [t_keptV, .ref t_totalsA, t_unseenV, t_needsV, .int t_found])), (t_totalsA, .inl (cy 1, t_totalsN, .inl t_totals))]
noncomputable def bX0_countIn_L30 (F : Nat) (t_totalsN : Nat)  (t_totals : Nat → Int32) : Option ((Nat → Int32)) :=
  some t_totals
theorem vX0_countIn_L30 {l : Launch} {D : va_G} {cy : Nat → ClassId} {av : List Value} {ws0 : va_W} {Q : Option Value → va_W → Prop} (F : Nat) (tA : Nat) (t_keptV : Value) (t_unseenV : Value) (t_needsV : Value) (t_found : Int32) (t_totalsA : Nat) (t_totalsN : Nat)  (t_totals : Nat → Int32) (R : (Nat → Int32)) (h : bX0_countIn_L30 F t_totalsN  t_totals = some R) (hQ : Q none (wX0_countIn cy tA t_keptV t_unseenV t_needsV t_found t_totalsA t_totalsN R)) : V l D cy MX0_countIn 1 0 0 av ws0 Q 30 [] [] (wX0_countIn cy tA t_keptV t_unseenV t_needsV t_found t_totalsA t_totalsN t_totals) 0 0 := by
  unfold bX0_countIn_L30 at h
  have e9 := Option.some.inj h; subst e9
  exact V.vret rfl dX0_countIn_30 (Nat.le_refl _) (Nat.le_refl _) hQ
noncomputable def fX0_countIn (F : Nat) (t_totalsN : Nat) (a1 : Int32) (a2 : Int32) (t_totals : Nat → Int32) : Option ((Nat → Int32)) :=
  (fX7_folkOf F a1).bind fun R1 => (if R1 < 0 then (bX0_countIn_L30 F t_totalsN t_totals) else (if (6 : Int32) ≤ R1 then (bX0_countIn_L30 F t_totalsN t_totals) else (if R1 < 0 ∨ t_totalsN ≤ R1.toNatClampNeg then none else ((fX7_countOf F a1).bind fun R24 => (if R1 < 0 ∨ t_totalsN ≤ R1.toNatClampNeg then none else (bX0_countIn_L30 F t_totalsN (upd t_totals R1.toNatClampNeg ((t_totals (R1).toNatClampNeg) + (a2 * R24)))))))))
theorem CX0_countIn {l : Launch} {D : va_G} {cy : Nat → ClassId} (F : Nat) (tA : Nat) (t_keptV : Value) (t_unseenV : Value) (t_needsV : Value) (t_found : Int32) (t_totalsA : Nat) (t_totalsN : Nat) (t_totals : Nat → Int32) (a1 : Int32) (a2 : Int32) (R : (Nat → Int32)) (h : fX0_countIn F t_totalsN a1 a2 t_totals = some R) : vMet l D cy MX0_countIn 1 0 0 [.ref tA, .int a1, .int a2] (wX0_countIn cy tA t_keptV t_unseenV t_needsV t_found t_totalsA t_totalsN t_totals) (fun (r : Option Value) (w : va_W) => r = none ∧ w = (wX0_countIn cy tA t_keptV t_unseenV t_needsV t_found t_totalsA t_totalsN R)) := by
  refine vMet.start (by decide +kernel) (Nat.le_of_ble_eq_true rfl) ?_
  generalize hQe : (fun (r : Option Value) (w : va_W) => r = none ∧ w = (wX0_countIn cy tA t_keptV t_unseenV t_needsV t_found t_totalsA t_totalsN R)) = Q
  have hQ : Q none (wX0_countIn cy tA t_keptV t_unseenV t_needsV t_found t_totalsA t_totalsN R) := by rw [← hQe]; exact ⟨rfl, rfl⟩
  show V l D cy MX0_countIn 1 0 0 _ _ Q 0 [(0, .ref tA), (1, .int a1), (2, .int a2)] [] _ 0 0
  show V l D cy MX0_countIn 1 0 0 [.ref tA, .int a1, .int a2] _ Q 0 [(0, .ref tA), (1, .int a1), (2, .int a2)] [] (wX0_countIn cy tA t_keptV t_unseenV t_needsV t_found t_totalsA t_totalsN t_totals) 0 0
  unfold fX0_countIn at h
  refine V.iload_n dX0_countIn_0 rfl 1 rfl ?_
  obtain ⟨R1, hg1, h⟩ := Option.bind_eq_some_iff.mp h
  refine V.callS (As := [.int a1]) (rest := []) (wc := (wX7_folkOf cy )) (wr := [(tA, .inr (0, [t_keptV, .ref t_totalsA, t_unseenV, t_needsV, .int t_found])), (t_totalsA, .inl (cy 1, t_totalsN, .inl t_totals))]) (CX7_folkOf F a1 R1 hg1) kvX7_folkOf klX0_88 [] [0, 1] rfl rfl (by decide) (by decide) (by decide) rfl dX0_countIn_1 ⟨by decide, by decide, by decide, by decide⟩ (Nat.le_of_ble_eq_true rfl) (fun r w1 hq => ?_)
  obtain ⟨rfl, rfl⟩ := hq
  refine V.cells (ws' := (wX0_countIn cy tA t_keptV t_unseenV t_needsV t_found t_totalsA t_totalsN t_totals)) [0, 1] (by decide) rfl ?_
  show V l D cy MX0_countIn 1 0 0 _ _ _ 4 [(0, .ref tA), (1, .int a1), (2, .int a2)] [.int R1] (wX0_countIn cy tA t_keptV t_unseenV t_needsV t_found t_totalsA t_totalsN t_totals) 0 0
  refine V.istore_n (lv' := [(3, .int R1), (0, .ref tA), (1, .int a1), (2, .int a2)]) dX0_countIn_4 rfl (by decide) rfl ?_
  refine V.iload_n dX0_countIn_5 rfl 0 rfl ?_
  refine V.if_lt (tgt := 30) dX0_countIn_6 (by decide) (fun hc6 => ?_) (fun hc6 => ?_)
  · replace h := (if_pos hc6).symm.trans h
    refine V.lvs [] rfl ?_
    exact vX0_countIn_L30 _ _ _ _ _ _ _ _   _ R h hQ
  · replace h := (if_neg hc6).symm.trans h
    refine V.iload_n dX0_countIn_9 rfl 0 rfl ?_
    refine V.bipush (v := (6 : Int32)) dX0_countIn_10 (by decide) ?_
    refine V.icmp_ge (tgt := 30) dX0_countIn_12 (by decide) (fun hc12 => ?_) (fun hc12 => ?_)
    · replace h := (if_pos hc12).symm.trans h
      refine V.lvs [] rfl ?_
      exact vX0_countIn_L30 _ _ _ _ _ _ _ _   _ R h hQ
    · replace h := (if_neg hc12).symm.trans h
      refine V.aload_n dX0_countIn_15 rfl 1 rfl ?_
      refine V.get kfX0 0 rfl rfl 1 (by decide) klX0_20 rfl dX0_countIn_16 ?_
      refine V.iload_n dX0_countIn_19 rfl 0 rfl ?_
      refine V.dup2 dX0_countIn_20 rfl rfl ?_
      by_cases hb21 : R1 < 0 ∨ t_totalsN ≤ R1.toNatClampNeg
      · exact vNone ((if_pos hb21).symm.trans h)
      replace h := (if_neg hb21).symm.trans h
      refine V.iald dX0_countIn_21 1 rfl hb21 ?_
      refine V.iload_n dX0_countIn_22 rfl 3 rfl ?_
      refine V.iload_n dX0_countIn_23 rfl 2 rfl ?_
      obtain ⟨R24, hg24, h⟩ := Option.bind_eq_some_iff.mp h
      refine V.callS (As := [.int a1]) (rest := [.int a2, .int (t_totals (R1).toNatClampNeg), .int R1, .ref t_totalsA]) (wc := (wX7_countOf cy )) (wr := [(tA, .inr (0, [t_keptV, .ref t_totalsA, t_unseenV, t_needsV, .int t_found])), (t_totalsA, .inl (cy 1, t_totalsN, .inl t_totals))]) (CX7_countOf F a1 R24 hg24) kvX7_countOf klX0_91 [] [0, 1] rfl rfl (by decide) (by decide) (by decide) rfl dX0_countIn_24 ⟨by decide, by decide, by decide, by decide⟩ (Nat.le_of_ble_eq_true rfl) (fun r w1 hq => ?_)
      obtain ⟨rfl, rfl⟩ := hq
      refine V.cells (ws' := (wX0_countIn cy tA t_keptV t_unseenV t_needsV t_found t_totalsA t_totalsN t_totals)) [0, 1] (by decide) rfl ?_
      show V l D cy MX0_countIn 1 0 0 _ _ _ 27 [(3, .int R1), (0, .ref tA), (1, .int a1), (2, .int a2)] [.int R24, .int a2, .int (t_totals (R1).toNatClampNeg), .int R1, .ref t_totalsA] (wX0_countIn cy tA t_keptV t_unseenV t_needsV t_found t_totalsA t_totalsN t_totals) 0 0
      refine V.imul dX0_countIn_27 ?_
      refine V.iadd dX0_countIn_28 ?_
      by_cases hb29 : R1 < 0 ∨ t_totalsN ≤ R1.toNatClampNeg
      · exact vNone ((if_pos hb29).symm.trans h)
      replace h := (if_neg hb29).symm.trans h
      refine V.iast (ws' := (wX0_countIn cy tA t_keptV t_unseenV t_needsV t_found t_totalsA t_totalsN (upd t_totals R1.toNatClampNeg ((t_totals (R1).toNatClampNeg) + (a2 * R24))))) dX0_countIn_29 1 rfl hb29 rfl ?_
      refine V.lvs [] rfl ?_
      exact vX0_countIn_L30 _ _ _ _ _ _ _ _   _ R h hQ
theorem dX0_isPast_0 : decode cX0_isPast 0 = .ok (.aload_n 0, 1) := by decide +kernel
theorem dX0_isPast_1 : decode cX0_isPast 1 = .ok (.getfield 27, 3) := by decide +kernel
theorem dX0_isPast_4 : decode cX0_isPast 4 = .ok (.iconst 0, 1) := by decide +kernel
theorem dX0_isPast_5 : decode cX0_isPast 5 = .ok (.invokestatic 36, 3) := by decide +kernel
theorem dX0_isPast_8 : decode cX0_isPast 8 = .ok (.iconst 0, 1) := by decide +kernel
theorem dX0_isPast_9 : decode cX0_isPast 9 = .ok (.istore_n 3, 1) := by decide +kernel
theorem dX0_isPast_10 : decode cX0_isPast 10 = .ok (.iload_n 3, 1) := by decide +kernel
theorem dX0_isPast_11 : decode cX0_isPast 11 = .ok (.aload_n 2, 1) := by decide +kernel
theorem dX0_isPast_12 : decode cX0_isPast 12 = .ok (.getfield 111, 3) := by decide +kernel
theorem dX0_isPast_15 : decode cX0_isPast 15 = .ok (.if_icmp .ge 69, 3) := by decide +kernel
theorem dX0_isPast_18 : decode cX0_isPast 18 = .ok (.aload_n 2, 1) := by decide +kernel
theorem dX0_isPast_19 : decode cX0_isPast 19 = .ok (.getfield 112, 3) := by decide +kernel
theorem dX0_isPast_22 : decode cX0_isPast 22 = .ok (.iload_n 3, 1) := by decide +kernel
theorem dX0_isPast_23 : decode cX0_isPast 23 = .ok (.iaload, 1) := by decide +kernel
theorem dX0_isPast_24 : decode cX0_isPast 24 = .ok (.istore 4, 2) := by decide +kernel
theorem dX0_isPast_26 : decode cX0_isPast 26 = .ok (.aload_n 0, 1) := by decide +kernel
theorem dX0_isPast_27 : decode cX0_isPast 27 = .ok (.getfield 27, 3) := by decide +kernel
theorem dX0_isPast_30 : decode cX0_isPast 30 = .ok (.iload 4, 2) := by decide +kernel
theorem dX0_isPast_32 : decode cX0_isPast 32 = .ok (.dup2, 1) := by decide +kernel
theorem dX0_isPast_33 : decode cX0_isPast 33 = .ok (.iaload, 1) := by decide +kernel
theorem dX0_isPast_34 : decode cX0_isPast 34 = .ok (.aload_n 2, 1) := by decide +kernel
theorem dX0_isPast_35 : decode cX0_isPast 35 = .ok (.aload_n 1, 1) := by decide +kernel
theorem dX0_isPast_36 : decode cX0_isPast 36 = .ok (.iload_n 3, 1) := by decide +kernel
theorem dX0_isPast_37 : decode cX0_isPast 37 = .ok (.invokevirtual 115, 3) := by decide +kernel
theorem dX0_isPast_40 : decode cX0_isPast 40 = .ok (.invokestatic 119, 3) := by decide +kernel
theorem dX0_isPast_43 : decode cX0_isPast 43 = .ok (.iadd, 1) := by decide +kernel
theorem dX0_isPast_44 : decode cX0_isPast 44 = .ok (.iastore, 1) := by decide +kernel
theorem dX0_isPast_45 : decode cX0_isPast 45 = .ok (.aload_n 0, 1) := by decide +kernel
theorem dX0_isPast_46 : decode cX0_isPast 46 = .ok (.getfield 27, 3) := by decide +kernel
theorem dX0_isPast_49 : decode cX0_isPast 49 = .ok (.iload 4, 2) := by decide +kernel
theorem dX0_isPast_51 : decode cX0_isPast 51 = .ok (.iaload, 1) := by decide +kernel
theorem dX0_isPast_52 : decode cX0_isPast 52 = .ok (.aload_n 0, 1) := by decide +kernel
theorem dX0_isPast_53 : decode cX0_isPast 53 = .ok (.getfield 24, 3) := by decide +kernel
theorem dX0_isPast_56 : decode cX0_isPast 56 = .ok (.iconst 2, 1) := by decide +kernel
theorem dX0_isPast_57 : decode cX0_isPast 57 = .ok (.iload 4, 2) := by decide +kernel
theorem dX0_isPast_59 : decode cX0_isPast 59 = .ok (.imul, 1) := by decide +kernel
theorem dX0_isPast_60 : decode cX0_isPast 60 = .ok (.iaload, 1) := by decide +kernel
theorem dX0_isPast_61 : decode cX0_isPast 61 = .ok (.aload_n 0, 1) := by decide +kernel
theorem dX0_isPast_62 : decode cX0_isPast 62 = .ok (.getfield 24, 3) := by decide +kernel
theorem dX0_isPast_65 : decode cX0_isPast 65 = .ok (.iconst 2, 1) := by decide +kernel
theorem dX0_isPast_66 : decode cX0_isPast 66 = .ok (.iload 4, 2) := by decide +kernel
theorem dX0_isPast_68 : decode cX0_isPast 68 = .ok (.imul, 1) := by decide +kernel
theorem dX0_isPast_69 : decode cX0_isPast 69 = .ok (.iconst 1, 1) := by decide +kernel
theorem dX0_isPast_70 : decode cX0_isPast 70 = .ok (.iadd, 1) := by decide +kernel
theorem dX0_isPast_71 : decode cX0_isPast 71 = .ok (.iaload, 1) := by decide +kernel
theorem dX0_isPast_72 : decode cX0_isPast 72 = .ok (.iadd, 1) := by decide +kernel
theorem dX0_isPast_73 : decode cX0_isPast 73 = .ok (.if_icmp .le 5, 3) := by decide +kernel
theorem dX0_isPast_76 : decode cX0_isPast 76 = .ok (.iconst 1, 1) := by decide +kernel
theorem dX0_isPast_77 : decode cX0_isPast 77 = .ok (.ireturn, 1) := by decide +kernel
theorem dX0_isPast_78 : decode cX0_isPast 78 = .ok (.iinc 3 1, 3) := by decide +kernel
theorem dX0_isPast_81 : decode cX0_isPast 81 = .ok (.goto (-71), 3) := by decide +kernel
theorem dX0_isPast_84 : decode cX0_isPast 84 = .ok (.iconst 0, 1) := by decide +kernel
theorem dX0_isPast_85 : decode cX0_isPast 85 = .ok (.ireturn, 1) := by decide +kernel
def wX0_isPast (cy : Nat → ClassId) (tA : Nat) (t_keptV : Value) (t_totalsV : Value) (t_found : Int32) (t_unseenA : Nat) (t_unseenN : Nat) (t_unseen : Nat → Int32) (t_needsA : Nat) (t_needsN : Nat) (t_needs : Nat → Int32) (p1A : Nat) (p1_namesV : Value) (p1_kindsV : Value) (p1_kinV : Value) (p1_stopsV : Value) (p1_folks : Int32) (p1_pairs : Int32) (p1_line : Int32) (p1_rope : Int32) (p1_lineTold : Int32) (p1_ropeTold : Int32) (p1_lawV : Value) (p1_takenV : Value) (p1_roundsA : Nat) (p1_roundsN : Nat) (p1_rounds : Nat → Int32) (p2A : Nat) (p2_writtenV : Value) (p2_size : Int32) (p2_folkA : Nat) (p2_folkN : Nat) (p2_folk : Nat → Int32) (p2_countsA : Nat) (p2_countsN : Nat) (p2_counts : Nat → Int32) : va_W :=
  [(tA, .inr (0, [t_keptV, t_totalsV, .ref t_unseenA, .ref t_needsA, .int t_found])), (t_unseenA, .inl (cy 1, t_unseenN, .inl t_unseen)), (t_needsA, .inl (cy 1, t_needsN, .inl t_needs)), (p1A, .inr (2, [p1_namesV, p1_kindsV, p1_kinV, p1_stopsV, .ref p1_roundsA, .int p1_folks, .int p1_pairs, .int p1_line, .int p1_rope, .int p1_lineTold, .int p1_ropeTold, p1_lawV, p1_takenV])), (p1_roundsA, .inl (cy 1, p1_roundsN, .inl p1_rounds)), (p2A, .inr (5, [.ref p2_folkA, .ref p2_countsA, p2_writtenV, .int p2_size])), (p2_folkA, .inl (cy 1, p2_folkN, .inl p2_folk)), (p2_countsA, .inl (cy 1, p2_countsN, .inl p2_counts))]
noncomputable def bX0_isPast_L10 (F : Nat) (t_unseenN : Nat) (t_unseen : Nat → Int32) (t_needsN : Nat) (p1_roundsN : Nat) (p1_rounds : Nat → Int32) (p2_size : Int32) (p2_folkN : Nat) (p2_folk : Nat → Int32) (p2_countsN : Nat) (p2_counts : Nat → Int32) (k10 : Int32 → (Nat → Int32) → Option (Int32 × (Nat → Int32))) (x3 : Int32) (t_needs : Nat → Int32) : Option (Int32 × (Nat → Int32)) :=
  if p2_size ≤ x3 then (some ((0 : Int32), t_needs)) else (if x3 < 0 ∨ p2_folkN ≤ x3.toNatClampNeg then none else (if (p2_folk (x3).toNatClampNeg) < 0 ∨ t_needsN ≤ (p2_folk (x3).toNatClampNeg).toNatClampNeg then none else ((fX5_tiesIn F p2_size p2_folkN p2_folk p2_countsN p2_counts p1_roundsN p1_rounds x3).bind fun R37 => (if (p2_folk (x3).toNatClampNeg) < 0 ∨ t_needsN ≤ (p2_folk (x3).toNatClampNeg).toNatClampNeg then none else (if (p2_folk (x3).toNatClampNeg) < 0 ∨ t_needsN ≤ (p2_folk (x3).toNatClampNeg).toNatClampNeg then none else (if ((2 : Int32) * (p2_folk (x3).toNatClampNeg)) < 0 ∨ t_unseenN ≤ ((2 : Int32) * (p2_folk (x3).toNatClampNeg)).toNatClampNeg then none else (if (((2 : Int32) * (p2_folk (x3).toNatClampNeg)) + (1 : Int32)) < 0 ∨ t_unseenN ≤ (((2 : Int32) * (p2_folk (x3).toNatClampNeg)) + (1 : Int32)).toNatClampNeg then none else (if ((upd t_needs (p2_folk (x3).toNatClampNeg).toNatClampNeg ((t_needs (p2_folk (x3).toNatClampNeg).toNatClampNeg) + (if 0 ≤ R37 then R37 else 0 - R37))) (p2_folk (x3).toNatClampNeg).toNatClampNeg) ≤ ((t_unseen ((2 : Int32) * (p2_folk (x3).toNatClampNeg)).toNatClampNeg) + (t_unseen (((2 : Int32) * (p2_folk (x3).toNatClampNeg)) + (1 : Int32)).toNatClampNeg)) then (k10 (x3 + (1 : Int32)) (upd t_needs (p2_folk (x3).toNatClampNeg).toNatClampNeg ((t_needs (p2_folk (x3).toNatClampNeg).toNatClampNeg) + (if 0 ≤ R37 then R37 else 0 - R37)))) else (some ((1 : Int32), upd t_needs (p2_folk (x3).toNatClampNeg).toNatClampNeg ((t_needs (p2_folk (x3).toNatClampNeg).toNatClampNeg) + (if 0 ≤ R37 then R37 else 0 - R37))))))))))))
theorem vbX0_isPast_L10 {l : Launch} {D : va_G} {cy : Nat → ClassId} {av : List Value} {ws0 : va_W} {Q : Option Value → va_W → Prop} (F : Nat) (tA : Nat) (t_keptV : Value) (t_totalsV : Value) (t_found : Int32) (t_unseenA : Nat) (t_unseenN : Nat) (t_unseen : Nat → Int32) (t_needsA : Nat) (t_needsN : Nat) (p1A : Nat) (p1_namesV : Value) (p1_kindsV : Value) (p1_kinV : Value) (p1_stopsV : Value) (p1_folks : Int32) (p1_pairs : Int32) (p1_line : Int32) (p1_rope : Int32) (p1_lineTold : Int32) (p1_ropeTold : Int32) (p1_lawV : Value) (p1_takenV : Value) (p1_roundsA : Nat) (p1_roundsN : Nat) (p1_rounds : Nat → Int32) (p2A : Nat) (p2_writtenV : Value) (p2_size : Int32) (p2_folkA : Nat) (p2_folkN : Nat) (p2_folk : Nat → Int32) (p2_countsA : Nat) (p2_countsN : Nat) (p2_counts : Nat → Int32) (k10 : Int32 → (Nat → Int32) → Option (Int32 × (Nat → Int32))) (hk10 : ∀ (x3 : Int32) (t_needs : Nat → Int32) (R : Int32 × (Nat → Int32)), k10 x3 t_needs = some R → Q (some (.int R.1)) (wX0_isPast cy tA t_keptV t_totalsV t_found t_unseenA t_unseenN t_unseen t_needsA t_needsN R.2 p1A p1_namesV p1_kindsV p1_kinV p1_stopsV p1_folks p1_pairs p1_line p1_rope p1_lineTold p1_ropeTold p1_lawV p1_takenV p1_roundsA p1_roundsN p1_rounds p2A p2_writtenV p2_size p2_folkA p2_folkN p2_folk p2_countsA p2_countsN p2_counts) → V l D cy MX0_isPast 1 0 0 av ws0 Q 10 [(0, .ref tA), (1, .ref p1A), (2, .ref p2A), (3, .int x3)] [] (wX0_isPast cy tA t_keptV t_totalsV t_found t_unseenA t_unseenN t_unseen t_needsA t_needsN t_needs p1A p1_namesV p1_kindsV p1_kinV p1_stopsV p1_folks p1_pairs p1_line p1_rope p1_lineTold p1_ropeTold p1_lawV p1_takenV p1_roundsA p1_roundsN p1_rounds p2A p2_writtenV p2_size p2_folkA p2_folkN p2_folk p2_countsA p2_countsN p2_counts) 0 0) (x3 : Int32) (t_needs : Nat → Int32) (R : Int32 × (Nat → Int32)) (h : bX0_isPast_L10 F t_unseenN t_unseen t_needsN p1_roundsN p1_rounds p2_size p2_folkN p2_folk p2_countsN p2_counts k10 x3 t_needs = some R) (hQ : Q (some (.int R.1)) (wX0_isPast cy tA t_keptV t_totalsV t_found t_unseenA t_unseenN t_unseen t_needsA t_needsN R.2 p1A p1_namesV p1_kindsV p1_kinV p1_stopsV p1_folks p1_pairs p1_line p1_rope p1_lineTold p1_ropeTold p1_lawV p1_takenV p1_roundsA p1_roundsN p1_rounds p2A p2_writtenV p2_size p2_folkA p2_folkN p2_folk p2_countsA p2_countsN p2_counts)) : V l D cy MX0_isPast 1 0 0 av ws0 Q 10 [(0, .ref tA), (1, .ref p1A), (2, .ref p2A), (3, .int x3)] [] (wX0_isPast cy tA t_keptV t_totalsV t_found t_unseenA t_unseenN t_unseen t_needsA t_needsN t_needs p1A p1_namesV p1_kindsV p1_kinV p1_stopsV p1_folks p1_pairs p1_line p1_rope p1_lineTold p1_ropeTold p1_lawV p1_takenV p1_roundsA p1_roundsN p1_rounds p2A p2_writtenV p2_size p2_folkA p2_folkN p2_folk p2_countsA p2_countsN p2_counts) 0 0 := by
  unfold bX0_isPast_L10 at h
  refine V.iload_n dX0_isPast_10 rfl 3 rfl ?_
  refine V.aload_n dX0_isPast_11 rfl 2 rfl ?_
  refine V.get kfX5 5 rfl rfl 3 (by decide) klX0_111 rfl dX0_isPast_12 ?_
  refine V.icmp_ge (tgt := 84) dX0_isPast_15 (by decide) (fun hc15 => ?_) (fun hc15 => ?_)
  · replace h := (if_pos hc15).symm.trans h
    refine V.iconst (v := (0 : Int32)) dX0_isPast_84 (by decide) ?_
    have e9 := Option.some.inj h; subst e9
    exact V.iret (ty := .boolean) rfl rfl dX0_isPast_85 (Nat.le_refl _) (Nat.le_refl _) hQ
  · replace h := (if_neg hc15).symm.trans h
    refine V.aload_n dX0_isPast_18 rfl 2 rfl ?_
    refine V.get kfX5 5 rfl rfl 0 (by decide) klX0_112 rfl dX0_isPast_19 ?_
    refine V.iload_n dX0_isPast_22 rfl 3 rfl ?_
    by_cases hb23 : x3 < 0 ∨ p2_folkN ≤ x3.toNatClampNeg
    · exact vNone ((if_pos hb23).symm.trans h)
    replace h := (if_neg hb23).symm.trans h
    refine V.iald dX0_isPast_23 6 rfl hb23 ?_
    refine V.istore (lv' := [(4, .int (p2_folk (x3).toNatClampNeg)), (0, .ref tA), (1, .ref p1A), (2, .ref p2A), (3, .int x3)]) dX0_isPast_24 (by decide) rfl ?_
    refine V.aload_n dX0_isPast_26 rfl 1 rfl ?_
    refine V.get kfX0 0 rfl rfl 3 (by decide) klX0_27 rfl dX0_isPast_27 ?_
    refine V.iload dX0_isPast_30 0 rfl ?_
    refine V.dup2 dX0_isPast_32 rfl rfl ?_
    by_cases hb33 : (p2_folk (x3).toNatClampNeg) < 0 ∨ t_needsN ≤ (p2_folk (x3).toNatClampNeg).toNatClampNeg
    · exact vNone ((if_pos hb33).symm.trans h)
    replace h := (if_neg hb33).symm.trans h
    refine V.iald dX0_isPast_33 2 rfl hb33 ?_
    refine V.aload_n dX0_isPast_34 rfl 3 rfl ?_
    refine V.aload_n dX0_isPast_35 rfl 2 rfl ?_
    refine V.iload_n dX0_isPast_36 rfl 4 rfl ?_
    obtain ⟨R37, hg37, h⟩ := Option.bind_eq_some_iff.mp h
    refine V.callV (As := [.ref p1A, .int x3]) (rest := [.int (t_needs (p2_folk (x3).toNatClampNeg).toNatClampNeg), .int (p2_folk (x3).toNatClampNeg), .ref t_needsA]) (wc := (wX5_tiesIn cy p2A p2_writtenV p2_size p2_folkA p2_folkN p2_folk p2_countsA p2_countsN p2_counts p1A p1_namesV p1_kindsV p1_kinV p1_stopsV p1_folks p1_pairs p1_line p1_rope p1_lineTold p1_ropeTold p1_lawV p1_takenV p1_roundsA p1_roundsN p1_rounds)) (wr := [(tA, .inr (0, [t_keptV, t_totalsV, .ref t_unseenA, .ref t_needsA, .int t_found])), (t_unseenA, .inl (cy 1, t_unseenN, .inl t_unseen)), (t_needsA, .inl (cy 1, t_needsN, .inl t_needs))]) (q0 := 5) (CX5_tiesIn F p2A p2_writtenV p2_size p2_folkA p2_folkN p2_folk p2_countsA p2_countsN p2_counts p1A p1_namesV p1_kindsV p1_kinV p1_stopsV p1_folks p1_pairs p1_line p1_rope p1_lineTold p1_ropeTold p1_lawV p1_takenV p1_roundsA p1_roundsN p1_rounds x3 R37 hg37) kvX5_tiesIn klX0_115 [5, 6, 7, 3, 4] [0, 1, 2] rfl rfl (by decide) (by decide) (by decide) rfl rfl rfl rfl dX0_isPast_37 ⟨by decide, by decide, by decide, by decide⟩ (Nat.le_of_ble_eq_true rfl) (fun r w1 hq => ?_)
    obtain ⟨rfl, rfl⟩ := hq
    refine V.cells (ws' := (wX0_isPast cy tA t_keptV t_totalsV t_found t_unseenA t_unseenN t_unseen t_needsA t_needsN t_needs p1A p1_namesV p1_kindsV p1_kinV p1_stopsV p1_folks p1_pairs p1_line p1_rope p1_lineTold p1_ropeTold p1_lawV p1_takenV p1_roundsA p1_roundsN p1_rounds p2A p2_writtenV p2_size p2_folkA p2_folkN p2_folk p2_countsA p2_countsN p2_counts)) [0, 1, 2, 6, 7, 3, 4, 5] (by decide) rfl ?_
    show V l D cy MX0_isPast 1 0 0 _ _ _ 40 [(4, .int (p2_folk (x3).toNatClampNeg)), (0, .ref tA), (1, .ref p1A), (2, .ref p2A), (3, .int x3)] [.int R37, .int (t_needs (p2_folk (x3).toNatClampNeg).toNatClampNeg), .int (p2_folk (x3).toNatClampNeg), .ref t_needsA] (wX0_isPast cy tA t_keptV t_totalsV t_found t_unseenA t_unseenN t_unseen t_needsA t_needsN t_needs p1A p1_namesV p1_kindsV p1_kinV p1_stopsV p1_folks p1_pairs p1_line p1_rope p1_lineTold p1_ropeTold p1_lawV p1_takenV p1_roundsA p1_roundsN p1_rounds p2A p2_writtenV p2_size p2_folkA p2_folkN p2_folk p2_countsA p2_countsN p2_counts) 0 0
    refine V.mabs klX0_119 dX0_isPast_40 (Nat.le_of_ble_eq_true rfl) ⟨Nat.le_refl _, Nat.le_refl _⟩ ?_
    refine V.iadd dX0_isPast_43 ?_
    by_cases hb44 : (p2_folk (x3).toNatClampNeg) < 0 ∨ t_needsN ≤ (p2_folk (x3).toNatClampNeg).toNatClampNeg
    · exact vNone ((if_pos hb44).symm.trans h)
    replace h := (if_neg hb44).symm.trans h
    refine V.iast (ws' := (wX0_isPast cy tA t_keptV t_totalsV t_found t_unseenA t_unseenN t_unseen t_needsA t_needsN (upd t_needs (p2_folk (x3).toNatClampNeg).toNatClampNeg ((t_needs (p2_folk (x3).toNatClampNeg).toNatClampNeg) + (if 0 ≤ R37 then R37 else 0 - R37))) p1A p1_namesV p1_kindsV p1_kinV p1_stopsV p1_folks p1_pairs p1_line p1_rope p1_lineTold p1_ropeTold p1_lawV p1_takenV p1_roundsA p1_roundsN p1_rounds p2A p2_writtenV p2_size p2_folkA p2_folkN p2_folk p2_countsA p2_countsN p2_counts)) dX0_isPast_44 2 rfl hb44 rfl ?_
    refine V.aload_n dX0_isPast_45 rfl 1 rfl ?_
    refine V.get kfX0 0 rfl rfl 3 (by decide) klX0_27 rfl dX0_isPast_46 ?_
    refine V.iload dX0_isPast_49 0 rfl ?_
    by_cases hb51 : (p2_folk (x3).toNatClampNeg) < 0 ∨ t_needsN ≤ (p2_folk (x3).toNatClampNeg).toNatClampNeg
    · exact vNone ((if_pos hb51).symm.trans h)
    replace h := (if_neg hb51).symm.trans h
    refine V.iald dX0_isPast_51 2 rfl hb51 ?_
    refine V.aload_n dX0_isPast_52 rfl 1 rfl ?_
    refine V.get kfX0 0 rfl rfl 2 (by decide) klX0_24 rfl dX0_isPast_53 ?_
    refine V.iconst (v := (2 : Int32)) dX0_isPast_56 (by decide) ?_
    refine V.iload dX0_isPast_57 0 rfl ?_
    refine V.imul dX0_isPast_59 ?_
    by_cases hb60 : ((2 : Int32) * (p2_folk (x3).toNatClampNeg)) < 0 ∨ t_unseenN ≤ ((2 : Int32) * (p2_folk (x3).toNatClampNeg)).toNatClampNeg
    · exact vNone ((if_pos hb60).symm.trans h)
    replace h := (if_neg hb60).symm.trans h
    refine V.iald dX0_isPast_60 1 rfl hb60 ?_
    refine V.aload_n dX0_isPast_61 rfl 1 rfl ?_
    refine V.get kfX0 0 rfl rfl 2 (by decide) klX0_24 rfl dX0_isPast_62 ?_
    refine V.iconst (v := (2 : Int32)) dX0_isPast_65 (by decide) ?_
    refine V.iload dX0_isPast_66 0 rfl ?_
    refine V.imul dX0_isPast_68 ?_
    refine V.iconst (v := (1 : Int32)) dX0_isPast_69 (by decide) ?_
    refine V.iadd dX0_isPast_70 ?_
    by_cases hb71 : (((2 : Int32) * (p2_folk (x3).toNatClampNeg)) + (1 : Int32)) < 0 ∨ t_unseenN ≤ (((2 : Int32) * (p2_folk (x3).toNatClampNeg)) + (1 : Int32)).toNatClampNeg
    · exact vNone ((if_pos hb71).symm.trans h)
    replace h := (if_neg hb71).symm.trans h
    refine V.iald dX0_isPast_71 1 rfl hb71 ?_
    refine V.iadd dX0_isPast_72 ?_
    refine V.icmp_le (tgt := 78) dX0_isPast_73 (by decide) (fun hc73 => ?_) (fun hc73 => ?_)
    · replace h := (if_pos hc73).symm.trans h
      refine V.iinc (v := x3 + (1 : Int32)) (lv' := [(3, .int (x3 + (1 : Int32))), (4, .int (p2_folk (x3).toNatClampNeg)), (0, .ref tA), (1, .ref p1A), (2, .ref p2A)]) dX0_isPast_78 4 rfl rfl (by decide) rfl ?_
      refine V.goto (tgt := 10) dX0_isPast_81 (by decide) ?_
      refine V.lvs [2, 3, 4, 0] rfl ?_
      exact hk10 _ _ R h hQ
    · replace h := (if_neg hc73).symm.trans h
      refine V.iconst (v := (1 : Int32)) dX0_isPast_76 (by decide) ?_
      have e9 := Option.some.inj h; subst e9
      exact V.iret (ty := .boolean) rfl rfl dX0_isPast_77 (Nat.le_refl _) (Nat.le_refl _) hQ
noncomputable def fX0_isPast_L10 (F : Nat) (t_unseenN : Nat) (t_unseen : Nat → Int32) (t_needsN : Nat) (p1_roundsN : Nat) (p1_rounds : Nat → Int32) (p2_size : Int32) (p2_folkN : Nat) (p2_folk : Nat → Int32) (p2_countsN : Nat) (p2_counts : Nat → Int32)  : Nat → Int32 → (Nat → Int32) → Option (Int32 × (Nat → Int32))
  | 0 => fun _ _ => none
  | n + 1 => bX0_isPast_L10 F t_unseenN t_unseen t_needsN p1_roundsN p1_rounds p2_size p2_folkN p2_folk p2_countsN p2_counts (fX0_isPast_L10 F t_unseenN t_unseen t_needsN p1_roundsN p1_rounds p2_size p2_folkN p2_folk p2_countsN p2_counts  n)
theorem vX0_isPast_L10 {l : Launch} {D : va_G} {cy : Nat → ClassId} {av : List Value} {ws0 : va_W} {Q : Option Value → va_W → Prop} (F : Nat) (tA : Nat) (t_keptV : Value) (t_totalsV : Value) (t_found : Int32) (t_unseenA : Nat) (t_unseenN : Nat) (t_unseen : Nat → Int32) (t_needsA : Nat) (t_needsN : Nat) (p1A : Nat) (p1_namesV : Value) (p1_kindsV : Value) (p1_kinV : Value) (p1_stopsV : Value) (p1_folks : Int32) (p1_pairs : Int32) (p1_line : Int32) (p1_rope : Int32) (p1_lineTold : Int32) (p1_ropeTold : Int32) (p1_lawV : Value) (p1_takenV : Value) (p1_roundsA : Nat) (p1_roundsN : Nat) (p1_rounds : Nat → Int32) (p2A : Nat) (p2_writtenV : Value) (p2_size : Int32) (p2_folkA : Nat) (p2_folkN : Nat) (p2_folk : Nat → Int32) (p2_countsA : Nat) (p2_countsN : Nat) (p2_counts : Nat → Int32)  : ∀ (n : Nat) (x3 : Int32) (t_needs : Nat → Int32) (R : Int32 × (Nat → Int32)), fX0_isPast_L10 F t_unseenN t_unseen t_needsN p1_roundsN p1_rounds p2_size p2_folkN p2_folk p2_countsN p2_counts  n x3 t_needs = some R → Q (some (.int R.1)) (wX0_isPast cy tA t_keptV t_totalsV t_found t_unseenA t_unseenN t_unseen t_needsA t_needsN R.2 p1A p1_namesV p1_kindsV p1_kinV p1_stopsV p1_folks p1_pairs p1_line p1_rope p1_lineTold p1_ropeTold p1_lawV p1_takenV p1_roundsA p1_roundsN p1_rounds p2A p2_writtenV p2_size p2_folkA p2_folkN p2_folk p2_countsA p2_countsN p2_counts) → V l D cy MX0_isPast 1 0 0 av ws0 Q 10 [(0, .ref tA), (1, .ref p1A), (2, .ref p2A), (3, .int x3)] [] (wX0_isPast cy tA t_keptV t_totalsV t_found t_unseenA t_unseenN t_unseen t_needsA t_needsN t_needs p1A p1_namesV p1_kindsV p1_kinV p1_stopsV p1_folks p1_pairs p1_line p1_rope p1_lineTold p1_ropeTold p1_lawV p1_takenV p1_roundsA p1_roundsN p1_rounds p2A p2_writtenV p2_size p2_folkA p2_folkN p2_folk p2_countsA p2_countsN p2_counts) 0 0 := by
  intro n
  induction n with
  | zero => intro x3 t_needs R h; exact vNone h
  | succ n ih => intro x3 t_needs R h hQ; exact vbX0_isPast_L10 F tA t_keptV t_totalsV t_found t_unseenA t_unseenN t_unseen t_needsA t_needsN p1A p1_namesV p1_kindsV p1_kinV p1_stopsV p1_folks p1_pairs p1_line p1_rope p1_lineTold p1_ropeTold p1_lawV p1_takenV p1_roundsA p1_roundsN p1_rounds p2A p2_writtenV p2_size p2_folkA p2_folkN p2_folk p2_countsA p2_countsN p2_counts _ ih x3 t_needs R h hQ
noncomputable def fX0_isPast (F : Nat) (t_unseenN : Nat) (t_unseen : Nat → Int32) (t_needsN : Nat) (p1_roundsN : Nat) (p1_rounds : Nat → Int32) (p2_size : Int32) (p2_folkN : Nat) (p2_folk : Nat → Int32) (p2_countsN : Nat) (p2_counts : Nat → Int32) (t_needs : Nat → Int32) : Option (Int32 × (Nat → Int32)) :=
  (fJ7_fill_53178 F t_needsN (0 : Int32) t_needs).bind fun R5 => (fX0_isPast_L10 F t_unseenN t_unseen t_needsN p1_roundsN p1_rounds p2_size p2_folkN p2_folk p2_countsN p2_counts F (0 : Int32) R5)
theorem CX0_isPast {l : Launch} {D : va_G} {cy : Nat → ClassId} (F : Nat) (tA : Nat) (t_keptV : Value) (t_totalsV : Value) (t_found : Int32) (t_unseenA : Nat) (t_unseenN : Nat) (t_unseen : Nat → Int32) (t_needsA : Nat) (t_needsN : Nat) (t_needs : Nat → Int32) (p1A : Nat) (p1_namesV : Value) (p1_kindsV : Value) (p1_kinV : Value) (p1_stopsV : Value) (p1_folks : Int32) (p1_pairs : Int32) (p1_line : Int32) (p1_rope : Int32) (p1_lineTold : Int32) (p1_ropeTold : Int32) (p1_lawV : Value) (p1_takenV : Value) (p1_roundsA : Nat) (p1_roundsN : Nat) (p1_rounds : Nat → Int32) (p2A : Nat) (p2_writtenV : Value) (p2_size : Int32) (p2_folkA : Nat) (p2_folkN : Nat) (p2_folk : Nat → Int32) (p2_countsA : Nat) (p2_countsN : Nat) (p2_counts : Nat → Int32) (R : Int32 × (Nat → Int32)) (h : fX0_isPast F t_unseenN t_unseen t_needsN p1_roundsN p1_rounds p2_size p2_folkN p2_folk p2_countsN p2_counts t_needs = some R) : vMet l D cy MX0_isPast 1 0 0 [.ref tA, .ref p1A, .ref p2A] (wX0_isPast cy tA t_keptV t_totalsV t_found t_unseenA t_unseenN t_unseen t_needsA t_needsN t_needs p1A p1_namesV p1_kindsV p1_kinV p1_stopsV p1_folks p1_pairs p1_line p1_rope p1_lineTold p1_ropeTold p1_lawV p1_takenV p1_roundsA p1_roundsN p1_rounds p2A p2_writtenV p2_size p2_folkA p2_folkN p2_folk p2_countsA p2_countsN p2_counts) (fun (r : Option Value) (w : va_W) => r = (some (.int R.1)) ∧ w = (wX0_isPast cy tA t_keptV t_totalsV t_found t_unseenA t_unseenN t_unseen t_needsA t_needsN R.2 p1A p1_namesV p1_kindsV p1_kinV p1_stopsV p1_folks p1_pairs p1_line p1_rope p1_lineTold p1_ropeTold p1_lawV p1_takenV p1_roundsA p1_roundsN p1_rounds p2A p2_writtenV p2_size p2_folkA p2_folkN p2_folk p2_countsA p2_countsN p2_counts)) := by
  refine vMet.start (by decide +kernel) (Nat.le_of_ble_eq_true rfl) ?_
  generalize hQe : (fun (r : Option Value) (w : va_W) => r = (some (.int R.1)) ∧ w = (wX0_isPast cy tA t_keptV t_totalsV t_found t_unseenA t_unseenN t_unseen t_needsA t_needsN R.2 p1A p1_namesV p1_kindsV p1_kinV p1_stopsV p1_folks p1_pairs p1_line p1_rope p1_lineTold p1_ropeTold p1_lawV p1_takenV p1_roundsA p1_roundsN p1_rounds p2A p2_writtenV p2_size p2_folkA p2_folkN p2_folk p2_countsA p2_countsN p2_counts)) = Q
  have hQ : Q (some (.int R.1)) (wX0_isPast cy tA t_keptV t_totalsV t_found t_unseenA t_unseenN t_unseen t_needsA t_needsN R.2 p1A p1_namesV p1_kindsV p1_kinV p1_stopsV p1_folks p1_pairs p1_line p1_rope p1_lineTold p1_ropeTold p1_lawV p1_takenV p1_roundsA p1_roundsN p1_rounds p2A p2_writtenV p2_size p2_folkA p2_folkN p2_folk p2_countsA p2_countsN p2_counts) := by rw [← hQe]; exact ⟨rfl, rfl⟩
  show V l D cy MX0_isPast 1 0 0 _ _ Q 0 [(0, .ref tA), (1, .ref p1A), (2, .ref p2A)] [] _ 0 0
  show V l D cy MX0_isPast 1 0 0 [.ref tA, .ref p1A, .ref p2A] _ Q 0 [(0, .ref tA), (1, .ref p1A), (2, .ref p2A)] [] (wX0_isPast cy tA t_keptV t_totalsV t_found t_unseenA t_unseenN t_unseen t_needsA t_needsN t_needs p1A p1_namesV p1_kindsV p1_kinV p1_stopsV p1_folks p1_pairs p1_line p1_rope p1_lineTold p1_ropeTold p1_lawV p1_takenV p1_roundsA p1_roundsN p1_rounds p2A p2_writtenV p2_size p2_folkA p2_folkN p2_folk p2_countsA p2_countsN p2_counts) 0 0
  unfold fX0_isPast at h
  refine V.aload_n dX0_isPast_0 rfl 0 rfl ?_
  refine V.get kfX0 0 rfl rfl 3 (by decide) klX0_27 rfl dX0_isPast_1 ?_
  refine V.iconst (v := (0 : Int32)) dX0_isPast_4 (by decide) ?_
  obtain ⟨R5, hg5, h⟩ := Option.bind_eq_some_iff.mp h
  refine V.callS (As := [.ref t_needsA, .int (0 : Int32)]) (rest := []) (wc := (wJ7_fill_53178 cy t_needsA t_needsN t_needs)) (wr := [(tA, .inr (0, [t_keptV, t_totalsV, .ref t_unseenA, .ref t_needsA, .int t_found])), (t_unseenA, .inl (cy 1, t_unseenN, .inl t_unseen)), (p1A, .inr (2, [p1_namesV, p1_kindsV, p1_kinV, p1_stopsV, .ref p1_roundsA, .int p1_folks, .int p1_pairs, .int p1_line, .int p1_rope, .int p1_lineTold, .int p1_ropeTold, p1_lawV, p1_takenV])), (p1_roundsA, .inl (cy 1, p1_roundsN, .inl p1_rounds)), (p2A, .inr (5, [.ref p2_folkA, .ref p2_countsA, p2_writtenV, .int p2_size])), (p2_folkA, .inl (cy 1, p2_folkN, .inl p2_folk)), (p2_countsA, .inl (cy 1, p2_countsN, .inl p2_counts))]) (CJ7_fill_53178 F t_needsA t_needsN t_needs (0 : Int32) R5 hg5) kvJ7_fill_53178 klX0_36 [2] [0, 1, 3, 4, 5, 6, 7] rfl rfl (by decide) (by decide) (by decide) rfl dX0_isPast_5 ⟨by decide, by decide, by decide, by decide⟩ (Nat.le_of_ble_eq_true rfl) (fun r w1 hq => ?_)
  obtain ⟨rfl, rfl⟩ := hq
  refine V.cells (ws' := (wX0_isPast cy tA t_keptV t_totalsV t_found t_unseenA t_unseenN t_unseen t_needsA t_needsN R5 p1A p1_namesV p1_kindsV p1_kinV p1_stopsV p1_folks p1_pairs p1_line p1_rope p1_lineTold p1_ropeTold p1_lawV p1_takenV p1_roundsA p1_roundsN p1_rounds p2A p2_writtenV p2_size p2_folkA p2_folkN p2_folk p2_countsA p2_countsN p2_counts)) [0, 1, 7, 2, 3, 4, 5, 6] (by decide) rfl ?_
  show V l D cy MX0_isPast 1 0 0 _ _ _ 8 [(0, .ref tA), (1, .ref p1A), (2, .ref p2A)] [] (wX0_isPast cy tA t_keptV t_totalsV t_found t_unseenA t_unseenN t_unseen t_needsA t_needsN R5 p1A p1_namesV p1_kindsV p1_kinV p1_stopsV p1_folks p1_pairs p1_line p1_rope p1_lineTold p1_ropeTold p1_lawV p1_takenV p1_roundsA p1_roundsN p1_rounds p2A p2_writtenV p2_size p2_folkA p2_folkN p2_folk p2_countsA p2_countsN p2_counts) 0 0
  refine V.iconst (v := (0 : Int32)) dX0_isPast_8 (by decide) ?_
  refine V.istore_n (lv' := [(3, .int (0 : Int32)), (0, .ref tA), (1, .ref p1A), (2, .ref p2A)]) dX0_isPast_9 rfl (by decide) rfl ?_
  refine V.lvs [1, 2, 3, 0] rfl ?_
  exact vX0_isPast_L10 _ _ _ _ _ _ _ _ _ _ _ _ _ _ _ _ _ _ _ _ _ _ _ _ _ _ _ _ _ _ _ _ _ _ _  _ _ _ R h hQ
theorem dX0_missing_0 : decode cX0_missing 0 = .ok (.iconst 0, 1) := by decide +kernel
theorem dX0_missing_1 : decode cX0_missing 1 = .ok (.istore_n 2, 1) := by decide +kernel
theorem dX0_missing_2 : decode cX0_missing 2 = .ok (.iconst 0, 1) := by decide +kernel
theorem dX0_missing_3 : decode cX0_missing 3 = .ok (.istore_n 3, 1) := by decide +kernel
theorem dX0_missing_4 : decode cX0_missing 4 = .ok (.iload_n 3, 1) := by decide +kernel
theorem dX0_missing_5 : decode cX0_missing 5 = .ok (.aload_n 1, 1) := by decide +kernel
theorem dX0_missing_6 : decode cX0_missing 6 = .ok (.getfield 94, 3) := by decide +kernel
theorem dX0_missing_9 : decode cX0_missing 9 = .ok (.if_icmp .ge 121, 3) := by decide +kernel
theorem dX0_missing_12 : decode cX0_missing 12 = .ok (.aload_n 1, 1) := by decide +kernel
theorem dX0_missing_13 : decode cX0_missing 13 = .ok (.iload_n 3, 1) := by decide +kernel
theorem dX0_missing_14 : decode cX0_missing 14 = .ok (.aload_n 0, 1) := by decide +kernel
theorem dX0_missing_15 : decode cX0_missing 15 = .ok (.getfield 20, 3) := by decide +kernel
theorem dX0_missing_18 : decode cX0_missing 18 = .ok (.iload_n 3, 1) := by decide +kernel
theorem dX0_missing_19 : decode cX0_missing 19 = .ok (.iaload, 1) := by decide +kernel
theorem dX0_missing_20 : decode cX0_missing 20 = .ok (.invokevirtual 99, 3) := by decide +kernel
theorem dX0_missing_23 : decode cX0_missing 23 = .ok (.istore 4, 2) := by decide +kernel
theorem dX0_missing_25 : decode cX0_missing 25 = .ok (.iload 4, 2) := by decide +kernel
theorem dX0_missing_27 : decode cX0_missing 27 = .ok (.ifCond .eq 97, 3) := by decide +kernel
theorem dX0_missing_30 : decode cX0_missing 30 = .ok (.aload_n 1, 1) := by decide +kernel
theorem dX0_missing_31 : decode cX0_missing 31 = .ok (.getfield 103, 3) := by decide +kernel
theorem dX0_missing_34 : decode cX0_missing 34 = .ok (.iload_n 3, 1) := by decide +kernel
theorem dX0_missing_35 : decode cX0_missing 35 = .ok (.iaload, 1) := by decide +kernel
theorem dX0_missing_36 : decode cX0_missing 36 = .ok (.istore 5, 2) := by decide +kernel
theorem dX0_missing_38 : decode cX0_missing 38 = .ok (.iload 4, 2) := by decide +kernel
theorem dX0_missing_40 : decode cX0_missing 40 = .ok (.ifCond .le 21, 3) := by decide +kernel
theorem dX0_missing_43 : decode cX0_missing 43 = .ok (.aload_n 0, 1) := by decide +kernel
theorem dX0_missing_44 : decode cX0_missing 44 = .ok (.getfield 24, 3) := by decide +kernel
theorem dX0_missing_47 : decode cX0_missing 47 = .ok (.iconst 2, 1) := by decide +kernel
theorem dX0_missing_48 : decode cX0_missing 48 = .ok (.iload_n 3, 1) := by decide +kernel
theorem dX0_missing_49 : decode cX0_missing 49 = .ok (.imul, 1) := by decide +kernel
theorem dX0_missing_50 : decode cX0_missing 50 = .ok (.iaload, 1) := by decide +kernel
theorem dX0_missing_51 : decode cX0_missing 51 = .ok (.iload 4, 2) := by decide +kernel
theorem dX0_missing_53 : decode cX0_missing 53 = .ok (.if_icmp .lt 8, 3) := by decide +kernel
theorem dX0_missing_56 : decode cX0_missing 56 = .ok (.iload 4, 2) := by decide +kernel
theorem dX0_missing_58 : decode cX0_missing 58 = .ok (.goto 6, 3) := by decide +kernel
theorem dX0_missing_61 : decode cX0_missing 61 = .ok (.sipush 1000, 3) := by decide +kernel
theorem dX0_missing_64 : decode cX0_missing 64 = .ok (.istore 6, 2) := by decide +kernel
theorem dX0_missing_66 : decode cX0_missing 66 = .ok (.iload 5, 2) := by decide +kernel
theorem dX0_missing_68 : decode cX0_missing 68 = .ok (.ifCond .le 11, 3) := by decide +kernel
theorem dX0_missing_71 : decode cX0_missing 71 = .ok (.iload 5, 2) := by decide +kernel
theorem dX0_missing_73 : decode cX0_missing 73 = .ok (.iload 4, 2) := by decide +kernel
theorem dX0_missing_75 : decode cX0_missing 75 = .ok (.isub, 1) := by decide +kernel
theorem dX0_missing_76 : decode cX0_missing 76 = .ok (.goto 6, 3) := by decide +kernel
theorem dX0_missing_79 : decode cX0_missing 79 = .ok (.iload 4, 2) := by decide +kernel
theorem dX0_missing_81 : decode cX0_missing 81 = .ok (.ineg, 1) := by decide +kernel
theorem dX0_missing_82 : decode cX0_missing 82 = .ok (.istore 7, 2) := by decide +kernel
theorem dX0_missing_84 : decode cX0_missing 84 = .ok (.iload 7, 2) := by decide +kernel
theorem dX0_missing_86 : decode cX0_missing 86 = .ok (.ifCond .le 23, 3) := by decide +kernel
theorem dX0_missing_89 : decode cX0_missing 89 = .ok (.aload_n 0, 1) := by decide +kernel
theorem dX0_missing_90 : decode cX0_missing 90 = .ok (.getfield 24, 3) := by decide +kernel
theorem dX0_missing_93 : decode cX0_missing 93 = .ok (.iconst 2, 1) := by decide +kernel
theorem dX0_missing_94 : decode cX0_missing 94 = .ok (.iload_n 3, 1) := by decide +kernel
theorem dX0_missing_95 : decode cX0_missing 95 = .ok (.imul, 1) := by decide +kernel
theorem dX0_missing_96 : decode cX0_missing 96 = .ok (.iconst 1, 1) := by decide +kernel
theorem dX0_missing_97 : decode cX0_missing 97 = .ok (.iadd, 1) := by decide +kernel
theorem dX0_missing_98 : decode cX0_missing 98 = .ok (.iaload, 1) := by decide +kernel
theorem dX0_missing_99 : decode cX0_missing 99 = .ok (.iload 7, 2) := by decide +kernel
theorem dX0_missing_101 : decode cX0_missing 101 = .ok (.if_icmp .lt 8, 3) := by decide +kernel
theorem dX0_missing_104 : decode cX0_missing 104 = .ok (.iload 7, 2) := by decide +kernel
theorem dX0_missing_106 : decode cX0_missing 106 = .ok (.goto 6, 3) := by decide +kernel
theorem dX0_missing_109 : decode cX0_missing 109 = .ok (.sipush 1000, 3) := by decide +kernel
theorem dX0_missing_112 : decode cX0_missing 112 = .ok (.istore 8, 2) := by decide +kernel
theorem dX0_missing_114 : decode cX0_missing 114 = .ok (.iload_n 2, 1) := by decide +kernel
theorem dX0_missing_115 : decode cX0_missing 115 = .ok (.iload 6, 2) := by decide +kernel
theorem dX0_missing_117 : decode cX0_missing 117 = .ok (.iload 8, 2) := by decide +kernel
theorem dX0_missing_119 : decode cX0_missing 119 = .ok (.invokestatic 106, 3) := by decide +kernel
theorem dX0_missing_122 : decode cX0_missing 122 = .ok (.iadd, 1) := by decide +kernel
theorem dX0_missing_123 : decode cX0_missing 123 = .ok (.istore_n 2, 1) := by decide +kernel
theorem dX0_missing_124 : decode cX0_missing 124 = .ok (.iinc 3 1, 3) := by decide +kernel
theorem dX0_missing_127 : decode cX0_missing 127 = .ok (.goto (-123), 3) := by decide +kernel
theorem dX0_missing_130 : decode cX0_missing 130 = .ok (.iload_n 2, 1) := by decide +kernel
theorem dX0_missing_131 : decode cX0_missing 131 = .ok (.ireturn, 1) := by decide +kernel
def wX0_missing (cy : Nat → ClassId) (tA : Nat) (t_keptV : Value) (t_needsV : Value) (t_found : Int32) (t_totalsA : Nat) (t_totalsN : Nat) (t_totals : Nat → Int32) (t_unseenA : Nat) (t_unseenN : Nat) (t_unseen : Nat → Int32) (p1A : Nat) (p1_namesV : Value) (p1_kindsV : Value) (p1_kinV : Value) (p1_stopsV : Value) (p1_folks : Int32) (p1_pairs : Int32) (p1_line : Int32) (p1_rope : Int32) (p1_lineTold : Int32) (p1_ropeTold : Int32) (p1_lawV : Value) (p1_takenV : Value) (p1_roundsA : Nat) (p1_roundsN : Nat) (p1_rounds : Nat → Int32) : va_W :=
  [(tA, .inr (0, [t_keptV, .ref t_totalsA, .ref t_unseenA, t_needsV, .int t_found])), (t_totalsA, .inl (cy 1, t_totalsN, .inl t_totals)), (t_unseenA, .inl (cy 1, t_unseenN, .inl t_unseen)), (p1A, .inr (2, [p1_namesV, p1_kindsV, p1_kinV, p1_stopsV, .ref p1_roundsA, .int p1_folks, .int p1_pairs, .int p1_line, .int p1_rope, .int p1_lineTold, .int p1_ropeTold, p1_lawV, p1_takenV])), (p1_roundsA, .inl (cy 1, p1_roundsN, .inl p1_rounds))]
noncomputable def bX0_missing_L124 (F : Nat) (t_totalsN : Nat) (t_totals : Nat → Int32) (t_unseenN : Nat) (t_unseen : Nat → Int32) (p1_folks : Int32) (p1_roundsN : Nat) (p1_rounds : Nat → Int32) (k4 : Int32 → Int32 → Option (Int32)) (x2 : Int32) (x3 : Int32) : Option (Int32) :=
  k4 x2 (x3 + (1 : Int32))
theorem vX0_missing_L124 {l : Launch} {D : va_G} {cy : Nat → ClassId} {av : List Value} {ws0 : va_W} {Q : Option Value → va_W → Prop} (F : Nat) (tA : Nat) (t_keptV : Value) (t_needsV : Value) (t_found : Int32) (t_totalsA : Nat) (t_totalsN : Nat) (t_totals : Nat → Int32) (t_unseenA : Nat) (t_unseenN : Nat) (t_unseen : Nat → Int32) (p1A : Nat) (p1_namesV : Value) (p1_kindsV : Value) (p1_kinV : Value) (p1_stopsV : Value) (p1_folks : Int32) (p1_pairs : Int32) (p1_line : Int32) (p1_rope : Int32) (p1_lineTold : Int32) (p1_ropeTold : Int32) (p1_lawV : Value) (p1_takenV : Value) (p1_roundsA : Nat) (p1_roundsN : Nat) (p1_rounds : Nat → Int32) (k4 : Int32 → Int32 → Option (Int32)) (hk4 : ∀ (x2 : Int32) (x3 : Int32) (R : Int32), k4 x2 x3 = some R → Q (some (.int R)) (wX0_missing cy tA t_keptV t_needsV t_found t_totalsA t_totalsN t_totals t_unseenA t_unseenN t_unseen p1A p1_namesV p1_kindsV p1_kinV p1_stopsV p1_folks p1_pairs p1_line p1_rope p1_lineTold p1_ropeTold p1_lawV p1_takenV p1_roundsA p1_roundsN p1_rounds) → V l D cy MX0_missing 2 0 0 av ws0 Q 4 [(0, .ref tA), (1, .ref p1A), (2, .int x2), (3, .int x3)] [] (wX0_missing cy tA t_keptV t_needsV t_found t_totalsA t_totalsN t_totals t_unseenA t_unseenN t_unseen p1A p1_namesV p1_kindsV p1_kinV p1_stopsV p1_folks p1_pairs p1_line p1_rope p1_lineTold p1_ropeTold p1_lawV p1_takenV p1_roundsA p1_roundsN p1_rounds) 0 0) (x2 : Int32) (x3 : Int32) (R : Int32) (h : bX0_missing_L124 F t_totalsN t_totals t_unseenN t_unseen p1_folks p1_roundsN p1_rounds k4 x2 x3 = some R) (hQ : Q (some (.int R)) (wX0_missing cy tA t_keptV t_needsV t_found t_totalsA t_totalsN t_totals t_unseenA t_unseenN t_unseen p1A p1_namesV p1_kindsV p1_kinV p1_stopsV p1_folks p1_pairs p1_line p1_rope p1_lineTold p1_ropeTold p1_lawV p1_takenV p1_roundsA p1_roundsN p1_rounds)) : V l D cy MX0_missing 2 0 0 av ws0 Q 124 [(0, .ref tA), (1, .ref p1A), (2, .int x2), (3, .int x3)] [] (wX0_missing cy tA t_keptV t_needsV t_found t_totalsA t_totalsN t_totals t_unseenA t_unseenN t_unseen p1A p1_namesV p1_kindsV p1_kinV p1_stopsV p1_folks p1_pairs p1_line p1_rope p1_lineTold p1_ropeTold p1_lawV p1_takenV p1_roundsA p1_roundsN p1_rounds) 0 0 := by
  unfold bX0_missing_L124 at h
  refine V.iinc (v := x3 + (1 : Int32)) (lv' := [(3, .int (x3 + (1 : Int32))), (0, .ref tA), (1, .ref p1A), (2, .int x2)]) dX0_missing_124 3 rfl rfl (by decide) rfl ?_
  refine V.goto (tgt := 4) dX0_missing_127 (by decide) ?_
  refine V.lvs [1, 2, 3, 0] rfl ?_
  exact hk4 _ _ R h hQ
noncomputable def bX0_missing_L112 (F : Nat) (t_totalsN : Nat) (t_totals : Nat → Int32) (t_unseenN : Nat) (t_unseen : Nat → Int32) (p1_folks : Int32) (p1_roundsN : Nat) (p1_rounds : Nat → Int32) (k4 : Int32 → Int32 → Option (Int32)) (x2 : Int32) (x3 : Int32) (x6 : Int32) (s0 : Int32) : Option (Int32) :=
  bX0_missing_L124 F t_totalsN t_totals t_unseenN t_unseen p1_folks p1_roundsN p1_rounds k4 (x2 + (if s0 < x6 then s0 else x6)) x3
theorem vX0_missing_L112 {l : Launch} {D : va_G} {cy : Nat → ClassId} {av : List Value} {ws0 : va_W} {Q : Option Value → va_W → Prop} (F : Nat) (tA : Nat) (t_keptV : Value) (t_needsV : Value) (t_found : Int32) (t_totalsA : Nat) (t_totalsN : Nat) (t_totals : Nat → Int32) (t_unseenA : Nat) (t_unseenN : Nat) (t_unseen : Nat → Int32) (p1A : Nat) (p1_namesV : Value) (p1_kindsV : Value) (p1_kinV : Value) (p1_stopsV : Value) (p1_folks : Int32) (p1_pairs : Int32) (p1_line : Int32) (p1_rope : Int32) (p1_lineTold : Int32) (p1_ropeTold : Int32) (p1_lawV : Value) (p1_takenV : Value) (p1_roundsA : Nat) (p1_roundsN : Nat) (p1_rounds : Nat → Int32) (k4 : Int32 → Int32 → Option (Int32)) (hk4 : ∀ (x2 : Int32) (x3 : Int32) (R : Int32), k4 x2 x3 = some R → Q (some (.int R)) (wX0_missing cy tA t_keptV t_needsV t_found t_totalsA t_totalsN t_totals t_unseenA t_unseenN t_unseen p1A p1_namesV p1_kindsV p1_kinV p1_stopsV p1_folks p1_pairs p1_line p1_rope p1_lineTold p1_ropeTold p1_lawV p1_takenV p1_roundsA p1_roundsN p1_rounds) → V l D cy MX0_missing 2 0 0 av ws0 Q 4 [(0, .ref tA), (1, .ref p1A), (2, .int x2), (3, .int x3)] [] (wX0_missing cy tA t_keptV t_needsV t_found t_totalsA t_totalsN t_totals t_unseenA t_unseenN t_unseen p1A p1_namesV p1_kindsV p1_kinV p1_stopsV p1_folks p1_pairs p1_line p1_rope p1_lineTold p1_ropeTold p1_lawV p1_takenV p1_roundsA p1_roundsN p1_rounds) 0 0) (x2 : Int32) (x3 : Int32) (x6 : Int32) (s0 : Int32) (R : Int32) (h : bX0_missing_L112 F t_totalsN t_totals t_unseenN t_unseen p1_folks p1_roundsN p1_rounds k4 x2 x3 x6 s0 = some R) (hQ : Q (some (.int R)) (wX0_missing cy tA t_keptV t_needsV t_found t_totalsA t_totalsN t_totals t_unseenA t_unseenN t_unseen p1A p1_namesV p1_kindsV p1_kinV p1_stopsV p1_folks p1_pairs p1_line p1_rope p1_lineTold p1_ropeTold p1_lawV p1_takenV p1_roundsA p1_roundsN p1_rounds)) : V l D cy MX0_missing 2 0 0 av ws0 Q 112 [(0, .ref tA), (1, .ref p1A), (2, .int x2), (3, .int x3), (6, .int x6)] [.int s0] (wX0_missing cy tA t_keptV t_needsV t_found t_totalsA t_totalsN t_totals t_unseenA t_unseenN t_unseen p1A p1_namesV p1_kindsV p1_kinV p1_stopsV p1_folks p1_pairs p1_line p1_rope p1_lineTold p1_ropeTold p1_lawV p1_takenV p1_roundsA p1_roundsN p1_rounds) 0 0 := by
  unfold bX0_missing_L112 at h
  refine V.istore (lv' := [(8, .int s0), (0, .ref tA), (1, .ref p1A), (2, .int x2), (3, .int x3), (6, .int x6)]) dX0_missing_112 (by decide) rfl ?_
  refine V.iload_n dX0_missing_114 rfl 3 rfl ?_
  refine V.iload dX0_missing_115 5 rfl ?_
  refine V.iload dX0_missing_117 0 rfl ?_
  refine V.mmin klX0_106 dX0_missing_119 (Nat.le_of_ble_eq_true rfl) ⟨Nat.le_refl _, Nat.le_refl _⟩ ?_
  refine V.iadd dX0_missing_122 ?_
  refine V.istore_n (lv' := [(2, .int (x2 + (if s0 < x6 then s0 else x6))), (8, .int s0), (0, .ref tA), (1, .ref p1A), (3, .int x3), (6, .int x6)]) dX0_missing_123 rfl (by decide) rfl ?_
  refine V.lvs [2, 3, 0, 4] rfl ?_
  exact vX0_missing_L124 _ _ _ _ _ _ _ _ _ _ _ _ _ _ _ _ _ _ _ _ _ _ _ _ _ _ _ _ hk4  _ _ R h hQ
noncomputable def bX0_missing_L109 (F : Nat) (t_totalsN : Nat) (t_totals : Nat → Int32) (t_unseenN : Nat) (t_unseen : Nat → Int32) (p1_folks : Int32) (p1_roundsN : Nat) (p1_rounds : Nat → Int32) (k4 : Int32 → Int32 → Option (Int32)) (x2 : Int32) (x3 : Int32) (x6 : Int32) : Option (Int32) :=
  bX0_missing_L112 F t_totalsN t_totals t_unseenN t_unseen p1_folks p1_roundsN p1_rounds k4 x2 x3 x6 (1000 : Int32)
theorem vX0_missing_L109 {l : Launch} {D : va_G} {cy : Nat → ClassId} {av : List Value} {ws0 : va_W} {Q : Option Value → va_W → Prop} (F : Nat) (tA : Nat) (t_keptV : Value) (t_needsV : Value) (t_found : Int32) (t_totalsA : Nat) (t_totalsN : Nat) (t_totals : Nat → Int32) (t_unseenA : Nat) (t_unseenN : Nat) (t_unseen : Nat → Int32) (p1A : Nat) (p1_namesV : Value) (p1_kindsV : Value) (p1_kinV : Value) (p1_stopsV : Value) (p1_folks : Int32) (p1_pairs : Int32) (p1_line : Int32) (p1_rope : Int32) (p1_lineTold : Int32) (p1_ropeTold : Int32) (p1_lawV : Value) (p1_takenV : Value) (p1_roundsA : Nat) (p1_roundsN : Nat) (p1_rounds : Nat → Int32) (k4 : Int32 → Int32 → Option (Int32)) (hk4 : ∀ (x2 : Int32) (x3 : Int32) (R : Int32), k4 x2 x3 = some R → Q (some (.int R)) (wX0_missing cy tA t_keptV t_needsV t_found t_totalsA t_totalsN t_totals t_unseenA t_unseenN t_unseen p1A p1_namesV p1_kindsV p1_kinV p1_stopsV p1_folks p1_pairs p1_line p1_rope p1_lineTold p1_ropeTold p1_lawV p1_takenV p1_roundsA p1_roundsN p1_rounds) → V l D cy MX0_missing 2 0 0 av ws0 Q 4 [(0, .ref tA), (1, .ref p1A), (2, .int x2), (3, .int x3)] [] (wX0_missing cy tA t_keptV t_needsV t_found t_totalsA t_totalsN t_totals t_unseenA t_unseenN t_unseen p1A p1_namesV p1_kindsV p1_kinV p1_stopsV p1_folks p1_pairs p1_line p1_rope p1_lineTold p1_ropeTold p1_lawV p1_takenV p1_roundsA p1_roundsN p1_rounds) 0 0) (x2 : Int32) (x3 : Int32) (x6 : Int32) (R : Int32) (h : bX0_missing_L109 F t_totalsN t_totals t_unseenN t_unseen p1_folks p1_roundsN p1_rounds k4 x2 x3 x6 = some R) (hQ : Q (some (.int R)) (wX0_missing cy tA t_keptV t_needsV t_found t_totalsA t_totalsN t_totals t_unseenA t_unseenN t_unseen p1A p1_namesV p1_kindsV p1_kinV p1_stopsV p1_folks p1_pairs p1_line p1_rope p1_lineTold p1_ropeTold p1_lawV p1_takenV p1_roundsA p1_roundsN p1_rounds)) : V l D cy MX0_missing 2 0 0 av ws0 Q 109 [(0, .ref tA), (1, .ref p1A), (2, .int x2), (3, .int x3), (6, .int x6)] [] (wX0_missing cy tA t_keptV t_needsV t_found t_totalsA t_totalsN t_totals t_unseenA t_unseenN t_unseen p1A p1_namesV p1_kindsV p1_kinV p1_stopsV p1_folks p1_pairs p1_line p1_rope p1_lineTold p1_ropeTold p1_lawV p1_takenV p1_roundsA p1_roundsN p1_rounds) 0 0 := by
  unfold bX0_missing_L109 at h
  refine V.sipush (v := (1000 : Int32)) dX0_missing_109 (by decide) ?_
  exact vX0_missing_L112 _ _ _ _ _ _ _ _ _ _ _ _ _ _ _ _ _ _ _ _ _ _ _ _ _ _ _ _ hk4  _ _ _ _ R h hQ
noncomputable def bX0_missing_L82 (F : Nat) (t_totalsN : Nat) (t_totals : Nat → Int32) (t_unseenN : Nat) (t_unseen : Nat → Int32) (p1_folks : Int32) (p1_roundsN : Nat) (p1_rounds : Nat → Int32) (k4 : Int32 → Int32 → Option (Int32)) (x2 : Int32) (x3 : Int32) (x6 : Int32) (s0 : Int32) : Option (Int32) :=
  if s0 ≤ 0 then (bX0_missing_L109 F t_totalsN t_totals t_unseenN t_unseen p1_folks p1_roundsN p1_rounds k4 x2 x3 x6) else (if (((2 : Int32) * x3) + (1 : Int32)) < 0 ∨ t_unseenN ≤ (((2 : Int32) * x3) + (1 : Int32)).toNatClampNeg then none else (if (t_unseen (((2 : Int32) * x3) + (1 : Int32)).toNatClampNeg) < s0 then (bX0_missing_L109 F t_totalsN t_totals t_unseenN t_unseen p1_folks p1_roundsN p1_rounds k4 x2 x3 x6) else (bX0_missing_L112 F t_totalsN t_totals t_unseenN t_unseen p1_folks p1_roundsN p1_rounds k4 x2 x3 x6 s0)))
theorem vX0_missing_L82 {l : Launch} {D : va_G} {cy : Nat → ClassId} {av : List Value} {ws0 : va_W} {Q : Option Value → va_W → Prop} (F : Nat) (tA : Nat) (t_keptV : Value) (t_needsV : Value) (t_found : Int32) (t_totalsA : Nat) (t_totalsN : Nat) (t_totals : Nat → Int32) (t_unseenA : Nat) (t_unseenN : Nat) (t_unseen : Nat → Int32) (p1A : Nat) (p1_namesV : Value) (p1_kindsV : Value) (p1_kinV : Value) (p1_stopsV : Value) (p1_folks : Int32) (p1_pairs : Int32) (p1_line : Int32) (p1_rope : Int32) (p1_lineTold : Int32) (p1_ropeTold : Int32) (p1_lawV : Value) (p1_takenV : Value) (p1_roundsA : Nat) (p1_roundsN : Nat) (p1_rounds : Nat → Int32) (k4 : Int32 → Int32 → Option (Int32)) (hk4 : ∀ (x2 : Int32) (x3 : Int32) (R : Int32), k4 x2 x3 = some R → Q (some (.int R)) (wX0_missing cy tA t_keptV t_needsV t_found t_totalsA t_totalsN t_totals t_unseenA t_unseenN t_unseen p1A p1_namesV p1_kindsV p1_kinV p1_stopsV p1_folks p1_pairs p1_line p1_rope p1_lineTold p1_ropeTold p1_lawV p1_takenV p1_roundsA p1_roundsN p1_rounds) → V l D cy MX0_missing 2 0 0 av ws0 Q 4 [(0, .ref tA), (1, .ref p1A), (2, .int x2), (3, .int x3)] [] (wX0_missing cy tA t_keptV t_needsV t_found t_totalsA t_totalsN t_totals t_unseenA t_unseenN t_unseen p1A p1_namesV p1_kindsV p1_kinV p1_stopsV p1_folks p1_pairs p1_line p1_rope p1_lineTold p1_ropeTold p1_lawV p1_takenV p1_roundsA p1_roundsN p1_rounds) 0 0) (x2 : Int32) (x3 : Int32) (x6 : Int32) (s0 : Int32) (R : Int32) (h : bX0_missing_L82 F t_totalsN t_totals t_unseenN t_unseen p1_folks p1_roundsN p1_rounds k4 x2 x3 x6 s0 = some R) (hQ : Q (some (.int R)) (wX0_missing cy tA t_keptV t_needsV t_found t_totalsA t_totalsN t_totals t_unseenA t_unseenN t_unseen p1A p1_namesV p1_kindsV p1_kinV p1_stopsV p1_folks p1_pairs p1_line p1_rope p1_lineTold p1_ropeTold p1_lawV p1_takenV p1_roundsA p1_roundsN p1_rounds)) : V l D cy MX0_missing 2 0 0 av ws0 Q 82 [(0, .ref tA), (1, .ref p1A), (2, .int x2), (3, .int x3), (6, .int x6)] [.int s0] (wX0_missing cy tA t_keptV t_needsV t_found t_totalsA t_totalsN t_totals t_unseenA t_unseenN t_unseen p1A p1_namesV p1_kindsV p1_kinV p1_stopsV p1_folks p1_pairs p1_line p1_rope p1_lineTold p1_ropeTold p1_lawV p1_takenV p1_roundsA p1_roundsN p1_rounds) 0 0 := by
  unfold bX0_missing_L82 at h
  refine V.istore (lv' := [(7, .int s0), (0, .ref tA), (1, .ref p1A), (2, .int x2), (3, .int x3), (6, .int x6)]) dX0_missing_82 (by decide) rfl ?_
  refine V.iload dX0_missing_84 0 rfl ?_
  refine V.if_le (tgt := 109) dX0_missing_86 (by decide) (fun hc86 => ?_) (fun hc86 => ?_)
  · replace h := (if_pos hc86).symm.trans h
    refine V.lvs [1, 2, 3, 4, 5] rfl ?_
    exact vX0_missing_L109 _ _ _ _ _ _ _ _ _ _ _ _ _ _ _ _ _ _ _ _ _ _ _ _ _ _ _ _ hk4  _ _ _ R h hQ
  · replace h := (if_neg hc86).symm.trans h
    refine V.aload_n dX0_missing_89 rfl 1 rfl ?_
    refine V.get kfX0 0 rfl rfl 2 (by decide) klX0_24 rfl dX0_missing_90 ?_
    refine V.iconst (v := (2 : Int32)) dX0_missing_93 (by decide) ?_
    refine V.iload_n dX0_missing_94 rfl 4 rfl ?_
    refine V.imul dX0_missing_95 ?_
    refine V.iconst (v := (1 : Int32)) dX0_missing_96 (by decide) ?_
    refine V.iadd dX0_missing_97 ?_
    by_cases hb98 : (((2 : Int32) * x3) + (1 : Int32)) < 0 ∨ t_unseenN ≤ (((2 : Int32) * x3) + (1 : Int32)).toNatClampNeg
    · exact vNone ((if_pos hb98).symm.trans h)
    replace h := (if_neg hb98).symm.trans h
    refine V.iald dX0_missing_98 2 rfl hb98 ?_
    refine V.iload dX0_missing_99 0 rfl ?_
    refine V.icmp_lt (tgt := 109) dX0_missing_101 (by decide) (fun hc101 => ?_) (fun hc101 => ?_)
    · replace h := (if_pos hc101).symm.trans h
      refine V.lvs [1, 2, 3, 4, 5] rfl ?_
      exact vX0_missing_L109 _ _ _ _ _ _ _ _ _ _ _ _ _ _ _ _ _ _ _ _ _ _ _ _ _ _ _ _ hk4  _ _ _ R h hQ
    · replace h := (if_neg hc101).symm.trans h
      refine V.iload dX0_missing_104 0 rfl ?_
      refine V.goto (tgt := 112) dX0_missing_106 (by decide) ?_
      refine V.lvs [1, 2, 3, 4, 5] rfl ?_
      exact vX0_missing_L112 _ _ _ _ _ _ _ _ _ _ _ _ _ _ _ _ _ _ _ _ _ _ _ _ _ _ _ _ hk4  _ _ _ _ R h hQ
noncomputable def bX0_missing_L64 (F : Nat) (t_totalsN : Nat) (t_totals : Nat → Int32) (t_unseenN : Nat) (t_unseen : Nat → Int32) (p1_folks : Int32) (p1_roundsN : Nat) (p1_rounds : Nat → Int32) (k4 : Int32 → Int32 → Option (Int32)) (x2 : Int32) (x3 : Int32) (x4 : Int32) (x5 : Int32) (s0 : Int32) : Option (Int32) :=
  if x5 ≤ 0 then (bX0_missing_L82 F t_totalsN t_totals t_unseenN t_unseen p1_folks p1_roundsN p1_rounds k4 x2 x3 s0 (-x4)) else (bX0_missing_L82 F t_totalsN t_totals t_unseenN t_unseen p1_folks p1_roundsN p1_rounds k4 x2 x3 s0 (x5 - x4))
theorem vX0_missing_L64 {l : Launch} {D : va_G} {cy : Nat → ClassId} {av : List Value} {ws0 : va_W} {Q : Option Value → va_W → Prop} (F : Nat) (tA : Nat) (t_keptV : Value) (t_needsV : Value) (t_found : Int32) (t_totalsA : Nat) (t_totalsN : Nat) (t_totals : Nat → Int32) (t_unseenA : Nat) (t_unseenN : Nat) (t_unseen : Nat → Int32) (p1A : Nat) (p1_namesV : Value) (p1_kindsV : Value) (p1_kinV : Value) (p1_stopsV : Value) (p1_folks : Int32) (p1_pairs : Int32) (p1_line : Int32) (p1_rope : Int32) (p1_lineTold : Int32) (p1_ropeTold : Int32) (p1_lawV : Value) (p1_takenV : Value) (p1_roundsA : Nat) (p1_roundsN : Nat) (p1_rounds : Nat → Int32) (k4 : Int32 → Int32 → Option (Int32)) (hk4 : ∀ (x2 : Int32) (x3 : Int32) (R : Int32), k4 x2 x3 = some R → Q (some (.int R)) (wX0_missing cy tA t_keptV t_needsV t_found t_totalsA t_totalsN t_totals t_unseenA t_unseenN t_unseen p1A p1_namesV p1_kindsV p1_kinV p1_stopsV p1_folks p1_pairs p1_line p1_rope p1_lineTold p1_ropeTold p1_lawV p1_takenV p1_roundsA p1_roundsN p1_rounds) → V l D cy MX0_missing 2 0 0 av ws0 Q 4 [(0, .ref tA), (1, .ref p1A), (2, .int x2), (3, .int x3)] [] (wX0_missing cy tA t_keptV t_needsV t_found t_totalsA t_totalsN t_totals t_unseenA t_unseenN t_unseen p1A p1_namesV p1_kindsV p1_kinV p1_stopsV p1_folks p1_pairs p1_line p1_rope p1_lineTold p1_ropeTold p1_lawV p1_takenV p1_roundsA p1_roundsN p1_rounds) 0 0) (x2 : Int32) (x3 : Int32) (x4 : Int32) (x5 : Int32) (s0 : Int32) (R : Int32) (h : bX0_missing_L64 F t_totalsN t_totals t_unseenN t_unseen p1_folks p1_roundsN p1_rounds k4 x2 x3 x4 x5 s0 = some R) (hQ : Q (some (.int R)) (wX0_missing cy tA t_keptV t_needsV t_found t_totalsA t_totalsN t_totals t_unseenA t_unseenN t_unseen p1A p1_namesV p1_kindsV p1_kinV p1_stopsV p1_folks p1_pairs p1_line p1_rope p1_lineTold p1_ropeTold p1_lawV p1_takenV p1_roundsA p1_roundsN p1_rounds)) : V l D cy MX0_missing 2 0 0 av ws0 Q 64 [(0, .ref tA), (1, .ref p1A), (2, .int x2), (3, .int x3), (4, .int x4), (5, .int x5)] [.int s0] (wX0_missing cy tA t_keptV t_needsV t_found t_totalsA t_totalsN t_totals t_unseenA t_unseenN t_unseen p1A p1_namesV p1_kindsV p1_kinV p1_stopsV p1_folks p1_pairs p1_line p1_rope p1_lineTold p1_ropeTold p1_lawV p1_takenV p1_roundsA p1_roundsN p1_rounds) 0 0 := by
  unfold bX0_missing_L64 at h
  refine V.istore (lv' := [(6, .int s0), (0, .ref tA), (1, .ref p1A), (2, .int x2), (3, .int x3), (4, .int x4), (5, .int x5)]) dX0_missing_64 (by decide) rfl ?_
  refine V.iload dX0_missing_66 6 rfl ?_
  refine V.if_le (tgt := 79) dX0_missing_68 (by decide) (fun hc68 => ?_) (fun hc68 => ?_)
  · replace h := (if_pos hc68).symm.trans h
    refine V.iload dX0_missing_79 5 rfl ?_
    refine V.ineg dX0_missing_81 ?_
    refine V.lvs [1, 2, 3, 4, 0] rfl ?_
    exact vX0_missing_L82 _ _ _ _ _ _ _ _ _ _ _ _ _ _ _ _ _ _ _ _ _ _ _ _ _ _ _ _ hk4  _ _ _ _ R h hQ
  · replace h := (if_neg hc68).symm.trans h
    refine V.iload dX0_missing_71 6 rfl ?_
    refine V.iload dX0_missing_73 5 rfl ?_
    refine V.isub dX0_missing_75 ?_
    refine V.goto (tgt := 82) dX0_missing_76 (by decide) ?_
    refine V.lvs [1, 2, 3, 4, 0] rfl ?_
    exact vX0_missing_L82 _ _ _ _ _ _ _ _ _ _ _ _ _ _ _ _ _ _ _ _ _ _ _ _ _ _ _ _ hk4  _ _ _ _ R h hQ
noncomputable def bX0_missing_L61 (F : Nat) (t_totalsN : Nat) (t_totals : Nat → Int32) (t_unseenN : Nat) (t_unseen : Nat → Int32) (p1_folks : Int32) (p1_roundsN : Nat) (p1_rounds : Nat → Int32) (k4 : Int32 → Int32 → Option (Int32)) (x2 : Int32) (x3 : Int32) (x4 : Int32) (x5 : Int32) : Option (Int32) :=
  bX0_missing_L64 F t_totalsN t_totals t_unseenN t_unseen p1_folks p1_roundsN p1_rounds k4 x2 x3 x4 x5 (1000 : Int32)
theorem vX0_missing_L61 {l : Launch} {D : va_G} {cy : Nat → ClassId} {av : List Value} {ws0 : va_W} {Q : Option Value → va_W → Prop} (F : Nat) (tA : Nat) (t_keptV : Value) (t_needsV : Value) (t_found : Int32) (t_totalsA : Nat) (t_totalsN : Nat) (t_totals : Nat → Int32) (t_unseenA : Nat) (t_unseenN : Nat) (t_unseen : Nat → Int32) (p1A : Nat) (p1_namesV : Value) (p1_kindsV : Value) (p1_kinV : Value) (p1_stopsV : Value) (p1_folks : Int32) (p1_pairs : Int32) (p1_line : Int32) (p1_rope : Int32) (p1_lineTold : Int32) (p1_ropeTold : Int32) (p1_lawV : Value) (p1_takenV : Value) (p1_roundsA : Nat) (p1_roundsN : Nat) (p1_rounds : Nat → Int32) (k4 : Int32 → Int32 → Option (Int32)) (hk4 : ∀ (x2 : Int32) (x3 : Int32) (R : Int32), k4 x2 x3 = some R → Q (some (.int R)) (wX0_missing cy tA t_keptV t_needsV t_found t_totalsA t_totalsN t_totals t_unseenA t_unseenN t_unseen p1A p1_namesV p1_kindsV p1_kinV p1_stopsV p1_folks p1_pairs p1_line p1_rope p1_lineTold p1_ropeTold p1_lawV p1_takenV p1_roundsA p1_roundsN p1_rounds) → V l D cy MX0_missing 2 0 0 av ws0 Q 4 [(0, .ref tA), (1, .ref p1A), (2, .int x2), (3, .int x3)] [] (wX0_missing cy tA t_keptV t_needsV t_found t_totalsA t_totalsN t_totals t_unseenA t_unseenN t_unseen p1A p1_namesV p1_kindsV p1_kinV p1_stopsV p1_folks p1_pairs p1_line p1_rope p1_lineTold p1_ropeTold p1_lawV p1_takenV p1_roundsA p1_roundsN p1_rounds) 0 0) (x2 : Int32) (x3 : Int32) (x4 : Int32) (x5 : Int32) (R : Int32) (h : bX0_missing_L61 F t_totalsN t_totals t_unseenN t_unseen p1_folks p1_roundsN p1_rounds k4 x2 x3 x4 x5 = some R) (hQ : Q (some (.int R)) (wX0_missing cy tA t_keptV t_needsV t_found t_totalsA t_totalsN t_totals t_unseenA t_unseenN t_unseen p1A p1_namesV p1_kindsV p1_kinV p1_stopsV p1_folks p1_pairs p1_line p1_rope p1_lineTold p1_ropeTold p1_lawV p1_takenV p1_roundsA p1_roundsN p1_rounds)) : V l D cy MX0_missing 2 0 0 av ws0 Q 61 [(0, .ref tA), (1, .ref p1A), (2, .int x2), (3, .int x3), (4, .int x4), (5, .int x5)] [] (wX0_missing cy tA t_keptV t_needsV t_found t_totalsA t_totalsN t_totals t_unseenA t_unseenN t_unseen p1A p1_namesV p1_kindsV p1_kinV p1_stopsV p1_folks p1_pairs p1_line p1_rope p1_lineTold p1_ropeTold p1_lawV p1_takenV p1_roundsA p1_roundsN p1_rounds) 0 0 := by
  unfold bX0_missing_L61 at h
  refine V.sipush (v := (1000 : Int32)) dX0_missing_61 (by decide) ?_
  exact vX0_missing_L64 _ _ _ _ _ _ _ _ _ _ _ _ _ _ _ _ _ _ _ _ _ _ _ _ _ _ _ _ hk4  _ _ _ _ _ R h hQ
noncomputable def bX0_missing_L4 (F : Nat) (t_totalsN : Nat) (t_totals : Nat → Int32) (t_unseenN : Nat) (t_unseen : Nat → Int32) (p1_folks : Int32) (p1_roundsN : Nat) (p1_rounds : Nat → Int32) (k4 : Int32 → Int32 → Option (Int32)) (x2 : Int32) (x3 : Int32) : Option (Int32) :=
  if p1_folks ≤ x3 then (some x2) else (if x3 < 0 ∨ t_totalsN ≤ x3.toNatClampNeg then none else ((fX2_rounded F p1_folks p1_roundsN p1_rounds x3 (t_totals (x3).toNatClampNeg)).bind fun R20 => (if R20 = 0 then (bX0_missing_L124 F t_totalsN t_totals t_unseenN t_unseen p1_folks p1_roundsN p1_rounds k4 x2 x3) else (if x3 < 0 ∨ p1_roundsN ≤ x3.toNatClampNeg then none else (if R20 ≤ 0 then (bX0_missing_L61 F t_totalsN t_totals t_unseenN t_unseen p1_folks p1_roundsN p1_rounds k4 x2 x3 R20 (p1_rounds (x3).toNatClampNeg)) else (if ((2 : Int32) * x3) < 0 ∨ t_unseenN ≤ ((2 : Int32) * x3).toNatClampNeg then none else (if (t_unseen ((2 : Int32) * x3).toNatClampNeg) < R20 then (bX0_missing_L61 F t_totalsN t_totals t_unseenN t_unseen p1_folks p1_roundsN p1_rounds k4 x2 x3 R20 (p1_rounds (x3).toNatClampNeg)) else (bX0_missing_L64 F t_totalsN t_totals t_unseenN t_unseen p1_folks p1_roundsN p1_rounds k4 x2 x3 R20 (p1_rounds (x3).toNatClampNeg) R20))))))))
theorem vbX0_missing_L4 {l : Launch} {D : va_G} {cy : Nat → ClassId} {av : List Value} {ws0 : va_W} {Q : Option Value → va_W → Prop} (F : Nat) (tA : Nat) (t_keptV : Value) (t_needsV : Value) (t_found : Int32) (t_totalsA : Nat) (t_totalsN : Nat) (t_totals : Nat → Int32) (t_unseenA : Nat) (t_unseenN : Nat) (t_unseen : Nat → Int32) (p1A : Nat) (p1_namesV : Value) (p1_kindsV : Value) (p1_kinV : Value) (p1_stopsV : Value) (p1_folks : Int32) (p1_pairs : Int32) (p1_line : Int32) (p1_rope : Int32) (p1_lineTold : Int32) (p1_ropeTold : Int32) (p1_lawV : Value) (p1_takenV : Value) (p1_roundsA : Nat) (p1_roundsN : Nat) (p1_rounds : Nat → Int32) (k4 : Int32 → Int32 → Option (Int32)) (hk4 : ∀ (x2 : Int32) (x3 : Int32) (R : Int32), k4 x2 x3 = some R → Q (some (.int R)) (wX0_missing cy tA t_keptV t_needsV t_found t_totalsA t_totalsN t_totals t_unseenA t_unseenN t_unseen p1A p1_namesV p1_kindsV p1_kinV p1_stopsV p1_folks p1_pairs p1_line p1_rope p1_lineTold p1_ropeTold p1_lawV p1_takenV p1_roundsA p1_roundsN p1_rounds) → V l D cy MX0_missing 2 0 0 av ws0 Q 4 [(0, .ref tA), (1, .ref p1A), (2, .int x2), (3, .int x3)] [] (wX0_missing cy tA t_keptV t_needsV t_found t_totalsA t_totalsN t_totals t_unseenA t_unseenN t_unseen p1A p1_namesV p1_kindsV p1_kinV p1_stopsV p1_folks p1_pairs p1_line p1_rope p1_lineTold p1_ropeTold p1_lawV p1_takenV p1_roundsA p1_roundsN p1_rounds) 0 0) (x2 : Int32) (x3 : Int32) (R : Int32) (h : bX0_missing_L4 F t_totalsN t_totals t_unseenN t_unseen p1_folks p1_roundsN p1_rounds k4 x2 x3 = some R) (hQ : Q (some (.int R)) (wX0_missing cy tA t_keptV t_needsV t_found t_totalsA t_totalsN t_totals t_unseenA t_unseenN t_unseen p1A p1_namesV p1_kindsV p1_kinV p1_stopsV p1_folks p1_pairs p1_line p1_rope p1_lineTold p1_ropeTold p1_lawV p1_takenV p1_roundsA p1_roundsN p1_rounds)) : V l D cy MX0_missing 2 0 0 av ws0 Q 4 [(0, .ref tA), (1, .ref p1A), (2, .int x2), (3, .int x3)] [] (wX0_missing cy tA t_keptV t_needsV t_found t_totalsA t_totalsN t_totals t_unseenA t_unseenN t_unseen p1A p1_namesV p1_kindsV p1_kinV p1_stopsV p1_folks p1_pairs p1_line p1_rope p1_lineTold p1_ropeTold p1_lawV p1_takenV p1_roundsA p1_roundsN p1_rounds) 0 0 := by
  unfold bX0_missing_L4 at h
  refine V.iload_n dX0_missing_4 rfl 3 rfl ?_
  refine V.aload_n dX0_missing_5 rfl 1 rfl ?_
  refine V.get kfX2 3 rfl rfl 5 (by decide) klX0_94 rfl dX0_missing_6 ?_
  refine V.icmp_ge (tgt := 130) dX0_missing_9 (by decide) (fun hc9 => ?_) (fun hc9 => ?_)
  · replace h := (if_pos hc9).symm.trans h
    refine V.iload_n dX0_missing_130 rfl 2 rfl ?_
    have e9 := Option.some.inj h; subst e9
    exact V.iret (ty := .int) rfl rfl dX0_missing_131 (Nat.le_refl _) (Nat.le_refl _) hQ
  · replace h := (if_neg hc9).symm.trans h
    refine V.aload_n dX0_missing_12 rfl 1 rfl ?_
    refine V.iload_n dX0_missing_13 rfl 3 rfl ?_
    refine V.aload_n dX0_missing_14 rfl 0 rfl ?_
    refine V.get kfX0 0 rfl rfl 1 (by decide) klX0_20 rfl dX0_missing_15 ?_
    refine V.iload_n dX0_missing_18 rfl 3 rfl ?_
    by_cases hb19 : x3 < 0 ∨ t_totalsN ≤ x3.toNatClampNeg
    · exact vNone ((if_pos hb19).symm.trans h)
    replace h := (if_neg hb19).symm.trans h
    refine V.iald dX0_missing_19 1 rfl hb19 ?_
    obtain ⟨R20, hg20, h⟩ := Option.bind_eq_some_iff.mp h
    refine V.callV (As := [.int x3, .int (t_totals (x3).toNatClampNeg)]) (rest := []) (wc := (wX2_rounded cy p1A p1_namesV p1_kindsV p1_kinV p1_stopsV p1_folks p1_pairs p1_line p1_rope p1_lineTold p1_ropeTold p1_lawV p1_takenV p1_roundsA p1_roundsN p1_rounds)) (wr := [(tA, .inr (0, [t_keptV, .ref t_totalsA, .ref t_unseenA, t_needsV, .int t_found])), (t_totalsA, .inl (cy 1, t_totalsN, .inl t_totals)), (t_unseenA, .inl (cy 1, t_unseenN, .inl t_unseen))]) (q0 := 3) (CX2_rounded F p1A p1_namesV p1_kindsV p1_kinV p1_stopsV p1_folks p1_pairs p1_line p1_rope p1_lineTold p1_ropeTold p1_lawV p1_takenV p1_roundsA p1_roundsN p1_rounds x3 (t_totals (x3).toNatClampNeg) R20 hg20) kvX2_rounded klX0_99 [3, 4] [0, 1, 2] rfl rfl (by decide) (by decide) (by decide) rfl rfl rfl rfl dX0_missing_20 ⟨by decide, by decide, by decide, by decide⟩ (Nat.le_of_ble_eq_true rfl) (fun r w1 hq => ?_)
    obtain ⟨rfl, rfl⟩ := hq
    refine V.cells (ws' := (wX0_missing cy tA t_keptV t_needsV t_found t_totalsA t_totalsN t_totals t_unseenA t_unseenN t_unseen p1A p1_namesV p1_kindsV p1_kinV p1_stopsV p1_folks p1_pairs p1_line p1_rope p1_lineTold p1_ropeTold p1_lawV p1_takenV p1_roundsA p1_roundsN p1_rounds)) [0, 1, 2, 3, 4] (by decide) rfl ?_
    show V l D cy MX0_missing 2 0 0 _ _ _ 23 [(0, .ref tA), (1, .ref p1A), (2, .int x2), (3, .int x3)] [.int R20] (wX0_missing cy tA t_keptV t_needsV t_found t_totalsA t_totalsN t_totals t_unseenA t_unseenN t_unseen p1A p1_namesV p1_kindsV p1_kinV p1_stopsV p1_folks p1_pairs p1_line p1_rope p1_lineTold p1_ropeTold p1_lawV p1_takenV p1_roundsA p1_roundsN p1_rounds) 0 0
    refine V.istore (lv' := [(4, .int R20), (0, .ref tA), (1, .ref p1A), (2, .int x2), (3, .int x3)]) dX0_missing_23 (by decide) rfl ?_
    refine V.iload dX0_missing_25 0 rfl ?_
    refine V.if_eq (tgt := 124) dX0_missing_27 (by decide) (fun hc27 => ?_) (fun hc27 => ?_)
    · replace h := (if_pos hc27).symm.trans h
      refine V.lvs [1, 2, 3, 4] rfl ?_
      exact vX0_missing_L124 _ _ _ _ _ _ _ _ _ _ _ _ _ _ _ _ _ _ _ _ _ _ _ _ _ _ _ _ hk4  _ _ R h hQ
    · replace h := (if_neg hc27).symm.trans h
      refine V.aload_n dX0_missing_30 rfl 2 rfl ?_
      refine V.get kfX2 3 rfl rfl 4 (by decide) klX0_103 rfl dX0_missing_31 ?_
      refine V.iload_n dX0_missing_34 rfl 4 rfl ?_
      by_cases hb35 : x3 < 0 ∨ p1_roundsN ≤ x3.toNatClampNeg
      · exact vNone ((if_pos hb35).symm.trans h)
      replace h := (if_neg hb35).symm.trans h
      refine V.iald dX0_missing_35 4 rfl hb35 ?_
      refine V.istore (lv' := [(5, .int (p1_rounds (x3).toNatClampNeg)), (4, .int R20), (0, .ref tA), (1, .ref p1A), (2, .int x2), (3, .int x3)]) dX0_missing_36 (by decide) rfl ?_
      refine V.iload dX0_missing_38 1 rfl ?_
      refine V.if_le (tgt := 61) dX0_missing_40 (by decide) (fun hc40 => ?_) (fun hc40 => ?_)
      · replace h := (if_pos hc40).symm.trans h
        refine V.lvs [2, 3, 4, 5, 1, 0] rfl ?_
        exact vX0_missing_L61 _ _ _ _ _ _ _ _ _ _ _ _ _ _ _ _ _ _ _ _ _ _ _ _ _ _ _ _ hk4  _ _ _ _ R h hQ
      · replace h := (if_neg hc40).symm.trans h
        refine V.aload_n dX0_missing_43 rfl 2 rfl ?_
        refine V.get kfX0 0 rfl rfl 2 (by decide) klX0_24 rfl dX0_missing_44 ?_
        refine V.iconst (v := (2 : Int32)) dX0_missing_47 (by decide) ?_
        refine V.iload_n dX0_missing_48 rfl 5 rfl ?_
        refine V.imul dX0_missing_49 ?_
        by_cases hb50 : ((2 : Int32) * x3) < 0 ∨ t_unseenN ≤ ((2 : Int32) * x3).toNatClampNeg
        · exact vNone ((if_pos hb50).symm.trans h)
        replace h := (if_neg hb50).symm.trans h
        refine V.iald dX0_missing_50 2 rfl hb50 ?_
        refine V.iload dX0_missing_51 1 rfl ?_
        refine V.icmp_lt (tgt := 61) dX0_missing_53 (by decide) (fun hc53 => ?_) (fun hc53 => ?_)
        · replace h := (if_pos hc53).symm.trans h
          refine V.lvs [2, 3, 4, 5, 1, 0] rfl ?_
          exact vX0_missing_L61 _ _ _ _ _ _ _ _ _ _ _ _ _ _ _ _ _ _ _ _ _ _ _ _ _ _ _ _ hk4  _ _ _ _ R h hQ
        · replace h := (if_neg hc53).symm.trans h
          refine V.iload dX0_missing_56 1 rfl ?_
          refine V.goto (tgt := 64) dX0_missing_58 (by decide) ?_
          refine V.lvs [2, 3, 4, 5, 1, 0] rfl ?_
          exact vX0_missing_L64 _ _ _ _ _ _ _ _ _ _ _ _ _ _ _ _ _ _ _ _ _ _ _ _ _ _ _ _ hk4  _ _ _ _ _ R h hQ
noncomputable def fX0_missing_L4 (F : Nat) (t_totalsN : Nat) (t_totals : Nat → Int32) (t_unseenN : Nat) (t_unseen : Nat → Int32) (p1_folks : Int32) (p1_roundsN : Nat) (p1_rounds : Nat → Int32)  : Nat → Int32 → Int32 → Option (Int32)
  | 0 => fun _ _ => none
  | n + 1 => bX0_missing_L4 F t_totalsN t_totals t_unseenN t_unseen p1_folks p1_roundsN p1_rounds (fX0_missing_L4 F t_totalsN t_totals t_unseenN t_unseen p1_folks p1_roundsN p1_rounds  n)
theorem vX0_missing_L4 {l : Launch} {D : va_G} {cy : Nat → ClassId} {av : List Value} {ws0 : va_W} {Q : Option Value → va_W → Prop} (F : Nat) (tA : Nat) (t_keptV : Value) (t_needsV : Value) (t_found : Int32) (t_totalsA : Nat) (t_totalsN : Nat) (t_totals : Nat → Int32) (t_unseenA : Nat) (t_unseenN : Nat) (t_unseen : Nat → Int32) (p1A : Nat) (p1_namesV : Value) (p1_kindsV : Value) (p1_kinV : Value) (p1_stopsV : Value) (p1_folks : Int32) (p1_pairs : Int32) (p1_line : Int32) (p1_rope : Int32) (p1_lineTold : Int32) (p1_ropeTold : Int32) (p1_lawV : Value) (p1_takenV : Value) (p1_roundsA : Nat) (p1_roundsN : Nat) (p1_rounds : Nat → Int32)  : ∀ (n : Nat) (x2 : Int32) (x3 : Int32) (R : Int32), fX0_missing_L4 F t_totalsN t_totals t_unseenN t_unseen p1_folks p1_roundsN p1_rounds  n x2 x3 = some R → Q (some (.int R)) (wX0_missing cy tA t_keptV t_needsV t_found t_totalsA t_totalsN t_totals t_unseenA t_unseenN t_unseen p1A p1_namesV p1_kindsV p1_kinV p1_stopsV p1_folks p1_pairs p1_line p1_rope p1_lineTold p1_ropeTold p1_lawV p1_takenV p1_roundsA p1_roundsN p1_rounds) → V l D cy MX0_missing 2 0 0 av ws0 Q 4 [(0, .ref tA), (1, .ref p1A), (2, .int x2), (3, .int x3)] [] (wX0_missing cy tA t_keptV t_needsV t_found t_totalsA t_totalsN t_totals t_unseenA t_unseenN t_unseen p1A p1_namesV p1_kindsV p1_kinV p1_stopsV p1_folks p1_pairs p1_line p1_rope p1_lineTold p1_ropeTold p1_lawV p1_takenV p1_roundsA p1_roundsN p1_rounds) 0 0 := by
  intro n
  induction n with
  | zero => intro x2 x3 R h; exact vNone h
  | succ n ih => intro x2 x3 R h hQ; exact vbX0_missing_L4 F tA t_keptV t_needsV t_found t_totalsA t_totalsN t_totals t_unseenA t_unseenN t_unseen p1A p1_namesV p1_kindsV p1_kinV p1_stopsV p1_folks p1_pairs p1_line p1_rope p1_lineTold p1_ropeTold p1_lawV p1_takenV p1_roundsA p1_roundsN p1_rounds _ ih x2 x3 R h hQ
noncomputable def fX0_missing (F : Nat) (t_totalsN : Nat) (t_totals : Nat → Int32) (t_unseenN : Nat) (t_unseen : Nat → Int32) (p1_folks : Int32) (p1_roundsN : Nat) (p1_rounds : Nat → Int32) : Option (Int32) :=
  fX0_missing_L4 F t_totalsN t_totals t_unseenN t_unseen p1_folks p1_roundsN p1_rounds F (0 : Int32) (0 : Int32)
theorem CX0_missing {l : Launch} {D : va_G} {cy : Nat → ClassId} (F : Nat) (tA : Nat) (t_keptV : Value) (t_needsV : Value) (t_found : Int32) (t_totalsA : Nat) (t_totalsN : Nat) (t_totals : Nat → Int32) (t_unseenA : Nat) (t_unseenN : Nat) (t_unseen : Nat → Int32) (p1A : Nat) (p1_namesV : Value) (p1_kindsV : Value) (p1_kinV : Value) (p1_stopsV : Value) (p1_folks : Int32) (p1_pairs : Int32) (p1_line : Int32) (p1_rope : Int32) (p1_lineTold : Int32) (p1_ropeTold : Int32) (p1_lawV : Value) (p1_takenV : Value) (p1_roundsA : Nat) (p1_roundsN : Nat) (p1_rounds : Nat → Int32) (R : Int32) (h : fX0_missing F t_totalsN t_totals t_unseenN t_unseen p1_folks p1_roundsN p1_rounds = some R) : vMet l D cy MX0_missing 2 0 0 [.ref tA, .ref p1A] (wX0_missing cy tA t_keptV t_needsV t_found t_totalsA t_totalsN t_totals t_unseenA t_unseenN t_unseen p1A p1_namesV p1_kindsV p1_kinV p1_stopsV p1_folks p1_pairs p1_line p1_rope p1_lineTold p1_ropeTold p1_lawV p1_takenV p1_roundsA p1_roundsN p1_rounds) (fun (r : Option Value) (w : va_W) => r = (some (.int R)) ∧ w = (wX0_missing cy tA t_keptV t_needsV t_found t_totalsA t_totalsN t_totals t_unseenA t_unseenN t_unseen p1A p1_namesV p1_kindsV p1_kinV p1_stopsV p1_folks p1_pairs p1_line p1_rope p1_lineTold p1_ropeTold p1_lawV p1_takenV p1_roundsA p1_roundsN p1_rounds)) := by
  refine vMet.start (by decide +kernel) (Nat.le_of_ble_eq_true rfl) ?_
  generalize hQe : (fun (r : Option Value) (w : va_W) => r = (some (.int R)) ∧ w = (wX0_missing cy tA t_keptV t_needsV t_found t_totalsA t_totalsN t_totals t_unseenA t_unseenN t_unseen p1A p1_namesV p1_kindsV p1_kinV p1_stopsV p1_folks p1_pairs p1_line p1_rope p1_lineTold p1_ropeTold p1_lawV p1_takenV p1_roundsA p1_roundsN p1_rounds)) = Q
  have hQ : Q (some (.int R)) (wX0_missing cy tA t_keptV t_needsV t_found t_totalsA t_totalsN t_totals t_unseenA t_unseenN t_unseen p1A p1_namesV p1_kindsV p1_kinV p1_stopsV p1_folks p1_pairs p1_line p1_rope p1_lineTold p1_ropeTold p1_lawV p1_takenV p1_roundsA p1_roundsN p1_rounds) := by rw [← hQe]; exact ⟨rfl, rfl⟩
  show V l D cy MX0_missing 2 0 0 _ _ Q 0 [(0, .ref tA), (1, .ref p1A)] [] _ 0 0
  show V l D cy MX0_missing 2 0 0 [.ref tA, .ref p1A] _ Q 0 [(0, .ref tA), (1, .ref p1A)] [] (wX0_missing cy tA t_keptV t_needsV t_found t_totalsA t_totalsN t_totals t_unseenA t_unseenN t_unseen p1A p1_namesV p1_kindsV p1_kinV p1_stopsV p1_folks p1_pairs p1_line p1_rope p1_lineTold p1_ropeTold p1_lawV p1_takenV p1_roundsA p1_roundsN p1_rounds) 0 0
  unfold fX0_missing at h
  refine V.iconst (v := (0 : Int32)) dX0_missing_0 (by decide) ?_
  refine V.istore_n (lv' := [(2, .int (0 : Int32)), (0, .ref tA), (1, .ref p1A)]) dX0_missing_1 rfl (by decide) rfl ?_
  refine V.iconst (v := (0 : Int32)) dX0_missing_2 (by decide) ?_
  refine V.istore_n (lv' := [(3, .int (0 : Int32)), (2, .int (0 : Int32)), (0, .ref tA), (1, .ref p1A)]) dX0_missing_3 rfl (by decide) rfl ?_
  refine V.lvs [2, 3, 1, 0] rfl ?_
  exact vX0_missing_L4 _ _ _ _ _ _ _ _ _ _ _ _ _ _ _ _ _ _ _ _ _ _ _ _ _ _ _  _ _ _ R h hQ
