theorem dX9_addBytes_0 : decode cX9_addBytes 0 = .ok (.bipush 56, 2) := by decide +kernel
theorem dX9_addBytes_2 : decode cX9_addBytes 2 = .ok (.istore_n 3, 1) := by decide +kernel
theorem dX9_addBytes_3 : decode cX9_addBytes 3 = .ok (.iload_n 3, 1) := by decide +kernel
theorem dX9_addBytes_4 : decode cX9_addBytes 4 = .ok (.ifCond .lt 84, 3) := by decide +kernel
theorem dX9_addBytes_7 : decode cX9_addBytes 7 = .ok (.lload_n 1, 1) := by decide +kernel
theorem dX9_addBytes_8 : decode cX9_addBytes 8 = .ok (.iload_n 3, 1) := by decide +kernel
theorem dX9_addBytes_9 : decode cX9_addBytes 9 = .ok (.lshr, 1) := by decide +kernel
theorem dX9_addBytes_10 : decode cX9_addBytes 10 = .ok (.ldc2_w 24, 3) := by decide +kernel
theorem dX9_addBytes_13 : decode cX9_addBytes 13 = .ok (.land, 1) := by decide +kernel
theorem dX9_addBytes_14 : decode cX9_addBytes 14 = .ok (.l2i, 1) := by decide +kernel
theorem dX9_addBytes_15 : decode cX9_addBytes 15 = .ok (.istore 4, 2) := by decide +kernel
theorem dX9_addBytes_17 : decode cX9_addBytes 17 = .ok (.iload 4, 2) := by decide +kernel
theorem dX9_addBytes_19 : decode cX9_addBytes 19 = .ok (.bipush 10, 2) := by decide +kernel
theorem dX9_addBytes_21 : decode cX9_addBytes 21 = .ok (.if_icmp .eq 17, 3) := by decide +kernel
theorem dX9_addBytes_24 : decode cX9_addBytes 24 = .ok (.iload 4, 2) := by decide +kernel
theorem dX9_addBytes_26 : decode cX9_addBytes 26 = .ok (.bipush 32, 2) := by decide +kernel
theorem dX9_addBytes_28 : decode cX9_addBytes 28 = .ok (.if_icmp .lt 14, 3) := by decide +kernel
theorem dX9_addBytes_31 : decode cX9_addBytes 31 = .ok (.iload 4, 2) := by decide +kernel
theorem dX9_addBytes_33 : decode cX9_addBytes 33 = .ok (.bipush 126, 2) := by decide +kernel
theorem dX9_addBytes_35 : decode cX9_addBytes 35 = .ok (.if_icmp .gt 7, 3) := by decide +kernel
theorem dX9_addBytes_38 : decode cX9_addBytes 38 = .ok (.iconst 1, 1) := by decide +kernel
theorem dX9_addBytes_39 : decode cX9_addBytes 39 = .ok (.goto 4, 3) := by decide +kernel
theorem dX9_addBytes_42 : decode cX9_addBytes 42 = .ok (.iconst 0, 1) := by decide +kernel
theorem dX9_addBytes_43 : decode cX9_addBytes 43 = .ok (.istore 5, 2) := by decide +kernel
theorem dX9_addBytes_45 : decode cX9_addBytes 45 = .ok (.iload 5, 2) := by decide +kernel
theorem dX9_addBytes_47 : decode cX9_addBytes 47 = .ok (.ifCond .eq 35, 3) := by decide +kernel
theorem dX9_addBytes_50 : decode cX9_addBytes 50 = .ok (.aload_n 0, 1) := by decide +kernel
theorem dX9_addBytes_51 : decode cX9_addBytes 51 = .ok (.getfield 26, 3) := by decide +kernel
theorem dX9_addBytes_54 : decode cX9_addBytes 54 = .ok (.sipush 1000, 3) := by decide +kernel
theorem dX9_addBytes_57 : decode cX9_addBytes 57 = .ok (.if_icmp .ge 25, 3) := by decide +kernel
theorem dX9_addBytes_60 : decode cX9_addBytes 60 = .ok (.aload_n 0, 1) := by decide +kernel
theorem dX9_addBytes_61 : decode cX9_addBytes 61 = .ok (.getfield 9, 3) := by decide +kernel
theorem dX9_addBytes_64 : decode cX9_addBytes 64 = .ok (.aload_n 0, 1) := by decide +kernel
theorem dX9_addBytes_65 : decode cX9_addBytes 65 = .ok (.getfield 26, 3) := by decide +kernel
theorem dX9_addBytes_68 : decode cX9_addBytes 68 = .ok (.iload 4, 2) := by decide +kernel
theorem dX9_addBytes_70 : decode cX9_addBytes 70 = .ok (.i2b, 1) := by decide +kernel
theorem dX9_addBytes_71 : decode cX9_addBytes 71 = .ok (.bastore, 1) := by decide +kernel
theorem dX9_addBytes_72 : decode cX9_addBytes 72 = .ok (.aload_n 0, 1) := by decide +kernel
theorem dX9_addBytes_73 : decode cX9_addBytes 73 = .ok (.dup, 1) := by decide +kernel
theorem dX9_addBytes_74 : decode cX9_addBytes 74 = .ok (.getfield 26, 3) := by decide +kernel
theorem dX9_addBytes_77 : decode cX9_addBytes 77 = .ok (.iconst 1, 1) := by decide +kernel
theorem dX9_addBytes_78 : decode cX9_addBytes 78 = .ok (.iadd, 1) := by decide +kernel
theorem dX9_addBytes_79 : decode cX9_addBytes 79 = .ok (.putfield 26, 3) := by decide +kernel
theorem dX9_addBytes_82 : decode cX9_addBytes 82 = .ok (.iinc 3 (-8), 3) := by decide +kernel
theorem dX9_addBytes_85 : decode cX9_addBytes 85 = .ok (.goto (-82), 3) := by decide +kernel
theorem dX9_addBytes_88 : decode cX9_addBytes 88 = .ok (.return_, 1) := by decide +kernel
def wX9_addBytes (cy : Nat → ClassId) (tA : Nat) (t_size : Int32) (t_tokensV : Value) (t_startsV : Value) (t_valuesV : Value) (t_count : Int32) (t_here : Int32) (t_fault : Int32) (t_signsA : Nat) (t_signsN : Nat) (t_signs : Nat → Int32) : va_W :=
  [(tA, .inr (9, [.ref t_signsA, .int t_size, t_tokensV, t_startsV, t_valuesV, .int t_count, .int t_here, .int t_fault])), (t_signsA, .inl (cy 0, t_signsN, .inl t_signs))]
noncomputable def bX9_addBytes_L82 (F : Nat) (t_signsN : Nat) (k3 : Int64 → Int32 → Int32 → (Nat → Int32) → Option ((Int32) × (Nat → Int32))) (x1 : Int64) (x3 : Int32) (t_size : Int32) (t_signs : Nat → Int32) : Option ((Int32) × (Nat → Int32)) :=
  k3 x1 (x3 + (-8 : Int32)) t_size t_signs
theorem vX9_addBytes_L82 {l : Launch} {D : va_G} {cy : Nat → ClassId} {av : List Value} {ws0 : va_W} {Q : Option Value → va_W → Prop} (F : Nat) (tA : Nat) (t_tokensV : Value) (t_startsV : Value) (t_valuesV : Value) (t_count : Int32) (t_here : Int32) (t_fault : Int32) (t_signsA : Nat) (t_signsN : Nat) (k3 : Int64 → Int32 → Int32 → (Nat → Int32) → Option ((Int32) × (Nat → Int32))) (hk3 : ∀ (x1 : Int64) (x3 : Int32) (t_size : Int32) (t_signs : Nat → Int32) (R : (Int32) × (Nat → Int32)), k3 x1 x3 t_size t_signs = some R → Q none (wX9_addBytes cy tA R.1 t_tokensV t_startsV t_valuesV t_count t_here t_fault t_signsA t_signsN R.2) → V l D cy MX9_addBytes 0 0 0 av ws0 Q 3 [(0, .ref tA), (1, .long x1), (3, .int x3)] [] (wX9_addBytes cy tA t_size t_tokensV t_startsV t_valuesV t_count t_here t_fault t_signsA t_signsN t_signs) 0 0) (x1 : Int64) (x3 : Int32) (t_size : Int32) (t_signs : Nat → Int32) (R : (Int32) × (Nat → Int32)) (h : bX9_addBytes_L82 F t_signsN k3 x1 x3 t_size t_signs = some R) (hQ : Q none (wX9_addBytes cy tA R.1 t_tokensV t_startsV t_valuesV t_count t_here t_fault t_signsA t_signsN R.2)) : V l D cy MX9_addBytes 0 0 0 av ws0 Q 82 [(0, .ref tA), (1, .long x1), (3, .int x3)] [] (wX9_addBytes cy tA t_size t_tokensV t_startsV t_valuesV t_count t_here t_fault t_signsA t_signsN t_signs) 0 0 := by
  unfold bX9_addBytes_L82 at h
  refine V.iinc (v := x3 + (-8 : Int32)) (lv' := [(3, .int (x3 + (-8 : Int32))), (0, .ref tA), (1, .long x1)]) dX9_addBytes_82 2 rfl rfl (by decide) rfl ?_
  refine V.goto (tgt := 3) dX9_addBytes_85 (by decide) ?_
  refine V.lvs [1, 2, 0] rfl ?_
  exact hk3 _ _ _ _ R h hQ
noncomputable def bX9_addBytes_L43 (F : Nat) (t_signsN : Nat) (k3 : Int64 → Int32 → Int32 → (Nat → Int32) → Option ((Int32) × (Nat → Int32))) (x1 : Int64) (x3 : Int32) (x4 : Int32) (s0 : Int32) (t_size : Int32) (t_signs : Nat → Int32) : Option ((Int32) × (Nat → Int32)) :=
  if s0 = 0 then (bX9_addBytes_L82 F t_signsN k3 x1 x3 t_size t_signs) else (if (1000 : Int32) ≤ t_size then (bX9_addBytes_L82 F t_signsN k3 x1 x3 t_size t_signs) else (if t_size < 0 ∨ t_signsN ≤ t_size.toNatClampNeg then none else (bX9_addBytes_L82 F t_signsN k3 x1 x3 (t_size + (1 : Int32)) (upd t_signs t_size.toNatClampNeg (vp_nar .byte x4.toInt8.toInt32)))))
theorem vX9_addBytes_L43 {l : Launch} {D : va_G} {cy : Nat → ClassId} {av : List Value} {ws0 : va_W} {Q : Option Value → va_W → Prop} (F : Nat) (tA : Nat) (t_tokensV : Value) (t_startsV : Value) (t_valuesV : Value) (t_count : Int32) (t_here : Int32) (t_fault : Int32) (t_signsA : Nat) (t_signsN : Nat) (k3 : Int64 → Int32 → Int32 → (Nat → Int32) → Option ((Int32) × (Nat → Int32))) (hk3 : ∀ (x1 : Int64) (x3 : Int32) (t_size : Int32) (t_signs : Nat → Int32) (R : (Int32) × (Nat → Int32)), k3 x1 x3 t_size t_signs = some R → Q none (wX9_addBytes cy tA R.1 t_tokensV t_startsV t_valuesV t_count t_here t_fault t_signsA t_signsN R.2) → V l D cy MX9_addBytes 0 0 0 av ws0 Q 3 [(0, .ref tA), (1, .long x1), (3, .int x3)] [] (wX9_addBytes cy tA t_size t_tokensV t_startsV t_valuesV t_count t_here t_fault t_signsA t_signsN t_signs) 0 0) (x1 : Int64) (x3 : Int32) (x4 : Int32) (s0 : Int32) (t_size : Int32) (t_signs : Nat → Int32) (R : (Int32) × (Nat → Int32)) (h : bX9_addBytes_L43 F t_signsN k3 x1 x3 x4 s0 t_size t_signs = some R) (hQ : Q none (wX9_addBytes cy tA R.1 t_tokensV t_startsV t_valuesV t_count t_here t_fault t_signsA t_signsN R.2)) : V l D cy MX9_addBytes 0 0 0 av ws0 Q 43 [(0, .ref tA), (1, .long x1), (3, .int x3), (4, .int x4)] [.int s0] (wX9_addBytes cy tA t_size t_tokensV t_startsV t_valuesV t_count t_here t_fault t_signsA t_signsN t_signs) 0 0 := by
  unfold bX9_addBytes_L43 at h
  refine V.istore (lv' := [(5, .int s0), (0, .ref tA), (1, .long x1), (3, .int x3), (4, .int x4)]) dX9_addBytes_43 (by decide) rfl ?_
  refine V.iload dX9_addBytes_45 0 rfl ?_
  refine V.if_eq (tgt := 82) dX9_addBytes_47 (by decide) (fun hc47 => ?_) (fun hc47 => ?_)
  · replace h := (if_pos hc47).symm.trans h
    refine V.lvs [1, 2, 3] rfl ?_
    exact vX9_addBytes_L82 _ _ _ _ _ _ _ _ _ _ _ hk3  _ _ _ _ R h hQ
  · replace h := (if_neg hc47).symm.trans h
    refine V.aload_n dX9_addBytes_50 rfl 1 rfl ?_
    refine V.get kfX9 0 rfl rfl 1 (by decide) klX9_26 rfl dX9_addBytes_51 ?_
    refine V.sipush (v := (1000 : Int32)) dX9_addBytes_54 (by decide) ?_
    refine V.icmp_ge (tgt := 82) dX9_addBytes_57 (by decide) (fun hc57 => ?_) (fun hc57 => ?_)
    · replace h := (if_pos hc57).symm.trans h
      refine V.lvs [1, 2, 3] rfl ?_
      exact vX9_addBytes_L82 _ _ _ _ _ _ _ _ _ _ _ hk3  _ _ _ _ R h hQ
    · replace h := (if_neg hc57).symm.trans h
      refine V.aload_n dX9_addBytes_60 rfl 1 rfl ?_
      refine V.get kfX9 0 rfl rfl 0 (by decide) klX9_9 rfl dX9_addBytes_61 ?_
      refine V.aload_n dX9_addBytes_64 rfl 1 rfl ?_
      refine V.get kfX9 0 rfl rfl 1 (by decide) klX9_26 rfl dX9_addBytes_65 ?_
      refine V.iload dX9_addBytes_68 4 rfl ?_
      refine V.i2b dX9_addBytes_70 ?_
      by_cases hb71 : t_size < 0 ∨ t_signsN ≤ t_size.toNatClampNeg
      · exact vNone ((if_pos hb71).symm.trans h)
      replace h := (if_neg hb71).symm.trans h
      refine V.bast (ws' := (wX9_addBytes cy tA t_size t_tokensV t_startsV t_valuesV t_count t_here t_fault t_signsA t_signsN (upd t_signs t_size.toNatClampNeg (vp_nar .byte x4.toInt8.toInt32)))) dX9_addBytes_71 1 rfl hb71 rfl ?_
      refine V.aload_n dX9_addBytes_72 rfl 1 rfl ?_
      refine V.dup dX9_addBytes_73 rfl ?_
      refine V.get kfX9 0 rfl rfl 1 (by decide) klX9_26 rfl dX9_addBytes_74 ?_
      refine V.iconst (v := (1 : Int32)) dX9_addBytes_77 (by decide) ?_
      refine V.iadd dX9_addBytes_78 ?_
      refine V.put (ws' := (wX9_addBytes cy tA (t_size + (1 : Int32)) t_tokensV t_startsV t_valuesV t_count t_here t_fault t_signsA t_signsN (upd t_signs t_size.toNatClampNeg (vp_nar .byte x4.toInt8.toInt32)))) kfX9 tyX9 tyX9_ok nmX9 0 rfl rfl 1 (by decide) klX9_26 rfl (tyX9_ok 1 (by decide)) rfl rfl (Nat.le_of_ble_eq_true rfl) dX9_addBytes_79 rfl ?_
      refine V.lvs [1, 2, 3] rfl ?_
      exact vX9_addBytes_L82 _ _ _ _ _ _ _ _ _ _ _ hk3  _ _ _ _ R h hQ
noncomputable def bX9_addBytes_L42 (F : Nat) (t_signsN : Nat) (k3 : Int64 → Int32 → Int32 → (Nat → Int32) → Option ((Int32) × (Nat → Int32))) (x1 : Int64) (x3 : Int32) (x4 : Int32) (t_size : Int32) (t_signs : Nat → Int32) : Option ((Int32) × (Nat → Int32)) :=
  bX9_addBytes_L43 F t_signsN k3 x1 x3 x4 (0 : Int32) t_size t_signs
theorem vX9_addBytes_L42 {l : Launch} {D : va_G} {cy : Nat → ClassId} {av : List Value} {ws0 : va_W} {Q : Option Value → va_W → Prop} (F : Nat) (tA : Nat) (t_tokensV : Value) (t_startsV : Value) (t_valuesV : Value) (t_count : Int32) (t_here : Int32) (t_fault : Int32) (t_signsA : Nat) (t_signsN : Nat) (k3 : Int64 → Int32 → Int32 → (Nat → Int32) → Option ((Int32) × (Nat → Int32))) (hk3 : ∀ (x1 : Int64) (x3 : Int32) (t_size : Int32) (t_signs : Nat → Int32) (R : (Int32) × (Nat → Int32)), k3 x1 x3 t_size t_signs = some R → Q none (wX9_addBytes cy tA R.1 t_tokensV t_startsV t_valuesV t_count t_here t_fault t_signsA t_signsN R.2) → V l D cy MX9_addBytes 0 0 0 av ws0 Q 3 [(0, .ref tA), (1, .long x1), (3, .int x3)] [] (wX9_addBytes cy tA t_size t_tokensV t_startsV t_valuesV t_count t_here t_fault t_signsA t_signsN t_signs) 0 0) (x1 : Int64) (x3 : Int32) (x4 : Int32) (t_size : Int32) (t_signs : Nat → Int32) (R : (Int32) × (Nat → Int32)) (h : bX9_addBytes_L42 F t_signsN k3 x1 x3 x4 t_size t_signs = some R) (hQ : Q none (wX9_addBytes cy tA R.1 t_tokensV t_startsV t_valuesV t_count t_here t_fault t_signsA t_signsN R.2)) : V l D cy MX9_addBytes 0 0 0 av ws0 Q 42 [(0, .ref tA), (1, .long x1), (3, .int x3), (4, .int x4)] [] (wX9_addBytes cy tA t_size t_tokensV t_startsV t_valuesV t_count t_here t_fault t_signsA t_signsN t_signs) 0 0 := by
  unfold bX9_addBytes_L42 at h
  refine V.iconst (v := (0 : Int32)) dX9_addBytes_42 (by decide) ?_
  exact vX9_addBytes_L43 _ _ _ _ _ _ _ _ _ _ _ hk3  _ _ _ _ _ _ R h hQ
noncomputable def bX9_addBytes_L38 (F : Nat) (t_signsN : Nat) (k3 : Int64 → Int32 → Int32 → (Nat → Int32) → Option ((Int32) × (Nat → Int32))) (x1 : Int64) (x3 : Int32) (x4 : Int32) (t_size : Int32) (t_signs : Nat → Int32) : Option ((Int32) × (Nat → Int32)) :=
  bX9_addBytes_L43 F t_signsN k3 x1 x3 x4 (1 : Int32) t_size t_signs
theorem vX9_addBytes_L38 {l : Launch} {D : va_G} {cy : Nat → ClassId} {av : List Value} {ws0 : va_W} {Q : Option Value → va_W → Prop} (F : Nat) (tA : Nat) (t_tokensV : Value) (t_startsV : Value) (t_valuesV : Value) (t_count : Int32) (t_here : Int32) (t_fault : Int32) (t_signsA : Nat) (t_signsN : Nat) (k3 : Int64 → Int32 → Int32 → (Nat → Int32) → Option ((Int32) × (Nat → Int32))) (hk3 : ∀ (x1 : Int64) (x3 : Int32) (t_size : Int32) (t_signs : Nat → Int32) (R : (Int32) × (Nat → Int32)), k3 x1 x3 t_size t_signs = some R → Q none (wX9_addBytes cy tA R.1 t_tokensV t_startsV t_valuesV t_count t_here t_fault t_signsA t_signsN R.2) → V l D cy MX9_addBytes 0 0 0 av ws0 Q 3 [(0, .ref tA), (1, .long x1), (3, .int x3)] [] (wX9_addBytes cy tA t_size t_tokensV t_startsV t_valuesV t_count t_here t_fault t_signsA t_signsN t_signs) 0 0) (x1 : Int64) (x3 : Int32) (x4 : Int32) (t_size : Int32) (t_signs : Nat → Int32) (R : (Int32) × (Nat → Int32)) (h : bX9_addBytes_L38 F t_signsN k3 x1 x3 x4 t_size t_signs = some R) (hQ : Q none (wX9_addBytes cy tA R.1 t_tokensV t_startsV t_valuesV t_count t_here t_fault t_signsA t_signsN R.2)) : V l D cy MX9_addBytes 0 0 0 av ws0 Q 38 [(0, .ref tA), (1, .long x1), (3, .int x3), (4, .int x4)] [] (wX9_addBytes cy tA t_size t_tokensV t_startsV t_valuesV t_count t_here t_fault t_signsA t_signsN t_signs) 0 0 := by
  unfold bX9_addBytes_L38 at h
  refine V.iconst (v := (1 : Int32)) dX9_addBytes_38 (by decide) ?_
  refine V.goto (tgt := 43) dX9_addBytes_39 (by decide) ?_
  exact vX9_addBytes_L43 _ _ _ _ _ _ _ _ _ _ _ hk3  _ _ _ _ _ _ R h hQ
noncomputable def bX9_addBytes_L3 (F : Nat) (t_signsN : Nat) (k3 : Int64 → Int32 → Int32 → (Nat → Int32) → Option ((Int32) × (Nat → Int32))) (x1 : Int64) (x3 : Int32) (t_size : Int32) (t_signs : Nat → Int32) : Option ((Int32) × (Nat → Int32)) :=
  if x3 < 0 then (some (t_size, t_signs)) else (if (((x1 >>> (x3.toInt64 &&& 63)) &&& (255 : Int64)).toInt32) = (10 : Int32) then (bX9_addBytes_L38 F t_signsN k3 x1 x3 (((x1 >>> (x3.toInt64 &&& 63)) &&& (255 : Int64)).toInt32) t_size t_signs) else (if (((x1 >>> (x3.toInt64 &&& 63)) &&& (255 : Int64)).toInt32) < (32 : Int32) then (bX9_addBytes_L42 F t_signsN k3 x1 x3 (((x1 >>> (x3.toInt64 &&& 63)) &&& (255 : Int64)).toInt32) t_size t_signs) else (if (126 : Int32) < (((x1 >>> (x3.toInt64 &&& 63)) &&& (255 : Int64)).toInt32) then (bX9_addBytes_L42 F t_signsN k3 x1 x3 (((x1 >>> (x3.toInt64 &&& 63)) &&& (255 : Int64)).toInt32) t_size t_signs) else (bX9_addBytes_L38 F t_signsN k3 x1 x3 (((x1 >>> (x3.toInt64 &&& 63)) &&& (255 : Int64)).toInt32) t_size t_signs))))
theorem vbX9_addBytes_L3 {l : Launch} {D : va_G} {cy : Nat → ClassId} {av : List Value} {ws0 : va_W} {Q : Option Value → va_W → Prop} (F : Nat) (tA : Nat) (t_tokensV : Value) (t_startsV : Value) (t_valuesV : Value) (t_count : Int32) (t_here : Int32) (t_fault : Int32) (t_signsA : Nat) (t_signsN : Nat) (k3 : Int64 → Int32 → Int32 → (Nat → Int32) → Option ((Int32) × (Nat → Int32))) (hk3 : ∀ (x1 : Int64) (x3 : Int32) (t_size : Int32) (t_signs : Nat → Int32) (R : (Int32) × (Nat → Int32)), k3 x1 x3 t_size t_signs = some R → Q none (wX9_addBytes cy tA R.1 t_tokensV t_startsV t_valuesV t_count t_here t_fault t_signsA t_signsN R.2) → V l D cy MX9_addBytes 0 0 0 av ws0 Q 3 [(0, .ref tA), (1, .long x1), (3, .int x3)] [] (wX9_addBytes cy tA t_size t_tokensV t_startsV t_valuesV t_count t_here t_fault t_signsA t_signsN t_signs) 0 0) (x1 : Int64) (x3 : Int32) (t_size : Int32) (t_signs : Nat → Int32) (R : (Int32) × (Nat → Int32)) (h : bX9_addBytes_L3 F t_signsN k3 x1 x3 t_size t_signs = some R) (hQ : Q none (wX9_addBytes cy tA R.1 t_tokensV t_startsV t_valuesV t_count t_here t_fault t_signsA t_signsN R.2)) : V l D cy MX9_addBytes 0 0 0 av ws0 Q 3 [(0, .ref tA), (1, .long x1), (3, .int x3)] [] (wX9_addBytes cy tA t_size t_tokensV t_startsV t_valuesV t_count t_here t_fault t_signsA t_signsN t_signs) 0 0 := by
  unfold bX9_addBytes_L3 at h
  refine V.iload_n dX9_addBytes_3 rfl 2 rfl ?_
  refine V.if_lt (tgt := 88) dX9_addBytes_4 (by decide) (fun hc4 => ?_) (fun hc4 => ?_)
  · replace h := (if_pos hc4).symm.trans h
    have e9 := Option.some.inj h; subst e9
    exact V.vret rfl dX9_addBytes_88 (Nat.le_refl _) (Nat.le_refl _) hQ
  · replace h := (if_neg hc4).symm.trans h
    refine V.lload_n dX9_addBytes_7 rfl 1 rfl ?_
    refine V.iload_n dX9_addBytes_8 rfl 2 rfl ?_
    refine V.lshr dX9_addBytes_9 ?_
    refine V.ldc2 (v := (255 : Int64)) klX9_24 dX9_addBytes_10 ?_
    refine V.land dX9_addBytes_13 ?_
    refine V.l2i dX9_addBytes_14 ?_
    refine V.istore (lv' := [(4, .int (((x1 >>> (x3.toInt64 &&& 63)) &&& (255 : Int64)).toInt32)), (0, .ref tA), (1, .long x1), (3, .int x3)]) dX9_addBytes_15 (by decide) rfl ?_
    refine V.iload dX9_addBytes_17 0 rfl ?_
    refine V.bipush (v := (10 : Int32)) dX9_addBytes_19 (by decide) ?_
    refine V.icmp_eq (tgt := 38) dX9_addBytes_21 (by decide) (fun hc21 => ?_) (fun hc21 => ?_)
    · replace h := (if_pos hc21).symm.trans h
      refine V.lvs [1, 2, 3, 0] rfl ?_
      exact vX9_addBytes_L38 _ _ _ _ _ _ _ _ _ _ _ hk3  _ _ _ _ _ R h hQ
    · replace h := (if_neg hc21).symm.trans h
      refine V.iload dX9_addBytes_24 0 rfl ?_
      refine V.bipush (v := (32 : Int32)) dX9_addBytes_26 (by decide) ?_
      refine V.icmp_lt (tgt := 42) dX9_addBytes_28 (by decide) (fun hc28 => ?_) (fun hc28 => ?_)
      · replace h := (if_pos hc28).symm.trans h
        refine V.lvs [1, 2, 3, 0] rfl ?_
        exact vX9_addBytes_L42 _ _ _ _ _ _ _ _ _ _ _ hk3  _ _ _ _ _ R h hQ
      · replace h := (if_neg hc28).symm.trans h
        refine V.iload dX9_addBytes_31 0 rfl ?_
        refine V.bipush (v := (126 : Int32)) dX9_addBytes_33 (by decide) ?_
        refine V.icmp_gt (tgt := 42) dX9_addBytes_35 (by decide) (fun hc35 => ?_) (fun hc35 => ?_)
        · replace h := (if_pos hc35).symm.trans h
          refine V.lvs [1, 2, 3, 0] rfl ?_
          exact vX9_addBytes_L42 _ _ _ _ _ _ _ _ _ _ _ hk3  _ _ _ _ _ R h hQ
        · replace h := (if_neg hc35).symm.trans h
          refine V.lvs [1, 2, 3, 0] rfl ?_
          exact vX9_addBytes_L38 _ _ _ _ _ _ _ _ _ _ _ hk3  _ _ _ _ _ R h hQ
noncomputable def fX9_addBytes_L3 (F : Nat) (t_signsN : Nat)  : Nat → Int64 → Int32 → Int32 → (Nat → Int32) → Option ((Int32) × (Nat → Int32))
  | 0 => fun _ _ _ _ => none
  | n + 1 => bX9_addBytes_L3 F t_signsN (fX9_addBytes_L3 F t_signsN  n)
theorem vX9_addBytes_L3 {l : Launch} {D : va_G} {cy : Nat → ClassId} {av : List Value} {ws0 : va_W} {Q : Option Value → va_W → Prop} (F : Nat) (tA : Nat) (t_tokensV : Value) (t_startsV : Value) (t_valuesV : Value) (t_count : Int32) (t_here : Int32) (t_fault : Int32) (t_signsA : Nat) (t_signsN : Nat)  : ∀ (n : Nat) (x1 : Int64) (x3 : Int32) (t_size : Int32) (t_signs : Nat → Int32) (R : (Int32) × (Nat → Int32)), fX9_addBytes_L3 F t_signsN  n x1 x3 t_size t_signs = some R → Q none (wX9_addBytes cy tA R.1 t_tokensV t_startsV t_valuesV t_count t_here t_fault t_signsA t_signsN R.2) → V l D cy MX9_addBytes 0 0 0 av ws0 Q 3 [(0, .ref tA), (1, .long x1), (3, .int x3)] [] (wX9_addBytes cy tA t_size t_tokensV t_startsV t_valuesV t_count t_here t_fault t_signsA t_signsN t_signs) 0 0 := by
  intro n
  induction n with
  | zero => intro x1 x3 t_size t_signs R h; exact vNone h
  | succ n ih => intro x1 x3 t_size t_signs R h hQ; exact vbX9_addBytes_L3 F tA t_tokensV t_startsV t_valuesV t_count t_here t_fault t_signsA t_signsN _ ih x1 x3 t_size t_signs R h hQ
noncomputable def fX9_addBytes (F : Nat) (t_signsN : Nat) (a1 : Int64) (t_size : Int32) (t_signs : Nat → Int32) : Option ((Int32) × (Nat → Int32)) :=
  fX9_addBytes_L3 F t_signsN F a1 (56 : Int32) t_size t_signs
theorem CX9_addBytes {l : Launch} {D : va_G} {cy : Nat → ClassId} (F : Nat) (tA : Nat) (t_size : Int32) (t_tokensV : Value) (t_startsV : Value) (t_valuesV : Value) (t_count : Int32) (t_here : Int32) (t_fault : Int32) (t_signsA : Nat) (t_signsN : Nat) (t_signs : Nat → Int32) (a1 : Int64) (R : (Int32) × (Nat → Int32)) (h : fX9_addBytes F t_signsN a1 t_size t_signs = some R) : vMet l D cy MX9_addBytes 0 0 0 [.ref tA, .long a1] (wX9_addBytes cy tA t_size t_tokensV t_startsV t_valuesV t_count t_here t_fault t_signsA t_signsN t_signs) (fun (r : Option Value) (w : va_W) => r = none ∧ w = (wX9_addBytes cy tA R.1 t_tokensV t_startsV t_valuesV t_count t_here t_fault t_signsA t_signsN R.2)) := by
  refine vMet.start (by decide +kernel) (Nat.le_of_ble_eq_true rfl) ?_
  generalize hQe : (fun (r : Option Value) (w : va_W) => r = none ∧ w = (wX9_addBytes cy tA R.1 t_tokensV t_startsV t_valuesV t_count t_here t_fault t_signsA t_signsN R.2)) = Q
  have hQ : Q none (wX9_addBytes cy tA R.1 t_tokensV t_startsV t_valuesV t_count t_here t_fault t_signsA t_signsN R.2) := by rw [← hQe]; exact ⟨rfl, rfl⟩
  show V l D cy MX9_addBytes 0 0 0 _ _ Q 0 [(0, .ref tA), (1, .long a1)] [] _ 0 0
  show V l D cy MX9_addBytes 0 0 0 [.ref tA, .long a1] _ Q 0 [(0, .ref tA), (1, .long a1)] [] (wX9_addBytes cy tA t_size t_tokensV t_startsV t_valuesV t_count t_here t_fault t_signsA t_signsN t_signs) 0 0
  unfold fX9_addBytes at h
  refine V.bipush (v := (56 : Int32)) dX9_addBytes_0 (by decide) ?_
  refine V.istore_n (lv' := [(3, .int (56 : Int32)), (0, .ref tA), (1, .long a1)]) dX9_addBytes_2 rfl (by decide) rfl ?_
  refine V.lvs [1, 2, 0] rfl ?_
  exact vX9_addBytes_L3 _ _ _ _ _ _ _ _ _ _  _ _ _ _ _ R h hQ
theorem dX9_finish_0 : decode cX9_finish 0 = .ok (.aload_n 0, 1) := by decide +kernel
theorem dX9_finish_1 : decode cX9_finish 1 = .ok (.iconst 0, 1) := by decide +kernel
theorem dX9_finish_2 : decode cX9_finish 2 = .ok (.putfield 26, 3) := by decide +kernel
theorem dX9_finish_5 : decode cX9_finish 5 = .ok (.iload_n 1, 1) := by decide +kernel
theorem dX9_finish_6 : decode cX9_finish 6 = .ok (.ifCond .eq 7, 3) := by decide +kernel
theorem dX9_finish_9 : decode cX9_finish 9 = .ok (.iconst 0, 1) := by decide +kernel
theorem dX9_finish_10 : decode cX9_finish 10 = .ok (.goto 7, 3) := by decide +kernel
theorem dX9_finish_13 : decode cX9_finish 13 = .ok (.aload_n 0, 1) := by decide +kernel
theorem dX9_finish_14 : decode cX9_finish 14 = .ok (.getfield 36, 3) := by decide +kernel
theorem dX9_finish_17 : decode cX9_finish 17 = .ok (.ireturn, 1) := by decide +kernel
def wX9_finish (cy : Nat → ClassId) (tA : Nat) (t_signsV : Value) (t_size : Int32) (t_tokensV : Value) (t_startsV : Value) (t_valuesV : Value) (t_count : Int32) (t_here : Int32) (t_fault : Int32) : va_W :=
  [(tA, .inr (9, [t_signsV, .int t_size, t_tokensV, t_startsV, t_valuesV, .int t_count, .int t_here, .int t_fault]))]
noncomputable def bX9_finish_L17 (F : Nat) (t_fault : Int32)  (s0 : Int32) (t_size : Int32) : Option (Int32 × (Int32)) :=
  some (s0, t_size)
theorem vX9_finish_L17 {l : Launch} {D : va_G} {cy : Nat → ClassId} {av : List Value} {ws0 : va_W} {Q : Option Value → va_W → Prop} (F : Nat) (tA : Nat) (t_signsV : Value) (t_tokensV : Value) (t_startsV : Value) (t_valuesV : Value) (t_count : Int32) (t_here : Int32) (t_fault : Int32)  (s0 : Int32) (t_size : Int32) (R : Int32 × (Int32)) (h : bX9_finish_L17 F t_fault  s0 t_size = some R) (hQ : Q (some (.int R.1)) (wX9_finish cy tA t_signsV R.2 t_tokensV t_startsV t_valuesV t_count t_here t_fault)) : V l D cy MX9_finish 0 0 0 av ws0 Q 17 [] [.int s0] (wX9_finish cy tA t_signsV t_size t_tokensV t_startsV t_valuesV t_count t_here t_fault) 0 0 := by
  unfold bX9_finish_L17 at h
  have e9 := Option.some.inj h; subst e9
  exact V.iret (ty := .int) rfl rfl dX9_finish_17 (Nat.le_refl _) (Nat.le_refl _) hQ
noncomputable def fX9_finish (F : Nat) (t_fault : Int32) (a1 : Int32) (t_size : Int32) : Option (Int32 × (Int32)) :=
  if a1 = 0 then (bX9_finish_L17 F t_fault t_fault (0 : Int32)) else (bX9_finish_L17 F t_fault (0 : Int32) (0 : Int32))
theorem CX9_finish {l : Launch} {D : va_G} {cy : Nat → ClassId} (F : Nat) (tA : Nat) (t_signsV : Value) (t_size : Int32) (t_tokensV : Value) (t_startsV : Value) (t_valuesV : Value) (t_count : Int32) (t_here : Int32) (t_fault : Int32) (a1 : Int32) (R : Int32 × (Int32)) (h : fX9_finish F t_fault a1 t_size = some R) : vMet l D cy MX9_finish 0 0 0 [.ref tA, .int a1] (wX9_finish cy tA t_signsV t_size t_tokensV t_startsV t_valuesV t_count t_here t_fault) (fun (r : Option Value) (w : va_W) => r = (some (.int R.1)) ∧ w = (wX9_finish cy tA t_signsV R.2 t_tokensV t_startsV t_valuesV t_count t_here t_fault)) := by
  refine vMet.start (by decide +kernel) (Nat.le_of_ble_eq_true rfl) ?_
  generalize hQe : (fun (r : Option Value) (w : va_W) => r = (some (.int R.1)) ∧ w = (wX9_finish cy tA t_signsV R.2 t_tokensV t_startsV t_valuesV t_count t_here t_fault)) = Q
  have hQ : Q (some (.int R.1)) (wX9_finish cy tA t_signsV R.2 t_tokensV t_startsV t_valuesV t_count t_here t_fault) := by rw [← hQe]; exact ⟨rfl, rfl⟩
  show V l D cy MX9_finish 0 0 0 _ _ Q 0 [(0, .ref tA), (1, .int a1)] [] _ 0 0
  show V l D cy MX9_finish 0 0 0 [.ref tA, .int a1] _ Q 0 [(0, .ref tA), (1, .int a1)] [] (wX9_finish cy tA t_signsV t_size t_tokensV t_startsV t_valuesV t_count t_here t_fault) 0 0
  unfold fX9_finish at h
  refine V.aload_n dX9_finish_0 rfl 0 rfl ?_
  refine V.iconst (v := (0 : Int32)) dX9_finish_1 (by decide) ?_
  refine V.put (ws' := (wX9_finish cy tA t_signsV (0 : Int32) t_tokensV t_startsV t_valuesV t_count t_here t_fault)) kfX9 tyX9 tyX9_ok nmX9 0 rfl rfl 1 (by decide) klX9_26 rfl (tyX9_ok 1 (by decide)) rfl rfl (Nat.le_of_ble_eq_true rfl) dX9_finish_2 rfl ?_
  refine V.iload_n dX9_finish_5 rfl 1 rfl ?_
  refine V.if_eq (tgt := 13) dX9_finish_6 (by decide) (fun hc6 => ?_) (fun hc6 => ?_)
  · replace h := (if_pos hc6).symm.trans h
    refine V.aload_n dX9_finish_13 rfl 0 rfl ?_
    refine V.get kfX9 0 rfl rfl 7 (by decide) klX9_36 rfl dX9_finish_14 ?_
    refine V.lvs [] rfl ?_
    exact vX9_finish_L17 _ _ _ _ _ _ _ _ _   _ _ R h hQ
  · replace h := (if_neg hc6).symm.trans h
    refine V.iconst (v := (0 : Int32)) dX9_finish_9 (by decide) ?_
    refine V.goto (tgt := 17) dX9_finish_10 (by decide) ?_
    refine V.lvs [] rfl ?_
    exact vX9_finish_L17 _ _ _ _ _ _ _ _ _   _ _ R h hQ
theorem dX9_token_0 : decode cX9_token 0 = .ok (.aload_n 0, 1) := by decide +kernel
theorem dX9_token_1 : decode cX9_token 1 = .ok (.getfield 33, 3) := by decide +kernel
theorem dX9_token_4 : decode cX9_token 4 = .ok (.aload_n 0, 1) := by decide +kernel
theorem dX9_token_5 : decode cX9_token 5 = .ok (.getfield 30, 3) := by decide +kernel
theorem dX9_token_8 : decode cX9_token 8 = .ok (.if_icmp .ge 15, 3) := by decide +kernel
theorem dX9_token_11 : decode cX9_token 11 = .ok (.aload_n 0, 1) := by decide +kernel
theorem dX9_token_12 : decode cX9_token 12 = .ok (.getfield 13, 3) := by decide +kernel
theorem dX9_token_15 : decode cX9_token 15 = .ok (.aload_n 0, 1) := by decide +kernel
theorem dX9_token_16 : decode cX9_token 16 = .ok (.getfield 33, 3) := by decide +kernel
theorem dX9_token_19 : decode cX9_token 19 = .ok (.iaload, 1) := by decide +kernel
theorem dX9_token_20 : decode cX9_token 20 = .ok (.goto 5, 3) := by decide +kernel
theorem dX9_token_23 : decode cX9_token 23 = .ok (.bipush 22, 2) := by decide +kernel
theorem dX9_token_25 : decode cX9_token 25 = .ok (.ireturn, 1) := by decide +kernel
def wX9_token (cy : Nat → ClassId) (tA : Nat) (t_signsV : Value) (t_size : Int32) (t_startsV : Value) (t_valuesV : Value) (t_count : Int32) (t_here : Int32) (t_fault : Int32) (t_tokensA : Nat) (t_tokensN : Nat) (t_tokens : Nat → Int32) : va_W :=
  [(tA, .inr (9, [t_signsV, .int t_size, .ref t_tokensA, t_startsV, t_valuesV, .int t_count, .int t_here, .int t_fault])), (t_tokensA, .inl (cy 1, t_tokensN, .inl t_tokens))]
noncomputable def bX9_token_L25 (F : Nat) (t_count : Int32) (t_here : Int32) (t_tokensN : Nat) (t_tokens : Nat → Int32)  (s0 : Int32) : Option (Int32) :=
  some s0
theorem vX9_token_L25 {l : Launch} {D : va_G} {cy : Nat → ClassId} {av : List Value} {ws0 : va_W} {Q : Option Value → va_W → Prop} (F : Nat) (tA : Nat) (t_signsV : Value) (t_size : Int32) (t_startsV : Value) (t_valuesV : Value) (t_count : Int32) (t_here : Int32) (t_fault : Int32) (t_tokensA : Nat) (t_tokensN : Nat) (t_tokens : Nat → Int32)  (s0 : Int32) (R : Int32) (h : bX9_token_L25 F t_count t_here t_tokensN t_tokens  s0 = some R) (hQ : Q (some (.int R)) (wX9_token cy tA t_signsV t_size t_startsV t_valuesV t_count t_here t_fault t_tokensA t_tokensN t_tokens)) : V l D cy MX9_token 0 0 0 av ws0 Q 25 [] [.int s0] (wX9_token cy tA t_signsV t_size t_startsV t_valuesV t_count t_here t_fault t_tokensA t_tokensN t_tokens) 0 0 := by
  unfold bX9_token_L25 at h
  have e9 := Option.some.inj h; subst e9
  exact V.iret (ty := .int) rfl rfl dX9_token_25 (Nat.le_refl _) (Nat.le_refl _) hQ
noncomputable def fX9_token (F : Nat) (t_count : Int32) (t_here : Int32) (t_tokensN : Nat) (t_tokens : Nat → Int32) : Option (Int32) :=
  if t_count ≤ t_here then (bX9_token_L25 F t_count t_here t_tokensN t_tokens (22 : Int32)) else (if t_here < 0 ∨ t_tokensN ≤ t_here.toNatClampNeg then none else (bX9_token_L25 F t_count t_here t_tokensN t_tokens (t_tokens (t_here).toNatClampNeg)))
theorem CX9_token {l : Launch} {D : va_G} {cy : Nat → ClassId} (F : Nat) (tA : Nat) (t_signsV : Value) (t_size : Int32) (t_startsV : Value) (t_valuesV : Value) (t_count : Int32) (t_here : Int32) (t_fault : Int32) (t_tokensA : Nat) (t_tokensN : Nat) (t_tokens : Nat → Int32) (R : Int32) (h : fX9_token F t_count t_here t_tokensN t_tokens = some R) : vMet l D cy MX9_token 0 0 0 [.ref tA] (wX9_token cy tA t_signsV t_size t_startsV t_valuesV t_count t_here t_fault t_tokensA t_tokensN t_tokens) (fun (r : Option Value) (w : va_W) => r = (some (.int R)) ∧ w = (wX9_token cy tA t_signsV t_size t_startsV t_valuesV t_count t_here t_fault t_tokensA t_tokensN t_tokens)) := by
  refine vMet.start (by decide +kernel) (Nat.le_of_ble_eq_true rfl) ?_
  generalize hQe : (fun (r : Option Value) (w : va_W) => r = (some (.int R)) ∧ w = (wX9_token cy tA t_signsV t_size t_startsV t_valuesV t_count t_here t_fault t_tokensA t_tokensN t_tokens)) = Q
  have hQ : Q (some (.int R)) (wX9_token cy tA t_signsV t_size t_startsV t_valuesV t_count t_here t_fault t_tokensA t_tokensN t_tokens) := by rw [← hQe]; exact ⟨rfl, rfl⟩
  show V l D cy MX9_token 0 0 0 _ _ Q 0 [(0, .ref tA)] [] _ 0 0
  show V l D cy MX9_token 0 0 0 [.ref tA] _ Q 0 [(0, .ref tA)] [] (wX9_token cy tA t_signsV t_size t_startsV t_valuesV t_count t_here t_fault t_tokensA t_tokensN t_tokens) 0 0
  unfold fX9_token at h
  refine V.aload_n dX9_token_0 rfl 0 rfl ?_
  refine V.get kfX9 0 rfl rfl 6 (by decide) klX9_33 rfl dX9_token_1 ?_
  refine V.aload_n dX9_token_4 rfl 0 rfl ?_
  refine V.get kfX9 0 rfl rfl 5 (by decide) klX9_30 rfl dX9_token_5 ?_
  refine V.icmp_ge (tgt := 23) dX9_token_8 (by decide) (fun hc8 => ?_) (fun hc8 => ?_)
  · replace h := (if_pos hc8).symm.trans h
    refine V.bipush (v := (22 : Int32)) dX9_token_23 (by decide) ?_
    refine V.lvs [] rfl ?_
    exact vX9_token_L25 _ _ _ _ _ _ _ _ _ _ _ _   _ R h hQ
  · replace h := (if_neg hc8).symm.trans h
    refine V.aload_n dX9_token_11 rfl 0 rfl ?_
    refine V.get kfX9 0 rfl rfl 2 (by decide) klX9_13 rfl dX9_token_12 ?_
    refine V.aload_n dX9_token_15 rfl 0 rfl ?_
    refine V.get kfX9 0 rfl rfl 6 (by decide) klX9_33 rfl dX9_token_16 ?_
    by_cases hb19 : t_here < 0 ∨ t_tokensN ≤ t_here.toNatClampNeg
    · exact vNone ((if_pos hb19).symm.trans h)
    replace h := (if_neg hb19).symm.trans h
    refine V.iald dX9_token_19 1 rfl hb19 ?_
    refine V.goto (tgt := 25) dX9_token_20 (by decide) ?_
    refine V.lvs [] rfl ?_
    exact vX9_token_L25 _ _ _ _ _ _ _ _ _ _ _ _   _ R h hQ
theorem dX9_name_0 : decode cX9_name 0 = .ok (.aload_n 0, 1) := by decide +kernel
theorem dX9_name_1 : decode cX9_name 1 = .ok (.getfield 33, 3) := by decide +kernel
theorem dX9_name_4 : decode cX9_name 4 = .ok (.aload_n 0, 1) := by decide +kernel
theorem dX9_name_5 : decode cX9_name 5 = .ok (.getfield 30, 3) := by decide +kernel
theorem dX9_name_8 : decode cX9_name 8 = .ok (.if_icmp .ge 15, 3) := by decide +kernel
theorem dX9_name_11 : decode cX9_name 11 = .ok (.aload_n 0, 1) := by decide +kernel
theorem dX9_name_12 : decode cX9_name 12 = .ok (.getfield 20, 3) := by decide +kernel
theorem dX9_name_15 : decode cX9_name 15 = .ok (.aload_n 0, 1) := by decide +kernel
theorem dX9_name_16 : decode cX9_name 16 = .ok (.getfield 33, 3) := by decide +kernel
theorem dX9_name_19 : decode cX9_name 19 = .ok (.laload, 1) := by decide +kernel
theorem dX9_name_20 : decode cX9_name 20 = .ok (.goto 4, 3) := by decide +kernel
theorem dX9_name_23 : decode cX9_name 23 = .ok (.lconst 0, 1) := by decide +kernel
theorem dX9_name_24 : decode cX9_name 24 = .ok (.lreturn, 1) := by decide +kernel
def wX9_name (cy : Nat → ClassId) (tA : Nat) (t_signsV : Value) (t_size : Int32) (t_tokensV : Value) (t_startsV : Value) (t_count : Int32) (t_here : Int32) (t_fault : Int32) (t_valuesA : Nat) (t_valuesN : Nat) (t_values : Nat → Int64) : va_W :=
  [(tA, .inr (9, [t_signsV, .int t_size, t_tokensV, t_startsV, .ref t_valuesA, .int t_count, .int t_here, .int t_fault])), (t_valuesA, .inl (cy 2, t_valuesN, .inr (.inl t_values)))]
noncomputable def bX9_name_L24 (F : Nat) (t_count : Int32) (t_here : Int32) (t_valuesN : Nat) (t_values : Nat → Int64)  (s0 : Int64) : Option (Int64) :=
  some s0
theorem vX9_name_L24 {l : Launch} {D : va_G} {cy : Nat → ClassId} {av : List Value} {ws0 : va_W} {Q : Option Value → va_W → Prop} (F : Nat) (tA : Nat) (t_signsV : Value) (t_size : Int32) (t_tokensV : Value) (t_startsV : Value) (t_count : Int32) (t_here : Int32) (t_fault : Int32) (t_valuesA : Nat) (t_valuesN : Nat) (t_values : Nat → Int64)  (s0 : Int64) (R : Int64) (h : bX9_name_L24 F t_count t_here t_valuesN t_values  s0 = some R) (hQ : Q (some (.long R)) (wX9_name cy tA t_signsV t_size t_tokensV t_startsV t_count t_here t_fault t_valuesA t_valuesN t_values)) : V l D cy MX9_name 0 0 0 av ws0 Q 24 [] [.long s0] (wX9_name cy tA t_signsV t_size t_tokensV t_startsV t_count t_here t_fault t_valuesA t_valuesN t_values) 0 0 := by
  unfold bX9_name_L24 at h
  have e9 := Option.some.inj h; subst e9
  exact V.lret rfl dX9_name_24 (Nat.le_refl _) (Nat.le_refl _) hQ
noncomputable def fX9_name (F : Nat) (t_count : Int32) (t_here : Int32) (t_valuesN : Nat) (t_values : Nat → Int64) : Option (Int64) :=
  if t_count ≤ t_here then (bX9_name_L24 F t_count t_here t_valuesN t_values (0 : Int64)) else (if t_here < 0 ∨ t_valuesN ≤ t_here.toNatClampNeg then none else (bX9_name_L24 F t_count t_here t_valuesN t_values (t_values (t_here).toNatClampNeg)))
theorem CX9_name {l : Launch} {D : va_G} {cy : Nat → ClassId} (F : Nat) (tA : Nat) (t_signsV : Value) (t_size : Int32) (t_tokensV : Value) (t_startsV : Value) (t_count : Int32) (t_here : Int32) (t_fault : Int32) (t_valuesA : Nat) (t_valuesN : Nat) (t_values : Nat → Int64) (R : Int64) (h : fX9_name F t_count t_here t_valuesN t_values = some R) : vMet l D cy MX9_name 0 0 0 [.ref tA] (wX9_name cy tA t_signsV t_size t_tokensV t_startsV t_count t_here t_fault t_valuesA t_valuesN t_values) (fun (r : Option Value) (w : va_W) => r = (some (.long R)) ∧ w = (wX9_name cy tA t_signsV t_size t_tokensV t_startsV t_count t_here t_fault t_valuesA t_valuesN t_values)) := by
  refine vMet.start (by decide +kernel) (Nat.le_of_ble_eq_true rfl) ?_
  generalize hQe : (fun (r : Option Value) (w : va_W) => r = (some (.long R)) ∧ w = (wX9_name cy tA t_signsV t_size t_tokensV t_startsV t_count t_here t_fault t_valuesA t_valuesN t_values)) = Q
  have hQ : Q (some (.long R)) (wX9_name cy tA t_signsV t_size t_tokensV t_startsV t_count t_here t_fault t_valuesA t_valuesN t_values) := by rw [← hQe]; exact ⟨rfl, rfl⟩
  show V l D cy MX9_name 0 0 0 _ _ Q 0 [(0, .ref tA)] [] _ 0 0
  show V l D cy MX9_name 0 0 0 [.ref tA] _ Q 0 [(0, .ref tA)] [] (wX9_name cy tA t_signsV t_size t_tokensV t_startsV t_count t_here t_fault t_valuesA t_valuesN t_values) 0 0
  unfold fX9_name at h
  refine V.aload_n dX9_name_0 rfl 0 rfl ?_
  refine V.get kfX9 0 rfl rfl 6 (by decide) klX9_33 rfl dX9_name_1 ?_
  refine V.aload_n dX9_name_4 rfl 0 rfl ?_
  refine V.get kfX9 0 rfl rfl 5 (by decide) klX9_30 rfl dX9_name_5 ?_
  refine V.icmp_ge (tgt := 23) dX9_name_8 (by decide) (fun hc8 => ?_) (fun hc8 => ?_)
  · replace h := (if_pos hc8).symm.trans h
    refine V.lconst (v := (0 : Int64)) dX9_name_23 (by decide) ?_
    refine V.lvs [] rfl ?_
    exact vX9_name_L24 _ _ _ _ _ _ _ _ _ _ _ _   _ R h hQ
  · replace h := (if_neg hc8).symm.trans h
    refine V.aload_n dX9_name_11 rfl 0 rfl ?_
    refine V.get kfX9 0 rfl rfl 4 (by decide) klX9_20 rfl dX9_name_12 ?_
    refine V.aload_n dX9_name_15 rfl 0 rfl ?_
    refine V.get kfX9 0 rfl rfl 6 (by decide) klX9_33 rfl dX9_name_16 ?_
    by_cases hb19 : t_here < 0 ∨ t_valuesN ≤ t_here.toNatClampNeg
    · exact vNone ((if_pos hb19).symm.trans h)
    replace h := (if_neg hb19).symm.trans h
    refine V.lald dX9_name_19 1 rfl hb19 ?_
    refine V.goto (tgt := 24) dX9_name_20 (by decide) ?_
    refine V.lvs [] rfl ?_
    exact vX9_name_L24 _ _ _ _ _ _ _ _ _ _ _ _   _ R h hQ
theorem dX9_step_0 : decode cX9_step 0 = .ok (.aload_n 0, 1) := by decide +kernel
theorem dX9_step_1 : decode cX9_step 1 = .ok (.getfield 33, 3) := by decide +kernel
theorem dX9_step_4 : decode cX9_step 4 = .ok (.iconst 1, 1) := by decide +kernel
theorem dX9_step_5 : decode cX9_step 5 = .ok (.iadd, 1) := by decide +kernel
theorem dX9_step_6 : decode cX9_step 6 = .ok (.aload_n 0, 1) := by decide +kernel
theorem dX9_step_7 : decode cX9_step 7 = .ok (.getfield 30, 3) := by decide +kernel
theorem dX9_step_10 : decode cX9_step 10 = .ok (.if_icmp .ge 13, 3) := by decide +kernel
theorem dX9_step_13 : decode cX9_step 13 = .ok (.aload_n 0, 1) := by decide +kernel
theorem dX9_step_14 : decode cX9_step 14 = .ok (.dup, 1) := by decide +kernel
theorem dX9_step_15 : decode cX9_step 15 = .ok (.getfield 33, 3) := by decide +kernel
theorem dX9_step_18 : decode cX9_step 18 = .ok (.iconst 1, 1) := by decide +kernel
theorem dX9_step_19 : decode cX9_step 19 = .ok (.iadd, 1) := by decide +kernel
theorem dX9_step_20 : decode cX9_step 20 = .ok (.putfield 33, 3) := by decide +kernel
theorem dX9_step_23 : decode cX9_step 23 = .ok (.return_, 1) := by decide +kernel
def wX9_step (cy : Nat → ClassId) (tA : Nat) (t_signsV : Value) (t_size : Int32) (t_tokensV : Value) (t_startsV : Value) (t_valuesV : Value) (t_count : Int32) (t_here : Int32) (t_fault : Int32) : va_W :=
  [(tA, .inr (9, [t_signsV, .int t_size, t_tokensV, t_startsV, t_valuesV, .int t_count, .int t_here, .int t_fault]))]
noncomputable def bX9_step_L23 (F : Nat) (t_count : Int32)  (t_here : Int32) : Option ((Int32)) :=
  some t_here
theorem vX9_step_L23 {l : Launch} {D : va_G} {cy : Nat → ClassId} {av : List Value} {ws0 : va_W} {Q : Option Value → va_W → Prop} (F : Nat) (tA : Nat) (t_signsV : Value) (t_size : Int32) (t_tokensV : Value) (t_startsV : Value) (t_valuesV : Value) (t_count : Int32) (t_fault : Int32)  (t_here : Int32) (R : (Int32)) (h : bX9_step_L23 F t_count  t_here = some R) (hQ : Q none (wX9_step cy tA t_signsV t_size t_tokensV t_startsV t_valuesV t_count R t_fault)) : V l D cy MX9_step 0 0 0 av ws0 Q 23 [] [] (wX9_step cy tA t_signsV t_size t_tokensV t_startsV t_valuesV t_count t_here t_fault) 0 0 := by
  unfold bX9_step_L23 at h
  have e9 := Option.some.inj h; subst e9
  exact V.vret rfl dX9_step_23 (Nat.le_refl _) (Nat.le_refl _) hQ
noncomputable def fX9_step (F : Nat) (t_count : Int32) (t_here : Int32) : Option ((Int32)) :=
  if t_count ≤ (t_here + (1 : Int32)) then (bX9_step_L23 F t_count t_here) else (bX9_step_L23 F t_count (t_here + (1 : Int32)))
theorem CX9_step {l : Launch} {D : va_G} {cy : Nat → ClassId} (F : Nat) (tA : Nat) (t_signsV : Value) (t_size : Int32) (t_tokensV : Value) (t_startsV : Value) (t_valuesV : Value) (t_count : Int32) (t_here : Int32) (t_fault : Int32) (R : (Int32)) (h : fX9_step F t_count t_here = some R) : vMet l D cy MX9_step 0 0 0 [.ref tA] (wX9_step cy tA t_signsV t_size t_tokensV t_startsV t_valuesV t_count t_here t_fault) (fun (r : Option Value) (w : va_W) => r = none ∧ w = (wX9_step cy tA t_signsV t_size t_tokensV t_startsV t_valuesV t_count R t_fault)) := by
  refine vMet.start (by decide +kernel) (Nat.le_of_ble_eq_true rfl) ?_
  generalize hQe : (fun (r : Option Value) (w : va_W) => r = none ∧ w = (wX9_step cy tA t_signsV t_size t_tokensV t_startsV t_valuesV t_count R t_fault)) = Q
  have hQ : Q none (wX9_step cy tA t_signsV t_size t_tokensV t_startsV t_valuesV t_count R t_fault) := by rw [← hQe]; exact ⟨rfl, rfl⟩
  show V l D cy MX9_step 0 0 0 _ _ Q 0 [(0, .ref tA)] [] _ 0 0
  show V l D cy MX9_step 0 0 0 [.ref tA] _ Q 0 [(0, .ref tA)] [] (wX9_step cy tA t_signsV t_size t_tokensV t_startsV t_valuesV t_count t_here t_fault) 0 0
  unfold fX9_step at h
  refine V.aload_n dX9_step_0 rfl 0 rfl ?_
  refine V.get kfX9 0 rfl rfl 6 (by decide) klX9_33 rfl dX9_step_1 ?_
  refine V.iconst (v := (1 : Int32)) dX9_step_4 (by decide) ?_
  refine V.iadd dX9_step_5 ?_
  refine V.aload_n dX9_step_6 rfl 0 rfl ?_
  refine V.get kfX9 0 rfl rfl 5 (by decide) klX9_30 rfl dX9_step_7 ?_
  refine V.icmp_ge (tgt := 23) dX9_step_10 (by decide) (fun hc10 => ?_) (fun hc10 => ?_)
  · replace h := (if_pos hc10).symm.trans h
    refine V.lvs [] rfl ?_
    exact vX9_step_L23 _ _ _ _ _ _ _ _ _   _ R h hQ
  · replace h := (if_neg hc10).symm.trans h
    refine V.aload_n dX9_step_13 rfl 0 rfl ?_
    refine V.dup dX9_step_14 rfl ?_
    refine V.get kfX9 0 rfl rfl 6 (by decide) klX9_33 rfl dX9_step_15 ?_
    refine V.iconst (v := (1 : Int32)) dX9_step_18 (by decide) ?_
    refine V.iadd dX9_step_19 ?_
    refine V.put (ws' := (wX9_step cy tA t_signsV t_size t_tokensV t_startsV t_valuesV t_count (t_here + (1 : Int32)) t_fault)) kfX9 tyX9 tyX9_ok nmX9 0 rfl rfl 6 (by decide) klX9_33 rfl (tyX9_ok 6 (by decide)) rfl rfl (Nat.le_of_ble_eq_true rfl) dX9_step_20 rfl ?_
    refine V.lvs [] rfl ?_
    exact vX9_step_L23 _ _ _ _ _ _ _ _ _   _ R h hQ
theorem dX9_wrong_0 : decode cX9_wrong 0 = .ok (.aload_n 0, 1) := by decide +kernel
theorem dX9_wrong_1 : decode cX9_wrong 1 = .ok (.iload_n 1, 1) := by decide +kernel
theorem dX9_wrong_2 : decode cX9_wrong 2 = .ok (.bipush 16, 2) := by decide +kernel
theorem dX9_wrong_4 : decode cX9_wrong 4 = .ok (.aload_n 0, 1) := by decide +kernel
theorem dX9_wrong_5 : decode cX9_wrong 5 = .ok (.getfield 33, 3) := by decide +kernel
theorem dX9_wrong_8 : decode cX9_wrong 8 = .ok (.aload_n 0, 1) := by decide +kernel
theorem dX9_wrong_9 : decode cX9_wrong 9 = .ok (.getfield 30, 3) := by decide +kernel
theorem dX9_wrong_12 : decode cX9_wrong 12 = .ok (.if_icmp .ge 15, 3) := by decide +kernel
theorem dX9_wrong_15 : decode cX9_wrong 15 = .ok (.aload_n 0, 1) := by decide +kernel
theorem dX9_wrong_16 : decode cX9_wrong 16 = .ok (.getfield 17, 3) := by decide +kernel
theorem dX9_wrong_19 : decode cX9_wrong 19 = .ok (.aload_n 0, 1) := by decide +kernel
theorem dX9_wrong_20 : decode cX9_wrong 20 = .ok (.getfield 33, 3) := by decide +kernel
theorem dX9_wrong_23 : decode cX9_wrong 23 = .ok (.iaload, 1) := by decide +kernel
theorem dX9_wrong_24 : decode cX9_wrong 24 = .ok (.goto 7, 3) := by decide +kernel
theorem dX9_wrong_27 : decode cX9_wrong 27 = .ok (.aload_n 0, 1) := by decide +kernel
theorem dX9_wrong_28 : decode cX9_wrong 28 = .ok (.getfield 26, 3) := by decide +kernel
theorem dX9_wrong_31 : decode cX9_wrong 31 = .ok (.imul, 1) := by decide +kernel
theorem dX9_wrong_32 : decode cX9_wrong 32 = .ok (.iadd, 1) := by decide +kernel
theorem dX9_wrong_33 : decode cX9_wrong 33 = .ok (.putfield 36, 3) := by decide +kernel
theorem dX9_wrong_36 : decode cX9_wrong 36 = .ok (.iconst 0, 1) := by decide +kernel
theorem dX9_wrong_37 : decode cX9_wrong 37 = .ok (.ireturn, 1) := by decide +kernel
def wX9_wrong (cy : Nat → ClassId) (tA : Nat) (t_signsV : Value) (t_size : Int32) (t_tokensV : Value) (t_valuesV : Value) (t_count : Int32) (t_here : Int32) (t_fault : Int32) (t_startsA : Nat) (t_startsN : Nat) (t_starts : Nat → Int32) : va_W :=
  [(tA, .inr (9, [t_signsV, .int t_size, t_tokensV, .ref t_startsA, t_valuesV, .int t_count, .int t_here, .int t_fault])), (t_startsA, .inl (cy 1, t_startsN, .inl t_starts))]
noncomputable def bX9_wrong_L31 (F : Nat) (t_size : Int32) (t_count : Int32) (t_here : Int32) (t_startsN : Nat) (t_starts : Nat → Int32)  (s1 : Int32) (s2 : Int32) (s3 : Int32) (t_fault : Int32) : Option (Int32 × (Int32)) :=
  some ((0 : Int32), s1 + (s2 * s3))
theorem vX9_wrong_L31 {l : Launch} {D : va_G} {cy : Nat → ClassId} {av : List Value} {ws0 : va_W} {Q : Option Value → va_W → Prop} (F : Nat) (tA : Nat) (t_signsV : Value) (t_size : Int32) (t_tokensV : Value) (t_valuesV : Value) (t_count : Int32) (t_here : Int32) (t_startsA : Nat) (t_startsN : Nat) (t_starts : Nat → Int32)  (s1 : Int32) (s2 : Int32) (s3 : Int32) (t_fault : Int32) (R : Int32 × (Int32)) (h : bX9_wrong_L31 F t_size t_count t_here t_startsN t_starts  s1 s2 s3 t_fault = some R) (hQ : Q (some (.int R.1)) (wX9_wrong cy tA t_signsV t_size t_tokensV t_valuesV t_count t_here R.2 t_startsA t_startsN t_starts)) : V l D cy MX9_wrong 0 0 0 av ws0 Q 31 [] [.int s3, .int s2, .int s1, .ref tA] (wX9_wrong cy tA t_signsV t_size t_tokensV t_valuesV t_count t_here t_fault t_startsA t_startsN t_starts) 0 0 := by
  unfold bX9_wrong_L31 at h
  refine V.imul dX9_wrong_31 ?_
  refine V.iadd dX9_wrong_32 ?_
  refine V.put (ws' := (wX9_wrong cy tA t_signsV t_size t_tokensV t_valuesV t_count t_here (s1 + (s2 * s3)) t_startsA t_startsN t_starts)) kfX9 tyX9 tyX9_ok nmX9 0 rfl rfl 7 (by decide) klX9_36 rfl (tyX9_ok 7 (by decide)) rfl rfl (Nat.le_of_ble_eq_true rfl) dX9_wrong_33 rfl ?_
  refine V.iconst (v := (0 : Int32)) dX9_wrong_36 (by decide) ?_
  have e9 := Option.some.inj h; subst e9
  exact V.iret (ty := .boolean) rfl rfl dX9_wrong_37 (Nat.le_refl _) (Nat.le_refl _) hQ
noncomputable def fX9_wrong (F : Nat) (t_size : Int32) (t_count : Int32) (t_here : Int32) (t_startsN : Nat) (t_starts : Nat → Int32) (a1 : Int32) (t_fault : Int32) : Option (Int32 × (Int32)) :=
  if t_count ≤ t_here then (bX9_wrong_L31 F t_size t_count t_here t_startsN t_starts a1 (16 : Int32) t_size t_fault) else (if t_here < 0 ∨ t_startsN ≤ t_here.toNatClampNeg then none else (bX9_wrong_L31 F t_size t_count t_here t_startsN t_starts a1 (16 : Int32) (t_starts (t_here).toNatClampNeg) t_fault))
theorem CX9_wrong {l : Launch} {D : va_G} {cy : Nat → ClassId} (F : Nat) (tA : Nat) (t_signsV : Value) (t_size : Int32) (t_tokensV : Value) (t_valuesV : Value) (t_count : Int32) (t_here : Int32) (t_fault : Int32) (t_startsA : Nat) (t_startsN : Nat) (t_starts : Nat → Int32) (a1 : Int32) (R : Int32 × (Int32)) (h : fX9_wrong F t_size t_count t_here t_startsN t_starts a1 t_fault = some R) : vMet l D cy MX9_wrong 0 0 0 [.ref tA, .int a1] (wX9_wrong cy tA t_signsV t_size t_tokensV t_valuesV t_count t_here t_fault t_startsA t_startsN t_starts) (fun (r : Option Value) (w : va_W) => r = (some (.int R.1)) ∧ w = (wX9_wrong cy tA t_signsV t_size t_tokensV t_valuesV t_count t_here R.2 t_startsA t_startsN t_starts)) := by
  refine vMet.start (by decide +kernel) (Nat.le_of_ble_eq_true rfl) ?_
  generalize hQe : (fun (r : Option Value) (w : va_W) => r = (some (.int R.1)) ∧ w = (wX9_wrong cy tA t_signsV t_size t_tokensV t_valuesV t_count t_here R.2 t_startsA t_startsN t_starts)) = Q
  have hQ : Q (some (.int R.1)) (wX9_wrong cy tA t_signsV t_size t_tokensV t_valuesV t_count t_here R.2 t_startsA t_startsN t_starts) := by rw [← hQe]; exact ⟨rfl, rfl⟩
  show V l D cy MX9_wrong 0 0 0 _ _ Q 0 [(0, .ref tA), (1, .int a1)] [] _ 0 0
  show V l D cy MX9_wrong 0 0 0 [.ref tA, .int a1] _ Q 0 [(0, .ref tA), (1, .int a1)] [] (wX9_wrong cy tA t_signsV t_size t_tokensV t_valuesV t_count t_here t_fault t_startsA t_startsN t_starts) 0 0
  unfold fX9_wrong at h
  refine V.aload_n dX9_wrong_0 rfl 0 rfl ?_
  refine V.iload_n dX9_wrong_1 rfl 1 rfl ?_
  refine V.bipush (v := (16 : Int32)) dX9_wrong_2 (by decide) ?_
  refine V.aload_n dX9_wrong_4 rfl 0 rfl ?_
  refine V.get kfX9 0 rfl rfl 6 (by decide) klX9_33 rfl dX9_wrong_5 ?_
  refine V.aload_n dX9_wrong_8 rfl 0 rfl ?_
  refine V.get kfX9 0 rfl rfl 5 (by decide) klX9_30 rfl dX9_wrong_9 ?_
  refine V.icmp_ge (tgt := 27) dX9_wrong_12 (by decide) (fun hc12 => ?_) (fun hc12 => ?_)
  · replace h := (if_pos hc12).symm.trans h
    refine V.aload_n dX9_wrong_27 rfl 0 rfl ?_
    refine V.get kfX9 0 rfl rfl 1 (by decide) klX9_26 rfl dX9_wrong_28 ?_
    refine V.lvs [] rfl ?_
    exact vX9_wrong_L31 _ _ _ _ _ _ _ _ _ _ _   _ _ _ _ R h hQ
  · replace h := (if_neg hc12).symm.trans h
    refine V.aload_n dX9_wrong_15 rfl 0 rfl ?_
    refine V.get kfX9 0 rfl rfl 3 (by decide) klX9_17 rfl dX9_wrong_16 ?_
    refine V.aload_n dX9_wrong_19 rfl 0 rfl ?_
    refine V.get kfX9 0 rfl rfl 6 (by decide) klX9_33 rfl dX9_wrong_20 ?_
    by_cases hb23 : t_here < 0 ∨ t_startsN ≤ t_here.toNatClampNeg
    · exact vNone ((if_pos hb23).symm.trans h)
    replace h := (if_neg hb23).symm.trans h
    refine V.iald dX9_wrong_23 1 rfl hb23 ?_
    refine V.goto (tgt := 31) dX9_wrong_24 (by decide) ?_
    refine V.lvs [] rfl ?_
    exact vX9_wrong_L31 _ _ _ _ _ _ _ _ _ _ _   _ _ _ _ R h hQ
theorem dX9_expect_0 : decode cX9_expect 0 = .ok (.aload_n 0, 1) := by decide +kernel
theorem dX9_expect_1 : decode cX9_expect 1 = .ok (.invokevirtual 68, 3) := by decide +kernel
theorem dX9_expect_4 : decode cX9_expect 4 = .ok (.iload_n 1, 1) := by decide +kernel
theorem dX9_expect_5 : decode cX9_expect 5 = .ok (.if_icmp .eq 9, 3) := by decide +kernel
theorem dX9_expect_8 : decode cX9_expect 8 = .ok (.aload_n 0, 1) := by decide +kernel
theorem dX9_expect_9 : decode cX9_expect 9 = .ok (.iconst 1, 1) := by decide +kernel
theorem dX9_expect_10 : decode cX9_expect 10 = .ok (.invokevirtual 72, 3) := by decide +kernel
theorem dX9_expect_13 : decode cX9_expect 13 = .ok (.ireturn, 1) := by decide +kernel
theorem dX9_expect_14 : decode cX9_expect 14 = .ok (.aload_n 0, 1) := by decide +kernel
theorem dX9_expect_15 : decode cX9_expect 15 = .ok (.invokevirtual 75, 3) := by decide +kernel
theorem dX9_expect_18 : decode cX9_expect 18 = .ok (.iconst 1, 1) := by decide +kernel
theorem dX9_expect_19 : decode cX9_expect 19 = .ok (.ireturn, 1) := by decide +kernel
def wX9_expect (cy : Nat → ClassId) (tA : Nat) (t_signsV : Value) (t_size : Int32) (t_valuesV : Value) (t_count : Int32) (t_here : Int32) (t_fault : Int32) (t_tokensA : Nat) (t_tokensN : Nat) (t_tokens : Nat → Int32) (t_startsA : Nat) (t_startsN : Nat) (t_starts : Nat → Int32) : va_W :=
  [(tA, .inr (9, [t_signsV, .int t_size, .ref t_tokensA, .ref t_startsA, t_valuesV, .int t_count, .int t_here, .int t_fault])), (t_tokensA, .inl (cy 1, t_tokensN, .inl t_tokens)), (t_startsA, .inl (cy 1, t_startsN, .inl t_starts))]
noncomputable def fX9_expect (F : Nat) (t_size : Int32) (t_count : Int32) (t_tokensN : Nat) (t_tokens : Nat → Int32) (t_startsN : Nat) (t_starts : Nat → Int32) (a1 : Int32) (t_here : Int32) (t_fault : Int32) : Option (Int32 × (Int32) × (Int32)) :=
  (fX9_token F t_count t_here t_tokensN t_tokens).bind fun R1 => (if R1 = a1 then ((fX9_step F t_count t_here).bind fun R15 => (some ((1 : Int32), R15, t_fault))) else ((fX9_wrong F t_size t_count t_here t_startsN t_starts (1 : Int32) t_fault).bind fun R10 => (if R10.1 = 0 ∨ R10.1 = 1 then some (R10.1, t_here, R10.2) else none)))
theorem CX9_expect {l : Launch} {D : va_G} {cy : Nat → ClassId} (F : Nat) (tA : Nat) (t_signsV : Value) (t_size : Int32) (t_valuesV : Value) (t_count : Int32) (t_here : Int32) (t_fault : Int32) (t_tokensA : Nat) (t_tokensN : Nat) (t_tokens : Nat → Int32) (t_startsA : Nat) (t_startsN : Nat) (t_starts : Nat → Int32) (a1 : Int32) (R : Int32 × (Int32) × (Int32)) (h : fX9_expect F t_size t_count t_tokensN t_tokens t_startsN t_starts a1 t_here t_fault = some R) : vMet l D cy MX9_expect 1 0 0 [.ref tA, .int a1] (wX9_expect cy tA t_signsV t_size t_valuesV t_count t_here t_fault t_tokensA t_tokensN t_tokens t_startsA t_startsN t_starts) (fun (r : Option Value) (w : va_W) => r = (some (.int R.1)) ∧ w = (wX9_expect cy tA t_signsV t_size t_valuesV t_count R.2.1 R.2.2 t_tokensA t_tokensN t_tokens t_startsA t_startsN t_starts)) := by
  refine vMet.start (by decide +kernel) (Nat.le_of_ble_eq_true rfl) ?_
  generalize hQe : (fun (r : Option Value) (w : va_W) => r = (some (.int R.1)) ∧ w = (wX9_expect cy tA t_signsV t_size t_valuesV t_count R.2.1 R.2.2 t_tokensA t_tokensN t_tokens t_startsA t_startsN t_starts)) = Q
  have hQ : Q (some (.int R.1)) (wX9_expect cy tA t_signsV t_size t_valuesV t_count R.2.1 R.2.2 t_tokensA t_tokensN t_tokens t_startsA t_startsN t_starts) := by rw [← hQe]; exact ⟨rfl, rfl⟩
  show V l D cy MX9_expect 1 0 0 _ _ Q 0 [(0, .ref tA), (1, .int a1)] [] _ 0 0
  show V l D cy MX9_expect 1 0 0 [.ref tA, .int a1] _ Q 0 [(0, .ref tA), (1, .int a1)] [] (wX9_expect cy tA t_signsV t_size t_valuesV t_count t_here t_fault t_tokensA t_tokensN t_tokens t_startsA t_startsN t_starts) 0 0
  unfold fX9_expect at h
  refine V.aload_n dX9_expect_0 rfl 0 rfl ?_
  obtain ⟨R1, hg1, h⟩ := Option.bind_eq_some_iff.mp h
  refine V.callV (As := []) (rest := []) (wc := (wX9_token cy tA t_signsV t_size (.ref t_startsA) t_valuesV t_count t_here t_fault t_tokensA t_tokensN t_tokens)) (wr := [(t_startsA, .inl (cy 1, t_startsN, .inl t_starts))]) (q0 := 0) (CX9_token F tA t_signsV t_size (.ref t_startsA) t_valuesV t_count t_here t_fault t_tokensA t_tokensN t_tokens R1 hg1) kvX9_token klX9_68 [0, 1] [2] rfl rfl (by decide) (by decide) (by decide) rfl rfl rfl rfl dX9_expect_1 ⟨by decide, by decide, by decide, by decide⟩ (Nat.le_of_ble_eq_true rfl) (fun r w1 hq => ?_)
  obtain ⟨rfl, rfl⟩ := hq
  refine V.cells (ws' := (wX9_expect cy tA t_signsV t_size t_valuesV t_count t_here t_fault t_tokensA t_tokensN t_tokens t_startsA t_startsN t_starts)) [1, 2, 0] (by decide) rfl ?_
  show V l D cy MX9_expect 1 0 0 _ _ _ 4 [(0, .ref tA), (1, .int a1)] [.int R1] (wX9_expect cy tA t_signsV t_size t_valuesV t_count t_here t_fault t_tokensA t_tokensN t_tokens t_startsA t_startsN t_starts) 0 0
  refine V.iload_n dX9_expect_4 rfl 1 rfl ?_
  refine V.icmp_eq (tgt := 14) dX9_expect_5 (by decide) (fun hc5 => ?_) (fun hc5 => ?_)
  · replace h := (if_pos hc5).symm.trans h
    refine V.aload_n dX9_expect_14 rfl 0 rfl ?_
    obtain ⟨R15, hg15, h⟩ := Option.bind_eq_some_iff.mp h
    refine V.callV (As := []) (rest := []) (wc := (wX9_step cy tA t_signsV t_size (.ref t_tokensA) (.ref t_startsA) t_valuesV t_count t_here t_fault)) (wr := [(t_tokensA, .inl (cy 1, t_tokensN, .inl t_tokens)), (t_startsA, .inl (cy 1, t_startsN, .inl t_starts))]) (q0 := 0) (CX9_step F tA t_signsV t_size (.ref t_tokensA) (.ref t_startsA) t_valuesV t_count t_here t_fault R15 hg15) kvX9_step klX9_75 [0] [1, 2] rfl rfl (by decide) (by decide) (by decide) rfl rfl rfl rfl dX9_expect_15 ⟨by decide, by decide, by decide, by decide⟩ (Nat.le_of_ble_eq_true rfl) (fun r w1 hq => ?_)
    obtain ⟨rfl, rfl⟩ := hq
    refine V.cells (ws' := (wX9_expect cy tA t_signsV t_size t_valuesV t_count R15 t_fault t_tokensA t_tokensN t_tokens t_startsA t_startsN t_starts)) [2, 0, 1] (by decide) rfl ?_
    show V l D cy MX9_expect 1 0 0 _ _ _ 18 [(0, .ref tA), (1, .int a1)] [] (wX9_expect cy tA t_signsV t_size t_valuesV t_count R15 t_fault t_tokensA t_tokensN t_tokens t_startsA t_startsN t_starts) 0 0
    refine V.iconst (v := (1 : Int32)) dX9_expect_18 (by decide) ?_
    have e9 := Option.some.inj h; subst e9
    exact V.iret (ty := .boolean) rfl rfl dX9_expect_19 (Nat.le_refl _) (Nat.le_refl _) hQ
  · replace h := (if_neg hc5).symm.trans h
    refine V.aload_n dX9_expect_8 rfl 0 rfl ?_
    refine V.iconst (v := (1 : Int32)) dX9_expect_9 (by decide) ?_
    obtain ⟨R10, hg10, h⟩ := Option.bind_eq_some_iff.mp h
    refine V.callV (As := [.int (1 : Int32)]) (rest := []) (wc := (wX9_wrong cy tA t_signsV t_size (.ref t_tokensA) t_valuesV t_count t_here t_fault t_startsA t_startsN t_starts)) (wr := [(t_tokensA, .inl (cy 1, t_tokensN, .inl t_tokens))]) (q0 := 0) (CX9_wrong F tA t_signsV t_size (.ref t_tokensA) t_valuesV t_count t_here t_fault t_startsA t_startsN t_starts (1 : Int32) R10 hg10) kvX9_wrong klX9_72 [0, 2] [1] rfl rfl (by decide) (by decide) (by decide) rfl rfl rfl rfl dX9_expect_10 ⟨by decide, by decide, by decide, by decide⟩ (Nat.le_of_ble_eq_true rfl) (fun r w1 hq => ?_)
    obtain ⟨rfl, rfl⟩ := hq
    refine V.cells (ws' := (wX9_expect cy tA t_signsV t_size t_valuesV t_count t_here R10.2 t_tokensA t_tokensN t_tokens t_startsA t_startsN t_starts)) [1, 0, 2] (by decide) rfl ?_
    show V l D cy MX9_expect 1 0 0 _ _ _ 13 [(0, .ref tA), (1, .int a1)] [.int R10.1] (wX9_expect cy tA t_signsV t_size t_valuesV t_count t_here R10.2 t_tokensA t_tokensN t_tokens t_startsA t_startsN t_starts) 0 0
    by_cases hz13 : R10.1 = 0 ∨ R10.1 = 1
    case neg => exact vNone ((if_neg hz13).symm.trans h)
    replace h := (if_pos hz13).symm.trans h
    have e9 := Option.some.inj h; subst e9
    exact V.iret (ty := .boolean) rfl (vBool hz13).1 dX9_expect_13 (Nat.le_refl _) (Nat.le_refl _) hQ
theorem dX9_isName_0 : decode cX9_isName 0 = .ok (.aload_n 0, 1) := by decide +kernel
theorem dX9_isName_1 : decode cX9_isName 1 = .ok (.invokevirtual 68, 3) := by decide +kernel
theorem dX9_isName_4 : decode cX9_isName 4 = .ok (.istore_n 1, 1) := by decide +kernel
theorem dX9_isName_5 : decode cX9_isName 5 = .ok (.iload_n 1, 1) := by decide +kernel
theorem dX9_isName_6 : decode cX9_isName 6 = .ok (.bipush 20, 2) := by decide +kernel
theorem dX9_isName_8 : decode cX9_isName 8 = .ok (.if_icmp .eq 15, 3) := by decide +kernel
theorem dX9_isName_11 : decode cX9_isName 11 = .ok (.iload_n 1, 1) := by decide +kernel
theorem dX9_isName_12 : decode cX9_isName 12 = .ok (.bipush 16, 2) := by decide +kernel
theorem dX9_isName_14 : decode cX9_isName 14 = .ok (.if_icmp .lt 13, 3) := by decide +kernel
theorem dX9_isName_17 : decode cX9_isName 17 = .ok (.iload_n 1, 1) := by decide +kernel
theorem dX9_isName_18 : decode cX9_isName 18 = .ok (.bipush 19, 2) := by decide +kernel
theorem dX9_isName_20 : decode cX9_isName 20 = .ok (.if_icmp .gt 7, 3) := by decide +kernel
theorem dX9_isName_23 : decode cX9_isName 23 = .ok (.iconst 1, 1) := by decide +kernel
theorem dX9_isName_24 : decode cX9_isName 24 = .ok (.goto 4, 3) := by decide +kernel
theorem dX9_isName_27 : decode cX9_isName 27 = .ok (.iconst 0, 1) := by decide +kernel
theorem dX9_isName_28 : decode cX9_isName 28 = .ok (.ireturn, 1) := by decide +kernel
def wX9_isName (cy : Nat → ClassId) (tA : Nat) (t_signsV : Value) (t_size : Int32) (t_startsV : Value) (t_valuesV : Value) (t_count : Int32) (t_here : Int32) (t_fault : Int32) (t_tokensA : Nat) (t_tokensN : Nat) (t_tokens : Nat → Int32) : va_W :=
  [(tA, .inr (9, [t_signsV, .int t_size, .ref t_tokensA, t_startsV, t_valuesV, .int t_count, .int t_here, .int t_fault])), (t_tokensA, .inl (cy 1, t_tokensN, .inl t_tokens))]
noncomputable def bX9_isName_L28 (F : Nat) (t_count : Int32) (t_here : Int32) (t_tokensN : Nat) (t_tokens : Nat → Int32)  (s0 : Int32) : Option (Int32) :=
  if s0 = 0 ∨ s0 = 1 then some s0 else none
theorem vX9_isName_L28 {l : Launch} {D : va_G} {cy : Nat → ClassId} {av : List Value} {ws0 : va_W} {Q : Option Value → va_W → Prop} (F : Nat) (tA : Nat) (t_signsV : Value) (t_size : Int32) (t_startsV : Value) (t_valuesV : Value) (t_count : Int32) (t_here : Int32) (t_fault : Int32) (t_tokensA : Nat) (t_tokensN : Nat) (t_tokens : Nat → Int32)  (s0 : Int32) (R : Int32) (h : bX9_isName_L28 F t_count t_here t_tokensN t_tokens  s0 = some R) (hQ : Q (some (.int R)) (wX9_isName cy tA t_signsV t_size t_startsV t_valuesV t_count t_here t_fault t_tokensA t_tokensN t_tokens)) : V l D cy MX9_isName 1 0 0 av ws0 Q 28 [] [.int s0] (wX9_isName cy tA t_signsV t_size t_startsV t_valuesV t_count t_here t_fault t_tokensA t_tokensN t_tokens) 0 0 := by
  unfold bX9_isName_L28 at h
  by_cases hz28 : s0 = 0 ∨ s0 = 1
  case neg => exact vNone ((if_neg hz28).symm.trans h)
  replace h := (if_pos hz28).symm.trans h
  have e9 := Option.some.inj h; subst e9
  exact V.iret (ty := .boolean) rfl (vBool hz28).1 dX9_isName_28 (Nat.le_refl _) (Nat.le_refl _) hQ
noncomputable def bX9_isName_L27 (F : Nat) (t_count : Int32) (t_here : Int32) (t_tokensN : Nat) (t_tokens : Nat → Int32)   : Option (Int32) :=
  bX9_isName_L28 F t_count t_here t_tokensN t_tokens (0 : Int32)
theorem vX9_isName_L27 {l : Launch} {D : va_G} {cy : Nat → ClassId} {av : List Value} {ws0 : va_W} {Q : Option Value → va_W → Prop} (F : Nat) (tA : Nat) (t_signsV : Value) (t_size : Int32) (t_startsV : Value) (t_valuesV : Value) (t_count : Int32) (t_here : Int32) (t_fault : Int32) (t_tokensA : Nat) (t_tokensN : Nat) (t_tokens : Nat → Int32)   (R : Int32) (h : bX9_isName_L27 F t_count t_here t_tokensN t_tokens   = some R) (hQ : Q (some (.int R)) (wX9_isName cy tA t_signsV t_size t_startsV t_valuesV t_count t_here t_fault t_tokensA t_tokensN t_tokens)) : V l D cy MX9_isName 1 0 0 av ws0 Q 27 [] [] (wX9_isName cy tA t_signsV t_size t_startsV t_valuesV t_count t_here t_fault t_tokensA t_tokensN t_tokens) 0 0 := by
  unfold bX9_isName_L27 at h
  refine V.iconst (v := (0 : Int32)) dX9_isName_27 (by decide) ?_
  exact vX9_isName_L28 _ _ _ _ _ _ _ _ _ _ _ _   _ R h hQ
noncomputable def bX9_isName_L23 (F : Nat) (t_count : Int32) (t_here : Int32) (t_tokensN : Nat) (t_tokens : Nat → Int32)   : Option (Int32) :=
  bX9_isName_L28 F t_count t_here t_tokensN t_tokens (1 : Int32)
theorem vX9_isName_L23 {l : Launch} {D : va_G} {cy : Nat → ClassId} {av : List Value} {ws0 : va_W} {Q : Option Value → va_W → Prop} (F : Nat) (tA : Nat) (t_signsV : Value) (t_size : Int32) (t_startsV : Value) (t_valuesV : Value) (t_count : Int32) (t_here : Int32) (t_fault : Int32) (t_tokensA : Nat) (t_tokensN : Nat) (t_tokens : Nat → Int32)   (R : Int32) (h : bX9_isName_L23 F t_count t_here t_tokensN t_tokens   = some R) (hQ : Q (some (.int R)) (wX9_isName cy tA t_signsV t_size t_startsV t_valuesV t_count t_here t_fault t_tokensA t_tokensN t_tokens)) : V l D cy MX9_isName 1 0 0 av ws0 Q 23 [] [] (wX9_isName cy tA t_signsV t_size t_startsV t_valuesV t_count t_here t_fault t_tokensA t_tokensN t_tokens) 0 0 := by
  unfold bX9_isName_L23 at h
  refine V.iconst (v := (1 : Int32)) dX9_isName_23 (by decide) ?_
  refine V.goto (tgt := 28) dX9_isName_24 (by decide) ?_
  exact vX9_isName_L28 _ _ _ _ _ _ _ _ _ _ _ _   _ R h hQ
noncomputable def fX9_isName (F : Nat) (t_count : Int32) (t_here : Int32) (t_tokensN : Nat) (t_tokens : Nat → Int32) : Option (Int32) :=
  (fX9_token F t_count t_here t_tokensN t_tokens).bind fun R1 => (if R1 = (20 : Int32) then (bX9_isName_L23 F t_count t_here t_tokensN t_tokens) else (if R1 < (16 : Int32) then (bX9_isName_L27 F t_count t_here t_tokensN t_tokens) else (if (19 : Int32) < R1 then (bX9_isName_L27 F t_count t_here t_tokensN t_tokens) else (bX9_isName_L23 F t_count t_here t_tokensN t_tokens))))
theorem CX9_isName {l : Launch} {D : va_G} {cy : Nat → ClassId} (F : Nat) (tA : Nat) (t_signsV : Value) (t_size : Int32) (t_startsV : Value) (t_valuesV : Value) (t_count : Int32) (t_here : Int32) (t_fault : Int32) (t_tokensA : Nat) (t_tokensN : Nat) (t_tokens : Nat → Int32) (R : Int32) (h : fX9_isName F t_count t_here t_tokensN t_tokens = some R) : vMet l D cy MX9_isName 1 0 0 [.ref tA] (wX9_isName cy tA t_signsV t_size t_startsV t_valuesV t_count t_here t_fault t_tokensA t_tokensN t_tokens) (fun (r : Option Value) (w : va_W) => r = (some (.int R)) ∧ w = (wX9_isName cy tA t_signsV t_size t_startsV t_valuesV t_count t_here t_fault t_tokensA t_tokensN t_tokens)) := by
  refine vMet.start (by decide +kernel) (Nat.le_of_ble_eq_true rfl) ?_
  generalize hQe : (fun (r : Option Value) (w : va_W) => r = (some (.int R)) ∧ w = (wX9_isName cy tA t_signsV t_size t_startsV t_valuesV t_count t_here t_fault t_tokensA t_tokensN t_tokens)) = Q
  have hQ : Q (some (.int R)) (wX9_isName cy tA t_signsV t_size t_startsV t_valuesV t_count t_here t_fault t_tokensA t_tokensN t_tokens) := by rw [← hQe]; exact ⟨rfl, rfl⟩
  show V l D cy MX9_isName 1 0 0 _ _ Q 0 [(0, .ref tA)] [] _ 0 0
  show V l D cy MX9_isName 1 0 0 [.ref tA] _ Q 0 [(0, .ref tA)] [] (wX9_isName cy tA t_signsV t_size t_startsV t_valuesV t_count t_here t_fault t_tokensA t_tokensN t_tokens) 0 0
  unfold fX9_isName at h
  refine V.aload_n dX9_isName_0 rfl 0 rfl ?_
  obtain ⟨R1, hg1, h⟩ := Option.bind_eq_some_iff.mp h
  refine V.callV (As := []) (rest := []) (wc := (wX9_token cy tA t_signsV t_size t_startsV t_valuesV t_count t_here t_fault t_tokensA t_tokensN t_tokens)) (wr := []) (q0 := 0) (CX9_token F tA t_signsV t_size t_startsV t_valuesV t_count t_here t_fault t_tokensA t_tokensN t_tokens R1 hg1) kvX9_token klX9_68 [0, 1] [] rfl rfl (by decide) (by decide) (by decide) rfl rfl rfl rfl dX9_isName_1 ⟨by decide, by decide, by decide, by decide⟩ (Nat.le_of_ble_eq_true rfl) (fun r w1 hq => ?_)
  obtain ⟨rfl, rfl⟩ := hq
  refine V.cells (ws' := (wX9_isName cy tA t_signsV t_size t_startsV t_valuesV t_count t_here t_fault t_tokensA t_tokensN t_tokens)) [0, 1] (by decide) rfl ?_
  show V l D cy MX9_isName 1 0 0 _ _ _ 4 [(0, .ref tA)] [.int R1] (wX9_isName cy tA t_signsV t_size t_startsV t_valuesV t_count t_here t_fault t_tokensA t_tokensN t_tokens) 0 0
  refine V.istore_n (lv' := [(1, .int R1), (0, .ref tA)]) dX9_isName_4 rfl (by decide) rfl ?_
  refine V.iload_n dX9_isName_5 rfl 0 rfl ?_
  refine V.bipush (v := (20 : Int32)) dX9_isName_6 (by decide) ?_
  refine V.icmp_eq (tgt := 23) dX9_isName_8 (by decide) (fun hc8 => ?_) (fun hc8 => ?_)
  · replace h := (if_pos hc8).symm.trans h
    refine V.lvs [] rfl ?_
    exact vX9_isName_L23 _ _ _ _ _ _ _ _ _ _ _ _    R h hQ
  · replace h := (if_neg hc8).symm.trans h
    refine V.iload_n dX9_isName_11 rfl 0 rfl ?_
    refine V.bipush (v := (16 : Int32)) dX9_isName_12 (by decide) ?_
    refine V.icmp_lt (tgt := 27) dX9_isName_14 (by decide) (fun hc14 => ?_) (fun hc14 => ?_)
    · replace h := (if_pos hc14).symm.trans h
      refine V.lvs [] rfl ?_
      exact vX9_isName_L27 _ _ _ _ _ _ _ _ _ _ _ _    R h hQ
    · replace h := (if_neg hc14).symm.trans h
      refine V.iload_n dX9_isName_17 rfl 0 rfl ?_
      refine V.bipush (v := (19 : Int32)) dX9_isName_18 (by decide) ?_
      refine V.icmp_gt (tgt := 27) dX9_isName_20 (by decide) (fun hc20 => ?_) (fun hc20 => ?_)
      · replace h := (if_pos hc20).symm.trans h
        refine V.lvs [] rfl ?_
        exact vX9_isName_L27 _ _ _ _ _ _ _ _ _ _ _ _    R h hQ
      · replace h := (if_neg hc20).symm.trans h
        refine V.lvs [] rfl ?_
        exact vX9_isName_L23 _ _ _ _ _ _ _ _ _ _ _ _    R h hQ
theorem dX9_isFact_0 : decode cX9_isFact 0 = .ok (.aload_n 0, 1) := by decide +kernel
theorem dX9_isFact_1 : decode cX9_isFact 1 = .ok (.invokevirtual 68, 3) := by decide +kernel
theorem dX9_isFact_4 : decode cX9_isFact 4 = .ok (.istore_n 1, 1) := by decide +kernel
theorem dX9_isFact_5 : decode cX9_isFact 5 = .ok (.iload_n 1, 1) := by decide +kernel
theorem dX9_isFact_6 : decode cX9_isFact 6 = .ok (.bipush 16, 2) := by decide +kernel
theorem dX9_isFact_8 : decode cX9_isFact 8 = .ok (.if_icmp .lt 13, 3) := by decide +kernel
theorem dX9_isFact_11 : decode cX9_isFact 11 = .ok (.iload_n 1, 1) := by decide +kernel
theorem dX9_isFact_12 : decode cX9_isFact 12 = .ok (.bipush 19, 2) := by decide +kernel
theorem dX9_isFact_14 : decode cX9_isFact 14 = .ok (.if_icmp .gt 7, 3) := by decide +kernel
theorem dX9_isFact_17 : decode cX9_isFact 17 = .ok (.iconst 1, 1) := by decide +kernel
theorem dX9_isFact_18 : decode cX9_isFact 18 = .ok (.goto 4, 3) := by decide +kernel
theorem dX9_isFact_21 : decode cX9_isFact 21 = .ok (.iconst 0, 1) := by decide +kernel
theorem dX9_isFact_22 : decode cX9_isFact 22 = .ok (.ireturn, 1) := by decide +kernel
def wX9_isFact (cy : Nat → ClassId) (tA : Nat) (t_signsV : Value) (t_size : Int32) (t_startsV : Value) (t_valuesV : Value) (t_count : Int32) (t_here : Int32) (t_fault : Int32) (t_tokensA : Nat) (t_tokensN : Nat) (t_tokens : Nat → Int32) : va_W :=
  [(tA, .inr (9, [t_signsV, .int t_size, .ref t_tokensA, t_startsV, t_valuesV, .int t_count, .int t_here, .int t_fault])), (t_tokensA, .inl (cy 1, t_tokensN, .inl t_tokens))]
noncomputable def bX9_isFact_L22 (F : Nat) (t_count : Int32) (t_here : Int32) (t_tokensN : Nat) (t_tokens : Nat → Int32)  (s0 : Int32) : Option (Int32) :=
  if s0 = 0 ∨ s0 = 1 then some s0 else none
theorem vX9_isFact_L22 {l : Launch} {D : va_G} {cy : Nat → ClassId} {av : List Value} {ws0 : va_W} {Q : Option Value → va_W → Prop} (F : Nat) (tA : Nat) (t_signsV : Value) (t_size : Int32) (t_startsV : Value) (t_valuesV : Value) (t_count : Int32) (t_here : Int32) (t_fault : Int32) (t_tokensA : Nat) (t_tokensN : Nat) (t_tokens : Nat → Int32)  (s0 : Int32) (R : Int32) (h : bX9_isFact_L22 F t_count t_here t_tokensN t_tokens  s0 = some R) (hQ : Q (some (.int R)) (wX9_isFact cy tA t_signsV t_size t_startsV t_valuesV t_count t_here t_fault t_tokensA t_tokensN t_tokens)) : V l D cy MX9_isFact 1 0 0 av ws0 Q 22 [] [.int s0] (wX9_isFact cy tA t_signsV t_size t_startsV t_valuesV t_count t_here t_fault t_tokensA t_tokensN t_tokens) 0 0 := by
  unfold bX9_isFact_L22 at h
  by_cases hz22 : s0 = 0 ∨ s0 = 1
  case neg => exact vNone ((if_neg hz22).symm.trans h)
  replace h := (if_pos hz22).symm.trans h
  have e9 := Option.some.inj h; subst e9
  exact V.iret (ty := .boolean) rfl (vBool hz22).1 dX9_isFact_22 (Nat.le_refl _) (Nat.le_refl _) hQ
noncomputable def bX9_isFact_L21 (F : Nat) (t_count : Int32) (t_here : Int32) (t_tokensN : Nat) (t_tokens : Nat → Int32)   : Option (Int32) :=
  bX9_isFact_L22 F t_count t_here t_tokensN t_tokens (0 : Int32)
theorem vX9_isFact_L21 {l : Launch} {D : va_G} {cy : Nat → ClassId} {av : List Value} {ws0 : va_W} {Q : Option Value → va_W → Prop} (F : Nat) (tA : Nat) (t_signsV : Value) (t_size : Int32) (t_startsV : Value) (t_valuesV : Value) (t_count : Int32) (t_here : Int32) (t_fault : Int32) (t_tokensA : Nat) (t_tokensN : Nat) (t_tokens : Nat → Int32)   (R : Int32) (h : bX9_isFact_L21 F t_count t_here t_tokensN t_tokens   = some R) (hQ : Q (some (.int R)) (wX9_isFact cy tA t_signsV t_size t_startsV t_valuesV t_count t_here t_fault t_tokensA t_tokensN t_tokens)) : V l D cy MX9_isFact 1 0 0 av ws0 Q 21 [] [] (wX9_isFact cy tA t_signsV t_size t_startsV t_valuesV t_count t_here t_fault t_tokensA t_tokensN t_tokens) 0 0 := by
  unfold bX9_isFact_L21 at h
  refine V.iconst (v := (0 : Int32)) dX9_isFact_21 (by decide) ?_
  exact vX9_isFact_L22 _ _ _ _ _ _ _ _ _ _ _ _   _ R h hQ
noncomputable def fX9_isFact (F : Nat) (t_count : Int32) (t_here : Int32) (t_tokensN : Nat) (t_tokens : Nat → Int32) : Option (Int32) :=
  (fX9_token F t_count t_here t_tokensN t_tokens).bind fun R1 => (if R1 < (16 : Int32) then (bX9_isFact_L21 F t_count t_here t_tokensN t_tokens) else (if (19 : Int32) < R1 then (bX9_isFact_L21 F t_count t_here t_tokensN t_tokens) else (bX9_isFact_L22 F t_count t_here t_tokensN t_tokens (1 : Int32))))
theorem CX9_isFact {l : Launch} {D : va_G} {cy : Nat → ClassId} (F : Nat) (tA : Nat) (t_signsV : Value) (t_size : Int32) (t_startsV : Value) (t_valuesV : Value) (t_count : Int32) (t_here : Int32) (t_fault : Int32) (t_tokensA : Nat) (t_tokensN : Nat) (t_tokens : Nat → Int32) (R : Int32) (h : fX9_isFact F t_count t_here t_tokensN t_tokens = some R) : vMet l D cy MX9_isFact 1 0 0 [.ref tA] (wX9_isFact cy tA t_signsV t_size t_startsV t_valuesV t_count t_here t_fault t_tokensA t_tokensN t_tokens) (fun (r : Option Value) (w : va_W) => r = (some (.int R)) ∧ w = (wX9_isFact cy tA t_signsV t_size t_startsV t_valuesV t_count t_here t_fault t_tokensA t_tokensN t_tokens)) := by
  refine vMet.start (by decide +kernel) (Nat.le_of_ble_eq_true rfl) ?_
  generalize hQe : (fun (r : Option Value) (w : va_W) => r = (some (.int R)) ∧ w = (wX9_isFact cy tA t_signsV t_size t_startsV t_valuesV t_count t_here t_fault t_tokensA t_tokensN t_tokens)) = Q
  have hQ : Q (some (.int R)) (wX9_isFact cy tA t_signsV t_size t_startsV t_valuesV t_count t_here t_fault t_tokensA t_tokensN t_tokens) := by rw [← hQe]; exact ⟨rfl, rfl⟩
  show V l D cy MX9_isFact 1 0 0 _ _ Q 0 [(0, .ref tA)] [] _ 0 0
  show V l D cy MX9_isFact 1 0 0 [.ref tA] _ Q 0 [(0, .ref tA)] [] (wX9_isFact cy tA t_signsV t_size t_startsV t_valuesV t_count t_here t_fault t_tokensA t_tokensN t_tokens) 0 0
  unfold fX9_isFact at h
  refine V.aload_n dX9_isFact_0 rfl 0 rfl ?_
  obtain ⟨R1, hg1, h⟩ := Option.bind_eq_some_iff.mp h
  refine V.callV (As := []) (rest := []) (wc := (wX9_token cy tA t_signsV t_size t_startsV t_valuesV t_count t_here t_fault t_tokensA t_tokensN t_tokens)) (wr := []) (q0 := 0) (CX9_token F tA t_signsV t_size t_startsV t_valuesV t_count t_here t_fault t_tokensA t_tokensN t_tokens R1 hg1) kvX9_token klX9_68 [0, 1] [] rfl rfl (by decide) (by decide) (by decide) rfl rfl rfl rfl dX9_isFact_1 ⟨by decide, by decide, by decide, by decide⟩ (Nat.le_of_ble_eq_true rfl) (fun r w1 hq => ?_)
  obtain ⟨rfl, rfl⟩ := hq
  refine V.cells (ws' := (wX9_isFact cy tA t_signsV t_size t_startsV t_valuesV t_count t_here t_fault t_tokensA t_tokensN t_tokens)) [0, 1] (by decide) rfl ?_
  show V l D cy MX9_isFact 1 0 0 _ _ _ 4 [(0, .ref tA)] [.int R1] (wX9_isFact cy tA t_signsV t_size t_startsV t_valuesV t_count t_here t_fault t_tokensA t_tokensN t_tokens) 0 0
  refine V.istore_n (lv' := [(1, .int R1), (0, .ref tA)]) dX9_isFact_4 rfl (by decide) rfl ?_
  refine V.iload_n dX9_isFact_5 rfl 0 rfl ?_
  refine V.bipush (v := (16 : Int32)) dX9_isFact_6 (by decide) ?_
  refine V.icmp_lt (tgt := 21) dX9_isFact_8 (by decide) (fun hc8 => ?_) (fun hc8 => ?_)
  · replace h := (if_pos hc8).symm.trans h
    refine V.lvs [] rfl ?_
    exact vX9_isFact_L21 _ _ _ _ _ _ _ _ _ _ _ _    R h hQ
  · replace h := (if_neg hc8).symm.trans h
    refine V.iload_n dX9_isFact_11 rfl 0 rfl ?_
    refine V.bipush (v := (19 : Int32)) dX9_isFact_12 (by decide) ?_
    refine V.icmp_gt (tgt := 21) dX9_isFact_14 (by decide) (fun hc14 => ?_) (fun hc14 => ?_)
    · replace h := (if_pos hc14).symm.trans h
      refine V.lvs [] rfl ?_
      exact vX9_isFact_L21 _ _ _ _ _ _ _ _ _ _ _ _    R h hQ
    · replace h := (if_neg hc14).symm.trans h
      refine V.iconst (v := (1 : Int32)) dX9_isFact_17 (by decide) ?_
      refine V.goto (tgt := 22) dX9_isFact_18 (by decide) ?_
      refine V.lvs [] rfl ?_
      exact vX9_isFact_L22 _ _ _ _ _ _ _ _ _ _ _ _   _ R h hQ
theorem dX9_lay_0 : decode cX9_lay 0 = .ok (.aload_n 0, 1) := by decide +kernel
theorem dX9_lay_1 : decode cX9_lay 1 = .ok (.getfield 30, 3) := by decide +kernel
theorem dX9_lay_4 : decode cX9_lay 4 = .ok (.sipush 1000, 3) := by decide +kernel
theorem dX9_lay_7 : decode cX9_lay 7 = .ok (.if_icmp .gt 43, 3) := by decide +kernel
theorem dX9_lay_10 : decode cX9_lay 10 = .ok (.aload_n 0, 1) := by decide +kernel
theorem dX9_lay_11 : decode cX9_lay 11 = .ok (.getfield 13, 3) := by decide +kernel
theorem dX9_lay_14 : decode cX9_lay 14 = .ok (.aload_n 0, 1) := by decide +kernel
theorem dX9_lay_15 : decode cX9_lay 15 = .ok (.getfield 30, 3) := by decide +kernel
theorem dX9_lay_18 : decode cX9_lay 18 = .ok (.iload_n 1, 1) := by decide +kernel
theorem dX9_lay_19 : decode cX9_lay 19 = .ok (.iastore, 1) := by decide +kernel
theorem dX9_lay_20 : decode cX9_lay 20 = .ok (.aload_n 0, 1) := by decide +kernel
theorem dX9_lay_21 : decode cX9_lay 21 = .ok (.getfield 17, 3) := by decide +kernel
theorem dX9_lay_24 : decode cX9_lay 24 = .ok (.aload_n 0, 1) := by decide +kernel
theorem dX9_lay_25 : decode cX9_lay 25 = .ok (.getfield 30, 3) := by decide +kernel
theorem dX9_lay_28 : decode cX9_lay 28 = .ok (.iload_n 2, 1) := by decide +kernel
theorem dX9_lay_29 : decode cX9_lay 29 = .ok (.iastore, 1) := by decide +kernel
theorem dX9_lay_30 : decode cX9_lay 30 = .ok (.aload_n 0, 1) := by decide +kernel
theorem dX9_lay_31 : decode cX9_lay 31 = .ok (.getfield 20, 3) := by decide +kernel
theorem dX9_lay_34 : decode cX9_lay 34 = .ok (.aload_n 0, 1) := by decide +kernel
theorem dX9_lay_35 : decode cX9_lay 35 = .ok (.getfield 30, 3) := by decide +kernel
theorem dX9_lay_38 : decode cX9_lay 38 = .ok (.lload_n 3, 1) := by decide +kernel
theorem dX9_lay_39 : decode cX9_lay 39 = .ok (.lastore, 1) := by decide +kernel
theorem dX9_lay_40 : decode cX9_lay 40 = .ok (.aload_n 0, 1) := by decide +kernel
theorem dX9_lay_41 : decode cX9_lay 41 = .ok (.dup, 1) := by decide +kernel
theorem dX9_lay_42 : decode cX9_lay 42 = .ok (.getfield 30, 3) := by decide +kernel
theorem dX9_lay_45 : decode cX9_lay 45 = .ok (.iconst 1, 1) := by decide +kernel
theorem dX9_lay_46 : decode cX9_lay 46 = .ok (.iadd, 1) := by decide +kernel
theorem dX9_lay_47 : decode cX9_lay 47 = .ok (.putfield 30, 3) := by decide +kernel
theorem dX9_lay_50 : decode cX9_lay 50 = .ok (.return_, 1) := by decide +kernel
def wX9_lay (cy : Nat → ClassId) (tA : Nat) (t_signsV : Value) (t_size : Int32) (t_count : Int32) (t_here : Int32) (t_fault : Int32) (t_tokensA : Nat) (t_tokensN : Nat) (t_tokens : Nat → Int32) (t_startsA : Nat) (t_startsN : Nat) (t_starts : Nat → Int32) (t_valuesA : Nat) (t_valuesN : Nat) (t_values : Nat → Int64) : va_W :=
  [(tA, .inr (9, [t_signsV, .int t_size, .ref t_tokensA, .ref t_startsA, .ref t_valuesA, .int t_count, .int t_here, .int t_fault])), (t_tokensA, .inl (cy 1, t_tokensN, .inl t_tokens)), (t_startsA, .inl (cy 1, t_startsN, .inl t_starts)), (t_valuesA, .inl (cy 2, t_valuesN, .inr (.inl t_values)))]
noncomputable def bX9_lay_L50 (F : Nat) (t_tokensN : Nat) (t_startsN : Nat) (t_valuesN : Nat)  (t_count : Int32) (t_tokens : Nat → Int32) (t_starts : Nat → Int32) (t_values : Nat → Int64) : Option ((Int32) × (Nat → Int32) × (Nat → Int32) × (Nat → Int64)) :=
  some (t_count, t_tokens, t_starts, t_values)
theorem vX9_lay_L50 {l : Launch} {D : va_G} {cy : Nat → ClassId} {av : List Value} {ws0 : va_W} {Q : Option Value → va_W → Prop} (F : Nat) (tA : Nat) (t_signsV : Value) (t_size : Int32) (t_here : Int32) (t_fault : Int32) (t_tokensA : Nat) (t_tokensN : Nat) (t_startsA : Nat) (t_startsN : Nat) (t_valuesA : Nat) (t_valuesN : Nat)  (t_count : Int32) (t_tokens : Nat → Int32) (t_starts : Nat → Int32) (t_values : Nat → Int64) (R : (Int32) × (Nat → Int32) × (Nat → Int32) × (Nat → Int64)) (h : bX9_lay_L50 F t_tokensN t_startsN t_valuesN  t_count t_tokens t_starts t_values = some R) (hQ : Q none (wX9_lay cy tA t_signsV t_size R.1 t_here t_fault t_tokensA t_tokensN R.2.1 t_startsA t_startsN R.2.2.1 t_valuesA t_valuesN R.2.2.2)) : V l D cy MX9_lay 0 0 0 av ws0 Q 50 [] [] (wX9_lay cy tA t_signsV t_size t_count t_here t_fault t_tokensA t_tokensN t_tokens t_startsA t_startsN t_starts t_valuesA t_valuesN t_values) 0 0 := by
  unfold bX9_lay_L50 at h
  have e9 := Option.some.inj h; subst e9
  exact V.vret rfl dX9_lay_50 (Nat.le_refl _) (Nat.le_refl _) hQ
noncomputable def fX9_lay (F : Nat) (t_tokensN : Nat) (t_startsN : Nat) (t_valuesN : Nat) (a1 : Int32) (a2 : Int32) (a3 : Int64) (t_count : Int32) (t_tokens : Nat → Int32) (t_starts : Nat → Int32) (t_values : Nat → Int64) : Option ((Int32) × (Nat → Int32) × (Nat → Int32) × (Nat → Int64)) :=
  if (1000 : Int32) < t_count then (bX9_lay_L50 F t_tokensN t_startsN t_valuesN t_count t_tokens t_starts t_values) else (if t_count < 0 ∨ t_tokensN ≤ t_count.toNatClampNeg then none else (if t_count < 0 ∨ t_startsN ≤ t_count.toNatClampNeg then none else (if t_count < 0 ∨ t_valuesN ≤ t_count.toNatClampNeg then none else (bX9_lay_L50 F t_tokensN t_startsN t_valuesN (t_count + (1 : Int32)) (upd t_tokens t_count.toNatClampNeg a1) (upd t_starts t_count.toNatClampNeg a2) (vp_updL t_values t_count.toNatClampNeg a3)))))
theorem CX9_lay {l : Launch} {D : va_G} {cy : Nat → ClassId} (F : Nat) (tA : Nat) (t_signsV : Value) (t_size : Int32) (t_count : Int32) (t_here : Int32) (t_fault : Int32) (t_tokensA : Nat) (t_tokensN : Nat) (t_tokens : Nat → Int32) (t_startsA : Nat) (t_startsN : Nat) (t_starts : Nat → Int32) (t_valuesA : Nat) (t_valuesN : Nat) (t_values : Nat → Int64) (a1 : Int32) (a2 : Int32) (a3 : Int64) (R : (Int32) × (Nat → Int32) × (Nat → Int32) × (Nat → Int64)) (h : fX9_lay F t_tokensN t_startsN t_valuesN a1 a2 a3 t_count t_tokens t_starts t_values = some R) : vMet l D cy MX9_lay 0 0 0 [.ref tA, .int a1, .int a2, .long a3] (wX9_lay cy tA t_signsV t_size t_count t_here t_fault t_tokensA t_tokensN t_tokens t_startsA t_startsN t_starts t_valuesA t_valuesN t_values) (fun (r : Option Value) (w : va_W) => r = none ∧ w = (wX9_lay cy tA t_signsV t_size R.1 t_here t_fault t_tokensA t_tokensN R.2.1 t_startsA t_startsN R.2.2.1 t_valuesA t_valuesN R.2.2.2)) := by
  refine vMet.start (by decide +kernel) (Nat.le_of_ble_eq_true rfl) ?_
  generalize hQe : (fun (r : Option Value) (w : va_W) => r = none ∧ w = (wX9_lay cy tA t_signsV t_size R.1 t_here t_fault t_tokensA t_tokensN R.2.1 t_startsA t_startsN R.2.2.1 t_valuesA t_valuesN R.2.2.2)) = Q
  have hQ : Q none (wX9_lay cy tA t_signsV t_size R.1 t_here t_fault t_tokensA t_tokensN R.2.1 t_startsA t_startsN R.2.2.1 t_valuesA t_valuesN R.2.2.2) := by rw [← hQe]; exact ⟨rfl, rfl⟩
  show V l D cy MX9_lay 0 0 0 _ _ Q 0 [(0, .ref tA), (1, .int a1), (2, .int a2), (3, .long a3)] [] _ 0 0
  show V l D cy MX9_lay 0 0 0 [.ref tA, .int a1, .int a2, .long a3] _ Q 0 [(0, .ref tA), (1, .int a1), (2, .int a2), (3, .long a3)] [] (wX9_lay cy tA t_signsV t_size t_count t_here t_fault t_tokensA t_tokensN t_tokens t_startsA t_startsN t_starts t_valuesA t_valuesN t_values) 0 0
  unfold fX9_lay at h
  refine V.aload_n dX9_lay_0 rfl 0 rfl ?_
  refine V.get kfX9 0 rfl rfl 5 (by decide) klX9_30 rfl dX9_lay_1 ?_
  refine V.sipush (v := (1000 : Int32)) dX9_lay_4 (by decide) ?_
  refine V.icmp_gt (tgt := 50) dX9_lay_7 (by decide) (fun hc7 => ?_) (fun hc7 => ?_)
  · replace h := (if_pos hc7).symm.trans h
    refine V.lvs [] rfl ?_
    exact vX9_lay_L50 _ _ _ _ _ _ _ _ _ _ _ _   _ _ _ _ R h hQ
  · replace h := (if_neg hc7).symm.trans h
    refine V.aload_n dX9_lay_10 rfl 0 rfl ?_
    refine V.get kfX9 0 rfl rfl 2 (by decide) klX9_13 rfl dX9_lay_11 ?_
    refine V.aload_n dX9_lay_14 rfl 0 rfl ?_
    refine V.get kfX9 0 rfl rfl 5 (by decide) klX9_30 rfl dX9_lay_15 ?_
    refine V.iload_n dX9_lay_18 rfl 1 rfl ?_
    by_cases hb19 : t_count < 0 ∨ t_tokensN ≤ t_count.toNatClampNeg
    · exact vNone ((if_pos hb19).symm.trans h)
    replace h := (if_neg hb19).symm.trans h
    refine V.iast (ws' := (wX9_lay cy tA t_signsV t_size t_count t_here t_fault t_tokensA t_tokensN (upd t_tokens t_count.toNatClampNeg a1) t_startsA t_startsN t_starts t_valuesA t_valuesN t_values)) dX9_lay_19 1 rfl hb19 rfl ?_
    refine V.aload_n dX9_lay_20 rfl 0 rfl ?_
    refine V.get kfX9 0 rfl rfl 3 (by decide) klX9_17 rfl dX9_lay_21 ?_
    refine V.aload_n dX9_lay_24 rfl 0 rfl ?_
    refine V.get kfX9 0 rfl rfl 5 (by decide) klX9_30 rfl dX9_lay_25 ?_
    refine V.iload_n dX9_lay_28 rfl 2 rfl ?_
    by_cases hb29 : t_count < 0 ∨ t_startsN ≤ t_count.toNatClampNeg
    · exact vNone ((if_pos hb29).symm.trans h)
    replace h := (if_neg hb29).symm.trans h
    refine V.iast (ws' := (wX9_lay cy tA t_signsV t_size t_count t_here t_fault t_tokensA t_tokensN (upd t_tokens t_count.toNatClampNeg a1) t_startsA t_startsN (upd t_starts t_count.toNatClampNeg a2) t_valuesA t_valuesN t_values)) dX9_lay_29 2 rfl hb29 rfl ?_
    refine V.aload_n dX9_lay_30 rfl 0 rfl ?_
    refine V.get kfX9 0 rfl rfl 4 (by decide) klX9_20 rfl dX9_lay_31 ?_
    refine V.aload_n dX9_lay_34 rfl 0 rfl ?_
    refine V.get kfX9 0 rfl rfl 5 (by decide) klX9_30 rfl dX9_lay_35 ?_
    refine V.lload_n dX9_lay_38 rfl 3 rfl ?_
    by_cases hb39 : t_count < 0 ∨ t_valuesN ≤ t_count.toNatClampNeg
    · exact vNone ((if_pos hb39).symm.trans h)
    replace h := (if_neg hb39).symm.trans h
    refine V.last (ws' := (wX9_lay cy tA t_signsV t_size t_count t_here t_fault t_tokensA t_tokensN (upd t_tokens t_count.toNatClampNeg a1) t_startsA t_startsN (upd t_starts t_count.toNatClampNeg a2) t_valuesA t_valuesN (vp_updL t_values t_count.toNatClampNeg a3))) dX9_lay_39 3 rfl hb39 rfl ?_
    refine V.aload_n dX9_lay_40 rfl 0 rfl ?_
    refine V.dup dX9_lay_41 rfl ?_
    refine V.get kfX9 0 rfl rfl 5 (by decide) klX9_30 rfl dX9_lay_42 ?_
    refine V.iconst (v := (1 : Int32)) dX9_lay_45 (by decide) ?_
    refine V.iadd dX9_lay_46 ?_
    refine V.put (ws' := (wX9_lay cy tA t_signsV t_size (t_count + (1 : Int32)) t_here t_fault t_tokensA t_tokensN (upd t_tokens t_count.toNatClampNeg a1) t_startsA t_startsN (upd t_starts t_count.toNatClampNeg a2) t_valuesA t_valuesN (vp_updL t_values t_count.toNatClampNeg a3))) kfX9 tyX9 tyX9_ok nmX9 0 rfl rfl 5 (by decide) klX9_30 rfl (tyX9_ok 5 (by decide)) rfl rfl (Nat.le_of_ble_eq_true rfl) dX9_lay_47 rfl ?_
    refine V.lvs [] rfl ?_
    exact vX9_lay_L50 _ _ _ _ _ _ _ _ _ _ _ _   _ _ _ _ R h hQ
theorem dX9_isLetter_0 : decode cX9_isLetter 0 = .ok (.iload_n 0, 1) := by decide +kernel
theorem dX9_isLetter_1 : decode cX9_isLetter 1 = .ok (.bipush 97, 2) := by decide +kernel
theorem dX9_isLetter_3 : decode cX9_isLetter 3 = .ok (.if_icmp .lt 13, 3) := by decide +kernel
theorem dX9_isLetter_6 : decode cX9_isLetter 6 = .ok (.iload_n 0, 1) := by decide +kernel
theorem dX9_isLetter_7 : decode cX9_isLetter 7 = .ok (.bipush 122, 2) := by decide +kernel
theorem dX9_isLetter_9 : decode cX9_isLetter 9 = .ok (.if_icmp .gt 7, 3) := by decide +kernel
theorem dX9_isLetter_12 : decode cX9_isLetter 12 = .ok (.iconst 1, 1) := by decide +kernel
theorem dX9_isLetter_13 : decode cX9_isLetter 13 = .ok (.goto 4, 3) := by decide +kernel
theorem dX9_isLetter_16 : decode cX9_isLetter 16 = .ok (.iconst 0, 1) := by decide +kernel
theorem dX9_isLetter_17 : decode cX9_isLetter 17 = .ok (.ireturn, 1) := by decide +kernel
def wX9_isLetter (cy : Nat → ClassId)  : va_W :=
  []
noncomputable def bX9_isLetter_L17 (F : Nat)   (s0 : Int32) : Option (Int32) :=
  if s0 = 0 ∨ s0 = 1 then some s0 else none
theorem vX9_isLetter_L17 {l : Launch} {D : va_G} {cy : Nat → ClassId} {av : List Value} {ws0 : va_W} {Q : Option Value → va_W → Prop} (F : Nat)   (s0 : Int32) (R : Int32) (h : bX9_isLetter_L17 F  s0 = some R) (hQ : Q (some (.int R)) (wX9_isLetter cy )) : V l D cy MX9_isLetter 0 0 0 av ws0 Q 17 [] [.int s0] (wX9_isLetter cy ) 0 0 := by
  unfold bX9_isLetter_L17 at h
  by_cases hz17 : s0 = 0 ∨ s0 = 1
  case neg => exact vNone ((if_neg hz17).symm.trans h)
  replace h := (if_pos hz17).symm.trans h
  have e9 := Option.some.inj h; subst e9
  exact V.iret (ty := .boolean) rfl (vBool hz17).1 dX9_isLetter_17 (Nat.le_refl _) (Nat.le_refl _) hQ
noncomputable def bX9_isLetter_L16 (F : Nat)    : Option (Int32) :=
  bX9_isLetter_L17 F (0 : Int32)
theorem vX9_isLetter_L16 {l : Launch} {D : va_G} {cy : Nat → ClassId} {av : List Value} {ws0 : va_W} {Q : Option Value → va_W → Prop} (F : Nat)    (R : Int32) (h : bX9_isLetter_L16 F   = some R) (hQ : Q (some (.int R)) (wX9_isLetter cy )) : V l D cy MX9_isLetter 0 0 0 av ws0 Q 16 [] [] (wX9_isLetter cy ) 0 0 := by
  unfold bX9_isLetter_L16 at h
  refine V.iconst (v := (0 : Int32)) dX9_isLetter_16 (by decide) ?_
  exact vX9_isLetter_L17 _   _ R h hQ
noncomputable def fX9_isLetter (F : Nat) (a0 : Int32) : Option (Int32) :=
  if a0 < (97 : Int32) then (bX9_isLetter_L16 F) else (if (122 : Int32) < a0 then (bX9_isLetter_L16 F) else (bX9_isLetter_L17 F (1 : Int32)))
theorem CX9_isLetter {l : Launch} {D : va_G} {cy : Nat → ClassId} (F : Nat) (a0 : Int32) (R : Int32) (h : fX9_isLetter F a0 = some R) : vMet l D cy MX9_isLetter 0 0 0 [.int a0] (wX9_isLetter cy ) (fun (r : Option Value) (w : va_W) => r = (some (.int R)) ∧ w = (wX9_isLetter cy )) := by
  refine vMet.start (by decide +kernel) (Nat.le_of_ble_eq_true rfl) ?_
  generalize hQe : (fun (r : Option Value) (w : va_W) => r = (some (.int R)) ∧ w = (wX9_isLetter cy )) = Q
  have hQ : Q (some (.int R)) (wX9_isLetter cy ) := by rw [← hQe]; exact ⟨rfl, rfl⟩
  show V l D cy MX9_isLetter 0 0 0 _ _ Q 0 [(0, .int a0)] [] _ 0 0
  show V l D cy MX9_isLetter 0 0 0 [.int a0] _ Q 0 [(0, .int a0)] [] (wX9_isLetter cy ) 0 0
  unfold fX9_isLetter at h
  refine V.iload_n dX9_isLetter_0 rfl 0 rfl ?_
  refine V.bipush (v := (97 : Int32)) dX9_isLetter_1 (by decide) ?_
  refine V.icmp_lt (tgt := 16) dX9_isLetter_3 (by decide) (fun hc3 => ?_) (fun hc3 => ?_)
  · replace h := (if_pos hc3).symm.trans h
    refine V.lvs [] rfl ?_
    exact vX9_isLetter_L16 _    R h hQ
  · replace h := (if_neg hc3).symm.trans h
    refine V.iload_n dX9_isLetter_6 rfl 0 rfl ?_
    refine V.bipush (v := (122 : Int32)) dX9_isLetter_7 (by decide) ?_
    refine V.icmp_gt (tgt := 16) dX9_isLetter_9 (by decide) (fun hc9 => ?_) (fun hc9 => ?_)
    · replace h := (if_pos hc9).symm.trans h
      refine V.lvs [] rfl ?_
      exact vX9_isLetter_L16 _    R h hQ
    · replace h := (if_neg hc9).symm.trans h
      refine V.iconst (v := (1 : Int32)) dX9_isLetter_12 (by decide) ?_
      refine V.goto (tgt := 17) dX9_isLetter_13 (by decide) ?_
      refine V.lvs [] rfl ?_
      exact vX9_isLetter_L17 _   _ R h hQ
theorem dX9_isDigit_0 : decode cX9_isDigit 0 = .ok (.iload_n 0, 1) := by decide +kernel
theorem dX9_isDigit_1 : decode cX9_isDigit 1 = .ok (.bipush 48, 2) := by decide +kernel
theorem dX9_isDigit_3 : decode cX9_isDigit 3 = .ok (.if_icmp .lt 13, 3) := by decide +kernel
theorem dX9_isDigit_6 : decode cX9_isDigit 6 = .ok (.iload_n 0, 1) := by decide +kernel
theorem dX9_isDigit_7 : decode cX9_isDigit 7 = .ok (.bipush 57, 2) := by decide +kernel
theorem dX9_isDigit_9 : decode cX9_isDigit 9 = .ok (.if_icmp .gt 7, 3) := by decide +kernel
theorem dX9_isDigit_12 : decode cX9_isDigit 12 = .ok (.iconst 1, 1) := by decide +kernel
theorem dX9_isDigit_13 : decode cX9_isDigit 13 = .ok (.goto 4, 3) := by decide +kernel
theorem dX9_isDigit_16 : decode cX9_isDigit 16 = .ok (.iconst 0, 1) := by decide +kernel
theorem dX9_isDigit_17 : decode cX9_isDigit 17 = .ok (.ireturn, 1) := by decide +kernel
def wX9_isDigit (cy : Nat → ClassId)  : va_W :=
  []
noncomputable def bX9_isDigit_L17 (F : Nat)   (s0 : Int32) : Option (Int32) :=
  if s0 = 0 ∨ s0 = 1 then some s0 else none
theorem vX9_isDigit_L17 {l : Launch} {D : va_G} {cy : Nat → ClassId} {av : List Value} {ws0 : va_W} {Q : Option Value → va_W → Prop} (F : Nat)   (s0 : Int32) (R : Int32) (h : bX9_isDigit_L17 F  s0 = some R) (hQ : Q (some (.int R)) (wX9_isDigit cy )) : V l D cy MX9_isDigit 0 0 0 av ws0 Q 17 [] [.int s0] (wX9_isDigit cy ) 0 0 := by
  unfold bX9_isDigit_L17 at h
  by_cases hz17 : s0 = 0 ∨ s0 = 1
  case neg => exact vNone ((if_neg hz17).symm.trans h)
  replace h := (if_pos hz17).symm.trans h
  have e9 := Option.some.inj h; subst e9
  exact V.iret (ty := .boolean) rfl (vBool hz17).1 dX9_isDigit_17 (Nat.le_refl _) (Nat.le_refl _) hQ
noncomputable def bX9_isDigit_L16 (F : Nat)    : Option (Int32) :=
  bX9_isDigit_L17 F (0 : Int32)
theorem vX9_isDigit_L16 {l : Launch} {D : va_G} {cy : Nat → ClassId} {av : List Value} {ws0 : va_W} {Q : Option Value → va_W → Prop} (F : Nat)    (R : Int32) (h : bX9_isDigit_L16 F   = some R) (hQ : Q (some (.int R)) (wX9_isDigit cy )) : V l D cy MX9_isDigit 0 0 0 av ws0 Q 16 [] [] (wX9_isDigit cy ) 0 0 := by
  unfold bX9_isDigit_L16 at h
  refine V.iconst (v := (0 : Int32)) dX9_isDigit_16 (by decide) ?_
  exact vX9_isDigit_L17 _   _ R h hQ
noncomputable def fX9_isDigit (F : Nat) (a0 : Int32) : Option (Int32) :=
  if a0 < (48 : Int32) then (bX9_isDigit_L16 F) else (if (57 : Int32) < a0 then (bX9_isDigit_L16 F) else (bX9_isDigit_L17 F (1 : Int32)))
theorem CX9_isDigit {l : Launch} {D : va_G} {cy : Nat → ClassId} (F : Nat) (a0 : Int32) (R : Int32) (h : fX9_isDigit F a0 = some R) : vMet l D cy MX9_isDigit 0 0 0 [.int a0] (wX9_isDigit cy ) (fun (r : Option Value) (w : va_W) => r = (some (.int R)) ∧ w = (wX9_isDigit cy )) := by
  refine vMet.start (by decide +kernel) (Nat.le_of_ble_eq_true rfl) ?_
  generalize hQe : (fun (r : Option Value) (w : va_W) => r = (some (.int R)) ∧ w = (wX9_isDigit cy )) = Q
  have hQ : Q (some (.int R)) (wX9_isDigit cy ) := by rw [← hQe]; exact ⟨rfl, rfl⟩
  show V l D cy MX9_isDigit 0 0 0 _ _ Q 0 [(0, .int a0)] [] _ 0 0
  show V l D cy MX9_isDigit 0 0 0 [.int a0] _ Q 0 [(0, .int a0)] [] (wX9_isDigit cy ) 0 0
  unfold fX9_isDigit at h
  refine V.iload_n dX9_isDigit_0 rfl 0 rfl ?_
  refine V.bipush (v := (48 : Int32)) dX9_isDigit_1 (by decide) ?_
  refine V.icmp_lt (tgt := 16) dX9_isDigit_3 (by decide) (fun hc3 => ?_) (fun hc3 => ?_)
  · replace h := (if_pos hc3).symm.trans h
    refine V.lvs [] rfl ?_
    exact vX9_isDigit_L16 _    R h hQ
  · replace h := (if_neg hc3).symm.trans h
    refine V.iload_n dX9_isDigit_6 rfl 0 rfl ?_
    refine V.bipush (v := (57 : Int32)) dX9_isDigit_7 (by decide) ?_
    refine V.icmp_gt (tgt := 16) dX9_isDigit_9 (by decide) (fun hc9 => ?_) (fun hc9 => ?_)
    · replace h := (if_pos hc9).symm.trans h
      refine V.lvs [] rfl ?_
      exact vX9_isDigit_L16 _    R h hQ
    · replace h := (if_neg hc9).symm.trans h
      refine V.iconst (v := (1 : Int32)) dX9_isDigit_12 (by decide) ?_
      refine V.goto (tgt := 17) dX9_isDigit_13 (by decide) ?_
      refine V.lvs [] rfl ?_
      exact vX9_isDigit_L17 _   _ R h hQ
theorem dX9_number_0 : decode cX9_number 0 = .ok (.aload_n 0, 1) := by decide +kernel
theorem dX9_number_1 : decode cX9_number 1 = .ok (.invokevirtual 64, 3) := by decide +kernel
theorem dX9_number_4 : decode cX9_number 4 = .ok (.l2i, 1) := by decide +kernel
theorem dX9_number_5 : decode cX9_number 5 = .ok (.ireturn, 1) := by decide +kernel
def wX9_number (cy : Nat → ClassId) (tA : Nat) (t_signsV : Value) (t_size : Int32) (t_tokensV : Value) (t_startsV : Value) (t_count : Int32) (t_here : Int32) (t_fault : Int32) (t_valuesA : Nat) (t_valuesN : Nat) (t_values : Nat → Int64) : va_W :=
  [(tA, .inr (9, [t_signsV, .int t_size, t_tokensV, t_startsV, .ref t_valuesA, .int t_count, .int t_here, .int t_fault])), (t_valuesA, .inl (cy 2, t_valuesN, .inr (.inl t_values)))]
noncomputable def fX9_number (F : Nat) (t_count : Int32) (t_here : Int32) (t_valuesN : Nat) (t_values : Nat → Int64) : Option (Int32) :=
  (fX9_name F t_count t_here t_valuesN t_values).bind fun R1 => (some R1.toInt32)
theorem CX9_number {l : Launch} {D : va_G} {cy : Nat → ClassId} (F : Nat) (tA : Nat) (t_signsV : Value) (t_size : Int32) (t_tokensV : Value) (t_startsV : Value) (t_count : Int32) (t_here : Int32) (t_fault : Int32) (t_valuesA : Nat) (t_valuesN : Nat) (t_values : Nat → Int64) (R : Int32) (h : fX9_number F t_count t_here t_valuesN t_values = some R) : vMet l D cy MX9_number 1 0 0 [.ref tA] (wX9_number cy tA t_signsV t_size t_tokensV t_startsV t_count t_here t_fault t_valuesA t_valuesN t_values) (fun (r : Option Value) (w : va_W) => r = (some (.int R)) ∧ w = (wX9_number cy tA t_signsV t_size t_tokensV t_startsV t_count t_here t_fault t_valuesA t_valuesN t_values)) := by
  refine vMet.start (by decide +kernel) (Nat.le_of_ble_eq_true rfl) ?_
  generalize hQe : (fun (r : Option Value) (w : va_W) => r = (some (.int R)) ∧ w = (wX9_number cy tA t_signsV t_size t_tokensV t_startsV t_count t_here t_fault t_valuesA t_valuesN t_values)) = Q
  have hQ : Q (some (.int R)) (wX9_number cy tA t_signsV t_size t_tokensV t_startsV t_count t_here t_fault t_valuesA t_valuesN t_values) := by rw [← hQe]; exact ⟨rfl, rfl⟩
  show V l D cy MX9_number 1 0 0 _ _ Q 0 [(0, .ref tA)] [] _ 0 0
  show V l D cy MX9_number 1 0 0 [.ref tA] _ Q 0 [(0, .ref tA)] [] (wX9_number cy tA t_signsV t_size t_tokensV t_startsV t_count t_here t_fault t_valuesA t_valuesN t_values) 0 0
  unfold fX9_number at h
  refine V.aload_n dX9_number_0 rfl 0 rfl ?_
  obtain ⟨R1, hg1, h⟩ := Option.bind_eq_some_iff.mp h
  refine V.callV (As := []) (rest := []) (wc := (wX9_name cy tA t_signsV t_size t_tokensV t_startsV t_count t_here t_fault t_valuesA t_valuesN t_values)) (wr := []) (q0 := 0) (CX9_name F tA t_signsV t_size t_tokensV t_startsV t_count t_here t_fault t_valuesA t_valuesN t_values R1 hg1) kvX9_name klX9_64 [0, 1] [] rfl rfl (by decide) (by decide) (by decide) rfl rfl rfl rfl dX9_number_1 ⟨by decide, by decide, by decide, by decide⟩ (Nat.le_of_ble_eq_true rfl) (fun r w1 hq => ?_)
  obtain ⟨rfl, rfl⟩ := hq
  refine V.cells (ws' := (wX9_number cy tA t_signsV t_size t_tokensV t_startsV t_count t_here t_fault t_valuesA t_valuesN t_values)) [0, 1] (by decide) rfl ?_
  show V l D cy MX9_number 1 0 0 _ _ _ 4 [(0, .ref tA)] [.long R1] (wX9_number cy tA t_signsV t_size t_tokensV t_startsV t_count t_here t_fault t_valuesA t_valuesN t_values) 0 0
  refine V.l2i dX9_number_4 ?_
  have e9 := Option.some.inj h; subst e9
  exact V.iret (ty := .int) rfl rfl dX9_number_5 (Nat.le_refl _) (Nat.le_refl _) hQ
theorem dX9_readNumber_0 : decode cX9_readNumber 0 = .ok (.iload_n 1, 1) := by decide +kernel
theorem dX9_readNumber_1 : decode cX9_readNumber 1 = .ok (.istore_n 2, 1) := by decide +kernel
theorem dX9_readNumber_2 : decode cX9_readNumber 2 = .ok (.lconst 0, 1) := by decide +kernel
theorem dX9_readNumber_3 : decode cX9_readNumber 3 = .ok (.lstore_n 3, 1) := by decide +kernel
theorem dX9_readNumber_4 : decode cX9_readNumber 4 = .ok (.iload_n 2, 1) := by decide +kernel
theorem dX9_readNumber_5 : decode cX9_readNumber 5 = .ok (.aload_n 0, 1) := by decide +kernel
theorem dX9_readNumber_6 : decode cX9_readNumber 6 = .ok (.getfield 26, 3) := by decide +kernel
theorem dX9_readNumber_9 : decode cX9_readNumber 9 = .ok (.if_icmp .ge 38, 3) := by decide +kernel
theorem dX9_readNumber_12 : decode cX9_readNumber 12 = .ok (.aload_n 0, 1) := by decide +kernel
theorem dX9_readNumber_13 : decode cX9_readNumber 13 = .ok (.getfield 9, 3) := by decide +kernel
theorem dX9_readNumber_16 : decode cX9_readNumber 16 = .ok (.iload_n 2, 1) := by decide +kernel
theorem dX9_readNumber_17 : decode cX9_readNumber 17 = .ok (.baload, 1) := by decide +kernel
theorem dX9_readNumber_18 : decode cX9_readNumber 18 = .ok (.invokestatic 47, 3) := by decide +kernel
theorem dX9_readNumber_21 : decode cX9_readNumber 21 = .ok (.ifCond .eq 26, 3) := by decide +kernel
theorem dX9_readNumber_24 : decode cX9_readNumber 24 = .ok (.lload_n 3, 1) := by decide +kernel
theorem dX9_readNumber_25 : decode cX9_readNumber 25 = .ok (.ldc2_w 84, 3) := by decide +kernel
theorem dX9_readNumber_28 : decode cX9_readNumber 28 = .ok (.lmul, 1) := by decide +kernel
theorem dX9_readNumber_29 : decode cX9_readNumber 29 = .ok (.aload_n 0, 1) := by decide +kernel
theorem dX9_readNumber_30 : decode cX9_readNumber 30 = .ok (.getfield 9, 3) := by decide +kernel
theorem dX9_readNumber_33 : decode cX9_readNumber 33 = .ok (.iload_n 2, 1) := by decide +kernel
theorem dX9_readNumber_34 : decode cX9_readNumber 34 = .ok (.baload, 1) := by decide +kernel
theorem dX9_readNumber_35 : decode cX9_readNumber 35 = .ok (.bipush 48, 2) := by decide +kernel
theorem dX9_readNumber_37 : decode cX9_readNumber 37 = .ok (.isub, 1) := by decide +kernel
theorem dX9_readNumber_38 : decode cX9_readNumber 38 = .ok (.i2l, 1) := by decide +kernel
theorem dX9_readNumber_39 : decode cX9_readNumber 39 = .ok (.ladd, 1) := by decide +kernel
theorem dX9_readNumber_40 : decode cX9_readNumber 40 = .ok (.lstore_n 3, 1) := by decide +kernel
theorem dX9_readNumber_41 : decode cX9_readNumber 41 = .ok (.iinc 2 1, 3) := by decide +kernel
theorem dX9_readNumber_44 : decode cX9_readNumber 44 = .ok (.goto (-40), 3) := by decide +kernel
theorem dX9_readNumber_47 : decode cX9_readNumber 47 = .ok (.aload_n 0, 1) := by decide +kernel
theorem dX9_readNumber_48 : decode cX9_readNumber 48 = .ok (.iload_n 2, 1) := by decide +kernel
theorem dX9_readNumber_49 : decode cX9_readNumber 49 = .ok (.iload_n 1, 1) := by decide +kernel
theorem dX9_readNumber_50 : decode cX9_readNumber 50 = .ok (.isub, 1) := by decide +kernel
theorem dX9_readNumber_51 : decode cX9_readNumber 51 = .ok (.iconst 4, 1) := by decide +kernel
theorem dX9_readNumber_52 : decode cX9_readNumber 52 = .ok (.if_icmp .le 8, 3) := by decide +kernel
theorem dX9_readNumber_55 : decode cX9_readNumber 55 = .ok (.bipush 23, 2) := by decide +kernel
theorem dX9_readNumber_57 : decode cX9_readNumber 57 = .ok (.goto 5, 3) := by decide +kernel
theorem dX9_readNumber_60 : decode cX9_readNumber 60 = .ok (.bipush 21, 2) := by decide +kernel
theorem dX9_readNumber_62 : decode cX9_readNumber 62 = .ok (.iload_n 1, 1) := by decide +kernel
theorem dX9_readNumber_63 : decode cX9_readNumber 63 = .ok (.lload_n 3, 1) := by decide +kernel
theorem dX9_readNumber_64 : decode cX9_readNumber 64 = .ok (.invokevirtual 60, 3) := by decide +kernel
theorem dX9_readNumber_67 : decode cX9_readNumber 67 = .ok (.iload_n 2, 1) := by decide +kernel
theorem dX9_readNumber_68 : decode cX9_readNumber 68 = .ok (.ireturn, 1) := by decide +kernel
def wX9_readNumber (cy : Nat → ClassId) (tA : Nat) (t_size : Int32) (t_count : Int32) (t_here : Int32) (t_fault : Int32) (t_signsA : Nat) (t_signsN : Nat) (t_signs : Nat → Int32) (t_tokensA : Nat) (t_tokensN : Nat) (t_tokens : Nat → Int32) (t_startsA : Nat) (t_startsN : Nat) (t_starts : Nat → Int32) (t_valuesA : Nat) (t_valuesN : Nat) (t_values : Nat → Int64) : va_W :=
  [(tA, .inr (9, [.ref t_signsA, .int t_size, .ref t_tokensA, .ref t_startsA, .ref t_valuesA, .int t_count, .int t_here, .int t_fault])), (t_signsA, .inl (cy 0, t_signsN, .inl t_signs)), (t_tokensA, .inl (cy 1, t_tokensN, .inl t_tokens)), (t_startsA, .inl (cy 1, t_startsN, .inl t_starts)), (t_valuesA, .inl (cy 2, t_valuesN, .inr (.inl t_values)))]
noncomputable def bX9_readNumber_L62 (F : Nat) (t_size : Int32) (t_signsN : Nat) (t_signs : Nat → Int32) (t_tokensN : Nat) (t_startsN : Nat) (t_valuesN : Nat)  (x1 : Int32) (x2 : Int32) (x3 : Int64) (s1 : Int32) (t_count : Int32) (t_tokens : Nat → Int32) (t_starts : Nat → Int32) (t_values : Nat → Int64) : Option (Int32 × (Int32) × (Nat → Int32) × (Nat → Int32) × (Nat → Int64)) :=
  (fX9_lay F t_tokensN t_startsN t_valuesN s1 x1 x3 t_count t_tokens t_starts t_values).bind fun R64 => (some (x2, R64.1, R64.2.1, R64.2.2.1, R64.2.2.2))
theorem vX9_readNumber_L62 {l : Launch} {D : va_G} {cy : Nat → ClassId} {av : List Value} {ws0 : va_W} {Q : Option Value → va_W → Prop} (F : Nat) (tA : Nat) (t_size : Int32) (t_here : Int32) (t_fault : Int32) (t_signsA : Nat) (t_signsN : Nat) (t_signs : Nat → Int32) (t_tokensA : Nat) (t_tokensN : Nat) (t_startsA : Nat) (t_startsN : Nat) (t_valuesA : Nat) (t_valuesN : Nat)  (x1 : Int32) (x2 : Int32) (x3 : Int64) (s1 : Int32) (t_count : Int32) (t_tokens : Nat → Int32) (t_starts : Nat → Int32) (t_values : Nat → Int64) (R : Int32 × (Int32) × (Nat → Int32) × (Nat → Int32) × (Nat → Int64)) (h : bX9_readNumber_L62 F t_size t_signsN t_signs t_tokensN t_startsN t_valuesN  x1 x2 x3 s1 t_count t_tokens t_starts t_values = some R) (hQ : Q (some (.int R.1)) (wX9_readNumber cy tA t_size R.2.1 t_here t_fault t_signsA t_signsN t_signs t_tokensA t_tokensN R.2.2.1 t_startsA t_startsN R.2.2.2.1 t_valuesA t_valuesN R.2.2.2.2)) : V l D cy MX9_readNumber 1 0 0 av ws0 Q 62 [(1, .int x1), (2, .int x2), (3, .long x3)] [.int s1, .ref tA] (wX9_readNumber cy tA t_size t_count t_here t_fault t_signsA t_signsN t_signs t_tokensA t_tokensN t_tokens t_startsA t_startsN t_starts t_valuesA t_valuesN t_values) 0 0 := by
  unfold bX9_readNumber_L62 at h
  refine V.iload_n dX9_readNumber_62 rfl 0 rfl ?_
  refine V.lload_n dX9_readNumber_63 rfl 2 rfl ?_
  obtain ⟨R64, hg64, h⟩ := Option.bind_eq_some_iff.mp h
  refine V.callV (As := [.int s1, .int x1, .long x3]) (rest := []) (wc := (wX9_lay cy tA (.ref t_signsA) t_size t_count t_here t_fault t_tokensA t_tokensN t_tokens t_startsA t_startsN t_starts t_valuesA t_valuesN t_values)) (wr := [(t_signsA, .inl (cy 0, t_signsN, .inl t_signs))]) (q0 := 0) (CX9_lay F tA (.ref t_signsA) t_size t_count t_here t_fault t_tokensA t_tokensN t_tokens t_startsA t_startsN t_starts t_valuesA t_valuesN t_values s1 x1 x3 R64 hg64) kvX9_lay klX9_60 [0, 2, 3, 4] [1] rfl rfl (by decide) (by decide) (by decide) rfl rfl rfl rfl dX9_readNumber_64 ⟨by decide, by decide, by decide, by decide⟩ (Nat.le_of_ble_eq_true rfl) (fun r w1 hq => ?_)
  obtain ⟨rfl, rfl⟩ := hq
  refine V.cells (ws' := (wX9_readNumber cy tA t_size R64.1 t_here t_fault t_signsA t_signsN t_signs t_tokensA t_tokensN R64.2.1 t_startsA t_startsN R64.2.2.1 t_valuesA t_valuesN R64.2.2.2)) [1, 0, 2, 3, 4] (by decide) rfl ?_
  show V l D cy MX9_readNumber 1 0 0 _ _ _ 67 [(1, .int x1), (2, .int x2), (3, .long x3)] [] (wX9_readNumber cy tA t_size R64.1 t_here t_fault t_signsA t_signsN t_signs t_tokensA t_tokensN R64.2.1 t_startsA t_startsN R64.2.2.1 t_valuesA t_valuesN R64.2.2.2) 0 0
  refine V.iload_n dX9_readNumber_67 rfl 1 rfl ?_
  have e9 := Option.some.inj h; subst e9
  exact V.iret (ty := .int) rfl rfl dX9_readNumber_68 (Nat.le_refl _) (Nat.le_refl _) hQ
noncomputable def bX9_readNumber_L47 (F : Nat) (t_size : Int32) (t_signsN : Nat) (t_signs : Nat → Int32) (t_tokensN : Nat) (t_startsN : Nat) (t_valuesN : Nat)  (x1 : Int32) (x2 : Int32) (x3 : Int64) (t_count : Int32) (t_tokens : Nat → Int32) (t_starts : Nat → Int32) (t_values : Nat → Int64) : Option (Int32 × (Int32) × (Nat → Int32) × (Nat → Int32) × (Nat → Int64)) :=
  if (x2 - x1) ≤ (4 : Int32) then (bX9_readNumber_L62 F t_size t_signsN t_signs t_tokensN t_startsN t_valuesN x1 x2 x3 (21 : Int32) t_count t_tokens t_starts t_values) else (bX9_readNumber_L62 F t_size t_signsN t_signs t_tokensN t_startsN t_valuesN x1 x2 x3 (23 : Int32) t_count t_tokens t_starts t_values)
theorem vX9_readNumber_L47 {l : Launch} {D : va_G} {cy : Nat → ClassId} {av : List Value} {ws0 : va_W} {Q : Option Value → va_W → Prop} (F : Nat) (tA : Nat) (t_size : Int32) (t_here : Int32) (t_fault : Int32) (t_signsA : Nat) (t_signsN : Nat) (t_signs : Nat → Int32) (t_tokensA : Nat) (t_tokensN : Nat) (t_startsA : Nat) (t_startsN : Nat) (t_valuesA : Nat) (t_valuesN : Nat)  (x1 : Int32) (x2 : Int32) (x3 : Int64) (t_count : Int32) (t_tokens : Nat → Int32) (t_starts : Nat → Int32) (t_values : Nat → Int64) (R : Int32 × (Int32) × (Nat → Int32) × (Nat → Int32) × (Nat → Int64)) (h : bX9_readNumber_L47 F t_size t_signsN t_signs t_tokensN t_startsN t_valuesN  x1 x2 x3 t_count t_tokens t_starts t_values = some R) (hQ : Q (some (.int R.1)) (wX9_readNumber cy tA t_size R.2.1 t_here t_fault t_signsA t_signsN t_signs t_tokensA t_tokensN R.2.2.1 t_startsA t_startsN R.2.2.2.1 t_valuesA t_valuesN R.2.2.2.2)) : V l D cy MX9_readNumber 1 0 0 av ws0 Q 47 [(0, .ref tA), (1, .int x1), (2, .int x2), (3, .long x3)] [] (wX9_readNumber cy tA t_size t_count t_here t_fault t_signsA t_signsN t_signs t_tokensA t_tokensN t_tokens t_startsA t_startsN t_starts t_valuesA t_valuesN t_values) 0 0 := by
  unfold bX9_readNumber_L47 at h
  refine V.aload_n dX9_readNumber_47 rfl 0 rfl ?_
  refine V.iload_n dX9_readNumber_48 rfl 2 rfl ?_
  refine V.iload_n dX9_readNumber_49 rfl 1 rfl ?_
  refine V.isub dX9_readNumber_50 ?_
  refine V.iconst (v := (4 : Int32)) dX9_readNumber_51 (by decide) ?_
  refine V.icmp_le (tgt := 60) dX9_readNumber_52 (by decide) (fun hc52 => ?_) (fun hc52 => ?_)
  · replace h := (if_pos hc52).symm.trans h
    refine V.bipush (v := (21 : Int32)) dX9_readNumber_60 (by decide) ?_
    refine V.lvs [1, 2, 3] rfl ?_
    exact vX9_readNumber_L62 _ _ _ _ _ _ _ _ _ _ _ _ _ _   _ _ _ _ _ _ _ _ R h hQ
  · replace h := (if_neg hc52).symm.trans h
    refine V.bipush (v := (23 : Int32)) dX9_readNumber_55 (by decide) ?_
    refine V.goto (tgt := 62) dX9_readNumber_57 (by decide) ?_
    refine V.lvs [1, 2, 3] rfl ?_
    exact vX9_readNumber_L62 _ _ _ _ _ _ _ _ _ _ _ _ _ _   _ _ _ _ _ _ _ _ R h hQ
noncomputable def bX9_readNumber_L4 (F : Nat) (t_size : Int32) (t_signsN : Nat) (t_signs : Nat → Int32) (t_tokensN : Nat) (t_startsN : Nat) (t_valuesN : Nat) (k4 : Int32 → Int32 → Int64 → Int32 → (Nat → Int32) → (Nat → Int32) → (Nat → Int64) → Option (Int32 × (Int32) × (Nat → Int32) × (Nat → Int32) × (Nat → Int64))) (x1 : Int32) (x2 : Int32) (x3 : Int64) (t_count : Int32) (t_tokens : Nat → Int32) (t_starts : Nat → Int32) (t_values : Nat → Int64) : Option (Int32 × (Int32) × (Nat → Int32) × (Nat → Int32) × (Nat → Int64)) :=
  if t_size ≤ x2 then (bX9_readNumber_L47 F t_size t_signsN t_signs t_tokensN t_startsN t_valuesN x1 x2 x3 t_count t_tokens t_starts t_values) else (if x2 < 0 ∨ t_signsN ≤ x2.toNatClampNeg then none else ((fX9_isDigit F (t_signs (x2).toNatClampNeg)).bind fun R18 => (if R18 = 0 then (bX9_readNumber_L47 F t_size t_signsN t_signs t_tokensN t_startsN t_valuesN x1 x2 x3 t_count t_tokens t_starts t_values) else (if x2 < 0 ∨ t_signsN ≤ x2.toNatClampNeg then none else (k4 x1 (x2 + (1 : Int32)) ((x3 * (10 : Int64)) + (((t_signs (x2).toNatClampNeg) - (48 : Int32)).toInt64)) t_count t_tokens t_starts t_values)))))
theorem vbX9_readNumber_L4 {l : Launch} {D : va_G} {cy : Nat → ClassId} {av : List Value} {ws0 : va_W} {Q : Option Value → va_W → Prop} (F : Nat) (tA : Nat) (t_size : Int32) (t_here : Int32) (t_fault : Int32) (t_signsA : Nat) (t_signsN : Nat) (t_signs : Nat → Int32) (t_tokensA : Nat) (t_tokensN : Nat) (t_startsA : Nat) (t_startsN : Nat) (t_valuesA : Nat) (t_valuesN : Nat) (k4 : Int32 → Int32 → Int64 → Int32 → (Nat → Int32) → (Nat → Int32) → (Nat → Int64) → Option (Int32 × (Int32) × (Nat → Int32) × (Nat → Int32) × (Nat → Int64))) (hk4 : ∀ (x1 : Int32) (x2 : Int32) (x3 : Int64) (t_count : Int32) (t_tokens : Nat → Int32) (t_starts : Nat → Int32) (t_values : Nat → Int64) (R : Int32 × (Int32) × (Nat → Int32) × (Nat → Int32) × (Nat → Int64)), k4 x1 x2 x3 t_count t_tokens t_starts t_values = some R → Q (some (.int R.1)) (wX9_readNumber cy tA t_size R.2.1 t_here t_fault t_signsA t_signsN t_signs t_tokensA t_tokensN R.2.2.1 t_startsA t_startsN R.2.2.2.1 t_valuesA t_valuesN R.2.2.2.2) → V l D cy MX9_readNumber 1 0 0 av ws0 Q 4 [(0, .ref tA), (1, .int x1), (2, .int x2), (3, .long x3)] [] (wX9_readNumber cy tA t_size t_count t_here t_fault t_signsA t_signsN t_signs t_tokensA t_tokensN t_tokens t_startsA t_startsN t_starts t_valuesA t_valuesN t_values) 0 0) (x1 : Int32) (x2 : Int32) (x3 : Int64) (t_count : Int32) (t_tokens : Nat → Int32) (t_starts : Nat → Int32) (t_values : Nat → Int64) (R : Int32 × (Int32) × (Nat → Int32) × (Nat → Int32) × (Nat → Int64)) (h : bX9_readNumber_L4 F t_size t_signsN t_signs t_tokensN t_startsN t_valuesN k4 x1 x2 x3 t_count t_tokens t_starts t_values = some R) (hQ : Q (some (.int R.1)) (wX9_readNumber cy tA t_size R.2.1 t_here t_fault t_signsA t_signsN t_signs t_tokensA t_tokensN R.2.2.1 t_startsA t_startsN R.2.2.2.1 t_valuesA t_valuesN R.2.2.2.2)) : V l D cy MX9_readNumber 1 0 0 av ws0 Q 4 [(0, .ref tA), (1, .int x1), (2, .int x2), (3, .long x3)] [] (wX9_readNumber cy tA t_size t_count t_here t_fault t_signsA t_signsN t_signs t_tokensA t_tokensN t_tokens t_startsA t_startsN t_starts t_valuesA t_valuesN t_values) 0 0 := by
  unfold bX9_readNumber_L4 at h
  refine V.iload_n dX9_readNumber_4 rfl 2 rfl ?_
  refine V.aload_n dX9_readNumber_5 rfl 0 rfl ?_
  refine V.get kfX9 0 rfl rfl 1 (by decide) klX9_26 rfl dX9_readNumber_6 ?_
  refine V.icmp_ge (tgt := 47) dX9_readNumber_9 (by decide) (fun hc9 => ?_) (fun hc9 => ?_)
  · replace h := (if_pos hc9).symm.trans h
    exact vX9_readNumber_L47 _ _ _ _ _ _ _ _ _ _ _ _ _ _   _ _ _ _ _ _ _ R h hQ
  · replace h := (if_neg hc9).symm.trans h
    refine V.aload_n dX9_readNumber_12 rfl 0 rfl ?_
    refine V.get kfX9 0 rfl rfl 0 (by decide) klX9_9 rfl dX9_readNumber_13 ?_
    refine V.iload_n dX9_readNumber_16 rfl 2 rfl ?_
    by_cases hb17 : x2 < 0 ∨ t_signsN ≤ x2.toNatClampNeg
    · exact vNone ((if_pos hb17).symm.trans h)
    replace h := (if_neg hb17).symm.trans h
    refine V.bald dX9_readNumber_17 1 rfl hb17 ?_
    obtain ⟨R18, hg18, h⟩ := Option.bind_eq_some_iff.mp h
    refine V.callS (As := [.int (t_signs (x2).toNatClampNeg)]) (rest := []) (wc := (wX9_isDigit cy )) (wr := [(tA, .inr (9, [.ref t_signsA, .int t_size, .ref t_tokensA, .ref t_startsA, .ref t_valuesA, .int t_count, .int t_here, .int t_fault])), (t_signsA, .inl (cy 0, t_signsN, .inl t_signs)), (t_tokensA, .inl (cy 1, t_tokensN, .inl t_tokens)), (t_startsA, .inl (cy 1, t_startsN, .inl t_starts)), (t_valuesA, .inl (cy 2, t_valuesN, .inr (.inl t_values)))]) (CX9_isDigit F (t_signs (x2).toNatClampNeg) R18 hg18) kvX9_isDigit klX9_47 [] [0, 1, 2, 3, 4] rfl rfl (by decide) (by decide) (by decide) rfl dX9_readNumber_18 ⟨by decide, by decide, by decide, by decide⟩ (Nat.le_of_ble_eq_true rfl) (fun r w1 hq => ?_)
    obtain ⟨rfl, rfl⟩ := hq
    refine V.cells (ws' := (wX9_readNumber cy tA t_size t_count t_here t_fault t_signsA t_signsN t_signs t_tokensA t_tokensN t_tokens t_startsA t_startsN t_starts t_valuesA t_valuesN t_values)) [0, 1, 2, 3, 4] (by decide) rfl ?_
    show V l D cy MX9_readNumber 1 0 0 _ _ _ 21 [(0, .ref tA), (1, .int x1), (2, .int x2), (3, .long x3)] [.int R18] (wX9_readNumber cy tA t_size t_count t_here t_fault t_signsA t_signsN t_signs t_tokensA t_tokensN t_tokens t_startsA t_startsN t_starts t_valuesA t_valuesN t_values) 0 0
    refine V.if_eq (tgt := 47) dX9_readNumber_21 (by decide) (fun hc21 => ?_) (fun hc21 => ?_)
    · replace h := (if_pos hc21).symm.trans h
      exact vX9_readNumber_L47 _ _ _ _ _ _ _ _ _ _ _ _ _ _   _ _ _ _ _ _ _ R h hQ
    · replace h := (if_neg hc21).symm.trans h
      refine V.lload_n dX9_readNumber_24 rfl 3 rfl ?_
      refine V.ldc2 (v := (10 : Int64)) klX9_84 dX9_readNumber_25 ?_
      refine V.lmul dX9_readNumber_28 ?_
      refine V.aload_n dX9_readNumber_29 rfl 0 rfl ?_
      refine V.get kfX9 0 rfl rfl 0 (by decide) klX9_9 rfl dX9_readNumber_30 ?_
      refine V.iload_n dX9_readNumber_33 rfl 2 rfl ?_
      by_cases hb34 : x2 < 0 ∨ t_signsN ≤ x2.toNatClampNeg
      · exact vNone ((if_pos hb34).symm.trans h)
      replace h := (if_neg hb34).symm.trans h
      refine V.bald dX9_readNumber_34 1 rfl hb34 ?_
      refine V.bipush (v := (48 : Int32)) dX9_readNumber_35 (by decide) ?_
      refine V.isub dX9_readNumber_37 ?_
      refine V.i2l dX9_readNumber_38 ?_
      refine V.ladd dX9_readNumber_39 ?_
      refine V.lstore_n (lv' := [(3, .long ((x3 * (10 : Int64)) + (((t_signs (x2).toNatClampNeg) - (48 : Int32)).toInt64))), (0, .ref tA), (1, .int x1), (2, .int x2)]) dX9_readNumber_40 rfl (by decide) rfl ?_
      refine V.iinc (v := x2 + (1 : Int32)) (lv' := [(2, .int (x2 + (1 : Int32))), (3, .long ((x3 * (10 : Int64)) + (((t_signs (x2).toNatClampNeg) - (48 : Int32)).toInt64))), (0, .ref tA), (1, .int x1)]) dX9_readNumber_41 3 rfl rfl (by decide) rfl ?_
      refine V.goto (tgt := 4) dX9_readNumber_44 (by decide) ?_
      refine V.lvs [2, 3, 0, 1] rfl ?_
      exact hk4 _ _ _ _ _ _ _ R h hQ
noncomputable def fX9_readNumber_L4 (F : Nat) (t_size : Int32) (t_signsN : Nat) (t_signs : Nat → Int32) (t_tokensN : Nat) (t_startsN : Nat) (t_valuesN : Nat)  : Nat → Int32 → Int32 → Int64 → Int32 → (Nat → Int32) → (Nat → Int32) → (Nat → Int64) → Option (Int32 × (Int32) × (Nat → Int32) × (Nat → Int32) × (Nat → Int64))
  | 0 => fun _ _ _ _ _ _ _ => none
  | n + 1 => bX9_readNumber_L4 F t_size t_signsN t_signs t_tokensN t_startsN t_valuesN (fX9_readNumber_L4 F t_size t_signsN t_signs t_tokensN t_startsN t_valuesN  n)
theorem vX9_readNumber_L4 {l : Launch} {D : va_G} {cy : Nat → ClassId} {av : List Value} {ws0 : va_W} {Q : Option Value → va_W → Prop} (F : Nat) (tA : Nat) (t_size : Int32) (t_here : Int32) (t_fault : Int32) (t_signsA : Nat) (t_signsN : Nat) (t_signs : Nat → Int32) (t_tokensA : Nat) (t_tokensN : Nat) (t_startsA : Nat) (t_startsN : Nat) (t_valuesA : Nat) (t_valuesN : Nat)  : ∀ (n : Nat) (x1 : Int32) (x2 : Int32) (x3 : Int64) (t_count : Int32) (t_tokens : Nat → Int32) (t_starts : Nat → Int32) (t_values : Nat → Int64) (R : Int32 × (Int32) × (Nat → Int32) × (Nat → Int32) × (Nat → Int64)), fX9_readNumber_L4 F t_size t_signsN t_signs t_tokensN t_startsN t_valuesN  n x1 x2 x3 t_count t_tokens t_starts t_values = some R → Q (some (.int R.1)) (wX9_readNumber cy tA t_size R.2.1 t_here t_fault t_signsA t_signsN t_signs t_tokensA t_tokensN R.2.2.1 t_startsA t_startsN R.2.2.2.1 t_valuesA t_valuesN R.2.2.2.2) → V l D cy MX9_readNumber 1 0 0 av ws0 Q 4 [(0, .ref tA), (1, .int x1), (2, .int x2), (3, .long x3)] [] (wX9_readNumber cy tA t_size t_count t_here t_fault t_signsA t_signsN t_signs t_tokensA t_tokensN t_tokens t_startsA t_startsN t_starts t_valuesA t_valuesN t_values) 0 0 := by
  intro n
  induction n with
  | zero => intro x1 x2 x3 t_count t_tokens t_starts t_values R h; exact vNone h
  | succ n ih => intro x1 x2 x3 t_count t_tokens t_starts t_values R h hQ; exact vbX9_readNumber_L4 F tA t_size t_here t_fault t_signsA t_signsN t_signs t_tokensA t_tokensN t_startsA t_startsN t_valuesA t_valuesN _ ih x1 x2 x3 t_count t_tokens t_starts t_values R h hQ
noncomputable def fX9_readNumber (F : Nat) (t_size : Int32) (t_signsN : Nat) (t_signs : Nat → Int32) (t_tokensN : Nat) (t_startsN : Nat) (t_valuesN : Nat) (a1 : Int32) (t_count : Int32) (t_tokens : Nat → Int32) (t_starts : Nat → Int32) (t_values : Nat → Int64) : Option (Int32 × (Int32) × (Nat → Int32) × (Nat → Int32) × (Nat → Int64)) :=
  fX9_readNumber_L4 F t_size t_signsN t_signs t_tokensN t_startsN t_valuesN F a1 a1 (0 : Int64) t_count t_tokens t_starts t_values
theorem CX9_readNumber {l : Launch} {D : va_G} {cy : Nat → ClassId} (F : Nat) (tA : Nat) (t_size : Int32) (t_count : Int32) (t_here : Int32) (t_fault : Int32) (t_signsA : Nat) (t_signsN : Nat) (t_signs : Nat → Int32) (t_tokensA : Nat) (t_tokensN : Nat) (t_tokens : Nat → Int32) (t_startsA : Nat) (t_startsN : Nat) (t_starts : Nat → Int32) (t_valuesA : Nat) (t_valuesN : Nat) (t_values : Nat → Int64) (a1 : Int32) (R : Int32 × (Int32) × (Nat → Int32) × (Nat → Int32) × (Nat → Int64)) (h : fX9_readNumber F t_size t_signsN t_signs t_tokensN t_startsN t_valuesN a1 t_count t_tokens t_starts t_values = some R) : vMet l D cy MX9_readNumber 1 0 0 [.ref tA, .int a1] (wX9_readNumber cy tA t_size t_count t_here t_fault t_signsA t_signsN t_signs t_tokensA t_tokensN t_tokens t_startsA t_startsN t_starts t_valuesA t_valuesN t_values) (fun (r : Option Value) (w : va_W) => r = (some (.int R.1)) ∧ w = (wX9_readNumber cy tA t_size R.2.1 t_here t_fault t_signsA t_signsN t_signs t_tokensA t_tokensN R.2.2.1 t_startsA t_startsN R.2.2.2.1 t_valuesA t_valuesN R.2.2.2.2)) := by
  refine vMet.start (by decide +kernel) (Nat.le_of_ble_eq_true rfl) ?_
  generalize hQe : (fun (r : Option Value) (w : va_W) => r = (some (.int R.1)) ∧ w = (wX9_readNumber cy tA t_size R.2.1 t_here t_fault t_signsA t_signsN t_signs t_tokensA t_tokensN R.2.2.1 t_startsA t_startsN R.2.2.2.1 t_valuesA t_valuesN R.2.2.2.2)) = Q
  have hQ : Q (some (.int R.1)) (wX9_readNumber cy tA t_size R.2.1 t_here t_fault t_signsA t_signsN t_signs t_tokensA t_tokensN R.2.2.1 t_startsA t_startsN R.2.2.2.1 t_valuesA t_valuesN R.2.2.2.2) := by rw [← hQe]; exact ⟨rfl, rfl⟩
  show V l D cy MX9_readNumber 1 0 0 _ _ Q 0 [(0, .ref tA), (1, .int a1)] [] _ 0 0
  show V l D cy MX9_readNumber 1 0 0 [.ref tA, .int a1] _ Q 0 [(0, .ref tA), (1, .int a1)] [] (wX9_readNumber cy tA t_size t_count t_here t_fault t_signsA t_signsN t_signs t_tokensA t_tokensN t_tokens t_startsA t_startsN t_starts t_valuesA t_valuesN t_values) 0 0
  unfold fX9_readNumber at h
  refine V.iload_n dX9_readNumber_0 rfl 1 rfl ?_
  refine V.istore_n (lv' := [(2, .int a1), (0, .ref tA), (1, .int a1)]) dX9_readNumber_1 rfl (by decide) rfl ?_
  refine V.lconst (v := (0 : Int64)) dX9_readNumber_2 (by decide) ?_
  refine V.lstore_n (lv' := [(3, .long (0 : Int64)), (2, .int a1), (0, .ref tA), (1, .int a1)]) dX9_readNumber_3 rfl (by decide) rfl ?_
  refine V.lvs [2, 3, 1, 0] rfl ?_
  exact vX9_readNumber_L4 _ _ _ _ _ _ _ _ _ _ _ _ _ _  _ _ _ _ _ _ _ _ R h hQ
