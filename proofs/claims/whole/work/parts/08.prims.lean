theorem vNone {α : Type} {a : α} {P : Prop} (h : (none : Option α) = some a) : P := nomatch h
theorem vBool {v : Int32} (h : v = 0 ∨ v = 1) : narrow .boolean (.int v) = .int v ∧ fits .boolean (.int v) = true := by
  rcases h with rfl | rfl <;> exact ⟨rfl, rfl⟩
theorem kp_max : Cond.code Lib.Math.max.name Lib.Math.max.code 2 (some .int) ∈ vT ∧ Cond.static Lib.Math.max.name ∈ vT := ⟨vT_i 558 (by decide +kernel) (by decide +kernel), vT_i 557 (by decide +kernel) (by decide +kernel)⟩
theorem kp_min : Cond.code Lib.Math.min.name Lib.Math.min.code 2 (some .int) ∈ vT ∧ Cond.static Lib.Math.min.name ∈ vT := ⟨vT_i 561 (by decide +kernel) (by decide +kernel), vT_i 560 (by decide +kernel) (by decide +kernel)⟩
theorem kp_abs : Cond.code Lib.Math.abs.name Lib.Math.abs.code 1 (some .int) ∈ vT ∧ Cond.static Lib.Math.abs.name ∈ vT := ⟨vT_i 896 (by decide +kernel) (by decide +kernel), vT_i 895 (by decide +kernel) (by decide +kernel)⟩
theorem kp_math : Cond.initialized "java/lang/Math" ∈ vT := vT_i 19 (by decide +kernel) (by decide +kernel)
theorem kp_copy : Cond.static arraycopyName ∈ vT ∧ Cond.native arraycopyName ∈ vT ∧ Cond.initialized "java/lang/System" ∈ vT := ⟨vT_i 796 (by decide +kernel) (by decide +kernel), vT_i 797 (by decide +kernel) (by decide +kernel), vT_i 22 (by decide +kernel) (by decide +kernel)⟩
section PRIMS
variable {l : Launch} {D : va_G} {cy : Nat → ClassId} {M : vM} {d mc ms : Nat} {av : List Value} {ws0 : va_W} {Q : Option Value → va_W → Prop} {pc : Nat} {lv : List (Nat × Value)} {st : List Value} {ws ws' : va_W} {k n : Nat}
theorem V.mmax {x y : Int32} {index : Nat} (hk : Cond.methodLink M.1.cls index Lib.Math.max.name ∈ vT) (hd : decode M.2.1 pc = .ok (.invokestatic index, 3)) (hcat : (st.map fun v => v.category).sum ≤ 8) (hkn : k ≤ mc ∧ n ≤ ms) (h : V l D cy M d mc ms av ws0 Q (pc + 3) lv (.int (if x < y then y else x) :: st) ws k n) : V l D cy M d mc ms av ws0 Q pc lv (.int y :: .int x :: st) ws k n := by
  intro p e s m below meth c X H locs ls hP hD hS hl
  have hv : ∀ w ∈ vT, w.before av.toArray s = true := fun w hw => X.2.2.2.2.2.2.2.1 w (List.mem_cons_of_mem _ hw)
  exact va_mmax X.1 X.2.1 (X.2.2.2.1.trans hl.1.symm) X.2.2.2.2.1 (hv _ hk) (hv _ kp_max.2) (hv _ kp_math) (hv _ kp_max.1) (by simp only [vRoom]; omega) (by simp only [vRoom]; omega) hkn.1 hkn.2 hd (h p e s m below meth c X H locs ls hP hD hS hl)
theorem V.mmin {x y : Int32} {index : Nat} (hk : Cond.methodLink M.1.cls index Lib.Math.min.name ∈ vT) (hd : decode M.2.1 pc = .ok (.invokestatic index, 3)) (hcat : (st.map fun v => v.category).sum ≤ 8) (hkn : k ≤ mc ∧ n ≤ ms) (h : V l D cy M d mc ms av ws0 Q (pc + 3) lv (.int (if y < x then y else x) :: st) ws k n) : V l D cy M d mc ms av ws0 Q pc lv (.int y :: .int x :: st) ws k n := by
  intro p e s m below meth c X H locs ls hP hD hS hl
  have hv : ∀ w ∈ vT, w.before av.toArray s = true := fun w hw => X.2.2.2.2.2.2.2.1 w (List.mem_cons_of_mem _ hw)
  exact va_mmin X.1 X.2.1 (X.2.2.2.1.trans hl.1.symm) X.2.2.2.2.1 (hv _ hk) (hv _ kp_min.2) (hv _ kp_math) (hv _ kp_min.1) (by simp only [vRoom]; omega) (by simp only [vRoom]; omega) hkn.1 hkn.2 hd (h p e s m below meth c X H locs ls hP hD hS hl)
theorem V.mabs {x : Int32} {index : Nat} (hk : Cond.methodLink M.1.cls index Lib.Math.abs.name ∈ vT) (hd : decode M.2.1 pc = .ok (.invokestatic index, 3)) (hcat : (st.map fun v => v.category).sum ≤ 8) (hkn : k ≤ mc ∧ n ≤ ms) (h : V l D cy M d mc ms av ws0 Q (pc + 3) lv (.int (if 0 ≤ x then x else 0 - x) :: st) ws k n) : V l D cy M d mc ms av ws0 Q pc lv (.int x :: st) ws k n := by
  intro p e s m below meth c X H locs ls hP hD hS hl
  have hv : ∀ w ∈ vT, w.before av.toArray s = true := fun w hw => X.2.2.2.2.2.2.2.1 w (List.mem_cons_of_mem _ hw)
  exact va_mabs X.1 X.2.1 (X.2.2.2.1.trans hl.1.symm) X.2.2.2.2.1 (hv _ hk) (hv _ kp_abs.2) (hv _ kp_math) (hv _ kp_abs.1) (by simp only [vRoom]; omega) (by simp only [vRoom]; omega) hkn.1 hkn.2 hd (h p e s m below meth c X H locs ls hP hD hS hl)
theorem V.copyi {a a0 index : Nat} {n0 n1 : Nat} {f g : Nat → Int32} {sp dp z : Int32} (hk : Cond.methodLink M.1.cls index arraycopyName ∈ vT) (hd : decode M.2.1 pc = .ok (.invokestatic index, 3)) (q0 q1 : Nat) (ha0 : ws[q0]? = some (a0, .inl (cy 1, n0, .inl f))) (ha1 : ws[q1]? = some (a, .inl (cy 1, n1, .inl g)))
    (hb : ¬ (sp < 0 ∨ dp < 0 ∨ z < 0 ∨ n0 < sp.toNatClampNeg + z.toNatClampNeg ∨ n1 < dp.toNatClampNeg + z.toNatClampNeg)) (hcat : (st.map fun v => v.category).sum ≤ 8) (hw : ws.set q1 (a, .inl (cy 1, n1, .inl (va_cpy f g sp.toNatClampNeg dp.toNatClampNeg z.toNatClampNeg))) = ws')
    (h : V l D cy M d mc ms av ws0 Q (pc + 3) lv st ws' k n) : V l D cy M d mc ms av ws0 Q pc lv (.int z :: .int dp :: .ref a :: .int sp :: .ref a0 :: st) ws k n := by
  intro p e s m below meth c X H locs ls hP hD hS hl
  have hv : ∀ w ∈ vT, w.before av.toArray s = true := fun w hw => X.2.2.2.2.2.2.2.1 w (List.mem_cons_of_mem _ hw)
  subst hw
  simp only [not_or] at hb
  have hn : nativeFrameWords "java/lang/System" "arraycopy" 5 + 11 ≤ 20 := by decide
  refine va_copyi X.1 X.2.1 (X.2.2.2.1.trans hl.1.symm) X.2.2.2.2.1 (hv _ hk) (hv _ kp_copy.2.1) (hv _ kp_copy.1) (hv _ kp_copy.2.2) X.2.2.2.2.2.2.2.2.1 hP hD hS q0 q1 1 1 ha0 ha1 rfl rfl rfl hb.1 hb.2.1 hb.2.2.1 (by omega) (by omega) (fun _ _ => rfl) (by simp only [vRoom]; omega) (by simp only [vRoom]; omega) hd (fun H1 locs1 hP hD hS => h p e s m below meth c X H1 locs1 ls hP hD hS hl)
theorem V.tswIn {dflt lo hi off : Int} {offs : Array Int} {len tgt : Nat} {x : Int32} (hd : decode M.2.1 pc = .ok (.tableswitch dflt lo hi offs, len)) (h1 : ¬ x.toInt < lo) (h2 : ¬ hi < x.toInt) (ho : offs[(x.toInt - lo).toNat]? = some off) (ht : (pc : Int) + off = (tgt : Int)) (h : V l D cy M d mc ms av ws0 Q tgt lv st ws k n) : V l D cy M d mc ms av ws0 Q pc lv (.int x :: st) ws k n := by
  intro p e s m below meth c X H locs ls hP hD hS hl
  exact lv_tableIn X.1 X.2.1 hd h1 h2 ho ht (h p e s m below meth c X H locs ls hP hD hS hl)
theorem V.tswOut {dflt lo hi : Int} {offs : Array Int} {len tgt : Nat} {x : Int32} (hd : decode M.2.1 pc = .ok (.tableswitch dflt lo hi offs, len)) (h1 : x.toInt < lo ∨ hi < x.toInt) (ht : (pc : Int) + dflt = (tgt : Int)) (h : V l D cy M d mc ms av ws0 Q tgt lv st ws k n) : V l D cy M d mc ms av ws0 Q pc lv (.int x :: st) ws k n := by
  intro p e s m below meth c X H locs ls hP hD hS hl
  exact lv_tableOut X.1 X.2.1 hd h1 ht (h p e s m below meth c X H locs ls hP hD hS hl)
theorem V.lsw {dflt off : Int} {ps : Array (Int × Int)} {len tgt : Nat} {x : Int32} (hd : decode M.2.1 pc = .ok (.lookupswitch dflt ps, len)) (hp : (ps.toList.zip (ps.toList.drop 1)).all (fun (a, next) => a.1 < next.1) = true) (ho : Op.lookupswitch.offset ps.toList dflt x.toInt = off) (ht : (pc : Int) + off = (tgt : Int)) (h : V l D cy M d mc ms av ws0 Q tgt lv st ws k n) : V l D cy M d mc ms av ws0 Q pc lv (.int x :: st) ws k n := by
  intro p e s m below meth c X H locs ls hP hD hS hl
  exact lv_lookup X.1 X.2.1 hd hp ho ht (h p e s m below meth c X H locs ls hP hD hS hl)
theorem V.ldcw {index : Nat} {v : Int32} (hc : Cond.constant M.1.cls index v ∈ vT) (hd : decode M.2.1 pc = .ok (.ldc_w index, 3)) (h : V l D cy M d mc ms av ws0 Q (pc + 3) lv (.int v :: st) ws k n) : V l D cy M d mc ms av ws0 Q pc lv st ws k n := by
  intro p e s m below meth c X H locs ls hP hD hS hl
  exact lv_ldcw X.1 X.2.1 X.2.2.2.2.1 (X.2.2.2.2.2.2.2.1 _ (List.mem_cons_of_mem _ hc)) hd (h p e s m below meth c X H locs ls hP hD hS hl)
theorem V.iushr {x y : Int32} (hd : decode M.2.1 pc = .ok (.iushr, 1)) (h : V l D cy M d mc ms av ws0 Q (pc + 1) lv (.int (x.toUInt32 >>> (y.toUInt32 &&& Int32.toUInt32 31)).toInt32 :: st) ws k n) : V l D cy M d mc ms av ws0 Q pc lv (.int y :: .int x :: st) ws k n := by
  intro p e s m below meth c X H locs ls hP hD hS hl
  exact lv_iushr X.1 X.2.1 hd rfl (h p e s m below meth c X H locs ls hP hD hS hl)
end PRIMS
