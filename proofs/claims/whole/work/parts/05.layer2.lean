section LAYER2
variable {l : Launch} {D : va_G} {cy : Nat → ClassId} {M : vM} {d mc ms : Nat} {av : List Value} {ws0 : va_W} {Q : Option Value → va_W → Prop} {pc : Nat} {lv lv' : List (Nat × Value)} {st : List Value} {ws ws' : va_W} {k n : Nat}
theorem V.iload_n {j : Fin 4} {i : Nat} {x : Int32} (hd : decode M.2.1 pc = .ok (.iload_n j, 1)) (hi : (j : Nat) = i) (q : Nat) (hq : lv[q]? = some (i, .int x)) (h : V l D cy M d mc ms av ws0 Q (pc + 1) lv (.int x :: st) ws k n) : V l D cy M d mc ms av ws0 Q pc lv st ws k n := by
  intro p e s m below meth c X H locs ls hP hD hS hl
  exact lv_iload_n X.1 X.2.1 hd hi (lv_at hl q hq) (h p e s m below meth c X H locs ls hP hD hS hl)
theorem V.iload {i : Nat} {x : Int32} (hd : decode M.2.1 pc = .ok (.iload i, 2)) (q : Nat) (hq : lv[q]? = some (i, .int x)) (h : V l D cy M d mc ms av ws0 Q (pc + 2) lv (.int x :: st) ws k n) : V l D cy M d mc ms av ws0 Q pc lv st ws k n := by
  intro p e s m below meth c X H locs ls hP hD hS hl
  exact lv_iload X.1 X.2.1 hd (lv_at hl q hq) (h p e s m below meth c X H locs ls hP hD hS hl)
theorem V.lload_n {j : Fin 4} {i : Nat} {x : Int64} (hd : decode M.2.1 pc = .ok (.lload_n j, 1)) (hi : (j : Nat) = i) (q : Nat) (hq : lv[q]? = some (i, .long x)) (h : V l D cy M d mc ms av ws0 Q (pc + 1) lv (.long x :: st) ws k n) : V l D cy M d mc ms av ws0 Q pc lv st ws k n := by
  intro p e s m below meth c X H locs ls hP hD hS hl
  exact lv_lload_n X.1 X.2.1 hd hi (lv_at hl q hq) (h p e s m below meth c X H locs ls hP hD hS hl)
theorem V.lload {i : Nat} {x : Int64} (hd : decode M.2.1 pc = .ok (.lload i, 2)) (q : Nat) (hq : lv[q]? = some (i, .long x)) (h : V l D cy M d mc ms av ws0 Q (pc + 2) lv (.long x :: st) ws k n) : V l D cy M d mc ms av ws0 Q pc lv st ws k n := by
  intro p e s m below meth c X H locs ls hP hD hS hl
  exact lv_lload X.1 X.2.1 hd (lv_at hl q hq) (h p e s m below meth c X H locs ls hP hD hS hl)
theorem V.aload_n {j : Fin 4} {i : Nat} {x : Nat} (hd : decode M.2.1 pc = .ok (.aload_n j, 1)) (hi : (j : Nat) = i) (q : Nat) (hq : lv[q]? = some (i, .ref x)) (h : V l D cy M d mc ms av ws0 Q (pc + 1) lv (.ref x :: st) ws k n) : V l D cy M d mc ms av ws0 Q pc lv st ws k n := by
  intro p e s m below meth c X H locs ls hP hD hS hl
  exact lv_aload_n X.1 X.2.1 hd hi (lv_at hl q hq) (h p e s m below meth c X H locs ls hP hD hS hl)
theorem V.aload {i : Nat} {x : Nat} (hd : decode M.2.1 pc = .ok (.aload i, 2)) (q : Nat) (hq : lv[q]? = some (i, .ref x)) (h : V l D cy M d mc ms av ws0 Q (pc + 2) lv (.ref x :: st) ws k n) : V l D cy M d mc ms av ws0 Q pc lv st ws k n := by
  intro p e s m below meth c X H locs ls hP hD hS hl
  exact lv_aload X.1 X.2.1 hd (lv_at hl q hq) (h p e s m below meth c X H locs ls hP hD hS hl)
theorem V.istore_n {j : Fin 4} {i : Nat} {x : Int32} (hd : decode M.2.1 pc = .ok (.istore_n j, 1)) (hi : (j : Nat) = i) (hn : i < M.2.2.1) (hl' : (i, Value.int x) :: lv.filter (fun q => !(q.1 == i) && !(q.1 + 1 == i && q.2.category == 2)) = lv') (h : V l D cy M d mc ms av ws0 Q (pc + 1) lv' st ws k n) : V l D cy M d mc ms av ws0 Q pc lv (.int x :: st) ws k n := by
  intro p e s m below meth c X H locs ls hP hD hS hl
  exact lv_istore_n X.1 X.2.1 hd hi hl hn hl' (fun ls hl => h p e s m below meth c X H locs ls hP hD hS hl)
theorem V.istore {i : Nat} {x : Int32} (hd : decode M.2.1 pc = .ok (.istore i, 2)) (hn : i < M.2.2.1) (hl' : (i, Value.int x) :: lv.filter (fun q => !(q.1 == i) && !(q.1 + 1 == i && q.2.category == 2)) = lv') (h : V l D cy M d mc ms av ws0 Q (pc + 2) lv' st ws k n) : V l D cy M d mc ms av ws0 Q pc lv (.int x :: st) ws k n := by
  intro p e s m below meth c X H locs ls hP hD hS hl
  exact lv_istore X.1 X.2.1 hd hl hn hl' (fun ls hl => h p e s m below meth c X H locs ls hP hD hS hl)
theorem V.lstore_n {j : Fin 4} {i : Nat} {x : Int64} (hd : decode M.2.1 pc = .ok (.lstore_n j, 1)) (hi : (j : Nat) = i) (hn : i + 1 < M.2.2.1) (hl' : (i, Value.long x) :: lv.filter (fun q => !(q.1 == i) && (!(q.1 == i + 1) && !(q.1 + 1 == i && q.2.category == 2))) = lv') (h : V l D cy M d mc ms av ws0 Q (pc + 1) lv' st ws k n) : V l D cy M d mc ms av ws0 Q pc lv (.long x :: st) ws k n := by
  intro p e s m below meth c X H locs ls hP hD hS hl
  exact lv_lstore_n X.1 X.2.1 hd hi hl hn hl' (fun ls hl => h p e s m below meth c X H locs ls hP hD hS hl)
theorem V.lstore {i : Nat} {x : Int64} (hd : decode M.2.1 pc = .ok (.lstore i, 2)) (hn : i + 1 < M.2.2.1) (hl' : (i, Value.long x) :: lv.filter (fun q => !(q.1 == i) && (!(q.1 == i + 1) && !(q.1 + 1 == i && q.2.category == 2))) = lv') (h : V l D cy M d mc ms av ws0 Q (pc + 2) lv' st ws k n) : V l D cy M d mc ms av ws0 Q pc lv (.long x :: st) ws k n := by
  intro p e s m below meth c X H locs ls hP hD hS hl
  exact lv_lstore X.1 X.2.1 hd hl hn hl' (fun ls hl => h p e s m below meth c X H locs ls hP hD hS hl)
theorem V.astore_n {j : Fin 4} {i : Nat} {x : Nat} (hd : decode M.2.1 pc = .ok (.astore_n j, 1)) (hi : (j : Nat) = i) (hn : i < M.2.2.1) (hl' : (i, Value.ref x) :: lv.filter (fun q => !(q.1 == i) && !(q.1 + 1 == i && q.2.category == 2)) = lv') (h : V l D cy M d mc ms av ws0 Q (pc + 1) lv' st ws k n) : V l D cy M d mc ms av ws0 Q pc lv (.ref x :: st) ws k n := by
  intro p e s m below meth c X H locs ls hP hD hS hl
  exact lv_astore_n X.1 X.2.1 hd hi hl hn hl' (fun ls hl => h p e s m below meth c X H locs ls hP hD hS hl)
theorem V.astore {i : Nat} {x : Nat} (hd : decode M.2.1 pc = .ok (.astore i, 2)) (hn : i < M.2.2.1) (hl' : (i, Value.ref x) :: lv.filter (fun q => !(q.1 == i) && !(q.1 + 1 == i && q.2.category == 2)) = lv') (h : V l D cy M d mc ms av ws0 Q (pc + 2) lv' st ws k n) : V l D cy M d mc ms av ws0 Q pc lv (.ref x :: st) ws k n := by
  intro p e s m below meth c X H locs ls hP hD hS hl
  exact lv_astore X.1 X.2.1 hd hl hn hl' (fun ls hl => h p e s m below meth c X H locs ls hP hD hS hl)
theorem V.iinc {i : Nat} {z : Int} {x v : Int32} (hd : decode M.2.1 pc = .ok (.iinc i z, 3)) (q : Nat) (hq : lv[q]? = some (i, .int x)) (hv : x + Int32.ofInt z = v) (hn : i < M.2.2.1) (hl' : (i, Value.int v) :: lv.filter (fun q => !(q.1 == i) && !(q.1 + 1 == i && q.2.category == 2)) = lv') (h : V l D cy M d mc ms av ws0 Q (pc + 3) lv' st ws k n) : V l D cy M d mc ms av ws0 Q pc lv st ws k n := by
  intro p e s m below meth c X H locs ls hP hD hS hl
  exact lv_iinc X.1 X.2.1 hd hl hq hv hn hl' (fun ls hl => h p e s m below meth c X H locs ls hP hD hS hl)
theorem V.iadd {x y : Int32} (hd : decode M.2.1 pc = .ok (.iadd, 1)) (h : V l D cy M d mc ms av ws0 Q (pc + 1) lv (.int (x + y) :: st) ws k n) : V l D cy M d mc ms av ws0 Q pc lv (.int y :: .int x :: st) ws k n := by
  intro p e s m below meth c X H locs ls hP hD hS hl
  exact lv_iadd X.1 X.2.1 hd (h p e s m below meth c X H locs ls hP hD hS hl)
theorem V.isub {x y : Int32} (hd : decode M.2.1 pc = .ok (.isub, 1)) (h : V l D cy M d mc ms av ws0 Q (pc + 1) lv (.int (x - y) :: st) ws k n) : V l D cy M d mc ms av ws0 Q pc lv (.int y :: .int x :: st) ws k n := by
  intro p e s m below meth c X H locs ls hP hD hS hl
  exact lv_isub X.1 X.2.1 hd (h p e s m below meth c X H locs ls hP hD hS hl)
theorem V.imul {x y : Int32} (hd : decode M.2.1 pc = .ok (.imul, 1)) (h : V l D cy M d mc ms av ws0 Q (pc + 1) lv (.int (x * y) :: st) ws k n) : V l D cy M d mc ms av ws0 Q pc lv (.int y :: .int x :: st) ws k n := by
  intro p e s m below meth c X H locs ls hP hD hS hl
  exact lv_imul X.1 X.2.1 hd (h p e s m below meth c X H locs ls hP hD hS hl)
theorem V.iand {x y : Int32} (hd : decode M.2.1 pc = .ok (.iand, 1)) (h : V l D cy M d mc ms av ws0 Q (pc + 1) lv (.int (x &&& y) :: st) ws k n) : V l D cy M d mc ms av ws0 Q pc lv (.int y :: .int x :: st) ws k n := by
  intro p e s m below meth c X H locs ls hP hD hS hl
  exact lv_iand X.1 X.2.1 hd (h p e s m below meth c X H locs ls hP hD hS hl)
theorem V.ior {x y : Int32} (hd : decode M.2.1 pc = .ok (.ior, 1)) (h : V l D cy M d mc ms av ws0 Q (pc + 1) lv (.int (x ||| y) :: st) ws k n) : V l D cy M d mc ms av ws0 Q pc lv (.int y :: .int x :: st) ws k n := by
  intro p e s m below meth c X H locs ls hP hD hS hl
  exact lv_ior X.1 X.2.1 hd (h p e s m below meth c X H locs ls hP hD hS hl)
theorem V.ixor {x y : Int32} (hd : decode M.2.1 pc = .ok (.ixor, 1)) (h : V l D cy M d mc ms av ws0 Q (pc + 1) lv (.int (x ^^^ y) :: st) ws k n) : V l D cy M d mc ms av ws0 Q pc lv (.int y :: .int x :: st) ws k n := by
  intro p e s m below meth c X H locs ls hP hD hS hl
  exact lv_ixor X.1 X.2.1 hd (h p e s m below meth c X H locs ls hP hD hS hl)
theorem V.ishl {x y : Int32} (hd : decode M.2.1 pc = .ok (.ishl, 1)) (h : V l D cy M d mc ms av ws0 Q (pc + 1) lv (.int (x <<< (y &&& 31)) :: st) ws k n) : V l D cy M d mc ms av ws0 Q pc lv (.int y :: .int x :: st) ws k n := by
  intro p e s m below meth c X H locs ls hP hD hS hl
  exact lv_ishl X.1 X.2.1 hd (h p e s m below meth c X H locs ls hP hD hS hl)
theorem V.ishr {x y : Int32} (hd : decode M.2.1 pc = .ok (.ishr, 1)) (h : V l D cy M d mc ms av ws0 Q (pc + 1) lv (.int (x >>> (y &&& 31)) :: st) ws k n) : V l D cy M d mc ms av ws0 Q pc lv (.int y :: .int x :: st) ws k n := by
  intro p e s m below meth c X H locs ls hP hD hS hl
  exact lv_ishr X.1 X.2.1 hd (h p e s m below meth c X H locs ls hP hD hS hl)
theorem V.idiv {x y : Int32} (hd : decode M.2.1 pc = .ok (.idiv, 1)) (hne : ¬ y = 0) (h : V l D cy M d mc ms av ws0 Q (pc + 1) lv (.int (x / y) :: st) ws k n) : V l D cy M d mc ms av ws0 Q pc lv (.int y :: .int x :: st) ws k n := by
  intro p e s m below meth c X H locs ls hP hD hS hl
  exact lv_idiv X.1 X.2.1 hd hne (h p e s m below meth c X H locs ls hP hD hS hl)
theorem V.irem {x y : Int32} (hd : decode M.2.1 pc = .ok (.irem, 1)) (hne : ¬ y = 0) (h : V l D cy M d mc ms av ws0 Q (pc + 1) lv (.int (x - x / y * y) :: st) ws k n) : V l D cy M d mc ms av ws0 Q pc lv (.int y :: .int x :: st) ws k n := by
  intro p e s m below meth c X H locs ls hP hD hS hl
  exact lv_irem X.1 X.2.1 hd hne (h p e s m below meth c X H locs ls hP hD hS hl)
theorem V.ineg {x : Int32} (hd : decode M.2.1 pc = .ok (.ineg, 1)) (h : V l D cy M d mc ms av ws0 Q (pc + 1) lv (.int (-x) :: st) ws k n) : V l D cy M d mc ms av ws0 Q pc lv (.int x :: st) ws k n := by
  intro p e s m below meth c X H locs ls hP hD hS hl
  exact lv_ineg X.1 X.2.1 hd (h p e s m below meth c X H locs ls hP hD hS hl)
theorem V.ladd {x y : Int64} (hd : decode M.2.1 pc = .ok (.ladd, 1)) (h : V l D cy M d mc ms av ws0 Q (pc + 1) lv (.long (x + y) :: st) ws k n) : V l D cy M d mc ms av ws0 Q pc lv (.long y :: .long x :: st) ws k n := by
  intro p e s m below meth c X H locs ls hP hD hS hl
  exact lv_ladd X.1 X.2.1 hd (h p e s m below meth c X H locs ls hP hD hS hl)
theorem V.lsub {x y : Int64} (hd : decode M.2.1 pc = .ok (.lsub, 1)) (h : V l D cy M d mc ms av ws0 Q (pc + 1) lv (.long (x - y) :: st) ws k n) : V l D cy M d mc ms av ws0 Q pc lv (.long y :: .long x :: st) ws k n := by
  intro p e s m below meth c X H locs ls hP hD hS hl
  exact lv_lsub X.1 X.2.1 hd (h p e s m below meth c X H locs ls hP hD hS hl)
theorem V.lmul {x y : Int64} (hd : decode M.2.1 pc = .ok (.lmul, 1)) (h : V l D cy M d mc ms av ws0 Q (pc + 1) lv (.long (x * y) :: st) ws k n) : V l D cy M d mc ms av ws0 Q pc lv (.long y :: .long x :: st) ws k n := by
  intro p e s m below meth c X H locs ls hP hD hS hl
  exact lv_lmul X.1 X.2.1 hd (h p e s m below meth c X H locs ls hP hD hS hl)
theorem V.land {x y : Int64} (hd : decode M.2.1 pc = .ok (.land, 1)) (h : V l D cy M d mc ms av ws0 Q (pc + 1) lv (.long (x &&& y) :: st) ws k n) : V l D cy M d mc ms av ws0 Q pc lv (.long y :: .long x :: st) ws k n := by
  intro p e s m below meth c X H locs ls hP hD hS hl
  exact lv_land X.1 X.2.1 hd (h p e s m below meth c X H locs ls hP hD hS hl)
theorem V.lor {x y : Int64} (hd : decode M.2.1 pc = .ok (.lor, 1)) (h : V l D cy M d mc ms av ws0 Q (pc + 1) lv (.long (x ||| y) :: st) ws k n) : V l D cy M d mc ms av ws0 Q pc lv (.long y :: .long x :: st) ws k n := by
  intro p e s m below meth c X H locs ls hP hD hS hl
  exact lv_lor X.1 X.2.1 hd (h p e s m below meth c X H locs ls hP hD hS hl)
theorem V.ldiv {x y : Int64} (hd : decode M.2.1 pc = .ok (.ldiv, 1)) (hne : ¬ y = 0) (h : V l D cy M d mc ms av ws0 Q (pc + 1) lv (.long (x / y) :: st) ws k n) : V l D cy M d mc ms av ws0 Q pc lv (.long y :: .long x :: st) ws k n := by
  intro p e s m below meth c X H locs ls hP hD hS hl
  exact lv_ldiv X.1 X.2.1 hd hne (h p e s m below meth c X H locs ls hP hD hS hl)
theorem V.lrem {x y : Int64} (hd : decode M.2.1 pc = .ok (.lrem, 1)) (hne : ¬ y = 0) (h : V l D cy M d mc ms av ws0 Q (pc + 1) lv (.long (x - x / y * y) :: st) ws k n) : V l D cy M d mc ms av ws0 Q pc lv (.long y :: .long x :: st) ws k n := by
  intro p e s m below meth c X H locs ls hP hD hS hl
  exact lv_lrem X.1 X.2.1 hd hne (h p e s m below meth c X H locs ls hP hD hS hl)
theorem V.lshl {x : Int64} {y : Int32} (hd : decode M.2.1 pc = .ok (.lshl, 1)) (h : V l D cy M d mc ms av ws0 Q (pc + 1) lv (.long (x <<< (y.toInt64 &&& 63)) :: st) ws k n) : V l D cy M d mc ms av ws0 Q pc lv (.int y :: .long x :: st) ws k n := by
  intro p e s m below meth c X H locs ls hP hD hS hl
  exact lv_lshl X.1 X.2.1 hd rfl (h p e s m below meth c X H locs ls hP hD hS hl)
theorem V.lshr {x : Int64} {y : Int32} (hd : decode M.2.1 pc = .ok (.lshr, 1)) (h : V l D cy M d mc ms av ws0 Q (pc + 1) lv (.long (x >>> (y.toInt64 &&& 63)) :: st) ws k n) : V l D cy M d mc ms av ws0 Q pc lv (.int y :: .long x :: st) ws k n := by
  intro p e s m below meth c X H locs ls hP hD hS hl
  exact lv_lshr X.1 X.2.1 hd rfl (h p e s m below meth c X H locs ls hP hD hS hl)
theorem V.lushr {x : Int64} {y : Int32} (hd : decode M.2.1 pc = .ok (.lushr, 1)) (h : V l D cy M d mc ms av ws0 Q (pc + 1) lv (.long ((x.toUInt64 >>> (y.toInt64.toUInt64 &&& Int64.toUInt64 63)).toInt64) :: st) ws k n) : V l D cy M d mc ms av ws0 Q pc lv (.int y :: .long x :: st) ws k n := by
  intro p e s m below meth c X H locs ls hP hD hS hl
  exact lv_lushr X.1 X.2.1 hd rfl (h p e s m below meth c X H locs ls hP hD hS hl)
theorem V.i2l {x : Int32} (hd : decode M.2.1 pc = .ok (.i2l, 1)) (h : V l D cy M d mc ms av ws0 Q (pc + 1) lv (.long (x.toInt64) :: st) ws k n) : V l D cy M d mc ms av ws0 Q pc lv (.int x :: st) ws k n := by
  intro p e s m below meth c X H locs ls hP hD hS hl
  exact lv_i2l X.1 X.2.1 hd rfl (h p e s m below meth c X H locs ls hP hD hS hl)
theorem V.l2i {x : Int64} (hd : decode M.2.1 pc = .ok (.l2i, 1)) (h : V l D cy M d mc ms av ws0 Q (pc + 1) lv (.int (x.toInt32) :: st) ws k n) : V l D cy M d mc ms av ws0 Q pc lv (.long x :: st) ws k n := by
  intro p e s m below meth c X H locs ls hP hD hS hl
  exact lv_l2i X.1 X.2.1 hd rfl (h p e s m below meth c X H locs ls hP hD hS hl)
theorem V.i2b {x : Int32} (hd : decode M.2.1 pc = .ok (.i2b, 1)) (h : V l D cy M d mc ms av ws0 Q (pc + 1) lv (.int (x.toInt8.toInt32) :: st) ws k n) : V l D cy M d mc ms av ws0 Q pc lv (.int x :: st) ws k n := by
  intro p e s m below meth c X H locs ls hP hD hS hl
  exact lv_i2b X.1 X.2.1 hd rfl (h p e s m below meth c X H locs ls hP hD hS hl)
theorem V.i2c {x : Int32} (hd : decode M.2.1 pc = .ok (.i2c, 1)) (h : V l D cy M d mc ms av ws0 Q (pc + 1) lv (.int ((x.toUInt32 % 65536).toInt32) :: st) ws k n) : V l D cy M d mc ms av ws0 Q pc lv (.int x :: st) ws k n := by
  intro p e s m below meth c X H locs ls hP hD hS hl
  exact lv_i2c X.1 X.2.1 hd rfl (h p e s m below meth c X H locs ls hP hD hS hl)
theorem V.lcmp {x y : Int64} (hd : decode M.2.1 pc = .ok (.lcmp, 1)) (h : V l D cy M d mc ms av ws0 Q (pc + 1) lv (.int (lg_cmp x y) :: st) ws k n) : V l D cy M d mc ms av ws0 Q pc lv (.long y :: .long x :: st) ws k n := by
  intro p e s m below meth c X H locs ls hP hD hS hl
  exact W.lcmp X.1 X.2.1 hd (h p e s m below meth c X H locs ls hP hD hS hl)
theorem V.dup {u : Value} (hd : decode M.2.1 pc = .ok (.dup, 1)) (hu : u.category = 1) (h : V l D cy M d mc ms av ws0 Q (pc + 1) lv (u :: u :: st) ws k n) : V l D cy M d mc ms av ws0 Q pc lv (u :: st) ws k n := by
  intro p e s m below meth c X H locs ls hP hD hS hl
  exact lv_dup X.1 X.2.1 hd hu (h p e s m below meth c X H locs ls hP hD hS hl)
theorem V.pop {u : Value} (hd : decode M.2.1 pc = .ok (.pop, 1)) (hu : u.category = 1) (h : V l D cy M d mc ms av ws0 Q (pc + 1) lv st ws k n) : V l D cy M d mc ms av ws0 Q pc lv (u :: st) ws k n := by
  intro p e s m below meth c X H locs ls hP hD hS hl
  exact lv_pop X.1 X.2.1 hd hu (h p e s m below meth c X H locs ls hP hD hS hl)
theorem V.dup2 {u v : Value} (hd : decode M.2.1 pc = .ok (.dup2, 1)) (hu : u.category = 1) (hv : v.category = 1) (h : V l D cy M d mc ms av ws0 Q (pc + 1) lv (u :: v :: u :: v :: st) ws k n) : V l D cy M d mc ms av ws0 Q pc lv (u :: v :: st) ws k n := by
  intro p e s m below meth c X H locs ls hP hD hS hl
  exact lv_dup2_11 X.1 X.2.1 hd hu hv (h p e s m below meth c X H locs ls hP hD hS hl)
theorem V.goto {off : Int} {tgt : Nat} (hd : decode M.2.1 pc = .ok (.goto off, 3)) (ht : (pc : Int) + off = (tgt : Int)) (h : V l D cy M d mc ms av ws0 Q tgt lv st ws k n) : V l D cy M d mc ms av ws0 Q pc lv st ws k n := by
  intro p e s m below meth c X H locs ls hP hD hS hl
  exact lv_goto X.1 X.2.1 hd ht (h p e s m below meth c X H locs ls hP hD hS hl)
theorem V.if_eq {x : Int32} {off : Int} {tgt : Nat} (hd : decode M.2.1 pc = .ok (.ifCond .eq off, 3)) (ht : (pc : Int) + off = (tgt : Int)) (kt : x = 0 → V l D cy M d mc ms av ws0 Q tgt lv st ws k n) (kf : ¬ x = 0 → V l D cy M d mc ms av ws0 Q (pc + 3) lv st ws k n) : V l D cy M d mc ms av ws0 Q pc lv (.int x :: st) ws k n := by
  intro p e s m below meth c X H locs ls hP hD hS hl
  exact lv_if_eq X.1 X.2.1 hd ht (fun q => kt q p e s m below meth c X H locs ls hP hD hS hl) (fun q => kf q p e s m below meth c X H locs ls hP hD hS hl)
theorem V.icmp_eq {x y : Int32} {off : Int} {tgt : Nat} (hd : decode M.2.1 pc = .ok (.if_icmp .eq off, 3)) (ht : (pc : Int) + off = (tgt : Int)) (kt : x = y → V l D cy M d mc ms av ws0 Q tgt lv st ws k n) (kf : ¬ x = y → V l D cy M d mc ms av ws0 Q (pc + 3) lv st ws k n) : V l D cy M d mc ms av ws0 Q pc lv (.int y :: .int x :: st) ws k n := by
  intro p e s m below meth c X H locs ls hP hD hS hl
  exact lv_icmp_eq X.1 X.2.1 hd ht (fun q => kt q p e s m below meth c X H locs ls hP hD hS hl) (fun q => kf q p e s m below meth c X H locs ls hP hD hS hl)
theorem V.if_ne {x : Int32} {off : Int} {tgt : Nat} (hd : decode M.2.1 pc = .ok (.ifCond .ne off, 3)) (ht : (pc : Int) + off = (tgt : Int)) (kt : ¬ x = 0 → V l D cy M d mc ms av ws0 Q tgt lv st ws k n) (kf : x = 0 → V l D cy M d mc ms av ws0 Q (pc + 3) lv st ws k n) : V l D cy M d mc ms av ws0 Q pc lv (.int x :: st) ws k n := by
  intro p e s m below meth c X H locs ls hP hD hS hl
  exact lv_if_ne X.1 X.2.1 hd ht (fun q => kt q p e s m below meth c X H locs ls hP hD hS hl) (fun q => kf (by first | exact q | exact Classical.not_not.mp q) p e s m below meth c X H locs ls hP hD hS hl)
theorem V.icmp_ne {x y : Int32} {off : Int} {tgt : Nat} (hd : decode M.2.1 pc = .ok (.if_icmp .ne off, 3)) (ht : (pc : Int) + off = (tgt : Int)) (kt : ¬ x = y → V l D cy M d mc ms av ws0 Q tgt lv st ws k n) (kf : x = y → V l D cy M d mc ms av ws0 Q (pc + 3) lv st ws k n) : V l D cy M d mc ms av ws0 Q pc lv (.int y :: .int x :: st) ws k n := by
  intro p e s m below meth c X H locs ls hP hD hS hl
  exact lv_icmp_ne X.1 X.2.1 hd ht (fun q => kt q p e s m below meth c X H locs ls hP hD hS hl) (fun q => kf (by first | exact q | exact Classical.not_not.mp q) p e s m below meth c X H locs ls hP hD hS hl)
theorem V.if_lt {x : Int32} {off : Int} {tgt : Nat} (hd : decode M.2.1 pc = .ok (.ifCond .lt off, 3)) (ht : (pc : Int) + off = (tgt : Int)) (kt : x < 0 → V l D cy M d mc ms av ws0 Q tgt lv st ws k n) (kf : ¬ x < 0 → V l D cy M d mc ms av ws0 Q (pc + 3) lv st ws k n) : V l D cy M d mc ms av ws0 Q pc lv (.int x :: st) ws k n := by
  intro p e s m below meth c X H locs ls hP hD hS hl
  exact lv_if_lt X.1 X.2.1 hd ht (fun q => kt q p e s m below meth c X H locs ls hP hD hS hl) (fun q => kf q p e s m below meth c X H locs ls hP hD hS hl)
theorem V.icmp_lt {x y : Int32} {off : Int} {tgt : Nat} (hd : decode M.2.1 pc = .ok (.if_icmp .lt off, 3)) (ht : (pc : Int) + off = (tgt : Int)) (kt : x < y → V l D cy M d mc ms av ws0 Q tgt lv st ws k n) (kf : ¬ x < y → V l D cy M d mc ms av ws0 Q (pc + 3) lv st ws k n) : V l D cy M d mc ms av ws0 Q pc lv (.int y :: .int x :: st) ws k n := by
  intro p e s m below meth c X H locs ls hP hD hS hl
  exact lv_icmp_lt X.1 X.2.1 hd ht (fun q => kt q p e s m below meth c X H locs ls hP hD hS hl) (fun q => kf q p e s m below meth c X H locs ls hP hD hS hl)
theorem V.if_ge {x : Int32} {off : Int} {tgt : Nat} (hd : decode M.2.1 pc = .ok (.ifCond .ge off, 3)) (ht : (pc : Int) + off = (tgt : Int)) (kt : 0 ≤ x → V l D cy M d mc ms av ws0 Q tgt lv st ws k n) (kf : ¬ 0 ≤ x → V l D cy M d mc ms av ws0 Q (pc + 3) lv st ws k n) : V l D cy M d mc ms av ws0 Q pc lv (.int x :: st) ws k n := by
  intro p e s m below meth c X H locs ls hP hD hS hl
  exact lv_if_ge X.1 X.2.1 hd ht (fun q => kt q p e s m below meth c X H locs ls hP hD hS hl) (fun q => kf q p e s m below meth c X H locs ls hP hD hS hl)
theorem V.icmp_ge {x y : Int32} {off : Int} {tgt : Nat} (hd : decode M.2.1 pc = .ok (.if_icmp .ge off, 3)) (ht : (pc : Int) + off = (tgt : Int)) (kt : y ≤ x → V l D cy M d mc ms av ws0 Q tgt lv st ws k n) (kf : ¬ y ≤ x → V l D cy M d mc ms av ws0 Q (pc + 3) lv st ws k n) : V l D cy M d mc ms av ws0 Q pc lv (.int y :: .int x :: st) ws k n := by
  intro p e s m below meth c X H locs ls hP hD hS hl
  exact lv_icmp_ge X.1 X.2.1 hd ht (fun q => kt q p e s m below meth c X H locs ls hP hD hS hl) (fun q => kf q p e s m below meth c X H locs ls hP hD hS hl)
theorem V.if_gt {x : Int32} {off : Int} {tgt : Nat} (hd : decode M.2.1 pc = .ok (.ifCond .gt off, 3)) (ht : (pc : Int) + off = (tgt : Int)) (kt : 0 < x → V l D cy M d mc ms av ws0 Q tgt lv st ws k n) (kf : ¬ 0 < x → V l D cy M d mc ms av ws0 Q (pc + 3) lv st ws k n) : V l D cy M d mc ms av ws0 Q pc lv (.int x :: st) ws k n := by
  intro p e s m below meth c X H locs ls hP hD hS hl
  exact lv_if_gt X.1 X.2.1 hd ht (fun q => kt q p e s m below meth c X H locs ls hP hD hS hl) (fun q => kf q p e s m below meth c X H locs ls hP hD hS hl)
theorem V.icmp_gt {x y : Int32} {off : Int} {tgt : Nat} (hd : decode M.2.1 pc = .ok (.if_icmp .gt off, 3)) (ht : (pc : Int) + off = (tgt : Int)) (kt : y < x → V l D cy M d mc ms av ws0 Q tgt lv st ws k n) (kf : ¬ y < x → V l D cy M d mc ms av ws0 Q (pc + 3) lv st ws k n) : V l D cy M d mc ms av ws0 Q pc lv (.int y :: .int x :: st) ws k n := by
  intro p e s m below meth c X H locs ls hP hD hS hl
  exact lv_icmp_gt X.1 X.2.1 hd ht (fun q => kt q p e s m below meth c X H locs ls hP hD hS hl) (fun q => kf q p e s m below meth c X H locs ls hP hD hS hl)
theorem V.if_le {x : Int32} {off : Int} {tgt : Nat} (hd : decode M.2.1 pc = .ok (.ifCond .le off, 3)) (ht : (pc : Int) + off = (tgt : Int)) (kt : x ≤ 0 → V l D cy M d mc ms av ws0 Q tgt lv st ws k n) (kf : ¬ x ≤ 0 → V l D cy M d mc ms av ws0 Q (pc + 3) lv st ws k n) : V l D cy M d mc ms av ws0 Q pc lv (.int x :: st) ws k n := by
  intro p e s m below meth c X H locs ls hP hD hS hl
  exact lv_if_le X.1 X.2.1 hd ht (fun q => kt q p e s m below meth c X H locs ls hP hD hS hl) (fun q => kf q p e s m below meth c X H locs ls hP hD hS hl)
theorem V.icmp_le {x y : Int32} {off : Int} {tgt : Nat} (hd : decode M.2.1 pc = .ok (.if_icmp .le off, 3)) (ht : (pc : Int) + off = (tgt : Int)) (kt : x ≤ y → V l D cy M d mc ms av ws0 Q tgt lv st ws k n) (kf : ¬ x ≤ y → V l D cy M d mc ms av ws0 Q (pc + 3) lv st ws k n) : V l D cy M d mc ms av ws0 Q pc lv (.int y :: .int x :: st) ws k n := by
  intro p e s m below meth c X H locs ls hP hD hS hl
  exact lv_icmp_le X.1 X.2.1 hd ht (fun q => kt q p e s m below meth c X H locs ls hP hD hS hl) (fun q => kf q p e s m below meth c X H locs ls hP hD hS hl)
theorem V.iald {a : Nat} {N : Nat} {f : Nat → Int32} {i : Int32} (hd : decode M.2.1 pc = .ok (.iaload, 1)) (q0 : Nat) (ha : ws[q0]? = some (a, .inl (cy 1, N, .inl f))) (hin : vp_in i N) (h : V l D cy M d mc ms av ws0 Q (pc + 1) lv (.int (f i.toNatClampNeg) :: st) ws k n) : V l D cy M d mc ms av ws0 Q pc lv (.int i :: .ref a :: st) ws k n := by
  intro p e s m below meth c X H locs ls hP hD hS hl
  exact va_iald X.1 X.2.1 X.2.2.2.2.2.2.2.2.1 hP q0 1 ha rfl hin hd (h p e s m below meth c X H locs ls hP hD hS hl)
theorem V.bald {a : Nat} {N : Nat} {f : Nat → Int32} {i : Int32} (hd : decode M.2.1 pc = .ok (.baload, 1)) (q0 : Nat) (ha : ws[q0]? = some (a, .inl (cy 0, N, .inl f))) (hin : vp_in i N) (h : V l D cy M d mc ms av ws0 Q (pc + 1) lv (.int (f i.toNatClampNeg) :: st) ws k n) : V l D cy M d mc ms av ws0 Q pc lv (.int i :: .ref a :: st) ws k n := by
  intro p e s m below meth c X H locs ls hP hD hS hl
  exact va_bald X.1 X.2.1 X.2.2.2.2.2.2.2.2.1 hP q0 0 ha rfl hin hd (h p e s m below meth c X H locs ls hP hD hS hl)
theorem V.zald {a : Nat} {N : Nat} {f : Nat → Int32} {i : Int32} (hd : decode M.2.1 pc = .ok (.baload, 1)) (q0 : Nat) (ha : ws[q0]? = some (a, .inl (cy 3, N, .inl f))) (hin : vp_in i N) (h : V l D cy M d mc ms av ws0 Q (pc + 1) lv (.int (f i.toNatClampNeg) :: st) ws k n) : V l D cy M d mc ms av ws0 Q pc lv (.int i :: .ref a :: st) ws k n := by
  intro p e s m below meth c X H locs ls hP hD hS hl
  exact va_zald X.1 X.2.1 X.2.2.2.2.2.2.2.2.1 hP q0 3 ha rfl hin hd (h p e s m below meth c X H locs ls hP hD hS hl)
theorem V.lald {a : Nat} {N : Nat} {f : Nat → Int64} {i : Int32} (hd : decode M.2.1 pc = .ok (.laload, 1)) (q0 : Nat) (ha : ws[q0]? = some (a, .inl (cy 2, N, .inr (.inl f)))) (hin : vp_in i N) (h : V l D cy M d mc ms av ws0 Q (pc + 1) lv (.long (f i.toNatClampNeg) :: st) ws k n) : V l D cy M d mc ms av ws0 Q pc lv (.int i :: .ref a :: st) ws k n := by
  intro p e s m below meth c X H locs ls hP hD hS hl
  exact va_lald X.1 X.2.1 X.2.2.2.2.2.2.2.2.1 hP q0 2 ha rfl hin hd (h p e s m below meth c X H locs ls hP hD hS hl)
theorem V.iast {a : Nat} {N : Nat} {f : Nat → Int32} {i : Int32} {x : Int32} (hd : decode M.2.1 pc = .ok (.iastore, 1)) (q0 : Nat) (ha : ws[q0]? = some (a, .inl (cy 1, N, .inl f))) (hin : vp_in i N) (hw : ws.set q0 (a, .inl (cy 1, N, .inl (upd f i.toNatClampNeg x))) = ws') (h : V l D cy M d mc ms av ws0 Q (pc + 1) lv st ws' k n) : V l D cy M d mc ms av ws0 Q pc lv (.int x :: .int i :: .ref a :: st) ws k n := by
  intro p e s m below meth c X H locs ls hP hD hS hl
  subst hw
  exact va_iast X.1 X.2.1 X.2.2.2.2.2.2.2.2.1 hP hD hS q0 1 ha rfl hin hd (fun H1 locs1 hP hD hS => h p e s m below meth c X H1 locs1 ls hP hD hS hl)
theorem V.bast {a : Nat} {N : Nat} {f : Nat → Int32} {i : Int32} {x : Int32} (hd : decode M.2.1 pc = .ok (.bastore, 1)) (q0 : Nat) (ha : ws[q0]? = some (a, .inl (cy 0, N, .inl f))) (hin : vp_in i N) (hw : ws.set q0 (a, .inl (cy 0, N, .inl (upd f i.toNatClampNeg (vp_nar .byte x)))) = ws') (h : V l D cy M d mc ms av ws0 Q (pc + 1) lv st ws' k n) : V l D cy M d mc ms av ws0 Q pc lv (.int x :: .int i :: .ref a :: st) ws k n := by
  intro p e s m below meth c X H locs ls hP hD hS hl
  subst hw
  exact va_bast X.1 X.2.1 X.2.2.2.2.2.2.2.2.1 hP hD hS q0 0 ha rfl hin hd (fun H1 locs1 hP hD hS => h p e s m below meth c X H1 locs1 ls hP hD hS hl)
theorem V.zast {a : Nat} {N : Nat} {f : Nat → Int32} {i : Int32} {x : Int32} (hd : decode M.2.1 pc = .ok (.bastore, 1)) (q0 : Nat) (ha : ws[q0]? = some (a, .inl (cy 3, N, .inl f))) (hin : vp_in i N) (hw : ws.set q0 (a, .inl (cy 3, N, .inl (upd f i.toNatClampNeg (vp_nar .boolean x)))) = ws') (h : V l D cy M d mc ms av ws0 Q (pc + 1) lv st ws' k n) : V l D cy M d mc ms av ws0 Q pc lv (.int x :: .int i :: .ref a :: st) ws k n := by
  intro p e s m below meth c X H locs ls hP hD hS hl
  subst hw
  exact va_zast X.1 X.2.1 X.2.2.2.2.2.2.2.2.1 hP hD hS q0 3 ha rfl hin hd (fun H1 locs1 hP hD hS => h p e s m below meth c X H1 locs1 ls hP hD hS hl)
theorem V.last {a : Nat} {N : Nat} {f : Nat → Int64} {i : Int32} {x : Int64} (hd : decode M.2.1 pc = .ok (.lastore, 1)) (q0 : Nat) (ha : ws[q0]? = some (a, .inl (cy 2, N, .inr (.inl f)))) (hin : vp_in i N) (hw : ws.set q0 (a, .inl (cy 2, N, .inr (.inl (vp_updL f i.toNatClampNeg x)))) = ws') (h : V l D cy M d mc ms av ws0 Q (pc + 1) lv st ws' k n) : V l D cy M d mc ms av ws0 Q pc lv (.long x :: .int i :: .ref a :: st) ws k n := by
  intro p e s m below meth c X H locs ls hP hD hS hl
  subst hw
  exact va_last X.1 X.2.1 X.2.2.2.2.2.2.2.2.1 hP hD hS q0 2 ha rfl hin hd (fun H1 locs1 hP hD hS => h p e s m below meth c X H1 locs1 ls hP hD hS hl)
theorem V.aald {a : Nat} {N t0 : Nat} {C : String} {f : Nat → Option Nat} {i : Int32} (hd : decode M.2.1 pc = .ok (.aaload, 1)) (q0 : Nat) (ha : ws[q0]? = some (a, .inl (cy t0, N, .inr (.inr (.inr (.inr f)))))) (ht : (vTys cy)[t0]? = some (cy t0, .object C)) (hin : vp_in i N) (h : V l D cy M d mc ms av ws0 Q (pc + 1) lv (va_rf (f i.toNatClampNeg) :: st) ws k n) : V l D cy M d mc ms av ws0 Q pc lv (.int i :: .ref a :: st) ws k n := by
  intro p e s m below meth c X H locs ls hP hD hS hl
  exact va_aldq X.1 X.2.1 X.2.2.2.2.2.2.2.2.1 hP q0 t0 ha ht hin hd (h p e s m below meth c X H locs ls hP hD hS hl)
theorem V.alen {a : Nat} {t0 : Nat} {x : vp_A} {v : Int32} {ty : FieldType} (hd : decode M.2.1 pc = .ok (.arraylength, 1)) (q0 : Nat) (ha : ws[q0]? = some (a, .inl (cy t0, x))) (ht : (vTys cy)[t0]? = some (cy t0, ty)) (hv : Int32.ofNat x.1 = v) (h : V l D cy M d mc ms av ws0 Q (pc + 1) lv (.int v :: st) ws k n) : V l D cy M d mc ms av ws0 Q pc lv (.ref a :: st) ws k n := by
  intro p e s m below meth c X H locs ls hP hD hS hl
  exact va_alen X.1 X.2.1 X.2.2.2.2.2.2.2.2.1 hP q0 t0 ha ht hv hd (h p e s m below meth c X H locs ls hP hD hS hl)
theorem V.get {C : String} {T : u_T} {N ci index a : Nat} {fs : List Value} {v : Value} (hin : ∀ w ∈ u_ws C T N, w ∈ vT) (q0 : Nat) (he : ws[q0]? = some (a, .inr (ci, fs))) (hc : vCl[ci]? = some (C, T, N)) (j : Nat) (hj : j < N) (hk : Cond.fieldLink M.1.cls index (T j).1 (T j).2.1 (T j).2.2.1 ∈ vT) (hv : fs[j]? = some v) (hd : decode M.2.1 pc = .ok (.getfield index, 3)) (h : V l D cy M d mc ms av ws0 Q (pc + 3) lv (v :: st) ws k n) : V l D cy M d mc ms av ws0 Q pc lv (.ref a :: st) ws k n := by
  intro p e s m below meth c X H locs ls hP hD hS hl
  exact va_get (D := D) X.1 X.2.1 (Ts := vT) (fun w hw => X.2.2.2.2.2.2.2.1 w (List.mem_cons_of_mem _ hw)) hin X.2.2.2.2.1 X.2.2.2.2.2.2.2.2.1 hP q0 he hc j hj (X.2.2.2.2.2.2.2.1 _ (List.mem_cons_of_mem _ hk)) (fun _ h9 => h9) hv hd (h p e s m below meth c X H locs ls hP hD hS hl)
theorem V.put {C : String} {T : u_T} {N ci index a : Nat} {fs : List Value} {v : Value} {ty : FieldType} (hin : ∀ w ∈ u_ws C T N, w ∈ vT) (ty0 : Nat → FieldType) (hty : ∀ k, k < N → parseFieldDescriptor (T k).2.2.1 = some (ty0 k)) (hnm : ∀ a, a < N → ∀ b, b < N → a ≠ b → (T a).2.1 ≠ (T b).2.1) (q0 : Nat) (he : ws[q0]? = some (a, .inr (ci, fs))) (hc : vCl[ci]? = some (C, T, N)) (j : Nat) (hj : j < N) (hk : Cond.fieldLink M.1.cls index (T j).1 (T j).2.1 (T j).2.2.1 ∈ vT) (hfin : (T j).2.2.2 = false) (hpd : parseFieldDescriptor (T j).2.2.1 = some ty) (hnv : narrow ty v = v) (hfit : fits ty v = true) (hl' : j < fs.length) (hd : decode M.2.1 pc = .ok (.putfield index, 3)) (hw : ws.set q0 (a, .inr (ci, fs.set j v)) = ws') (h : V l D cy M d mc ms av ws0 Q (pc + 3) lv st ws' k n) : V l D cy M d mc ms av ws0 Q pc lv (v :: .ref a :: st) ws k n := by
  intro p e s m below meth c X H locs ls hP hD hS hl
  subst hw
  exact va_put (D := D) X.1 X.2.1 (Ts := vT) (fun w hw => X.2.2.2.2.2.2.2.1 w (List.mem_cons_of_mem _ hw)) hin ty0 hty hnm X.2.2.2.2.1 X.2.2.2.2.2.2.2.2.1 hP hD hS q0 he hc j hj (X.2.2.2.2.2.2.2.1 _ (List.mem_cons_of_mem _ hk)) (fun _ h9 => h9) hfin hpd hnv hfit hl' hd (fun H1 locs1 hP hD hS => h p e s m below meth c X H1 locs1 ls hP hD hS hl)
theorem V.putF {C : String} {T : u_T} {N ci index a : Nat} {fs : List Value} {v : Value} {ty : FieldType} (hin : ∀ w ∈ u_ws C T N, w ∈ vT) (ty0 : Nat → FieldType) (hty : ∀ k, k < N → parseFieldDescriptor (T k).2.2.1 = some (ty0 k)) (hnm : ∀ a, a < N → ∀ b, b < N → a ≠ b → (T a).2.1 ≠ (T b).2.1) (q0 : Nat) (he : ws[q0]? = some (a, .inr (ci, fs))) (hc : vCl[ci]? = some (C, T, N)) (j : Nat) (hj : j < N) (hk : Cond.fieldLink M.1.cls index (T j).1 (T j).2.1 (T j).2.2.1 ∈ vT) (hfin : (T j).2.2.2 = true) (hini : M.1.name = "<init>") (hdecl : (T j).1 = M.1.cls) (hpd : parseFieldDescriptor (T j).2.2.1 = some ty) (hnv : narrow ty v = v) (hfit : fits ty v = true) (hl' : j < fs.length) (hd : decode M.2.1 pc = .ok (.putfield index, 3)) (hw : ws.set q0 (a, .inr (ci, fs.set j v)) = ws') (h : V l D cy M d mc ms av ws0 Q (pc + 3) lv st ws' k n) : V l D cy M d mc ms av ws0 Q pc lv (v :: .ref a :: st) ws k n := by
  intro p e s m below meth c X H locs ls hP hD hS hl
  subst hw
  exact va_putF (D := D) X.1 X.2.1 (Ts := vT) (fun w hw => X.2.2.2.2.2.2.2.1 w (List.mem_cons_of_mem _ hw)) hin ty0 hty hnm X.2.2.2.2.1 X.2.2.2.2.2.2.2.2.1 hP hD hS q0 he hc j hj (X.2.2.2.2.2.2.2.1 _ (List.mem_cons_of_mem _ hk)) (fun _ h9 => h9) hfin (X.2.2.2.2.2.2.1.trans hini) hdecl hpd hnv hfit hl' hd (fun H1 locs1 hP hD hS => h p e s m below meth c X H1 locs1 ls hP hD hS hl)
end LAYER2
