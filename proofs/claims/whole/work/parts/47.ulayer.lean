/-! the judgement U: a body with any end and any room; its rows are those of V, word for word -/
def UX (D : va_G) (cy : Nat → ClassId) (M : vM) (w0 : Cond) (args : Array Value) (A : Nat → Prop) (p : Program) (s : State) (m : MethodId) (meth : Method) (c : Code) : Prop :=
  p.tables.exec = Jvm.exec ∧ c.code = M.2.1 ∧ meth.sig.returnType = M.2.2.2 ∧ c.maxLocals = M.2.2.1 ∧ s.vm.findClass M.1.cls = some m.cls ∧ meth.locks = false ∧ True ∧
  (∀ w ∈ w0 :: vT, w.before args s = true) ∧ va_K D vCl (vTys cy) s ∧ vZ cy A s s.heap
def U (D : va_G) (cy : Nat → ClassId) (M : vM) (l : Launch) (R : Room) (A : Nat → Prop) (Φ : State → Prop) (p : Program) (e : Env) (s : State) (m : MethodId) (args : Array Value) (below : List Frame) (meth : Method) (c : Code) (pc : Nat) (lv : List (Nat × Value)) (st : List Value) (ws : va_W) (k n : Nat) : Prop :=
  ∀ (H : Heap) (locs : List Loc) (ls : Array Slot), va_P D vCl ws H → va_D A ws → va_S A s.heap H locs → lv_has ls M.2.2.1 lv → W p l e R s m args below meth c H locs k n Φ (F0 m pc ls st)
section ULAYER
variable {D : va_G} {cy : Nat → ClassId} {M M2 : vM} {w0 : Cond} {l : Launch} {R : Room} {A : Nat → Prop} {Φ : State → Prop} {p : Program} {e : Env} {s : State} {m : MethodId} {args : Array Value} {below : List Frame} {meth : Method} {c : Code} {d2 mc2 ms2 : Nat} {Q2 : Option Value → va_W → Prop} {X2 : va_W → Prop} {pc : Nat} {lv lv' : List (Nat × Value)} {st : List Value} {ws ws' wc wr : va_W} {k n : Nat}
theorem U.lvs (ks : List Nat) (hl : lv_pick lv ks = lv') (h : U D cy M l R A Φ p e s m args below meth c pc lv' st ws k n) : U D cy M l R A Φ p e s m args below meth c pc lv st ws k n := by
  intro H locs ls hP hD hS hv
  exact h H locs ls hP hD hS (lv_sub hv ks hl)
theorem U.widen {k' n' : Nat} (h1 : k ≤ k') (h2 : n ≤ n') (h : U D cy M l R A Φ p e s m args below meth c pc lv st ws k' n') : U D cy M l R A Φ p e s m args below meth c pc lv st ws k n := by
  intro H locs ls hP hD hS hv
  exact W.widen h1 h2 (h H locs ls hP hD hS hv)
theorem U.iconst (X : UX D cy M w0 args A p s m meth c) {z : Int} {v : Int32} (hd : decode M.2.1 pc = .ok (.iconst z, 1)) (hv : Int32.ofInt z = v) (h : U D cy M l R A Φ p e s m args below meth c (pc + 1) lv (.int v :: st) ws k n) : U D cy M l R A Φ p e s m args below meth c pc lv st ws k n := by
  intro H locs ls hP hD hS hl
  exact lv_iconst X.1 X.2.1 hd hv (h H locs ls hP hD hS hl)
theorem U.bipush (X : UX D cy M w0 args A p s m meth c) {z : Int} {v : Int32} (hd : decode M.2.1 pc = .ok (.bipush z, 2)) (hv : (Int8.ofInt z).toInt32 = v) (h : U D cy M l R A Φ p e s m args below meth c (pc + 2) lv (.int v :: st) ws k n) : U D cy M l R A Φ p e s m args below meth c pc lv st ws k n := by
  intro H locs ls hP hD hS hl
  exact lv_bipush X.1 X.2.1 hd hv (h H locs ls hP hD hS hl)
theorem U.sipush (X : UX D cy M w0 args A p s m meth c) {z : Int} {v : Int32} (hd : decode M.2.1 pc = .ok (.sipush z, 3)) (hv : (Int16.ofInt z).toInt32 = v) (h : U D cy M l R A Φ p e s m args below meth c (pc + 3) lv (.int v :: st) ws k n) : U D cy M l R A Φ p e s m args below meth c pc lv st ws k n := by
  intro H locs ls hP hD hS hl
  exact lv_sipush X.1 X.2.1 hd hv (h H locs ls hP hD hS hl)
theorem U.ldc2 (X : UX D cy M w0 args A p s m meth c) {index : Nat} {v : Int64} (hc : Cond.constantLong M.1.cls index v ∈ vT) (hd : decode M.2.1 pc = .ok (.ldc2_w index, 3)) (h : U D cy M l R A Φ p e s m args below meth c (pc + 3) lv (.long v :: st) ws k n) : U D cy M l R A Φ p e s m args below meth c pc lv st ws k n := by
  intro H locs ls hP hD hS hl
  exact lv_ldc2 X.1 X.2.1 X.2.2.2.2.1 (X.2.2.2.2.2.2.2.1 _ (List.mem_cons_of_mem _ hc)) hd (h H locs ls hP hD hS hl)
theorem U.iload_n (X : UX D cy M w0 args A p s m meth c) {j : Fin 4} {i : Nat} {x : Int32} (hd : decode M.2.1 pc = .ok (.iload_n j, 1)) (hi : (j : Nat) = i) (q : Nat) (hq : lv[q]? = some (i, .int x)) (h : U D cy M l R A Φ p e s m args below meth c (pc + 1) lv (.int x :: st) ws k n) : U D cy M l R A Φ p e s m args below meth c pc lv st ws k n := by
  intro H locs ls hP hD hS hl
  exact lv_iload_n X.1 X.2.1 hd hi (lv_at hl q hq) (h H locs ls hP hD hS hl)
theorem U.iload (X : UX D cy M w0 args A p s m meth c) {i : Nat} {x : Int32} (hd : decode M.2.1 pc = .ok (.iload i, 2)) (q : Nat) (hq : lv[q]? = some (i, .int x)) (h : U D cy M l R A Φ p e s m args below meth c (pc + 2) lv (.int x :: st) ws k n) : U D cy M l R A Φ p e s m args below meth c pc lv st ws k n := by
  intro H locs ls hP hD hS hl
  exact lv_iload X.1 X.2.1 hd (lv_at hl q hq) (h H locs ls hP hD hS hl)
theorem U.aload_n (X : UX D cy M w0 args A p s m meth c) {j : Fin 4} {i : Nat} {x : Nat} (hd : decode M.2.1 pc = .ok (.aload_n j, 1)) (hi : (j : Nat) = i) (q : Nat) (hq : lv[q]? = some (i, .ref x)) (h : U D cy M l R A Φ p e s m args below meth c (pc + 1) lv (.ref x :: st) ws k n) : U D cy M l R A Φ p e s m args below meth c pc lv st ws k n := by
  intro H locs ls hP hD hS hl
  exact lv_aload_n X.1 X.2.1 hd hi (lv_at hl q hq) (h H locs ls hP hD hS hl)
theorem U.aload (X : UX D cy M w0 args A p s m meth c) {i : Nat} {x : Nat} (hd : decode M.2.1 pc = .ok (.aload i, 2)) (q : Nat) (hq : lv[q]? = some (i, .ref x)) (h : U D cy M l R A Φ p e s m args below meth c (pc + 2) lv (.ref x :: st) ws k n) : U D cy M l R A Φ p e s m args below meth c pc lv st ws k n := by
  intro H locs ls hP hD hS hl
  exact lv_aload X.1 X.2.1 hd (lv_at hl q hq) (h H locs ls hP hD hS hl)
theorem U.istore (X : UX D cy M w0 args A p s m meth c) {i : Nat} {x : Int32} (hd : decode M.2.1 pc = .ok (.istore i, 2)) (hn : i < M.2.2.1) (hl' : (i, Value.int x) :: lv.filter (fun q => !(q.1 == i) && !(q.1 + 1 == i && q.2.category == 2)) = lv') (h : U D cy M l R A Φ p e s m args below meth c (pc + 2) lv' st ws k n) : U D cy M l R A Φ p e s m args below meth c pc lv (.int x :: st) ws k n := by
  intro H locs ls hP hD hS hl
  exact lv_istore X.1 X.2.1 hd hl hn hl' (fun ls hl => h H locs ls hP hD hS hl)
theorem U.astore_n (X : UX D cy M w0 args A p s m meth c) {j : Fin 4} {i : Nat} {x : Nat} (hd : decode M.2.1 pc = .ok (.astore_n j, 1)) (hi : (j : Nat) = i) (hn : i < M.2.2.1) (hl' : (i, Value.ref x) :: lv.filter (fun q => !(q.1 == i) && !(q.1 + 1 == i && q.2.category == 2)) = lv') (h : U D cy M l R A Φ p e s m args below meth c (pc + 1) lv' st ws k n) : U D cy M l R A Φ p e s m args below meth c pc lv (.ref x :: st) ws k n := by
  intro H locs ls hP hD hS hl
  exact lv_astore_n X.1 X.2.1 hd hi hl hn hl' (fun ls hl => h H locs ls hP hD hS hl)
theorem U.astore (X : UX D cy M w0 args A p s m meth c) {i : Nat} {x : Nat} (hd : decode M.2.1 pc = .ok (.astore i, 2)) (hn : i < M.2.2.1) (hl' : (i, Value.ref x) :: lv.filter (fun q => !(q.1 == i) && !(q.1 + 1 == i && q.2.category == 2)) = lv') (h : U D cy M l R A Φ p e s m args below meth c (pc + 2) lv' st ws k n) : U D cy M l R A Φ p e s m args below meth c pc lv (.ref x :: st) ws k n := by
  intro H locs ls hP hD hS hl
  exact lv_astore X.1 X.2.1 hd hl hn hl' (fun ls hl => h H locs ls hP hD hS hl)
theorem U.iinc (X : UX D cy M w0 args A p s m meth c) {i : Nat} {z : Int} {x v : Int32} (hd : decode M.2.1 pc = .ok (.iinc i z, 3)) (q : Nat) (hq : lv[q]? = some (i, .int x)) (hv : x + Int32.ofInt z = v) (hn : i < M.2.2.1) (hl' : (i, Value.int v) :: lv.filter (fun q => !(q.1 == i) && !(q.1 + 1 == i && q.2.category == 2)) = lv') (h : U D cy M l R A Φ p e s m args below meth c (pc + 3) lv' st ws k n) : U D cy M l R A Φ p e s m args below meth c pc lv st ws k n := by
  intro H locs ls hP hD hS hl
  exact lv_iinc X.1 X.2.1 hd hl hq hv hn hl' (fun ls hl => h H locs ls hP hD hS hl)
theorem U.iadd (X : UX D cy M w0 args A p s m meth c) {x y : Int32} (hd : decode M.2.1 pc = .ok (.iadd, 1)) (h : U D cy M l R A Φ p e s m args below meth c (pc + 1) lv (.int (x + y) :: st) ws k n) : U D cy M l R A Φ p e s m args below meth c pc lv (.int y :: .int x :: st) ws k n := by
  intro H locs ls hP hD hS hl
  exact lv_iadd X.1 X.2.1 hd (h H locs ls hP hD hS hl)
theorem U.isub (X : UX D cy M w0 args A p s m meth c) {x y : Int32} (hd : decode M.2.1 pc = .ok (.isub, 1)) (h : U D cy M l R A Φ p e s m args below meth c (pc + 1) lv (.int (x - y) :: st) ws k n) : U D cy M l R A Φ p e s m args below meth c pc lv (.int y :: .int x :: st) ws k n := by
  intro H locs ls hP hD hS hl
  exact lv_isub X.1 X.2.1 hd (h H locs ls hP hD hS hl)
theorem U.iand (X : UX D cy M w0 args A p s m meth c) {x y : Int32} (hd : decode M.2.1 pc = .ok (.iand, 1)) (h : U D cy M l R A Φ p e s m args below meth c (pc + 1) lv (.int (x &&& y) :: st) ws k n) : U D cy M l R A Φ p e s m args below meth c pc lv (.int y :: .int x :: st) ws k n := by
  intro H locs ls hP hD hS hl
  exact lv_iand X.1 X.2.1 hd (h H locs ls hP hD hS hl)
theorem U.land (X : UX D cy M w0 args A p s m meth c) {x y : Int64} (hd : decode M.2.1 pc = .ok (.land, 1)) (h : U D cy M l R A Φ p e s m args below meth c (pc + 1) lv (.long (x &&& y) :: st) ws k n) : U D cy M l R A Φ p e s m args below meth c pc lv (.long y :: .long x :: st) ws k n := by
  intro H locs ls hP hD hS hl
  exact lv_land X.1 X.2.1 hd (h H locs ls hP hD hS hl)
theorem U.lor (X : UX D cy M w0 args A p s m meth c) {x y : Int64} (hd : decode M.2.1 pc = .ok (.lor, 1)) (h : U D cy M l R A Φ p e s m args below meth c (pc + 1) lv (.long (x ||| y) :: st) ws k n) : U D cy M l R A Φ p e s m args below meth c pc lv (.long y :: .long x :: st) ws k n := by
  intro H locs ls hP hD hS hl
  exact lv_lor X.1 X.2.1 hd (h H locs ls hP hD hS hl)
theorem U.lshl (X : UX D cy M w0 args A p s m meth c) {x : Int64} {y : Int32} (hd : decode M.2.1 pc = .ok (.lshl, 1)) (h : U D cy M l R A Φ p e s m args below meth c (pc + 1) lv (.long (x <<< (y.toInt64 &&& 63)) :: st) ws k n) : U D cy M l R A Φ p e s m args below meth c pc lv (.int y :: .long x :: st) ws k n := by
  intro H locs ls hP hD hS hl
  exact lv_lshl X.1 X.2.1 hd rfl (h H locs ls hP hD hS hl)
theorem U.i2l (X : UX D cy M w0 args A p s m meth c) {x : Int32} (hd : decode M.2.1 pc = .ok (.i2l, 1)) (h : U D cy M l R A Φ p e s m args below meth c (pc + 1) lv (.long (x.toInt64) :: st) ws k n) : U D cy M l R A Φ p e s m args below meth c pc lv (.int x :: st) ws k n := by
  intro H locs ls hP hD hS hl
  exact lv_i2l X.1 X.2.1 hd rfl (h H locs ls hP hD hS hl)
theorem U.lcmp (X : UX D cy M w0 args A p s m meth c) {x y : Int64} (hd : decode M.2.1 pc = .ok (.lcmp, 1)) (h : U D cy M l R A Φ p e s m args below meth c (pc + 1) lv (.int (lg_cmp x y) :: st) ws k n) : U D cy M l R A Φ p e s m args below meth c pc lv (.long y :: .long x :: st) ws k n := by
  intro H locs ls hP hD hS hl
  exact W.lcmp X.1 X.2.1 hd (h H locs ls hP hD hS hl)
theorem U.dup (X : UX D cy M w0 args A p s m meth c) {u : Value} (hd : decode M.2.1 pc = .ok (.dup, 1)) (hu : u.category = 1) (h : U D cy M l R A Φ p e s m args below meth c (pc + 1) lv (u :: u :: st) ws k n) : U D cy M l R A Φ p e s m args below meth c pc lv (u :: st) ws k n := by
  intro H locs ls hP hD hS hl
  exact lv_dup X.1 X.2.1 hd hu (h H locs ls hP hD hS hl)
theorem U.goto (X : UX D cy M w0 args A p s m meth c) {off : Int} {tgt : Nat} (hd : decode M.2.1 pc = .ok (.goto off, 3)) (ht : (pc : Int) + off = (tgt : Int)) (h : U D cy M l R A Φ p e s m args below meth c tgt lv st ws k n) : U D cy M l R A Φ p e s m args below meth c pc lv st ws k n := by
  intro H locs ls hP hD hS hl
  exact lv_goto X.1 X.2.1 hd ht (h H locs ls hP hD hS hl)
theorem U.if_eq (X : UX D cy M w0 args A p s m meth c) {x : Int32} {off : Int} {tgt : Nat} (hd : decode M.2.1 pc = .ok (.ifCond .eq off, 3)) (ht : (pc : Int) + off = (tgt : Int)) (kt : x = 0 → U D cy M l R A Φ p e s m args below meth c tgt lv st ws k n) (kf : ¬ x = 0 → U D cy M l R A Φ p e s m args below meth c (pc + 3) lv st ws k n) : U D cy M l R A Φ p e s m args below meth c pc lv (.int x :: st) ws k n := by
  intro H locs ls hP hD hS hl
  exact lv_if_eq X.1 X.2.1 hd ht (fun q => kt q H locs ls hP hD hS hl) (fun q => kf q H locs ls hP hD hS hl)
theorem U.if_ne (X : UX D cy M w0 args A p s m meth c) {x : Int32} {off : Int} {tgt : Nat} (hd : decode M.2.1 pc = .ok (.ifCond .ne off, 3)) (ht : (pc : Int) + off = (tgt : Int)) (kt : ¬ x = 0 → U D cy M l R A Φ p e s m args below meth c tgt lv st ws k n) (kf : x = 0 → U D cy M l R A Φ p e s m args below meth c (pc + 3) lv st ws k n) : U D cy M l R A Φ p e s m args below meth c pc lv (.int x :: st) ws k n := by
  intro H locs ls hP hD hS hl
  exact lv_if_ne X.1 X.2.1 hd ht (fun q => kt q H locs ls hP hD hS hl) (fun q => kf (by first | exact q | exact Classical.not_not.mp q) H locs ls hP hD hS hl)
theorem U.icmp_eq (X : UX D cy M w0 args A p s m meth c) {x y : Int32} {off : Int} {tgt : Nat} (hd : decode M.2.1 pc = .ok (.if_icmp .eq off, 3)) (ht : (pc : Int) + off = (tgt : Int)) (kt : x = y → U D cy M l R A Φ p e s m args below meth c tgt lv st ws k n) (kf : ¬ x = y → U D cy M l R A Φ p e s m args below meth c (pc + 3) lv st ws k n) : U D cy M l R A Φ p e s m args below meth c pc lv (.int y :: .int x :: st) ws k n := by
  intro H locs ls hP hD hS hl
  exact lv_icmp_eq X.1 X.2.1 hd ht (fun q => kt q H locs ls hP hD hS hl) (fun q => kf q H locs ls hP hD hS hl)
theorem U.icmp_gt (X : UX D cy M w0 args A p s m meth c) {x y : Int32} {off : Int} {tgt : Nat} (hd : decode M.2.1 pc = .ok (.if_icmp .gt off, 3)) (ht : (pc : Int) + off = (tgt : Int)) (kt : y < x → U D cy M l R A Φ p e s m args below meth c tgt lv st ws k n) (kf : ¬ y < x → U D cy M l R A Φ p e s m args below meth c (pc + 3) lv st ws k n) : U D cy M l R A Φ p e s m args below meth c pc lv (.int y :: .int x :: st) ws k n := by
  intro H locs ls hP hD hS hl
  exact lv_icmp_gt X.1 X.2.1 hd ht (fun q => kt q H locs ls hP hD hS hl) (fun q => kf q H locs ls hP hD hS hl)
theorem U.lald (X : UX D cy M w0 args A p s m meth c) {a : Nat} {N : Nat} {f : Nat → Int64} {i : Int32} (hd : decode M.2.1 pc = .ok (.laload, 1)) (q0 : Nat) (ha : ws[q0]? = some (a, .inl (cy 2, N, .inr (.inl f)))) (hin : vp_in i N) (h : U D cy M l R A Φ p e s m args below meth c (pc + 1) lv (.long (f i.toNatClampNeg) :: st) ws k n) : U D cy M l R A Φ p e s m args below meth c pc lv (.int i :: .ref a :: st) ws k n := by
  intro H locs ls hP hD hS hl
  exact va_lald X.1 X.2.1 X.2.2.2.2.2.2.2.2.1 hP q0 2 ha rfl hin hd (h H locs ls hP hD hS hl)
theorem U.last (X : UX D cy M w0 args A p s m meth c) {a : Nat} {N : Nat} {f : Nat → Int64} {i : Int32} {x : Int64} (hd : decode M.2.1 pc = .ok (.lastore, 1)) (q0 : Nat) (ha : ws[q0]? = some (a, .inl (cy 2, N, .inr (.inl f)))) (hin : vp_in i N) (hw : ws.set q0 (a, .inl (cy 2, N, .inr (.inl (vp_updL f i.toNatClampNeg x)))) = ws') (h : U D cy M l R A Φ p e s m args below meth c (pc + 1) lv st ws' k n) : U D cy M l R A Φ p e s m args below meth c pc lv (.long x :: .int i :: .ref a :: st) ws k n := by
  intro H locs ls hP hD hS hl
  subst hw
  exact va_last X.1 X.2.1 X.2.2.2.2.2.2.2.2.1 hP hD hS q0 2 ha rfl hin hd (fun H1 locs1 hP hD hS => h H1 locs1 ls hP hD hS hl)
theorem U.tswIn (X : UX D cy M w0 args A p s m meth c) {dflt lo hi off : Int} {offs : Array Int} {len tgt : Nat} {x : Int32} (hd : decode M.2.1 pc = .ok (.tableswitch dflt lo hi offs, len)) (h1 : ¬ x.toInt < lo) (h2 : ¬ hi < x.toInt) (ho : offs[(x.toInt - lo).toNat]? = some off) (ht : (pc : Int) + off = (tgt : Int)) (h : U D cy M l R A Φ p e s m args below meth c tgt lv st ws k n) : U D cy M l R A Φ p e s m args below meth c pc lv (.int x :: st) ws k n := by
  intro H locs ls hP hD hS hl
  exact lv_tableIn X.1 X.2.1 hd h1 h2 ho ht (h H locs ls hP hD hS hl)
theorem U.tswOut (X : UX D cy M w0 args A p s m meth c) {dflt lo hi : Int} {offs : Array Int} {len tgt : Nat} {x : Int32} (hd : decode M.2.1 pc = .ok (.tableswitch dflt lo hi offs, len)) (h1 : x.toInt < lo ∨ hi < x.toInt) (ht : (pc : Int) + dflt = (tgt : Int)) (h : U D cy M l R A Φ p e s m args below meth c tgt lv st ws k n) : U D cy M l R A Φ p e s m args below meth c pc lv (.int x :: st) ws k n := by
  intro H locs ls hP hD hS hl
  exact lv_tableOut X.1 X.2.1 hd h1 ht (h H locs ls hP hD hS hl)
theorem U.perm (hp : ws.Perm ws') (h : U D cy M l R A Φ p e s m args below meth c pc lv st ws' k n) : U D cy M l R A Φ p e s m args below meth c pc lv st ws k n := by
  intro H locs ls hP hD hS hl
  exact h H locs ls (va_P_perm hp hP) (va_D_perm hp hD) hS hl
theorem U.after {rest : List Value} (isC isR : List Nat) (hC : isC.map (fun i => ws[i]?) = wc.map some) (hR : isR.map (fun i => ws[i]?) = wr.map some) (hnR : va_nd isR = true) (hdis : ∀ i ∈ isR, i ∉ isC) (hA : ∀ q : Nat, s.heap.size ≤ q → A q) {av2 : Array Value}
    (hrun : ∀ (H : Heap) (locs : List Loc) (ls : Array Slot), va_P D vCl ws H → va_D A ws → va_S A s.heap H locs → lv_has ls M.2.2.1 lv →
      va_Run p l e R s m args below meth c H locs k n mc2 ms2 (F0 m pc ls st) rest (vPost D wc H.size Q2 av2) (va_A wc H.size))
    (h : ∀ (r : Option Value) (w1 : va_W), Q2 r w1 → U D cy M l R A Φ p e s m args below meth c (pc + 3) lv (r.toList ++ rest) (wr ++ w1) (k + mc2) (n + ms2)) : U D cy M l R A Φ p e s m args below meth c pc lv st ws k n := by
  intro H locs ls hP hD hS hl T hT Y
  have hFc := va_free (wc := wc) hD hS hA isC hC
  obtain ⟨v, st₀, t, T', L, h0, Y', hL, e1, e2, ⟨⟨r, w1, hv, hq, hP1, hD1⟩, hz, hk1⟩, gs⟩ := hrun H locs ls hP hD hS hl T hT Y
  cases hv
  rw [h0] at hz hk1
  rw [← e1] at hP1 hk1 hz
  obtain ⟨hP', hD'⟩ := va_join (wr := wr) (w1 := w1) hP hD isC isR hC hR hnR hdis hk1 hFc hP1 hD1
  have hS' : va_S A s.heap T'.heap (locs ++ L) := ⟨Nat.le_trans hS.1 hz, fun q g1 g2 => by rw [hk1 q (Nat.lt_of_lt_of_le g1 hS.1) (fun z => g2 (hFc q z))]; exact hS.2.1 q g1 g2, fun q hq => by
      rcases List.mem_append.mp hq with g | g
      · exact hS.2.2 q g
      · exact hFc _ (hL q g)⟩
  obtain ⟨t2, a1, b1⟩ := h v w1 hq T'.heap (locs ++ L) ls hP' hD' hS' hl T' rfl Y'
  exact ⟨t2, gs t2 a1, b1⟩
theorem uPre_call {H : Heap} {locs : List Loc} (X : UX D cy M w0 args A p s m meth c) (hA : ∀ q : Nat, s.heap.size ≤ q → A q) (hP : va_P D vCl ws H) (hD : va_D A ws) (hS : va_S A s.heap H locs) (isC : List Nat) (hnC : va_nd isC = true) (hC : isC.map (fun i => ws[i]?) = wc.map some) : ∀ U : State, U.heap = H → s.WarmedH U.vm → vPre D cy wc H.size U := by
  intro U hU hW
  have hs2 : isC.filterMap (fun i => ws[i]?) = wc := by
    have h2 := congrArg (List.filterMap id) hC
    simpa [List.filterMap_map, Function.comp_def] using h2
  have hFc := va_free (wc := wc) hD hS hA isC hC
  exact ⟨by rw [hU], by rw [hU]; exact hP.sub isC hs2, va_K.moved hW.alike X.2.2.2.2.2.2.2.2.1, (hD.sub isC hnC hC).weaken (fun _ _ _ _ => trivial), vZ_call X.2.2.2.2.2.2.2.2.2 hS hFc hU hW⟩
theorem uGood (hc : Cond.code M2.1 M2.2.1 M2.2.2.1 M2.2.2.2 ∈ vT) : GoodIn (w0 :: vT) (vWs M2) := by
  intro w hw
  rcases List.mem_cons.mp hw with rfl | h
  · exact ⟨List.mem_cons_of_mem _ hc, vT_good hc⟩
  · exact ⟨List.mem_cons_of_mem _ h, vT_good h⟩
/-- the room that a caller must have -/
def uRoom (R : Room) (d2 maxL : Nat) : Prop := d2 + 3 ≤ R.frames ∧ 64 * d2 + maxL + 147 ≤ R.locals
theorem U.callVP {As rest : List Value} {b index q0 ci : Nat} {fs : List Value} {cq : vw_C} (X : UX D cy M w0 args A p s m meth c) (hA : ∀ q : Nat, s.heap.size ≤ q → A q) (hM : vMet l D cy M2 d2 mc2 ms2 (.ref b :: As) wc Q2) (hw : vIns M2 As.length) (hk : Cond.methodLink M.1.cls index M2.1 ∈ vT) (hp : ws.Perm (wc ++ wr))
    (hrc : wc[q0]? = some (b, .inr (ci, fs))) (hcl : vCl[ci]? = some cq) (hcn : cq.1 = M2.1.cls) (hst : st = As.reverse ++ .ref b :: rest) (hdg : decode M.2.1 pc = .ok (.invokevirtual index, 3)) (hrm : uRoom R d2 M2.2.2.1) (hrk : k + mc2 ≤ R.cells ∧ n + ms2 ≤ R.slots) (hcat : (rest.map fun v => v.category).sum ≤ 8)
    (h : ∀ (r : Option Value) (w1 : va_W), Q2 r w1 → U D cy M l R A Φ p e s m args below meth c (pc + 3) lv (r.toList ++ rest) (wr ++ w1) (k + mc2) (n + ms2)) : U D cy M l R A Φ p e s m args below meth c pc lv st ws k n := by
  refine U.perm hp (U.after (wc := wc) (wr := wr) (List.range wc.length) ((List.range wr.length).map (fun i => wc.length + i)) vIsC vIsR (vNdR _ _) (vDis _ _) hA (av2 := (Value.ref b :: As).toArray) ?_ h)
  intro H locs ls hP hD hS hl
  have ht := X.2.2.2.2.2.2.2.1
  have hv : ∀ w ∈ vT, w.before args s = true := fun w hw => ht w (List.mem_cons_of_mem _ hw)
  obtain ⟨w1, w2, w3, w4, w5⟩ := hw
  have cb : CallB R s args M.1.cls index M2.1 M2.2.1 M2.2.2.1 M2.2.2.2 (vWs M2) (vRoom d2 mc2 ms2) mc2 ms2 As.length :=
    callB_of As.length ht (uGood w1) rfl rfl rfl (hv _ w2) (hv _ hk) w3 ⟨by have := hrm.1; simp only [vRoom]; omega, by have := hrm.2; simp only [vRoom]; omega⟩
  have hrc' : (wc ++ wr)[q0]? = some (b, .inr (ci, fs)) := by
    rw [List.getElem?_append_left (List.getElem?_eq_some_iff.mp hrc).1]
    exact hrc
  exact va_runV (Ts := w0 :: vT) (own := M.1.cls) (C := M2.1.cls) ⟨X.1, X.2.1, X.2.2.2.1, X.2.2.2.2.1, ht⟩ (hM H.size) ⟨cb, hv _ w4, hv _ w5⟩
    ⟨vBlind, by rw [← hcn]; exact va_recv X.2.2.2.2.2.2.2.2.1 hP hcl hrc', fun U hU hW => ⟨rfl, uPre_call X hA hP hD hS (List.range wc.length) (vNdC _) vIsC U hU hW⟩⟩ rfl rfl hl.1 hst (lv_room hcat) hdg hrk
theorem U.callIP {As rest : List Value} {b index : Nat} (X : UX D cy M w0 args A p s m meth c) (hA : ∀ q : Nat, s.heap.size ≤ q → A q) (hM : vMet l D cy M2 d2 mc2 ms2 (.ref b :: As) wc Q2) (hw : vIni M2 As.length) (hk : Cond.methodLink M.1.cls index M2.1 ∈ vT) (hp : ws.Perm (wc ++ wr))
    (hst : st = As.reverse ++ .ref b :: rest) (hdg : decode M.2.1 pc = .ok (.invokespecial index, 3)) (hrm : uRoom R d2 M2.2.2.1) (hrk : k + mc2 ≤ R.cells ∧ n + ms2 ≤ R.slots) (hcat : (rest.map fun v => v.category).sum ≤ 8)
    (h : ∀ (r : Option Value) (w1 : va_W), Q2 r w1 → U D cy M l R A Φ p e s m args below meth c (pc + 3) lv (r.toList ++ rest) (wr ++ w1) (k + mc2) (n + ms2)) : U D cy M l R A Φ p e s m args below meth c pc lv st ws k n := by
  refine U.perm hp (U.after (wc := wc) (wr := wr) (List.range wc.length) ((List.range wr.length).map (fun i => wc.length + i)) vIsC vIsR (vNdR _ _) (vDis _ _) hA (av2 := (Value.ref b :: As).toArray) ?_ h)
  intro H locs ls hP hD hS hl
  have ht := X.2.2.2.2.2.2.2.1
  have hv : ∀ w ∈ vT, w.before args s = true := fun w hw => ht w (List.mem_cons_of_mem _ hw)
  obtain ⟨w1, w2, w3, w4, w5, w6⟩ := hw
  have cb : CallB R s args M.1.cls index M2.1 M2.2.1 M2.2.2.1 none (vWs M2) (vRoom d2 mc2 ms2) mc2 ms2 As.length :=
    callB_of As.length ht (uGood w1) (by rw [← w6]; rfl) rfl rfl (hv _ w2) (hv _ hk) w3 ⟨by have := hrm.1; simp only [vRoom]; omega, by have := hrm.2; simp only [vRoom]; omega⟩
  exact va_runI (Ts := w0 :: vT) (own := M.1.cls) ⟨X.1, X.2.1, X.2.2.2.1, X.2.2.2.2.1, ht⟩ (hM H.size) ⟨cb, w5, hv _ w4⟩
    ⟨vBlind, fun U hU hW => ⟨rfl, uPre_call X hA hP hD hS (List.range wc.length) (vNdC _) vIsC U hU hW⟩⟩ rfl rfl hl.1 hst (lv_room hcat) hdg hrk
end ULAYER
