/-! bodies that may throw: the judgement Vx, its rows (those of V, word for word), the throw -/
def vNs : String := "java/util/NoSuchElementException"
def vUp : List String := ["java/lang/RuntimeException", "java/lang/Exception"]
def vxN : List MethodName := [Bundle.init0 "java/lang/RuntimeException", Bundle.init0 "java/lang/Exception", Bundle.init0 Bundle.tN]
def vxS (A : Nat → Prop) (U : State) (H : Heap) : Prop := vx_Zq Bundle.tN "UNASSIGNED_STACK" Bundle.steD A U H ∧ vx_Zq Bundle.tN "SUPPRESSED_SENTINEL" Bundle.listD A U H ∧ (∀ x ∈ vxN, va_Nw (.declares x) U) ∧ va_Nw (.castable vNs vNs) U
theorem vNwC {a b : String} {s U : State} (hW : s.WarmedH U.vm) (hZ : va_Nw (.castable a b) s) : va_Nw (.castable a b) U := va_tabs rfl (rfl : (s.setVm U.vm).vm = U.vm) (by rw [Cond.castable_setVm hW.alike]; exact hZ)
theorem vxS.narrow {A A' : Nat → Prop} {U : State} {H : Heap} (h : vxS A U H) (hA : ∀ q, A' q → A q) : vxS A' U H := ⟨h.1.narrow hA, h.2.1.narrow hA, h.2.2⟩
theorem vxS_call {A A' : Nat → Prop} {s U : State} {H : Heap} {locs : List Loc} (h : vxS A s s.heap) (hS : va_S A s.heap H locs) (hA : ∀ q, A' q → A q) (hU : U.heap = H) (hW : s.WarmedH U.vm) : vxS A' U U.heap := by
  have hq : ∀ a : Nat, a < s.heap.size → ¬ A a → U.heap[a]? = s.heap[a]? := by rw [hU]; exact hS.2.1
  exact ⟨((h.1.kept hq).narrow hA).moved hW.alike, ((h.2.1.kept hq).narrow hA).moved hW.alike, fun x hx => va_Nw.warmD hW (h.2.2.1 x hx), vNwC hW h.2.2.2⟩
theorem vxS_moved {A : Nat → Prop} {s U : State} (h : vxS A s s.heap) (hU : U.heap = s.heap) (hvm : U.vm = s.vm) : vxS A U U.heap := by
  have hW : s.vm.Alike U.vm := by rw [hvm]; exact Vm.Alike.refl s.vm
  have hq : ∀ a : Nat, a < s.heap.size → ¬ A a → U.heap[a]? = s.heap[a]? := by intro a _ _; rw [hU]
  exact ⟨(h.1.kept hq).moved hW, (h.2.1.kept hq).moved hW, fun x hx => va_Nw.same rfl hvm.symm (h.2.2.1 x hx), va_Nw.same rfl hvm.symm h.2.2.2⟩
/-- how it throws: the exception's name, the cells as they are then -/
def vXC (D : va_G) (ws0 : va_W) (sz : Nat) (Xt : va_W → Prop) : String → State → State → Prop := fun E st t =>
  E = vNs ∧ (∃ w : va_W, Xt w ∧ va_P D vCl w t.heap ∧ va_D (va_A ws0 sz) w) ∧ va_F (va_A ws0 sz) st t
def vxPre (D : va_G) (cy : Nat → ClassId) (ws0 : va_W) (sz : Nat) (U : State) : Prop := vPre D cy ws0 sz U ∧ vxS (va_A ws0 sz) U U.heap
def vxMet (l : Launch) (D : va_G) (cy : Nat → ClassId) (M : vM) (d mc ms : Nat) (av : List Value) (ws0 : va_W) (Q : Option Value → va_W → Prop) (Xt : va_W → Prop) : Prop :=
  ∀ sz : Nat, vx_Met l M.1 (vWs M) (vRoom d mc ms) (va_Pc av (vxPre D cy ws0 sz)) (vPost D ws0 sz Q) (vXC D ws0 sz Xt) mc ms (va_A ws0 sz)
def VxE (l : Launch) (ws0 : va_W) (s : State) (c : Code) : Prop := l.stackTraces = false ∧ vxS (va_A ws0 s.heap.size) s s.heap ∧ ∀ x ∈ c.exceptionTable.toList, False
def Vx (l : Launch) (D : va_G) (cy : Nat → ClassId) (M : vM) (d mc ms : Nat) (av : List Value) (ws0 : va_W) (Q : Option Value → va_W → Prop) (Xt : va_W → Prop) (pc : Nat) (lv : List (Nat × Value)) (st : List Value) (ws : va_W) (k n : Nat) : Prop :=
  ∀ (p : Program) (e : Env) (s : State) (m : MethodId) (below : List Frame) (meth : Method) (c : Code), VX D cy M av ws0 p s m meth c → VxE l ws0 s c →
  ∀ (H : Heap) (locs : List Loc) (ls : Array Slot), va_P D vCl ws H → va_D (va_A ws0 s.heap.size) ws → va_S (va_A ws0 s.heap.size) s.heap H locs → lv_has ls M.2.2.1 lv →
  W p l e (vRoom d mc ms) s m av.toArray below meth c H locs k n (vx_MQ below (vPost D ws0 s.heap.size Q) (vXC D ws0 s.heap.size Xt) av.toArray s mc ms (va_A ws0 s.heap.size)) (F0 m pc ls st)
def vxQ (Q : Option Value → va_W → Prop) (Xt : va_W → Prop) (R : Option Int32) (w : va_W) : Prop := match R with
  | some v => Q (some (.int v)) w
  | none => Xt w
theorem kX_ns : Cond.classLink RX11 204 vNs ∈ vT := vT_mem (by decide +kernel) (by decide +kernel)
theorem kX_nsi : Cond.initialized vNs ∈ vT := vT_mem (by decide +kernel) (by decide +kernel)
theorem vx_words1 : ∀ w ∈ (vx_at0 RX11 206 vNs vUp).filter goodWord, w ∈ lw_tbl := by decide +kernel
theorem vx_words2 : ∀ w ∈ (vx_at0 RX11 206 vNs vUp).filter (fun w => !goodWord w), w ∈ Cond.castable vNs vNs :: vxN.map Cond.declares := by decide +kernel
theorem vx_words {av : Array Value} {s : State} (h1 : ∀ w ∈ vT, w.before av s = true) (h2 : ∀ x ∈ vxN, va_Nw (.declares x) s) (h3 : va_Nw (.castable vNs vNs) s) : ∀ w ∈ vx_at0 RX11 206 vNs vUp, w.before av s = true := by
  intro w hw
  by_cases g : goodWord w = true
  · exact h1 w (vT_mem (vx_words1 w (List.mem_filter.mpr ⟨hw, g⟩)) g)
  · rcases List.mem_cons.mp (vx_words2 w (List.mem_filter.mpr ⟨hw, by simpa using g⟩)) with rfl | h
    · exact va_Nw.use rfl h3
    · obtain ⟨x, hx, rfl⟩ := List.mem_map.mp h
      exact va_Nw.use rfl (h2 x hx)
theorem vx_good : ∀ w ∈ vx_at0 RX11 206 vNs vUp, vx_ot w = true := by decide +kernel
section VXL
variable {l : Launch} {D : va_G} {cy : Nat → ClassId} {M M2 : vM} {d mc ms d2 mc2 ms2 : Nat} {av : List Value} {ws0 : va_W} {Q Q2 : Option Value → va_W → Prop} {Xt : va_W → Prop} {pc : Nat} {lv lv' : List (Nat × Value)} {st : List Value} {ws ws' wc wr : va_W} {k n : Nat}
theorem vxMet.start (hl9 : l.stackTraces = false) (hy : plainName M.1.cls = true) (hn : (lg_sl av).length ≤ M.2.2.1) (h : Vx l D cy M d mc ms av ws0 Q Xt 0 (lv_args 0 av) [] ws0 0 0) : vxMet l D cy M d mc ms av ws0 Q Xt := by
  intro sz
  refine vx_ofW (cc := M.2.1) (maxL := M.2.2.1) (ret := M.2.2.2) (ws' := vT) hy rfl ?_
  intro p e s m args below meth c s₁ B hml ht hv
  obtain ⟨rfl, ⟨hsz, hP, hK, hD0, hZ⟩, hx⟩ := hv
  subst hsz
  have hl := lv_entry av (n := M.2.2.1) hn
  rw [lg_entry_eq]
  exact h p e s m below meth c ⟨B.exec, B.bytes, B.returns, hml, findClass_of_methodNamed B.named, B.notSynchronized, (name_of_methodNamed B.named B.method).1, atoms_spec (ws := vWs M) B.pre, hK, hZ⟩ ⟨hl9, hx, ht⟩ s.heap [] _ hP (hD0.self (sz := s.heap.size)) va_S.rf hl
/-- what doesn't throw from here on -/
theorem Vx.of (h : V l D cy M d mc ms av ws0 Q pc lv st ws k n) : Vx l D cy M d mc ms av ws0 Q Xt pc lv st ws k n := by
  intro p e s m below meth c X E9 H locs ls hP hD hS hl
  exact vx_ret (h p e s m below meth c X H locs ls hP hD hS hl)
theorem Vx.aload_n {j : Fin 4} {i : Nat} {x : Nat} (hd : decode M.2.1 pc = .ok (.aload_n j, 1)) (hi : (j : Nat) = i) (q : Nat) (hq : lv[q]? = some (i, .ref x)) (h : Vx l D cy M d mc ms av ws0 Q Xt (pc + 1) lv (.ref x :: st) ws k n) : Vx l D cy M d mc ms av ws0 Q Xt pc lv st ws k n := by
  intro p e s m below meth c X E9 H locs ls hP hD hS hl
  exact lv_aload_n X.1 X.2.1 hd hi (lv_at hl q hq) (h p e s m below meth c X E9 H locs ls hP hD hS hl)
theorem Vx.bipush {z : Int} {v : Int32} (hd : decode M.2.1 pc = .ok (.bipush z, 2)) (hv : (Int8.ofInt z).toInt32 = v) (h : Vx l D cy M d mc ms av ws0 Q Xt (pc + 2) lv (.int v :: st) ws k n) : Vx l D cy M d mc ms av ws0 Q Xt pc lv st ws k n := by
  intro p e s m below meth c X E9 H locs ls hP hD hS hl
  exact lv_bipush X.1 X.2.1 hd hv (h p e s m below meth c X E9 H locs ls hP hD hS hl)
theorem Vx.cells (is : List Nat) (hn : va_nd is = true) (hs : is.map (fun i => ws[i]?) = ws'.map some) (h : Vx l D cy M d mc ms av ws0 Q Xt pc lv st ws' k n) : Vx l D cy M d mc ms av ws0 Q Xt pc lv st ws k n := by
  intro p e s m below meth c X E9 H locs ls hP hD hS hv
  have hs2 : is.filterMap (fun i => ws[i]?) = ws' := by
    have h2 := congrArg (List.filterMap id) hs
    simpa [List.filterMap_map, Function.comp_def] using h2
  exact h p e s m below meth c X E9 H locs ls (hP.sub is hs2) (hD.sub is hn hs) hS hv
theorem Vx.get {C : String} {T : u_T} {N ci index a : Nat} {fs : List Value} {v : Value} (hin : ∀ w ∈ u_ws C T N, w ∈ vT) (q0 : Nat) (he : ws[q0]? = some (a, .inr (ci, fs))) (hc : vCl[ci]? = some (C, T, N)) (j : Nat) (hj : j < N) (hk : Cond.fieldLink M.1.cls index (T j).1 (T j).2.1 (T j).2.2.1 ∈ vT) (hv : fs[j]? = some v) (hd : decode M.2.1 pc = .ok (.getfield index, 3)) (h : Vx l D cy M d mc ms av ws0 Q Xt (pc + 3) lv (v :: st) ws k n) : Vx l D cy M d mc ms av ws0 Q Xt pc lv (.ref a :: st) ws k n := by
  intro p e s m below meth c X E9 H locs ls hP hD hS hl
  exact va_get (D := D) X.1 X.2.1 (Ts := vT) (fun w hw => X.2.2.2.2.2.2.2.1 w (List.mem_cons_of_mem _ hw)) hin X.2.2.2.2.1 X.2.2.2.2.2.2.2.2.1 hP q0 he hc j hj (X.2.2.2.2.2.2.2.1 _ (List.mem_cons_of_mem _ hk)) (fun _ h9 => h9) hv hd (h p e s m below meth c X E9 H locs ls hP hD hS hl)
theorem Vx.goto {off : Int} {tgt : Nat} (hd : decode M.2.1 pc = .ok (.goto off, 3)) (ht : (pc : Int) + off = (tgt : Int)) (h : Vx l D cy M d mc ms av ws0 Q Xt tgt lv st ws k n) : Vx l D cy M d mc ms av ws0 Q Xt pc lv st ws k n := by
  intro p e s m below meth c X E9 H locs ls hP hD hS hl
  exact lv_goto X.1 X.2.1 hd ht (h p e s m below meth c X E9 H locs ls hP hD hS hl)
theorem Vx.iadd {x y : Int32} (hd : decode M.2.1 pc = .ok (.iadd, 1)) (h : Vx l D cy M d mc ms av ws0 Q Xt (pc + 1) lv (.int (x + y) :: st) ws k n) : Vx l D cy M d mc ms av ws0 Q Xt pc lv (.int y :: .int x :: st) ws k n := by
  intro p e s m below meth c X E9 H locs ls hP hD hS hl
  exact lv_iadd X.1 X.2.1 hd (h p e s m below meth c X E9 H locs ls hP hD hS hl)
theorem Vx.iald {a : Nat} {N : Nat} {f : Nat → Int32} {i : Int32} (hd : decode M.2.1 pc = .ok (.iaload, 1)) (q0 : Nat) (ha : ws[q0]? = some (a, .inl (cy 1, N, .inl f))) (hin : vp_in i N) (h : Vx l D cy M d mc ms av ws0 Q Xt (pc + 1) lv (.int (f i.toNatClampNeg) :: st) ws k n) : Vx l D cy M d mc ms av ws0 Q Xt pc lv (.int i :: .ref a :: st) ws k n := by
  intro p e s m below meth c X E9 H locs ls hP hD hS hl
  exact va_iald X.1 X.2.1 X.2.2.2.2.2.2.2.2.1 hP q0 1 ha rfl hin hd (h p e s m below meth c X E9 H locs ls hP hD hS hl)
theorem Vx.icmp_eq {x y : Int32} {off : Int} {tgt : Nat} (hd : decode M.2.1 pc = .ok (.if_icmp .eq off, 3)) (ht : (pc : Int) + off = (tgt : Int)) (kt : x = y → Vx l D cy M d mc ms av ws0 Q Xt tgt lv st ws k n) (kf : ¬ x = y → Vx l D cy M d mc ms av ws0 Q Xt (pc + 3) lv st ws k n) : Vx l D cy M d mc ms av ws0 Q Xt pc lv (.int y :: .int x :: st) ws k n := by
  intro p e s m below meth c X E9 H locs ls hP hD hS hl
  exact lv_icmp_eq X.1 X.2.1 hd ht (fun q => kt q p e s m below meth c X E9 H locs ls hP hD hS hl) (fun q => kf q p e s m below meth c X E9 H locs ls hP hD hS hl)
theorem Vx.icmp_ge {x y : Int32} {off : Int} {tgt : Nat} (hd : decode M.2.1 pc = .ok (.if_icmp .ge off, 3)) (ht : (pc : Int) + off = (tgt : Int)) (kt : y ≤ x → Vx l D cy M d mc ms av ws0 Q Xt tgt lv st ws k n) (kf : ¬ y ≤ x → Vx l D cy M d mc ms av ws0 Q Xt (pc + 3) lv st ws k n) : Vx l D cy M d mc ms av ws0 Q Xt pc lv (.int y :: .int x :: st) ws k n := by
  intro p e s m below meth c X E9 H locs ls hP hD hS hl
  exact lv_icmp_ge X.1 X.2.1 hd ht (fun q => kt q p e s m below meth c X E9 H locs ls hP hD hS hl) (fun q => kf q p e s m below meth c X E9 H locs ls hP hD hS hl)
theorem Vx.icmp_gt {x y : Int32} {off : Int} {tgt : Nat} (hd : decode M.2.1 pc = .ok (.if_icmp .gt off, 3)) (ht : (pc : Int) + off = (tgt : Int)) (kt : y < x → Vx l D cy M d mc ms av ws0 Q Xt tgt lv st ws k n) (kf : ¬ y < x → Vx l D cy M d mc ms av ws0 Q Xt (pc + 3) lv st ws k n) : Vx l D cy M d mc ms av ws0 Q Xt pc lv (.int y :: .int x :: st) ws k n := by
  intro p e s m below meth c X E9 H locs ls hP hD hS hl
  exact lv_icmp_gt X.1 X.2.1 hd ht (fun q => kt q p e s m below meth c X E9 H locs ls hP hD hS hl) (fun q => kf q p e s m below meth c X E9 H locs ls hP hD hS hl)
theorem Vx.icmp_ne {x y : Int32} {off : Int} {tgt : Nat} (hd : decode M.2.1 pc = .ok (.if_icmp .ne off, 3)) (ht : (pc : Int) + off = (tgt : Int)) (kt : ¬ x = y → Vx l D cy M d mc ms av ws0 Q Xt tgt lv st ws k n) (kf : x = y → Vx l D cy M d mc ms av ws0 Q Xt (pc + 3) lv st ws k n) : Vx l D cy M d mc ms av ws0 Q Xt pc lv (.int y :: .int x :: st) ws k n := by
  intro p e s m below meth c X E9 H locs ls hP hD hS hl
  exact lv_icmp_ne X.1 X.2.1 hd ht (fun q => kt q p e s m below meth c X E9 H locs ls hP hD hS hl) (fun q => kf (by first | exact q | exact Classical.not_not.mp q) p e s m below meth c X E9 H locs ls hP hD hS hl)
theorem Vx.iconst {z : Int} {v : Int32} (hd : decode M.2.1 pc = .ok (.iconst z, 1)) (hv : Int32.ofInt z = v) (h : Vx l D cy M d mc ms av ws0 Q Xt (pc + 1) lv (.int v :: st) ws k n) : Vx l D cy M d mc ms av ws0 Q Xt pc lv st ws k n := by
  intro p e s m below meth c X E9 H locs ls hP hD hS hl
  exact lv_iconst X.1 X.2.1 hd hv (h p e s m below meth c X E9 H locs ls hP hD hS hl)
theorem Vx.if_eq {x : Int32} {off : Int} {tgt : Nat} (hd : decode M.2.1 pc = .ok (.ifCond .eq off, 3)) (ht : (pc : Int) + off = (tgt : Int)) (kt : x = 0 → Vx l D cy M d mc ms av ws0 Q Xt tgt lv st ws k n) (kf : ¬ x = 0 → Vx l D cy M d mc ms av ws0 Q Xt (pc + 3) lv st ws k n) : Vx l D cy M d mc ms av ws0 Q Xt pc lv (.int x :: st) ws k n := by
  intro p e s m below meth c X E9 H locs ls hP hD hS hl
  exact lv_if_eq X.1 X.2.1 hd ht (fun q => kt q p e s m below meth c X E9 H locs ls hP hD hS hl) (fun q => kf q p e s m below meth c X E9 H locs ls hP hD hS hl)
theorem Vx.if_lt {x : Int32} {off : Int} {tgt : Nat} (hd : decode M.2.1 pc = .ok (.ifCond .lt off, 3)) (ht : (pc : Int) + off = (tgt : Int)) (kt : x < 0 → Vx l D cy M d mc ms av ws0 Q Xt tgt lv st ws k n) (kf : ¬ x < 0 → Vx l D cy M d mc ms av ws0 Q Xt (pc + 3) lv st ws k n) : Vx l D cy M d mc ms av ws0 Q Xt pc lv (.int x :: st) ws k n := by
  intro p e s m below meth c X E9 H locs ls hP hD hS hl
  exact lv_if_lt X.1 X.2.1 hd ht (fun q => kt q p e s m below meth c X E9 H locs ls hP hD hS hl) (fun q => kf q p e s m below meth c X E9 H locs ls hP hD hS hl)
theorem Vx.if_ne {x : Int32} {off : Int} {tgt : Nat} (hd : decode M.2.1 pc = .ok (.ifCond .ne off, 3)) (ht : (pc : Int) + off = (tgt : Int)) (kt : ¬ x = 0 → Vx l D cy M d mc ms av ws0 Q Xt tgt lv st ws k n) (kf : x = 0 → Vx l D cy M d mc ms av ws0 Q Xt (pc + 3) lv st ws k n) : Vx l D cy M d mc ms av ws0 Q Xt pc lv (.int x :: st) ws k n := by
  intro p e s m below meth c X E9 H locs ls hP hD hS hl
  exact lv_if_ne X.1 X.2.1 hd ht (fun q => kt q p e s m below meth c X E9 H locs ls hP hD hS hl) (fun q => kf (by first | exact q | exact Classical.not_not.mp q) p e s m below meth c X E9 H locs ls hP hD hS hl)
theorem Vx.iinc {i : Nat} {z : Int} {x v : Int32} (hd : decode M.2.1 pc = .ok (.iinc i z, 3)) (q : Nat) (hq : lv[q]? = some (i, .int x)) (hv : x + Int32.ofInt z = v) (hn : i < M.2.2.1) (hl' : (i, Value.int v) :: lv.filter (fun q => !(q.1 == i) && !(q.1 + 1 == i && q.2.category == 2)) = lv') (h : Vx l D cy M d mc ms av ws0 Q Xt (pc + 3) lv' st ws k n) : Vx l D cy M d mc ms av ws0 Q Xt pc lv st ws k n := by
  intro p e s m below meth c X E9 H locs ls hP hD hS hl
  exact lv_iinc X.1 X.2.1 hd hl hq hv hn hl' (fun ls hl => h p e s m below meth c X E9 H locs ls hP hD hS hl)
theorem Vx.iload {i : Nat} {x : Int32} (hd : decode M.2.1 pc = .ok (.iload i, 2)) (q : Nat) (hq : lv[q]? = some (i, .int x)) (h : Vx l D cy M d mc ms av ws0 Q Xt (pc + 2) lv (.int x :: st) ws k n) : Vx l D cy M d mc ms av ws0 Q Xt pc lv st ws k n := by
  intro p e s m below meth c X E9 H locs ls hP hD hS hl
  exact lv_iload X.1 X.2.1 hd (lv_at hl q hq) (h p e s m below meth c X E9 H locs ls hP hD hS hl)
theorem Vx.iload_n {j : Fin 4} {i : Nat} {x : Int32} (hd : decode M.2.1 pc = .ok (.iload_n j, 1)) (hi : (j : Nat) = i) (q : Nat) (hq : lv[q]? = some (i, .int x)) (h : Vx l D cy M d mc ms av ws0 Q Xt (pc + 1) lv (.int x :: st) ws k n) : Vx l D cy M d mc ms av ws0 Q Xt pc lv st ws k n := by
  intro p e s m below meth c X E9 H locs ls hP hD hS hl
  exact lv_iload_n X.1 X.2.1 hd hi (lv_at hl q hq) (h p e s m below meth c X E9 H locs ls hP hD hS hl)
theorem Vx.imul {x y : Int32} (hd : decode M.2.1 pc = .ok (.imul, 1)) (h : Vx l D cy M d mc ms av ws0 Q Xt (pc + 1) lv (.int (x * y) :: st) ws k n) : Vx l D cy M d mc ms av ws0 Q Xt pc lv (.int y :: .int x :: st) ws k n := by
  intro p e s m below meth c X E9 H locs ls hP hD hS hl
  exact lv_imul X.1 X.2.1 hd (h p e s m below meth c X E9 H locs ls hP hD hS hl)
theorem Vx.istore {i : Nat} {x : Int32} (hd : decode M.2.1 pc = .ok (.istore i, 2)) (hn : i < M.2.2.1) (hl' : (i, Value.int x) :: lv.filter (fun q => !(q.1 == i) && !(q.1 + 1 == i && q.2.category == 2)) = lv') (h : Vx l D cy M d mc ms av ws0 Q Xt (pc + 2) lv' st ws k n) : Vx l D cy M d mc ms av ws0 Q Xt pc lv (.int x :: st) ws k n := by
  intro p e s m below meth c X E9 H locs ls hP hD hS hl
  exact lv_istore X.1 X.2.1 hd hl hn hl' (fun ls hl => h p e s m below meth c X E9 H locs ls hP hD hS hl)
theorem Vx.istore_n {j : Fin 4} {i : Nat} {x : Int32} (hd : decode M.2.1 pc = .ok (.istore_n j, 1)) (hi : (j : Nat) = i) (hn : i < M.2.2.1) (hl' : (i, Value.int x) :: lv.filter (fun q => !(q.1 == i) && !(q.1 + 1 == i && q.2.category == 2)) = lv') (h : Vx l D cy M d mc ms av ws0 Q Xt (pc + 1) lv' st ws k n) : Vx l D cy M d mc ms av ws0 Q Xt pc lv (.int x :: st) ws k n := by
  intro p e s m below meth c X E9 H locs ls hP hD hS hl
  exact lv_istore_n X.1 X.2.1 hd hi hl hn hl' (fun ls hl => h p e s m below meth c X E9 H locs ls hP hD hS hl)
theorem Vx.lvs (ks : List Nat) (hl : lv_pick lv ks = lv') (h : Vx l D cy M d mc ms av ws0 Q Xt pc lv' st ws k n) : Vx l D cy M d mc ms av ws0 Q Xt pc lv st ws k n := by
  intro p e s m below meth c X E9 H locs ls hP hD hS hv
  exact h p e s m below meth c X E9 H locs ls hP hD hS (lv_sub hv ks hl)
theorem Vx.iret {v : Int32} {ty : FieldType} (hr : M.2.2.2 = some ty) (hv : narrow ty (.int v) = .int v) (hd : decode M.2.1 pc = .ok (.ireturn, 1)) (hk : k ≤ mc) (hn : n ≤ ms) (hq : Q (some (.int v)) ws) : Vx l D cy M d mc ms av ws0 Q Xt pc lv [.int v] ws k n := Vx.of (V.iret hr hv hd hk hn hq)
theorem Vx.after {rest : List Value} (isC isR : List Nat) (hC : isC.map (fun i => ws[i]?) = wc.map some) (hR : isR.map (fun i => ws[i]?) = wr.map some) (hnR : va_nd isR = true) (hdis : ∀ i ∈ isR, i ∉ isC) {av2 : Array Value}
    (hrun : ∀ (p : Program) (e : Env) (s : State) (m : MethodId) (below : List Frame) (meth : Method) (c : Code), VX D cy M av ws0 p s m meth c → ∀ (H : Heap) (locs : List Loc) (ls : Array Slot), va_P D vCl ws H → va_D (va_A ws0 s.heap.size) ws → va_S (va_A ws0 s.heap.size) s.heap H locs → lv_has ls M.2.2.1 lv →
      va_Run p l e (vRoom d mc ms) s m av.toArray below meth c H locs k n mc2 ms2 (F0 m pc ls st) rest (vPost D wc H.size Q2 av2) (va_A wc H.size))
    (h : ∀ (r : Option Value) (w1 : va_W), Q2 r w1 → Vx l D cy M d mc ms av ws0 Q Xt (pc + 3) lv (r.toList ++ rest) (wr ++ w1) (k + mc2) (n + ms2)) : Vx l D cy M d mc ms av ws0 Q Xt pc lv st ws k n := by
  intro p e s m below meth c X E9 H locs ls hP hD hS hl T hT Y
  have hA : ∀ q : Nat, s.heap.size ≤ q → va_A ws0 s.heap.size q := fun q h => Or.inr h
  have hFc := va_free (wc := wc) hD hS hA isC hC
  obtain ⟨v, st₀, t, T', L, h0, Y', hL, e1, e2, ⟨⟨r, w1, hv, hq, hP1, hD1⟩, hz, hk1⟩, gs⟩ := hrun p e s m below meth c X H locs ls hP hD hS hl T hT Y
  cases hv
  rw [h0] at hz hk1
  rw [← e1] at hP1 hk1 hz
  obtain ⟨hP', hD'⟩ := va_join (wr := wr) (w1 := w1) hP hD isC isR hC hR hnR hdis hk1 hFc hP1 hD1
  have hS' : va_S (va_A ws0 s.heap.size) s.heap T'.heap (locs ++ L) := ⟨Nat.le_trans hS.1 hz, fun q g1 g2 => by rw [hk1 q (Nat.lt_of_lt_of_le g1 hS.1) (fun z => g2 (hFc q z))]; exact hS.2.1 q g1 g2, fun q hq => by
      rcases List.mem_append.mp hq with g | g
      · exact hS.2.2 q g
      · exact hFc _ (hL q g)⟩
  obtain ⟨t2, a1, b1⟩ := h v w1 hq p e s m below meth c X E9 T'.heap (locs ++ L) ls hP' hD' hS' hl T' rfl Y'
  exact ⟨t2, gs t2 a1, b1⟩
theorem Vx.callV {As rest : List Value} {b index q0 ci : Nat} {fs : List Value} {cq : vw_C} (hM : vMet l D cy M2 d2 mc2 ms2 (.ref b :: As) wc Q2) (hw : vIns M2 As.length) (hk : Cond.methodLink M.1.cls index M2.1 ∈ vT) (isC isR : List Nat) (hC : isC.map (fun i => ws[i]?) = wc.map some) (hR : isR.map (fun i => ws[i]?) = wr.map some) (hnC : va_nd isC = true) (hnR : va_nd isR = true) (hdis : ∀ i ∈ isR, i ∉ isC)
    (hrc : ws[q0]? = some (b, .inr (ci, fs))) (hcl : vCl[ci]? = some cq) (hcn : cq.1 = M2.1.cls) (hst : st = As.reverse ++ .ref b :: rest) (hdg : decode M.2.1 pc = .ok (.invokevirtual index, 3)) (hrm : d2 + 1 ≤ d ∧ M2.2.2.1 ≤ 40 ∧ k + mc2 ≤ mc ∧ n + ms2 ≤ ms) (hcat : (rest.map fun v => v.category).sum ≤ 8)
    (h : ∀ (r : Option Value) (w1 : va_W), Q2 r w1 → Vx l D cy M d mc ms av ws0 Q Xt (pc + 3) lv (r.toList ++ rest) (wr ++ w1) (k + mc2) (n + ms2)) : Vx l D cy M d mc ms av ws0 Q Xt pc lv st ws k n := by
  refine Vx.after isC isR hC hR hnR hdis (av2 := (Value.ref b :: As).toArray) ?_ h
  intro p e s m below meth c X H locs ls hP hD hS hl
  have ht := X.2.2.2.2.2.2.2.1
  have hv : ∀ w ∈ vT, w.before av.toArray s = true := fun w hw => ht w (List.mem_cons_of_mem _ hw)
  obtain ⟨w1, w2, w3, w4, w5⟩ := hw
  have cb : CallB (vRoom d mc ms) s av.toArray M.1.cls index M2.1 M2.2.1 M2.2.2.1 M2.2.2.2 (vWs M2) (vRoom d2 mc2 ms2) mc2 ms2 As.length :=
    callB_of As.length ht (vGood w1) rfl rfl rfl (hv _ w2) (hv _ hk) w3 ⟨by simp only [vRoom]; omega, by simp only [vRoom]; omega⟩
  exact va_runV (Ts := vWs M) (own := M.1.cls) (C := M2.1.cls) ⟨X.1, X.2.1, X.2.2.2.1, X.2.2.2.2.1, ht⟩ (hM H.size) ⟨cb, hv _ w4, hv _ w5⟩
    ⟨vBlind, by rw [← hcn]; exact va_recv X.2.2.2.2.2.2.2.2.1 hP hcl hrc, fun U hU hW => ⟨rfl, vPre_call X hP hD hS isC hnC hC U hU hW⟩⟩ rfl rfl hl.1 hst (lv_room hcat) hdg ⟨hrm.2.2.1, hrm.2.2.2⟩
theorem Vx.callS {As rest : List Value} {index : Nat} (hM : vMet l D cy M2 d2 mc2 ms2 As wc Q2) (hw : vSta M2 As.length) (hk : Cond.methodLink M.1.cls index M2.1 ∈ vT) (isC isR : List Nat) (hC : isC.map (fun i => ws[i]?) = wc.map some) (hR : isR.map (fun i => ws[i]?) = wr.map some) (hnC : va_nd isC = true) (hnR : va_nd isR = true) (hdis : ∀ i ∈ isR, i ∉ isC)
    (hst : st = As.reverse ++ rest) (hdg : decode M.2.1 pc = .ok (.invokestatic index, 3)) (hrm : d2 + 1 ≤ d ∧ M2.2.2.1 ≤ 40 ∧ k + mc2 ≤ mc ∧ n + ms2 ≤ ms) (hcat : (rest.map fun v => v.category).sum ≤ 8)
    (h : ∀ (r : Option Value) (w1 : va_W), Q2 r w1 → Vx l D cy M d mc ms av ws0 Q Xt (pc + 3) lv (r.toList ++ rest) (wr ++ w1) (k + mc2) (n + ms2)) : Vx l D cy M d mc ms av ws0 Q Xt pc lv st ws k n := by
  refine Vx.after isC isR hC hR hnR hdis (av2 := As.toArray) ?_ h
  intro p e s m below meth c X H locs ls hP hD hS hl
  have ht := X.2.2.2.2.2.2.2.1
  have hv : ∀ w ∈ vT, w.before av.toArray s = true := fun w hw => ht w (List.mem_cons_of_mem _ hw)
  obtain ⟨w1, w2, w3, w4⟩ := hw
  have cb : CallB (vRoom d mc ms) s av.toArray M.1.cls index M2.1 M2.2.1 M2.2.2.1 M2.2.2.2 (vWs M2) (vRoom d2 mc2 ms2) mc2 ms2 As.length :=
    callB_of As.length ht (vGood w1) rfl rfl rfl (hv _ w2) (hv _ hk) w3 ⟨by simp only [vRoom]; omega, by simp only [vRoom]; omega⟩
  exact va_runS (Ts := vWs M) (own := M.1.cls) ⟨X.1, X.2.1, X.2.2.2.1, X.2.2.2.2.1, ht⟩ (hM H.size) ⟨cb, hv _ w4⟩
    ⟨vBlind, fun U hU hW => ⟨rfl, vPre_call X hP hD hS isC hnC hC U hU hW⟩⟩ rfl rfl hl.1 hst (lv_room hcat) hdg ⟨hrm.2.2.1, hrm.2.2.2⟩
theorem Vx.throw (hM : M.1.cls = RX11) (d0 : decode M.2.1 pc = .ok (.new 204, 3)) (d3 : decode M.2.1 (pc + 3) = .ok (.dup, 1)) (d4 : decode M.2.1 (pc + 4) = .ok (.invokespecial 206, 3)) (d7 : decode M.2.1 (pc + 7) = .ok (.athrow, 1)) (hd : 4 ≤ d) (hk : k + 1 ≤ mc) (hn : n + 6 ≤ ms) (hq : Xt ws) : Vx l D cy M d mc ms av ws0 Q Xt pc lv [] ws k n := by
  intro p e s m below meth c X E9 H locs ls hP hD hS hl
  have hv : ∀ w ∈ vT, w.before av.toArray s = true := fun w hw => X.2.2.2.2.2.2.2.1 w (List.mem_cons_of_mem _ hw)
  refine vx_throw0 (own := RX11) (cls := vNs) (names := vUp) (A := va_A ws0 s.heap.size) X.1 X.2.1 E9.1 (hM ▸ X.2.2.2.2.1) (by decide +kernel) (by decide +kernel) (hv _ kX_ns) (hv _ kX_nsi) (vx_words hv E9.2.1.2.2.1 E9.2.1.2.2.2) ?_ E9.2.1.1 E9.2.1.2.1 hS (hl.1.trans X.2.2.2.1.symm) d0 d3 d4 d7 (fun x hx => (E9.2.2 x hx).elim) ?_ ?_ hk hn X.2.2.2.2.2.1 ?_ hS.2.2 hk hn
  · intro w hw
    rcases List.mem_cons.mp hw with rfl | hw
    · decide +kernel
    · rcases List.mem_cons.mp hw with rfl | hw
      · decide +kernel
      · exact vx_good w hw
  · show 2 + 3 < d + 2
    omega
  · show 0 + (13 * (2 + 1) + 42) ≤ 64 * d + 128
    omega
  · intro t ha hz hk1
    refine ⟨rfl, ⟨ws, hq, ?_, hD⟩, Nat.le_trans hS.1 hz, fun q g1 g2 => ?_⟩
    · exact hP.kept (fun i x hx => hk1 _ (hP i x hx).lt)
    · rw [hk1 q (Nat.lt_of_lt_of_le g1 hS.1)]
      exact hS.2.1 q g1 g2
end VXL
