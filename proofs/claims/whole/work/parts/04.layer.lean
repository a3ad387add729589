/-! THE LAYER: one judgement V (the walk of a method's body over a world of cells), one contract vMet; the machine's context is hidden in VX -/
/-- the kinds of arrays that the worlds hold: 0 byte, 1 int, 2 long, 3 boolean, 4 Pile, 5 Row, 6 Shelf -/
def vTys (cy : Nat → ClassId) : List (ClassId × FieldType) := [(cy 0, .byte), (cy 1, .int), (cy 2, .long), (cy 3, .boolean), (cy 4, .object RX5), (cy 5, .object RX7), (cy 6, .object RX8)]
/-- room of a method whose calls go d deep -/
def vRoom (d mc ms : Nat) : Room := { frames := d + 2, cells := mc, slots := ms, locals := 64 * d + 128 }
/-- what stands still below all worlds: the classes of arrays, the table of rounds, the two texts of Tape. cy 7: the table's address; cy 8, cy 9: the texts'; cy 10, cy 11: their bytes' -/
def vRnd (j : Nat) : Int32 := if j = 0 then 0 else if j = 1 then 2 else if j = 2 then 3 else 4
def vTx0 : List Int32 := [102, 111, 108, 107, 32, 107, 105, 110, 32, 32, 108, 105, 110, 101, 32, 114, 111, 112, 101, 32, 116, 97, 107, 101, 115, 111, 118, 101, 114, 32, 117, 110, 100, 101, 114, 99, 117, 116, 32, 32, 112, 117, 108, 108, 32, 98, 101, 110, 100, 32, 115, 108, 105, 112, 32, 104, 105, 116, 99, 104, 119, 97, 114, 32, 32, 110, 111, 116, 32, 32, 97, 110, 100, 32, 32, 111, 114, 32, 32, 32, 112, 108, 97, 99, 101, 115, 111, 114, 116, 32, 107, 105, 110, 115, 32, 98, 101, 108, 111, 119]
def vTx1 : List Int32 := [40, 41, 60, 61, 43, 45, 42, 59]
def vAdK (cy : Nat → ClassId) : Nat → Nat := fun i => if i = 0 then cy 8 else cy 9
def vAdV (cy : Nat → ClassId) : Nat → Nat := fun i => if i = 0 then cy 10 else cy 11
def vZ (cy : Nat → ClassId) (A : Nat → Prop) (U : State) (H : Heap) : Prop :=
  (va_AO RX5 U ∧ va_AO RX7 U ∧ va_AO RX8 U) ∧ va_Z RX2 "ROUNDS" "[I" (.ref (cy 7)) A U H ∧ va_T .int (cy 7) 4 (fun j => .int (vRnd j)) A U H ∧ va_Z "java/lang/String" "COMPACT_STRINGS" "Z" (.int 1) A U H ∧
  va_Zq "jdk/internal/util/Preconditions" "SIOOBE_FORMATTER" "Ljava/util/function/BiFunction;" A U H ∧ vk_R RX9 90 "folk kin  line rope takesover undercut  pull bend slip hitchwar  not  and  or   placesort kins below" (cy 8) U ∧ vk_R RX9 53 "()<=+-*;" (cy 9) U ∧ vk_S 2 [100, 8] [vTx0, vTx1] (vAdK cy) (vAdV cy) A U H
theorem vZq_call {C n d : String} {A A' : Nat → Prop} {s U : State} {H : Heap} (h : va_Zq C n d A s H) (hA : ∀ q, A' q → A q) {H1 : Heap} (hq : ∀ a : Nat, a < H.size → ¬ A a → H1[a]? = H[a]?) (hvm : s.vm.Alike U.vm) : va_Zq C n d A' U H1 := by
  rcases h with h | ⟨t, h⟩
  · exact Or.inl (((h.kept hq).narrow hA).moved hvm)
  · exact Or.inr ⟨t, ((h.kept hq).narrow hA).moved hvm⟩
theorem vZ_call {cy : Nat → ClassId} {A A' : Nat → Prop} {s U : State} {H : Heap} {locs : List Loc} (h : vZ cy A s s.heap) (hS : va_S A s.heap H locs) (hA : ∀ q, A' q → A q) (hU : U.heap = H) (hW : s.WarmedH U.vm) : vZ cy A' U U.heap := by
  obtain ⟨⟨h1, h2, h3⟩, h4, h5, h6, h7, h8, h9, h10⟩ := h
  have hq : ∀ a : Nat, a < s.heap.size → ¬ A a → U.heap[a]? = s.heap[a]? := by rw [hU]; exact hS.2.1
  exact ⟨⟨h1.moved hW.alike, h2.moved hW.alike, h3.moved hW.alike⟩, ((h4.kept hq).narrow hA).moved hW.alike, ((h5.kept hq).narrow hA).moved hW.alike, ((h6.kept hq).narrow hA).moved hW.alike, vZq_call h7 hA hq hW.alike, h8.warm hW, h9.warm hW, ((h10.kept hq).narrow hA).moved hW.alike⟩
theorem vZ_moved {cy : Nat → ClassId} {A : Nat → Prop} {s U : State} (h : vZ cy A s s.heap) (hU : U.heap = s.heap) (hvm : U.vm = s.vm) : vZ cy A U U.heap := by
  obtain ⟨⟨h1, h2, h3⟩, h4, h5, h6, h7, h8, h9, h10⟩ := h
  have hW : s.vm.Alike U.vm := by rw [hvm]; exact Vm.Alike.refl s.vm
  have hq : ∀ a : Nat, a < s.heap.size → ¬ A a → U.heap[a]? = s.heap[a]? := by intro a _ _; rw [hU]
  exact ⟨⟨h1.moved hW, h2.moved hW, h3.moved hW⟩, (h4.kept hq).moved hW, (h5.kept hq).moved hW, (h6.kept hq).moved hW, vZq_call h7 (fun _ h => h) hq hW, h8.same hvm, h9.same hvm, (h10.kept hq).moved hW⟩
def vWs (M : vM) : List Cond := Cond.code M.1 M.2.1 M.2.2.1 M.2.2.2 :: vT
def vPost (D : va_G) (ws0 : va_W) (sz : Nat) (Q : Option Value → va_W → Prop) : Array Value → State → Outcome → State → Prop := fun _ st oc t =>
  (∃ (r : Option Value) (w : va_W), oc = .returned r ∧ Q r w ∧ va_P D vCl w t.heap ∧ va_D (va_A ws0 sz) w) ∧ va_F (va_A ws0 sz) st t
def vPre (D : va_G) (cy : Nat → ClassId) (ws0 : va_W) (sz : Nat) (U : State) : Prop :=
  U.heap.size = sz ∧ va_P D vCl ws0 U.heap ∧ va_K D vCl (vTys cy) U ∧ va_D (fun _ => True) ws0 ∧ vZ cy (va_A ws0 sz) U U.heap
/-- the contract of a method: from the cells ws0 it comes to an answer r and cells w with Q r w; nothing else changes -/
def vMet (l : Launch) (D : va_G) (cy : Nat → ClassId) (M : vM) (d mc ms : Nat) (av : List Value) (ws0 : va_W) (Q : Option Value → va_W → Prop) : Prop :=
  ∀ sz : Nat, Met l M.1 (vWs M) (vRoom d mc ms) (va_Pc av (vPre D cy ws0 sz)) (vPost D ws0 sz Q) mc ms (va_A ws0 sz)
/-- what a body knows of its machine -/
def VX (D : va_G) (cy : Nat → ClassId) (M : vM) (av : List Value) (ws0 : va_W) (p : Program) (s : State) (m : MethodId) (meth : Method) (c : Code) : Prop :=
  p.tables.exec = Jvm.exec ∧ c.code = M.2.1 ∧ meth.sig.returnType = M.2.2.2 ∧ c.maxLocals = M.2.2.1 ∧ s.vm.findClass M.1.cls = some m.cls ∧ meth.locks = false ∧ meth.name = M.1.name ∧
  (∀ w ∈ vWs M, w.before av.toArray s = true) ∧ va_K D vCl (vTys cy) s ∧ vZ cy (va_A ws0 s.heap.size) s s.heap
def V (l : Launch) (D : va_G) (cy : Nat → ClassId) (M : vM) (d mc ms : Nat) (av : List Value) (ws0 : va_W) (Q : Option Value → va_W → Prop) (pc : Nat) (lv : List (Nat × Value)) (st : List Value) (ws : va_W) (k n : Nat) : Prop :=
  ∀ (p : Program) (e : Env) (s : State) (m : MethodId) (below : List Frame) (meth : Method) (c : Code), VX D cy M av ws0 p s m meth c →
  ∀ (H : Heap) (locs : List Loc) (ls : Array Slot), va_P D vCl ws H → va_D (va_A ws0 s.heap.size) ws → va_S (va_A ws0 s.heap.size) s.heap H locs → lv_has ls M.2.2.1 lv →
  W p l e (vRoom d mc ms) s m av.toArray below meth c H locs k n (MQ below (vPost D ws0 s.heap.size Q) av.toArray s mc ms (va_A ws0 s.heap.size)) (F0 m pc ls st)
section LAYER
variable {l : Launch} {D : va_G} {cy : Nat → ClassId} {M : vM} {d mc ms : Nat} {av : List Value} {ws0 : va_W} {Q : Option Value → va_W → Prop} {pc : Nat} {lv lv' : List (Nat × Value)} {st : List Value} {ws ws' : va_W} {k n : Nat}
theorem vMet.start (hy : plainFor M.1 = true) (hn : (lg_sl av).length ≤ M.2.2.1) (h : V l D cy M d mc ms av ws0 Q 0 (lv_args 0 av) [] ws0 0 0) : vMet l D cy M d mc ms av ws0 Q := by
  intro sz
  refine va_MetF (cc := M.2.1) (maxL := M.2.2.1) (ret := M.2.2.2) (ws' := vT) hy rfl ?_
  intro p e s m args below meth c s₁ B hml hv
  obtain ⟨rfl, hsz, hP, hK, hD0, hZ⟩ := hv
  subst hsz
  have hl := lv_entry av (n := M.2.2.1) hn
  rw [lg_entry_eq]
  exact h p e s m below meth c ⟨B.exec, B.bytes, B.returns, hml, findClass_of_methodNamed B.named, B.notSynchronized, (name_of_methodNamed B.named B.method).1, atoms_spec (ws := vWs M) B.pre, hK, hZ⟩ s.heap [] _ hP (hD0.self (sz := s.heap.size)) va_S.rf hl
theorem V.lvs (ks : List Nat) (hl : lv_pick lv ks = lv') (h : V l D cy M d mc ms av ws0 Q pc lv' st ws k n) : V l D cy M d mc ms av ws0 Q pc lv st ws k n := by
  intro p e s m below meth c X H locs ls hP hD hS hv
  exact h p e s m below meth c X H locs ls hP hD hS (lv_sub hv ks hl)
theorem V.cells (is : List Nat) (hn : va_nd is = true) (hs : is.map (fun i => ws[i]?) = ws'.map some) (h : V l D cy M d mc ms av ws0 Q pc lv st ws' k n) : V l D cy M d mc ms av ws0 Q pc lv st ws k n := by
  intro p e s m below meth c X H locs ls hP hD hS hv
  have hs2 : is.filterMap (fun i => ws[i]?) = ws' := by
    have h2 := congrArg (List.filterMap id) hs
    simpa [List.filterMap_map, Function.comp_def] using h2
  exact h p e s m below meth c X H locs ls (hP.sub is hs2) (hD.sub is hn hs) hS hv
theorem V.widen {k' n' : Nat} (h1 : k ≤ k') (h2 : n ≤ n') (h : V l D cy M d mc ms av ws0 Q pc lv st ws k' n') : V l D cy M d mc ms av ws0 Q pc lv st ws k n := by
  intro p e s m below meth c X H locs ls hP hD hS hv
  exact W.widen h1 h2 (h p e s m below meth c X H locs ls hP hD hS hv)
theorem V.topi {x : Int32} (h : ∀ y : Int32, y = x → V l D cy M d mc ms av ws0 Q pc lv (.int y :: st) ws k n) : V l D cy M d mc ms av ws0 Q pc lv (.int x :: st) ws k n := h x rfl
theorem V.topl {x : Int64} (h : ∀ y : Int64, y = x → V l D cy M d mc ms av ws0 Q pc lv (.long y :: st) ws k n) : V l D cy M d mc ms av ws0 Q pc lv (.long x :: st) ws k n := h x rfl
theorem V.iconst {z : Int} {v : Int32} (hd : decode M.2.1 pc = .ok (.iconst z, 1)) (hv : Int32.ofInt z = v) (h : V l D cy M d mc ms av ws0 Q (pc + 1) lv (.int v :: st) ws k n) : V l D cy M d mc ms av ws0 Q pc lv st ws k n := by
  intro p e s m below meth c X H locs ls hP hD hS hl
  exact lv_iconst X.1 X.2.1 hd hv (h p e s m below meth c X H locs ls hP hD hS hl)
theorem V.bipush {z : Int} {v : Int32} (hd : decode M.2.1 pc = .ok (.bipush z, 2)) (hv : (Int8.ofInt z).toInt32 = v) (h : V l D cy M d mc ms av ws0 Q (pc + 2) lv (.int v :: st) ws k n) : V l D cy M d mc ms av ws0 Q pc lv st ws k n := by
  intro p e s m below meth c X H locs ls hP hD hS hl
  exact lv_bipush X.1 X.2.1 hd hv (h p e s m below meth c X H locs ls hP hD hS hl)
theorem V.sipush {z : Int} {v : Int32} (hd : decode M.2.1 pc = .ok (.sipush z, 3)) (hv : (Int16.ofInt z).toInt32 = v) (h : V l D cy M d mc ms av ws0 Q (pc + 3) lv (.int v :: st) ws k n) : V l D cy M d mc ms av ws0 Q pc lv st ws k n := by
  intro p e s m below meth c X H locs ls hP hD hS hl
  exact lv_sipush X.1 X.2.1 hd hv (h p e s m below meth c X H locs ls hP hD hS hl)
theorem V.lconst {z : Fin 2} {v : Int64} (hd : decode M.2.1 pc = .ok (.lconst z, 1)) (hv : Int64.ofNat (z : Nat) = v) (h : V l D cy M d mc ms av ws0 Q (pc + 1) lv (.long v :: st) ws k n) : V l D cy M d mc ms av ws0 Q pc lv st ws k n := by
  intro p e s m below meth c X H locs ls hP hD hS hl
  exact lv_lconst X.1 X.2.1 hd hv (h p e s m below meth c X H locs ls hP hD hS hl)
theorem V.ldc2 {index : Nat} {v : Int64} (hc : Cond.constantLong M.1.cls index v ∈ vT) (hd : decode M.2.1 pc = .ok (.ldc2_w index, 3)) (h : V l D cy M d mc ms av ws0 Q (pc + 3) lv (.long v :: st) ws k n) : V l D cy M d mc ms av ws0 Q pc lv st ws k n := by
  intro p e s m below meth c X H locs ls hP hD hS hl
  exact lv_ldc2 X.1 X.2.1 X.2.2.2.2.1 (X.2.2.2.2.2.2.2.1 _ (List.mem_cons_of_mem _ hc)) hd (h p e s m below meth c X H locs ls hP hD hS hl)
end LAYER
