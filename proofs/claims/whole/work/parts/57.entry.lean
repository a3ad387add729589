/-! the law from its entry, over any invariant that every call keeps -/
def R_law : String := "YearKnotLaw"
def lw_P (b : Addr) (xs : List Int32) (args : Array Value) (s : State) : Prop := args = #[.ref b] ∧ s.IntsAt b xs ∧ xs.length ≤ 3584 ∧ (Jvm.Cond.and given_1 narrow_1).before args s = true
def lw_Q (_ : Array Value) (s : State) (o : Outcome) (t : State) : Prop := o = .returned (some (.int 1)) ∧ Framed s o t [] 601024 7293034
def lw_Z (below : List Frame) (a : Array Value) (s : State) : State → Prop := fun t => ∃ o, t.status = .running ∧ Ended t below o ∧ lw_Q a s o t
/-- the law's own end, with 1 on the stack, nothing written that was there before, its room as the claim has it -/
theorem lw_ret {p : Program} {l : Launch} {e : Env} {s : State} {m : MethodId} {below : List Frame} {meth : Method} {c : Code} {b : Nat} (hx : p.tables.exec = Jvm.exec) (hb : c.code = code) (hr : meth.sig.returnType = ret) (hlocks : meth.locks = false) {pc : Nat} {H : Heap} {ls : Array Slot} (hdg : decode code pc = .ok (.ireturn, 1)) : W p l e room_1 s m #[Value.ref b] below meth c H [] 601024 7293034 (lw_Z below #[Value.ref b] s) (F0 m pc ls [.int 1]) := by
  intro T hT X
  obtain ⟨fs, hret, hrun, hended, hW, hframe⟩ := X.leave (v := some (.int 1)) (hlocks := hlocks) (fun h => by rw [hr] at h; cases h)
  have hmeth' : T.vm.method? m = some meth := X.method'
  refine ⟨T.setFrames fs, ?_, .returned (some (.int 1)), hrun, hended, rfl, ⟨_, rfl⟩, hW, hframe⟩
  jvm_step X.here [X.here.top, hx, hb, hdg, hmeth', hr, ret, narrow_b1]
  (try refine ⟨rfl, ?_⟩); (try refine ⟨rfl, ?_⟩)
  first | (intro acts; rw [hret _ acts rfl rfl rfl]) | rw [hret _ _ rfl rfl rfl]
  exact Steps.refl _
/-- what holds at the law's entry: the machine, the code, the tables' words (any of lw_tbl by 'hts w (by decide +kernel)'), the script of L ints xs at the cell b, what the Statement gives of the start (any of its parts by flat_of_before) -/
def lw_At (p : Program) (s : State) (m : MethodId) (meth : Method) (c : Code) (b L : Nat) (xs : Nat → Int32) : Prop :=
  p.tables.exec = Jvm.exec ∧ c.code = code ∧ meth.sig.returnType = ret ∧ c.maxLocals = 7 ∧ s.vm.findClass R_law = some m.cls ∧ (∀ w ∈ lw_tbl, w.before #[Value.ref b] s = true) ∧ va_X b L xs s s.heap ∧ b < s.heap.size ∧ meth.locks = false ∧ (Jvm.Cond.and given_1 narrow_1).before #[Value.ref b] s = true
theorem U.same {D : va_G} {cy : Nat → ClassId} {M : vM} {l : Launch} {R : Room} {A : Nat → Prop} {Φ : State → Prop} {p : Program} {e : Env} {s : State} {m : MethodId} {args : Array Value} {below : List Frame} {meth : Method} {c : Code} {pc : Nat} {lv : List (Nat × Value)} {st : List Value} {ws ws' : va_W} {k n : Nat} (h : ws = ws') (hU : U D cy M l R A Φ p e s m args below meth c pc lv st ws' k n) : U D cy M l R A Φ p e s m args below meth c pc lv st ws k n := by
  subst h
  exact hU
theorem whole_start_of (Inv : (Nat → ClassId) → Nat → Nat → va_W → va_W → Prop) (hstep : ∀ (l : Launch) (D : va_G) (cy : Nat → ClassId) (ax am : Nat), l.stackTraces = false → LStep l D cy ax am (Inv cy ax am)) (hinit : ∀ (cy : Nat → ClassId) (A : Nat → Nat) (B : Nat → Nat → Nat) (A2 : Nat → Nat), Inv cy (A 0) (A2 0) (WX0 cy A B) (WM0 cy A2))
    {p : Program} {e : Env} {s : State} {m : MethodId} {below : List Frame} {meth : Method} {c : Code} (l : Launch) (hl9 : l.stackTraces = false) {b L : Nat} {xs : Nat → Int32} (hL : L ≤ 3584) (C0 : lw_At p s m meth c b L xs) : W p l e room_1 s m #[Value.ref b] below meth c s.heap [] 0 0 (lw_Z below #[Value.ref b] s) (entryFrame m ([Value.ref b] : List Value).toArray 7) := by
  obtain ⟨hx, hb, hr, hml, hown, hts, hX, hbl, hlocks, hgv⟩ := id C0
  obtain ⟨D, cy, hK, hZ, hxs⟩ := vStart hts hgv
  have X : UX D cy ML .tt #[Value.ref b] (fun q => s.heap.size ≤ q) p s m meth c := ⟨hx, hb, hr, hml, hown, hlocks, trivial, fun w hw => by
    rcases List.mem_cons.mp hw with rfl | hw
    · rfl
    · exact hts w (vT_lw hw), hK, hZ⟩
  have hA : ∀ q : Nat, s.heap.size ≤ q → (fun q : Nat => s.heap.size ≤ q) q := fun _ h => h
  have hbA : ¬ (fun q : Nat => s.heap.size ≤ q) b := Nat.not_le.mpr hbl
  have hl := lv_entry ([.ref b]) (n := 7) (Nat.le_of_ble_eq_true rfl)
  rw [lg_entry_eq]
  have hend : ∀ (w : va_W) (lv : List (Nat × Value)) (k n : Nat), k ≤ 601024 → n ≤ 7293034 → U D cy ML l room_1 (fun q => s.heap.size ≤ q) (lw_Z below #[Value.ref b] s) p e s m #[Value.ref b] below meth c 1077 lv [] w k n := by
    intro w lv k n hk hn
    refine U.iconst X (v := (1 : Int32)) dL_1077 (by decide) ?_
    intro H locs ls hP hD hS hl
    refine va_forget (fun q hq => hS.2.2 q hq) ?_
    refine W.widen hk hn ?_
    exact lw_ret hx hb hr hlocks dL_1078
  suffices hU : U D cy ML l room_1 (fun q => s.heap.size ≤ q) (lw_Z below #[Value.ref b] s) p e s m #[Value.ref b] below meth c 0 [(0, .ref b)] [] [] 0 0 from hU s.heap [] _ (fun k q h => by simp at h) ⟨fun i j p q h => by simp at h, fun k q h => by simp at h⟩ va_S.rf hl
  refine U.new X hA kfX11 tyX11 tyX11_ok klL_8 knX11 kiX11 (ci := 11) rfl [.null, .null, .null, .null, .null, .null, .null, .null, .null, .null, .null, .null, .null, .null] (by decide) (by decide) (by decide) dL_0 (fun ax => ?_)
  refine U.dup X dL_3 rfl ?_
  refine U.callIP X hA (As := []) (rest := [.ref ax]) (wr := []) (CX11_init ax) kvX11_init klL_19 (List.Perm.refl _) rfl dL_4 ⟨by decide, by decide⟩ ⟨by decide, by decide⟩ (Nat.le_of_ble_eq_true rfl) (fun r w1 hq => ?_)
  obtain ⟨ad, rfl, rfl⟩ := hq
  refine U.perm (xPerm0 cy ax ad) ?_
  refine U.recell (pre := xL1 cy ax ad) (post := (xL2 cy ax ad ++ ((xA0 ax ad 41), .inl (cy 5, 16, .inr (.inr (.inr (.inr (va_up (va_up (va_up (va_up (va_up (va_up (va_up (va_up (va_up (va_up (va_up (va_up (va_up (va_up (va_up (va_up (fun _ => none) ((0 : Int32)).toNatClampNeg (some (ad 77))) ((1 : Int32)).toNatClampNeg (some (ad 79))) ((2 : Int32)).toNatClampNeg (some (ad 81))) ((3 : Int32)).toNatClampNeg (some (ad 83))) ((4 : Int32)).toNatClampNeg (some (ad 85))) ((5 : Int32)).toNatClampNeg (some (ad 87))) ((6 : Int32)).toNatClampNeg (some (ad 89))) ((7 : Int32)).toNatClampNeg (some (ad 91))) ((8 : Int32)).toNatClampNeg (some (ad 93))) ((9 : Int32)).toNatClampNeg (some (ad 95))) ((10 : Int32)).toNatClampNeg (some (ad 97))) ((11 : Int32)).toNatClampNeg (some (ad 99))) ((12 : Int32)).toNatClampNeg (some (ad 101))) ((13 : Int32)).toNatClampNeg (some (ad 103))) ((14 : Int32)).toNatClampNeg (some (ad 105))) ((15 : Int32)).toNatClampNeg (some (ad 107)))))))) :: (xL3 cy ax ad ++ ((xA0 ax ad 61), .inl (cy 4, 15, .inr (.inr (.inr (.inr (va_up (va_up (va_up (va_up (va_up (va_up (va_up (va_up (va_up (va_up (va_up (va_up (va_up (va_up (va_up (fun _ => none) ((0 : Int32)).toNatClampNeg (some (ad 129))) ((1 : Int32)).toNatClampNeg (some (ad 133))) ((2 : Int32)).toNatClampNeg (some (ad 137))) ((3 : Int32)).toNatClampNeg (some (ad 141))) ((4 : Int32)).toNatClampNeg (some (ad 145))) ((5 : Int32)).toNatClampNeg (some (ad 149))) ((6 : Int32)).toNatClampNeg (some (ad 153))) ((7 : Int32)).toNatClampNeg (some (ad 157))) ((8 : Int32)).toNatClampNeg (some (ad 161))) ((9 : Int32)).toNatClampNeg (some (ad 165))) ((10 : Int32)).toNatClampNeg (some (ad 169))) ((11 : Int32)).toNatClampNeg (some (ad 173))) ((12 : Int32)).toNatClampNeg (some (ad 177))) ((13 : Int32)).toNatClampNeg (some (ad 181))) ((14 : Int32)).toNatClampNeg (some (ad 185)))))))) :: (xL4 cy ax ad ++ xL5 cy ad)))) (g := (fun i => some (xB0 ad 0 i))) (fun i hi => by rcases (show i = 0 ∨ i = 1 ∨ i = 2 ∨ i = 3 by omega) with rfl | rfl | rfl | rfl <;> rfl) ?_
  refine U.recell (pre := xL1 cy ax ad ++ ((xA0 ax ad 39), .inl (cy 6, 4, .inr (.inr (.inr (.inr (fun i => some (xB0 ad 0 i))))))) :: xL2 cy ax ad) (post := (xL3 cy ax ad ++ ((xA0 ax ad 61), .inl (cy 4, 15, .inr (.inr (.inr (.inr (va_up (va_up (va_up (va_up (va_up (va_up (va_up (va_up (va_up (va_up (va_up (va_up (va_up (va_up (va_up (fun _ => none) ((0 : Int32)).toNatClampNeg (some (ad 129))) ((1 : Int32)).toNatClampNeg (some (ad 133))) ((2 : Int32)).toNatClampNeg (some (ad 137))) ((3 : Int32)).toNatClampNeg (some (ad 141))) ((4 : Int32)).toNatClampNeg (some (ad 145))) ((5 : Int32)).toNatClampNeg (some (ad 149))) ((6 : Int32)).toNatClampNeg (some (ad 153))) ((7 : Int32)).toNatClampNeg (some (ad 157))) ((8 : Int32)).toNatClampNeg (some (ad 161))) ((9 : Int32)).toNatClampNeg (some (ad 165))) ((10 : Int32)).toNatClampNeg (some (ad 169))) ((11 : Int32)).toNatClampNeg (some (ad 173))) ((12 : Int32)).toNatClampNeg (some (ad 177))) ((13 : Int32)).toNatClampNeg (some (ad 181))) ((14 : Int32)).toNatClampNeg (some (ad 185)))))))) :: (xL4 cy ax ad ++ xL5 cy ad))) (g := (fun i => some (xB0 ad 9 i))) (fun i hi => by rcases (show i = 0 ∨ i = 1 ∨ i = 2 ∨ i = 3 ∨ i = 4 ∨ i = 5 ∨ i = 6 ∨ i = 7 ∨ i = 8 ∨ i = 9 ∨ i = 10 ∨ i = 11 ∨ i = 12 ∨ i = 13 ∨ i = 14 ∨ i = 15 by omega) with rfl | rfl | rfl | rfl | rfl | rfl | rfl | rfl | rfl | rfl | rfl | rfl | rfl | rfl | rfl | rfl <;> rfl) ?_
  refine U.recell (pre := xL1 cy ax ad ++ ((xA0 ax ad 39), .inl (cy 6, 4, .inr (.inr (.inr (.inr (fun i => some (xB0 ad 0 i))))))) :: (xL2 cy ax ad ++ ((xA0 ax ad 41), .inl (cy 5, 16, .inr (.inr (.inr (.inr (fun i => some (xB0 ad 9 i))))))) :: xL3 cy ax ad)) (post := (xL4 cy ax ad ++ xL5 cy ad)) (g := (fun i => some (xB0 ad 11 i))) (fun i hi => by rcases (show i = 0 ∨ i = 1 ∨ i = 2 ∨ i = 3 ∨ i = 4 ∨ i = 5 ∨ i = 6 ∨ i = 7 ∨ i = 8 ∨ i = 9 ∨ i = 10 ∨ i = 11 ∨ i = 12 ∨ i = 13 ∨ i = 14 by omega) with rfl | rfl | rfl | rfl | rfl | rfl | rfl | rfl | rfl | rfl | rfl | rfl | rfl | rfl | rfl <;> rfl) ?_
  refine U.same (ws' := WX0 cy (xA0 ax ad) (xB0 ad)) (xEq0 cy ax ad) ?_
  refine U.astore_n X (lv' := [(1, .ref ax), (0, .ref b)]) dL_7 rfl (by decide) rfl ?_
  refine U.new X hA kfX12 tyX12 tyX12_ok klL_20 knX12 kiX12 (ci := 12) rfl [.int 0, .int 0, .null, .int 0, .int 0, .int 0, .int 0, .long 0, .int 0, .int 0, .null, .null, .null, .null, .null, .null, .null, .int 0, .int 0, .null, .null, .null, .null, .null, .null, .null, .null, .null, .null, .null, .null, .int 0, .null, .null, .null, .null, .null, .int 0, .null, .null, .null, .null, .null, .null, .null, .null, .null, .null, .int 0, .null, .int 0, .null, .int 0, .null, .null, .null, .null, .null, .int 0, .long 0] (by decide) (by decide) (by decide) dL_8 (fun am => ?_)
  refine U.dup X dL_11 rfl ?_
  refine U.callIP X hA (As := []) (rest := [.ref am]) (wr := WX0 cy (xA0 ax ad) (xB0 ad)) (CX12_init am) kvX12_init klL_22 List.perm_append_comm rfl dL_12 ⟨by decide, by decide⟩ ⟨by decide, by decide⟩ (Nat.le_of_ble_eq_true rfl) (fun r w1 hq => ?_)
  obtain ⟨ad2, rfl, rfl⟩ := hq
  rw [mEq0 cy am ad2]
  have hI := hinit cy (xA0 ax ad) (xB0 ad) (xA2 am ad2)
  generalize WX0 cy (xA0 ax ad) (xB0 ad) = wx at hI ⊢
  generalize WM0 cy (xA2 am ad2) = wm at hI ⊢
  refine U.astore_n X (lv' := [(2, .ref am), (1, .ref ax), (0, .ref b)]) dL_15 rfl (by decide) rfl ?_
  refine U.iconst X (v := (1 : Int32)) dL_16 (by decide) ?_
  refine U.newa X hA (1, .inr (.inl (fun _ => 0))) 2 (vT_mem (by decide +kernel) (by decide +kernel)) rfl rfl (fun cA => rfl) (by decide) rfl (by decide) (by decide) (by decide) dL_17 (fun ao => ?_)
  refine U.astore_n X (lv' := [(3, .ref ao), (2, .ref am), (1, .ref ax), (0, .ref b)]) dL_19 rfl (by decide) rfl ?_
  refine U.iconst X (v := (0 : Int32)) dL_20 (by decide) ?_
  refine U.istore X (lv' := [(4, .int 0), (3, .ref ao), (2, .ref am), (1, .ref ax), (0, .ref b)]) dL_21 (by decide) rfl ?_
  refine U.lvs [4, 3, 2, 1, 0] rfl ?_
  rw [List.append_assoc]
  exact law_loop X hA hX hbl hbA hxs hL (hstep l D cy ax am hl9) hend 513 0 wx wm (fun _ => 0) (by omega) (by omega) hI
