/-! returns, calls, what is made -/
def vOk (M : vM) (n : Nat) : Prop := M.1.cls ≠ "java/lang/invoke/MethodHandle" ∧ M.1.cls ≠ "java/lang/invoke/VarHandle" ∧ (parseMethodDescriptor M.1.desc).map (fun d => d.parameters.length) = some n
/-- a method of n parameters that is called on an object: its words -/
def vIns (M : vM) (n : Nat) : Prop := Cond.code M.1 M.2.1 M.2.2.1 M.2.2.2 ∈ vT ∧ Cond.initialized M.1.cls ∈ vT ∧ vOk M n ∧ Cond.instanceMethod M.1 ∈ vT ∧ Cond.selects M.1.cls M.1 M.1 ∈ vT
def vSta (M : vM) (n : Nat) : Prop := Cond.code M.1 M.2.1 M.2.2.1 M.2.2.2 ∈ vT ∧ Cond.initialized M.1.cls ∈ vT ∧ vOk M n ∧ Cond.static M.1 ∈ vT
def vIni (M : vM) (n : Nat) : Prop := Cond.code M.1 M.2.1 M.2.2.1 M.2.2.2 ∈ vT ∧ Cond.initialized M.1.cls ∈ vT ∧ vOk M n ∧ Cond.instanceMethod M.1 ∈ vT ∧ M.1.name = "<init>" ∧ M.2.2.2 = none
theorem vGood {M M2 : vM} (hc : Cond.code M2.1 M2.2.1 M2.2.2.1 M2.2.2.2 ∈ vT) : GoodIn (vWs M) (vWs M2) := by
  intro w hw
  rcases List.mem_cons.mp hw with rfl | h
  · exact ⟨List.mem_cons_of_mem _ hc, vT_good hc⟩
  · exact ⟨List.mem_cons_of_mem _ h, vT_good h⟩
theorem vBlind {D : va_G} {cy : Nat → ClassId} {ws0 : va_W} {sz : Nat} {av : List Value} : FrameBlind (va_Pc av (vPre D cy ws0 sz)) := by
  intro a U g mk q
  obtain ⟨q0, q1, qP, qK, qD, qZ⟩ := q
  exact ⟨q0, q1, qP, va_K.moved (u := U) (U := U.calling g mk a) (Vm.Alike.refl U.vm) qK, qD, vZ_moved (U := U.calling g mk a) qZ rfl rfl⟩
section LAYER3
variable {l : Launch} {D : va_G} {cy : Nat → ClassId} {M M2 : vM} {d mc ms d2 mc2 ms2 : Nat} {av : List Value} {ws0 : va_W} {Q Q2 : Option Value → va_W → Prop} {pc : Nat} {lv lv' : List (Nat × Value)} {st : List Value} {ws ws' wc wr : va_W} {k n : Nat}
theorem V.iret {v : Int32} {ty : FieldType} (hr : M.2.2.2 = some ty) (hv : narrow ty (.int v) = .int v) (hd : decode M.2.1 pc = .ok (.ireturn, 1)) (hk : k ≤ mc) (hn : n ≤ ms) (hq : Q (some (.int v)) ws) : V l D cy M d mc ms av ws0 Q pc lv [.int v] ws k n := by
  intro p e s m below meth c X H locs ls hP hD hS hl
  refine W.widen hk hn ?_
  exact W.zret X.1 X.2.1 (X.2.2.1.trans hr) hv (fun t ht hW => ⟨⟨_, ws, rfl, hq, by rw [ht]; exact hP, hD⟩, hS.F ht⟩) hS.2.2 hd X.2.2.2.2.2.1
theorem V.lret {v : Int64} (hr : M.2.2.2 = some .long) (hd : decode M.2.1 pc = .ok (.lreturn, 1)) (hk : k ≤ mc) (hn : n ≤ ms) (hq : Q (some (.long v)) ws) : V l D cy M d mc ms av ws0 Q pc lv [.long v] ws k n := by
  intro p e s m below meth c X H locs ls hP hD hS hl
  refine W.widen hk hn ?_
  exact W.lret X.1 X.2.1 (X.2.2.1.trans hr) (fun t ht hW => ⟨⟨_, ws, rfl, hq, by rw [ht]; exact hP, hD⟩, hS.F ht⟩) hS.2.2 hd X.2.2.2.2.2.1
theorem V.vret (hr : M.2.2.2 = none) (hd : decode M.2.1 pc = .ok (.return_, 1)) (hk : k ≤ mc) (hn : n ≤ ms) (hq : Q none ws) : V l D cy M d mc ms av ws0 Q pc lv [] ws k n := by
  intro p e s m below meth c X H locs ls hP hD hS hl
  refine W.widen hk hn ?_
  exact W.vret X.1 X.2.1 (X.2.2.1.trans hr) (fun t ht hW => ⟨⟨_, ws, rfl, hq, by rw [ht]; exact hP, hD⟩, hS.F ht⟩) hS.2.2 hd X.2.2.2.2.2.1
/-- behind a call of any kind -/
theorem V.after {rest : List Value} (isC isR : List Nat) (hC : isC.map (fun i => ws[i]?) = wc.map some) (hR : isR.map (fun i => ws[i]?) = wr.map some) (hnR : va_nd isR = true) (hdis : ∀ i ∈ isR, i ∉ isC) {av2 : Array Value}
    (hrun : ∀ (p : Program) (e : Env) (s : State) (m : MethodId) (below : List Frame) (meth : Method) (c : Code), VX D cy M av ws0 p s m meth c → ∀ (H : Heap) (locs : List Loc) (ls : Array Slot), va_P D vCl ws H → va_D (va_A ws0 s.heap.size) ws → va_S (va_A ws0 s.heap.size) s.heap H locs → lv_has ls M.2.2.1 lv →
      va_Run p l e (vRoom d mc ms) s m av.toArray below meth c H locs k n mc2 ms2 (F0 m pc ls st) rest (vPost D wc H.size Q2 av2) (va_A wc H.size))
    (h : ∀ (r : Option Value) (w1 : va_W), Q2 r w1 → V l D cy M d mc ms av ws0 Q (pc + 3) lv (r.toList ++ rest) (wr ++ w1) (k + mc2) (n + ms2)) : V l D cy M d mc ms av ws0 Q pc lv st ws k n := by
  intro p e s m below meth c X H locs ls hP hD hS hl T hT Y
  have hA : ∀ q : Nat, s.heap.size ≤ q → va_A ws0 s.heap.size q := fun q h => Or.inr h
  have hFc := va_free (wc := wc) hD hS hA isC hC
  obtain ⟨v, st₀, t, T', L, h0, Y', hL, e1, e2, ⟨⟨r, w1, hv, hq, hP1, hD1⟩, hz, hk1⟩, gs⟩ := hrun p e s m below meth c X H locs ls hP hD hS hl T hT Y
  cases hv
  rw [h0] at hz hk1
  rw [← e1] at hP1 hk1 hz
  obtain ⟨hP', hD'⟩ := va_join (wr := wr) (w1 := w1) hP hD isC isR hC hR hnR hdis hk1 hFc hP1 hD1
  have hS' : va_S (va_A ws0 s.heap.size) s.heap T'.heap (locs ++ L) := ⟨Nat.le_trans hS.1 hz, fun q g1 g2 => by rw [hk1 q (Nat.lt_of_lt_of_le g1 hS.1) (fun z => g2 (hFc q z))]; exact hS.2.1 q g1 g2, fun q hq => by
      rcases List.mem_append.mp hq with g | g
      · exact hS.2.2 q g
      · exact hFc _ (hL q g)⟩
  obtain ⟨t2, a1, b1⟩ := h v w1 hq p e s m below meth c X T'.heap (locs ++ L) ls hP' hD' hS' hl T' rfl Y'
  exact ⟨t2, gs t2 a1, b1⟩
theorem vPre_call {p : Program} {s : State} {m : MethodId} {meth : Method} {c : Code} {H : Heap} {locs : List Loc} (X : VX D cy M av ws0 p s m meth c) (hP : va_P D vCl ws H) (hD : va_D (va_A ws0 s.heap.size) ws) (hS : va_S (va_A ws0 s.heap.size) s.heap H locs) (isC : List Nat) (hnC : va_nd isC = true) (hC : isC.map (fun i => ws[i]?) = wc.map some) : ∀ U : State, U.heap = H → s.WarmedH U.vm → vPre D cy wc H.size U := by
  intro U hU hW
  have hs2 : isC.filterMap (fun i => ws[i]?) = wc := by
    have h2 := congrArg (List.filterMap id) hC
    simpa [List.filterMap_map, Function.comp_def] using h2
  have hFc := va_free (wc := wc) hD hS (fun q h => Or.inr h) isC hC
  exact ⟨by rw [hU], by rw [hU]; exact hP.sub isC hs2, va_K.moved hW.alike X.2.2.2.2.2.2.2.2.1, (hD.sub isC hnC hC).weaken (fun _ _ _ _ => trivial), vZ_call X.2.2.2.2.2.2.2.2.2 hS hFc hU hW⟩
theorem V.callV {As rest : List Value} {b index q0 ci : Nat} {fs : List Value} {cq : vw_C} (hM : vMet l D cy M2 d2 mc2 ms2 (.ref b :: As) wc Q2) (hw : vIns M2 As.length) (hk : Cond.methodLink M.1.cls index M2.1 ∈ vT) (isC isR : List Nat) (hC : isC.map (fun i => ws[i]?) = wc.map some) (hR : isR.map (fun i => ws[i]?) = wr.map some) (hnC : va_nd isC = true) (hnR : va_nd isR = true) (hdis : ∀ i ∈ isR, i ∉ isC)
    (hrc : ws[q0]? = some (b, .inr (ci, fs))) (hcl : vCl[ci]? = some cq) (hcn : cq.1 = M2.1.cls) (hst : st = As.reverse ++ .ref b :: rest) (hdg : decode M.2.1 pc = .ok (.invokevirtual index, 3)) (hrm : d2 + 1 ≤ d ∧ M2.2.2.1 ≤ 40 ∧ k + mc2 ≤ mc ∧ n + ms2 ≤ ms) (hcat : (rest.map fun v => v.category).sum ≤ 8)
    (h : ∀ (r : Option Value) (w1 : va_W), Q2 r w1 → V l D cy M d mc ms av ws0 Q (pc + 3) lv (r.toList ++ rest) (wr ++ w1) (k + mc2) (n + ms2)) : V l D cy M d mc ms av ws0 Q pc lv st ws k n := by
  refine V.after isC isR hC hR hnR hdis (av2 := (Value.ref b :: As).toArray) ?_ h
  intro p e s m below meth c X H locs ls hP hD hS hl
  have ht := X.2.2.2.2.2.2.2.1
  have hv : ∀ w ∈ vT, w.before av.toArray s = true := fun w hw => ht w (List.mem_cons_of_mem _ hw)
  obtain ⟨w1, w2, w3, w4, w5⟩ := hw
  have cb : CallB (vRoom d mc ms) s av.toArray M.1.cls index M2.1 M2.2.1 M2.2.2.1 M2.2.2.2 (vWs M2) (vRoom d2 mc2 ms2) mc2 ms2 As.length :=
    callB_of As.length ht (vGood w1) rfl rfl rfl (hv _ w2) (hv _ hk) w3 ⟨by simp only [vRoom]; omega, by simp only [vRoom]; omega⟩
  exact va_runV (Ts := vWs M) (own := M.1.cls) (C := M2.1.cls) ⟨X.1, X.2.1, X.2.2.2.1, X.2.2.2.2.1, ht⟩ (hM H.size) ⟨cb, hv _ w4, hv _ w5⟩
    ⟨vBlind, by rw [← hcn]; exact va_recv X.2.2.2.2.2.2.2.2.1 hP hcl hrc, fun U hU hW => ⟨rfl, vPre_call X hP hD hS isC hnC hC U hU hW⟩⟩ rfl rfl hl.1 hst (lv_room hcat) hdg ⟨hrm.2.2.1, hrm.2.2.2⟩
theorem V.callS {As rest : List Value} {index : Nat} (hM : vMet l D cy M2 d2 mc2 ms2 As wc Q2) (hw : vSta M2 As.length) (hk : Cond.methodLink M.1.cls index M2.1 ∈ vT) (isC isR : List Nat) (hC : isC.map (fun i => ws[i]?) = wc.map some) (hR : isR.map (fun i => ws[i]?) = wr.map some) (hnC : va_nd isC = true) (hnR : va_nd isR = true) (hdis : ∀ i ∈ isR, i ∉ isC)
    (hst : st = As.reverse ++ rest) (hdg : decode M.2.1 pc = .ok (.invokestatic index, 3)) (hrm : d2 + 1 ≤ d ∧ M2.2.2.1 ≤ 40 ∧ k + mc2 ≤ mc ∧ n + ms2 ≤ ms) (hcat : (rest.map fun v => v.category).sum ≤ 8)
    (h : ∀ (r : Option Value) (w1 : va_W), Q2 r w1 → V l D cy M d mc ms av ws0 Q (pc + 3) lv (r.toList ++ rest) (wr ++ w1) (k + mc2) (n + ms2)) : V l D cy M d mc ms av ws0 Q pc lv st ws k n := by
  refine V.after isC isR hC hR hnR hdis (av2 := As.toArray) ?_ h
  intro p e s m below meth c X H locs ls hP hD hS hl
  have ht := X.2.2.2.2.2.2.2.1
  have hv : ∀ w ∈ vT, w.before av.toArray s = true := fun w hw => ht w (List.mem_cons_of_mem _ hw)
  obtain ⟨w1, w2, w3, w4⟩ := hw
  have cb : CallB (vRoom d mc ms) s av.toArray M.1.cls index M2.1 M2.2.1 M2.2.2.1 M2.2.2.2 (vWs M2) (vRoom d2 mc2 ms2) mc2 ms2 As.length :=
    callB_of As.length ht (vGood w1) rfl rfl rfl (hv _ w2) (hv _ hk) w3 ⟨by simp only [vRoom]; omega, by simp only [vRoom]; omega⟩
  exact va_runS (Ts := vWs M) (own := M.1.cls) ⟨X.1, X.2.1, X.2.2.2.1, X.2.2.2.2.1, ht⟩ (hM H.size) ⟨cb, hv _ w4⟩
    ⟨vBlind, fun U hU hW => ⟨rfl, vPre_call X hP hD hS isC hnC hC U hU hW⟩⟩ rfl rfl hl.1 hst (lv_room hcat) hdg ⟨hrm.2.2.1, hrm.2.2.2⟩
theorem V.callI {As rest : List Value} {b index : Nat} (hM : vMet l D cy M2 d2 mc2 ms2 (.ref b :: As) wc Q2) (hw : vIni M2 As.length) (hk : Cond.methodLink M.1.cls index M2.1 ∈ vT) (isC isR : List Nat) (hC : isC.map (fun i => ws[i]?) = wc.map some) (hR : isR.map (fun i => ws[i]?) = wr.map some) (hnC : va_nd isC = true) (hnR : va_nd isR = true) (hdis : ∀ i ∈ isR, i ∉ isC)
    (hst : st = As.reverse ++ .ref b :: rest) (hdg : decode M.2.1 pc = .ok (.invokespecial index, 3)) (hrm : d2 + 1 ≤ d ∧ M2.2.2.1 ≤ 40 ∧ k + mc2 ≤ mc ∧ n + ms2 ≤ ms) (hcat : (rest.map fun v => v.category).sum ≤ 8)
    (h : ∀ (r : Option Value) (w1 : va_W), Q2 r w1 → V l D cy M d mc ms av ws0 Q (pc + 3) lv (r.toList ++ rest) (wr ++ w1) (k + mc2) (n + ms2)) : V l D cy M d mc ms av ws0 Q pc lv st ws k n := by
  refine V.after isC isR hC hR hnR hdis (av2 := (Value.ref b :: As).toArray) ?_ h
  intro p e s m below meth c X H locs ls hP hD hS hl
  have ht := X.2.2.2.2.2.2.2.1
  have hv : ∀ w ∈ vT, w.before av.toArray s = true := fun w hw => ht w (List.mem_cons_of_mem _ hw)
  obtain ⟨w1, w2, w3, w4, w5, w6⟩ := hw
  have cb : CallB (vRoom d mc ms) s av.toArray M.1.cls index M2.1 M2.2.1 M2.2.2.1 none (vWs M2) (vRoom d2 mc2 ms2) mc2 ms2 As.length :=
    callB_of As.length ht (vGood w1) (by rw [← w6]; rfl) rfl rfl (hv _ w2) (hv _ hk) w3 ⟨by simp only [vRoom]; omega, by simp only [vRoom]; omega⟩
  exact va_runI (Ts := vWs M) (own := M.1.cls) ⟨X.1, X.2.1, X.2.2.2.1, X.2.2.2.2.1, ht⟩ (hM H.size) ⟨cb, w5, hv _ w4⟩
    ⟨vBlind, fun U hU hW => ⟨rfl, vPre_call X hP hD hS isC hnC hC U hU hW⟩⟩ rfl rfl hl.1 hst (lv_room hcat) hdg ⟨hrm.2.2.1, hrm.2.2.2⟩
theorem V.objInit {a idx : Nat} {rest : List Value} (h1 : Cond.methodLink M.1.cls idx Lib.objectInit ∈ vT) (h2 : Cond.instanceMethod Lib.objectInit ∈ vT) (h3 : Cond.code Lib.objectInit ⟨#[0xb1]⟩ 1 none ∈ vT) (hd : decode M.2.1 pc = .ok (.invokespecial idx, 3)) (hcat : (rest.map fun v => v.category).sum ≤ 8)
    (h : V l D cy M d mc ms av ws0 Q (pc + 3) lv rest ws k n) : V l D cy M d mc ms av ws0 Q pc lv (.ref a :: rest) ws k n := by
  intro p e s m below meth c X H locs ls hP hD hS hl
  have hv : ∀ w ∈ vT, w.before av.toArray s = true := fun w hw => X.2.2.2.2.2.2.2.1 w (List.mem_cons_of_mem _ hw)
  refine W.objInit X.1 X.2.1 X.2.2.2.2.1 (hv _ h1) (hv _ h2) (hv _ h3) rfl (hl.1.trans X.2.2.2.1.symm) rfl hd (by simp only [vRoom]; omega) ?_ (h p e s m below meth c X H locs ls hP hD hS hl)
  have := lv_room (m := m) (pc := pc) (ls := ls) (rest := rest) hcat
  simp only [vRoom]; exact Nat.le_trans (Nat.add_le_add_right this 12) (by omega)
end LAYER3
