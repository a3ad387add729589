/-! the law's two static methods with a handler: sum and rests -/
theorem vxMet.frame {l : Launch} {D : va_G} {cy : Nat → ClassId} {M : vM} {d mc ms : Nat} {av : List Value} {ws wc wr : va_W} {Q Q2 : Option Value → va_W → Prop} {X2 Xt : va_W → Prop} (h : vxMet l D cy M d mc ms av wc Q2 X2) (hp : ws.Perm (wc ++ wr)) (hQ : ∀ r w1, Q2 r w1 → Q r (wr ++ w1)) (hX : ∀ w1, X2 w1 → Xt (wr ++ w1)) : vxMet l D cy M d mc ms av ws Q Xt := by
  intro sz p e ha hc hk s m args below hf happ hP _
  obtain ⟨hav, ⟨hsz, hPw, hK, hD, hZ⟩, hxs⟩ := hP
  have hP' := va_P_perm hp hPw
  have hD' := va_D_perm hp hD
  have hA : ∀ q, va_A wc sz q → va_A ws sz q := by
    intro q hq
    rcases hq with ⟨k, x, hx⟩ | hq
    · obtain ⟨i, hi⟩ := List.getElem?_of_mem (hp.mem_iff.mpr (List.mem_append_left wr (List.mem_of_getElem? hx)))
      exact Or.inl ⟨i, x, hi⟩
    · exact Or.inr hq
  have hPc : va_P D vCl wc s.heap := hP'.sub (List.range wc.length) (by
    have h2 := congrArg (List.filterMap id) (vIsC (wc := wc) (wr := wr))
    simpa [List.filterMap_map, Function.comp_def] using h2)
  have hDc : va_D (fun _ => True) wc := hD'.sub (List.range wc.length) (vNdC _) vIsC
  have hZc : vZ cy (va_A wc sz) s s.heap := by
    obtain ⟨h1, h4, h5, h6, h7, h8, h9, h10⟩ := hZ
    exact ⟨h1, h4.narrow hA, h5.narrow hA, h6.narrow hA, vZq_call h7 hA (fun _ _ _ => rfl) (Vm.Alike.refl s.vm), h8, h9, h10.narrow hA⟩
  obtain ⟨n, o, h1, h2, h3, hq⟩ := h sz p e ha hc hk s m args below hf happ ⟨hav, ⟨hsz, hPc, hK, hDc, hZc⟩, hxs.narrow hA⟩ trivial
  subst hsz
  have hDs : va_D (va_A ws s.heap.size) (wc ++ wr) := va_D_perm hp (hD.self (sz := s.heap.size))
  rcases hq with ⟨⟨⟨r, w1, ho, hq, hP1, hD1⟩, hF⟩, L, hFE, hL⟩ | ⟨q, ho, E, ce, L, ⟨hE, ⟨w1, hw, hP1, hD1⟩, hF⟩, g1, g2, g3, g4, g5, g6⟩
  · obtain ⟨hJ1, hJ2⟩ := va_join (wr := wr) (w1 := w1) hP' hDs (List.range wc.length) ((List.range wr.length).map (fun i => wc.length + i)) vIsC vIsR (vNdR _ _) (vDis _ _) hF.2 hA hP1 hD1
    exact ⟨n, o, h1, h2, h3, Or.inl ⟨⟨⟨r, wr ++ w1, ho, hQ r w1 hq, hJ1, hJ2⟩, hF.1, fun q g1 g2 => hF.2 q g1 (fun g => g2 (hA q g))⟩, L, hFE, fun q hq => hA _ (hL q hq)⟩⟩
  · obtain ⟨hJ1, hJ2⟩ := va_join (wr := wr) (w1 := w1) hP' hDs (List.range wc.length) ((List.range wr.length).map (fun i => wc.length + i)) vIsC vIsR (vNdR _ _) (vDis _ _) hF.2 hA hP1 hD1
    exact ⟨n, o, h1, h2, h3, Or.inr ⟨q, ho, E, ce, L, ⟨hE, ⟨wr ++ w1, hX w1 hw, hJ1, hJ2⟩, hF.1, fun q g1 g2 => hF.2 q g1 (fun g => g2 (hA q g))⟩, g1, g2, g3, g4, g5, fun z hz => hA _ (g6 z hz)⟩⟩
theorem vxBlind {D : va_G} {cy : Nat → ClassId} {ws0 : va_W} {sz : Nat} {av : List Value} : FrameBlind (va_Pc av (vxPre D cy ws0 sz)) := by
  intro a U g mk q
  obtain ⟨q0, ⟨q1, qP, qK, qD, qZ⟩, qx⟩ := q
  exact ⟨q0, ⟨q1, qP, va_K.moved (u := U) (U := U.calling g mk a) (Vm.Alike.refl U.vm) qK, qD, vZ_moved (U := U.calling g mk a) qZ rfl rfl⟩, vxS_moved (U := U.calling g mk a) qx rfl rfl⟩
/-- a contract that cannot throw -/
theorem vx_Met.never {l : Launch} {y : MethodName} {ws : List Cond} {rm : Room} {Pc : Array Value → State → Prop} {Qc : Array Value → State → Outcome → State → Prop} {mc ms : Nat} {free : Addr → Prop} (h : vx_Met l y ws rm Pc Qc (fun _ _ _ => False) mc ms free) : Met l y ws rm Pc Qc mc ms free := by
  intro p e ha hc hk s m args below hf happ hP hK
  obtain ⟨n, o, h1, h2, h3, hq⟩ := h p e ha hc hk s m args below hf happ hP hK
  rcases hq with hq | ⟨q, ho, E, ce, L, hE, -⟩
  · exact ⟨n, o, h1, h2, h3, hq⟩
  · exact hE.elim
def vwWs (M : vM) (hh : List (Nat × Nat × Nat × Nat)) : List Cond := Cond.codeWith M.1 M.2.1 M.2.2.1 M.2.2.2 hh :: vT
/-- the contract of a method with handlers that never throws -/
def vwMet (l : Launch) (D : va_G) (cy : Nat → ClassId) (M : vM) (hh : List (Nat × Nat × Nat × Nat)) (d mc ms : Nat) (av : List Value) (ws0 : va_W) (Q : Option Value → va_W → Prop) : Prop :=
  ∀ sz : Nat, Met l M.1 (vwWs M hh) (vRoom d mc ms) (va_Pc av (vxPre D cy ws0 sz)) (vPost D ws0 sz Q) mc ms (va_A ws0 sz)
abbrev ML_sum : vM := (yL_sum, cL_sum, 4, (some .int))
abbrev ML_rests : vM := (yL_rests, cL_rests, 7, (some .int))
theorem dL_sum_0 : decode cL_sum 0 = .ok (.aload_n 2, 1) := by decide +kernel
theorem dL_sum_1 : decode cL_sum 1 = .ok (.iconst 0, 1) := by decide +kernel
theorem dL_sum_2 : decode cL_sum 2 = .ok (.aload_n 0, 1) := by decide +kernel
theorem dL_sum_3 : decode cL_sum 3 = .ok (.iload_n 1, 1) := by decide +kernel
theorem dL_sum_4 : decode cL_sum 4 = .ok (.invokevirtual 7, 3) := by decide +kernel
theorem dL_sum_7 : decode cL_sum 7 = .ok (.i2l, 1) := by decide +kernel
theorem dL_sum_8 : decode cL_sum 8 = .ok (.lastore, 1) := by decide +kernel
theorem dL_sum_9 : decode cL_sum 9 = .ok (.goto 6, 3) := by decide +kernel
theorem dL_sum_12 : decode cL_sum 12 = .ok (.astore_n 3, 1) := by decide +kernel
theorem dL_sum_13 : decode cL_sum 13 = .ok (.iconst 1, 1) := by decide +kernel
theorem dL_sum_14 : decode cL_sum 14 = .ok (.ireturn, 1) := by decide +kernel
theorem dL_sum_15 : decode cL_sum 15 = .ok (.iconst 0, 1) := by decide +kernel
theorem dL_sum_16 : decode cL_sum 16 = .ok (.ireturn, 1) := by decide +kernel
theorem dL_rests_0 : decode cL_rests 0 = .ok (.aload 5, 2) := by decide +kernel
theorem dL_rests_2 : decode cL_rests 2 = .ok (.iconst 0, 1) := by decide +kernel
theorem dL_rests_3 : decode cL_rests 3 = .ok (.aload_n 0, 1) := by decide +kernel
theorem dL_rests_4 : decode cL_rests 4 = .ok (.iload_n 1, 1) := by decide +kernel
theorem dL_rests_5 : decode cL_rests 5 = .ok (.iload_n 2, 1) := by decide +kernel
theorem dL_rests_6 : decode cL_rests 6 = .ok (.iload_n 3, 1) := by decide +kernel
theorem dL_rests_7 : decode cL_rests 7 = .ok (.iload 4, 2) := by decide +kernel
theorem dL_rests_9 : decode cL_rests 9 = .ok (.invokevirtual 15, 3) := by decide +kernel
theorem dL_rests_12 : decode cL_rests 12 = .ok (.i2l, 1) := by decide +kernel
theorem dL_rests_13 : decode cL_rests 13 = .ok (.lastore, 1) := by decide +kernel
theorem dL_rests_14 : decode cL_rests 14 = .ok (.goto 7, 3) := by decide +kernel
theorem dL_rests_17 : decode cL_rests 17 = .ok (.astore 6, 2) := by decide +kernel
theorem dL_rests_19 : decode cL_rests 19 = .ok (.iconst 1, 1) := by decide +kernel
theorem dL_rests_20 : decode cL_rests 20 = .ok (.ireturn, 1) := by decide +kernel
theorem dL_rests_21 : decode cL_rests 21 = .ok (.iconst 0, 1) := by decide +kernel
theorem dL_rests_22 : decode cL_rests 22 = .ok (.ireturn, 1) := by decide +kernel
theorem kL_7 : Cond.methodLink RL 7 yX11_sum ∈ vT := vT_mem (by decide +kernel) (by decide +kernel)
theorem kL_15 : Cond.methodLink RL 15 yX11_rests ∈ vT := vT_mem (by decide +kernel) (by decide +kernel)
theorem kL_13 : Cond.classLink RL 13 vNs ∈ vT := vT_mem (by decide +kernel) (by decide +kernel)
/-- what is written beside the answer -/
def vOut (cy : Nat → ClassId) (o : Nat) (f : Nat → Int64) : va_W := [(o, .inl (cy 2, 1, .inr (.inl f)))]
def vLQ (cy : Nat → ClassId) (Q2 : Option Value → va_W → Prop) (X2 : va_W → Prop) (o : Nat) (f : Nat → Int64) (r : Option Value) (w : va_W) : Prop :=
  (∃ (v : Int32) (w1 : va_W), Q2 (some (.int v)) w1 ∧ r = some (.int 0) ∧ w = vOut cy o (vp_updL f 0 v.toInt64) ++ w1) ∨ ∃ w1 : va_W, X2 w1 ∧ r = some (.int 1) ∧ w = vOut cy o f ++ w1
section LSTAT
variable {D : va_G} {cy : Nat → ClassId} {M M2 : vM} {w0 : Cond} {l : Launch} {R : Room} {A : Nat → Prop} {Φ : State → Prop} {p : Program} {e : Env} {s : State} {m : MethodId} {args : Array Value} {below : List Frame} {meth : Method} {c : Code} {d2 mc2 ms2 : Nat} {Q2 : Option Value → va_W → Prop} {X2 : va_W → Prop} {pc : Nat} {lv lv' : List (Nat × Value)} {st : List Value} {ws ws' wc wr : va_W} {k n : Nat}
/-- a call that may throw NoSuchElementException, which the one row of the table catches -/
theorem U.callX {As rest : List Value} {b index q0 ci : Nat} {fs : List Value} {cq : vw_C} {a1 a2 a3 : Nat} (X : UX D cy M w0 args A p s m meth c) (hA : ∀ q : Nat, s.heap.size ≤ q → A q) (hxs : vxS A s s.heap) (htab : c.exceptionTable.toList = tableOf [(a1, a2, a3, 13)]) (ha1 : a1 ≤ pc) (ha2 : pc < a2) (hown : M.1.cls = RL) (hM : vxMet l D cy M2 d2 mc2 ms2 (.ref b :: As) wc Q2 X2) (hw : vIns M2 As.length) (hk : Cond.methodLink M.1.cls index M2.1 ∈ vT) (hp : ws.Perm (wc ++ wr))
    (hrc : wc[q0]? = some (b, .inr (ci, fs))) (hcl : vCl[ci]? = some cq) (hcn : cq.1 = M2.1.cls) (hst : st = As.reverse ++ .ref b :: rest) (hdg : decode M.2.1 pc = .ok (.invokevirtual index, 3)) (hrm : uRoom R d2 M2.2.2.1) (hrk : k + mc2 ≤ R.cells ∧ n + ms2 ≤ R.slots) (hcat : (rest.map fun v => v.category).sum ≤ 8)
    (h : ∀ (r : Option Value) (w1 : va_W), Q2 r w1 → U D cy M l R A Φ p e s m args below meth c (pc + 3) lv (r.toList ++ rest) (wr ++ w1) (k + mc2) (n + ms2))
    (hx : ∀ (q : Nat) (w1 : va_W), X2 w1 → U D cy M l R A Φ p e s m args below meth c a3 lv [.ref q] (wr ++ w1) (k + mc2) (n + ms2)) : U D cy M l R A Φ p e s m args below meth c pc lv st ws k n := by
  refine U.perm hp ?_
  intro H locs ls hP hD hS hl T hT Y
  have hFc := va_free (wc := wc) hD hS hA (List.range wc.length) vIsC
  have ht := X.2.2.2.2.2.2.2.1
  have hv : ∀ w ∈ vT, w.before args s = true := fun w hw => ht w (List.mem_cons_of_mem _ hw)
  obtain ⟨w1, w2, w3, w4, w5⟩ := hw
  have cb : CallB R s args M.1.cls index M2.1 M2.2.1 M2.2.2.1 M2.2.2.2 (vWs M2) (vRoom d2 mc2 ms2) mc2 ms2 As.length :=
    callB_of As.length ht (uGood w1) rfl rfl rfl (hv _ w2) (hv _ hk) w3 ⟨by have := hrm.1; simp only [vRoom]; omega, by have := hrm.2; simp only [vRoom]; omega⟩
  have hrc' : (wc ++ wr)[q0]? = some (b, .inr (ci, fs)) := by
    rw [List.getElem?_append_left (List.getElem?_eq_some_iff.mp hrc).1]
    exact hrc
  have hrun : vx_Run p l e R s m args below meth c H locs k n mc2 ms2 (F0 m pc ls st) rest (vPost D wc H.size Q2 (Value.ref b :: As).toArray) (vXC D wc H.size X2) (va_A wc H.size) :=
    vx_runV (Ts := w0 :: vT) (own := M.1.cls) (C := M2.1.cls) ⟨X.1, X.2.1, X.2.2.2.1, X.2.2.2.2.1, ht⟩ (hM H.size) ⟨cb, hv _ w4, hv _ w5⟩
      ⟨vxBlind, by rw [← hcn]; exact va_recv X.2.2.2.2.2.2.2.2.1 hP hcl hrc', fun U hU hW => ⟨rfl, uPre_call X hA hP hD hS (List.range wc.length) (vNdC _) vIsC U hU hW, vxS_call hxs hS hFc hU hW⟩⟩ rfl rfl hl.1 hst (lv_room hcat) hdg hrk
  have key : ∀ {st₀ t T' : State} {L : List Loc} {wz : va_W}, st₀.heap = H → T'.heap = t.heap → (∀ q ∈ L, va_A wc H.size q.base) → va_P D vCl wz t.heap → va_D (va_A wc H.size) wz → va_F (va_A wc H.size) st₀ t → (va_P D vCl (wr ++ wz) T'.heap ∧ va_D A (wr ++ wz)) ∧ va_S A s.heap T'.heap (locs ++ L) := by
    intro st₀ t T' L wz h0 e1 hL hP1 hD1 hF
    obtain ⟨hz, hk1⟩ := hF
    rw [h0] at hz hk1
    rw [← e1] at hP1 hk1 hz
    refine ⟨va_join (wr := wr) (w1 := wz) hP hD (List.range wc.length) ((List.range wr.length).map (fun i => wc.length + i)) vIsC vIsR (vNdR _ _) (vDis _ _) hk1 hFc hP1 hD1, Nat.le_trans hS.1 hz, fun q g1 g2 => by rw [hk1 q (Nat.lt_of_lt_of_le g1 hS.1) (fun z => g2 (hFc q z))]; exact hS.2.1 q g1 g2, fun q hq => ?_⟩
    rcases List.mem_append.mp hq with g | g
    · exact hS.2.2 q g
    · exact hFc _ (hL q g)
  rcases hrun T hT Y with ⟨v, st₀, t, T', L, h0, Y', hL, e1, e2, ⟨⟨r, wz, hv9, hq, hP1, hD1⟩, hF⟩, gs⟩ | ⟨q, st₀, t, T', L, E, ce, h0, Y', hL, e1, e2, ⟨hE, ⟨wz, hw9, hP1, hD1⟩, hF⟩, hce, hcv, hcl9, st9⟩
  · cases hv9
    obtain ⟨⟨hP', hD'⟩, hS'⟩ := key h0 e1 hL hP1 hD1 hF
    obtain ⟨t2, a1, b1⟩ := h v wz hq T'.heap (locs ++ L) ls hP' hD' hS' hl T' rfl Y'
    exact ⟨t2, gs t2 a1, b1⟩
  · obtain ⟨⟨hP', hD'⟩, hS'⟩ := key h0 e1 hL hP1 hD1 hF
    subst hE
    have kk := hx q wz hw9 T'.heap (locs ++ L) ls hP' hD' hS' hl
    have hcat9 := vx_catch (p := p) (l := l) (e := e) (R := R) (s := s) (m := m) (args := args) (below := below) (meth := meth) (c := c) (H := T'.heap) (locs := locs ++ L) (cells := k + mc2) (slots := n + ms2) (Q := Φ) (ls := ls) (rest := rest) (pc := pc) (own := RL) (name := vNs) (E := vNs) (ce := ce) (q := q) (by rw [← hown]; exact X.2.2.2.2.1) [] _ [] htab (fun z hz => absurd hz List.not_mem_nil) (by simp [covers]; omega) (show (13 : Nat) ≠ 0 by decide) (hv _ kL_13) (va_Nw.use rfl hxs.2.2.2) (by rw [e1]; exact hce) hcv hcl9 kk
    obtain ⟨t2, a1, b1⟩ := hcat9 T' rfl Y'
    exact ⟨t2, st9.trans a1, b1⟩
end LSTAT
theorem CL_sum {l : Launch} {D : va_G} {cy : Nat → ClassId} {x o : Nat} {a : Int32} {ws : va_W} {fs : List Value} {f : Nat → Int64} {Q2 : Option Value → va_W → Prop} {X2 : va_W → Prop} (hQ2 : ∀ r w, Q2 r w → ∃ v, r = some (.int v)) (hM : vxMet l D cy MX11_sum 6 1 6 [.ref x, .int a] ws Q2 X2) (hx : ws[0]? = some (x, .inr (11, fs))) :
    vwMet l D cy ML_sum [(0, 9, 12, 13)] 8 1 6 [.ref x, .int a, .ref o] (ws ++ vOut cy o f) (vLQ cy Q2 X2 o f) := by
  intro sz
  refine vx_Met.never (vx_ofWH (cc := cL_sum) (maxL := 4) (ret := some .int) (hh := [(0, 9, 12, 13)]) (ws' := vT) (by decide +kernel) rfl ?_)
  intro p e s m args below meth c s₁ B hml hv
  obtain ⟨rfl, ⟨hsz, hP, hK, hD0, hZ⟩, hxs⟩ := hv
  subst hsz
  have hl := lv_entry [.ref x, .int a, .ref o] (n := 4) (Nat.le_of_ble_eq_true rfl)
  rw [lg_entry_eq]
  have hts := atoms_spec (ws := vwWs ML_sum [(0, 9, 12, 13)]) B.pre
  have htab := vx_table (x := yL_sum) B (hts _ List.mem_cons_self)
  have X : UX D cy ML_sum (Cond.codeWith yL_sum cL_sum 4 (some .int) [(0, 9, 12, 13)]) ([.ref x, .int a, .ref o] : List Value).toArray (va_A (ws ++ vOut cy o f) s.heap.size) p s m meth c := ⟨B.exec, B.bytes, B.returns, hml, findClass_of_methodNamed B.named, B.notSynchronized, trivial, hts, hK, hZ⟩
  have hA : ∀ q : Nat, s.heap.size ≤ q → va_A (ws ++ vOut cy o f) s.heap.size q := fun q h => Or.inr h
  suffices hU : U D cy ML_sum l (vRoom 8 1 6) (va_A (ws ++ vOut cy o f) s.heap.size) (MQ below (vPost D (ws ++ vOut cy o f) s.heap.size (vLQ cy Q2 X2 o f)) ([.ref x, .int a, .ref o] : List Value).toArray s 1 6 (va_A (ws ++ vOut cy o f) s.heap.size)) p e s m ([.ref x, .int a, .ref o] : List Value).toArray below meth c 0 [(0, .ref x), (1, .int a), (2, .ref o)] [] (ws ++ vOut cy o f) 0 0 from vx_ret (hU s.heap [] _ hP (hD0.self (sz := s.heap.size)) va_S.rf hl)
  refine U.aload_n X dL_sum_0 rfl 2 rfl ?_
  refine U.iconst X (v := (0 : Int32)) dL_sum_1 (by decide) ?_
  refine U.aload_n X dL_sum_2 rfl 0 rfl ?_
  refine U.iload_n X dL_sum_3 rfl 1 rfl ?_
  have hret : ∀ {lv : List (Nat × Value)} {w : va_W} {r : Int32} {pc : Nat}, decode cL_sum pc = .ok (.ireturn, 1) → vLQ cy Q2 X2 o f (some (.int r)) w → U D cy ML_sum l (vRoom 8 1 6) (va_A (ws ++ vOut cy o f) s.heap.size) (MQ below (vPost D (ws ++ vOut cy o f) s.heap.size (vLQ cy Q2 X2 o f)) ([.ref x, .int a, .ref o] : List Value).toArray s 1 6 (va_A (ws ++ vOut cy o f) s.heap.size)) p e s m ([.ref x, .int a, .ref o] : List Value).toArray below meth c pc lv [.int r] w 1 6 := by
    intro lv w r pc hd hq H locs ls hP hD hS hl
    exact W.zret X.1 X.2.1 (ty := .int) X.2.2.1 rfl (fun t ht hW => ⟨⟨_, w, rfl, hq, by rw [ht]; exact hP, hD⟩, hS.F ht⟩) hS.2.2 hd X.2.2.2.2.2.1
  refine U.callX X hA hxs htab (by decide) (by decide) rfl (As := [.int a]) (rest := [.int 0, .ref o]) hM kvX11_sum kL_7 (List.Perm.refl _) hx rfl rfl rfl dL_sum_4 ⟨by decide, by decide⟩ ⟨by decide, by decide⟩ (Nat.le_of_ble_eq_true rfl) (fun r w1 hq => ?_) (fun q w1 hq => ?_)
  · obtain ⟨v, rfl⟩ := hQ2 r w1 hq
    refine U.i2l X dL_sum_7 ?_
    refine U.last X (ws' := vOut cy o (vp_updL f 0 v.toInt64) ++ w1) dL_sum_8 0 rfl (show ¬ ((0 : Int32) < 0 ∨ 1 ≤ (0 : Int32).toNatClampNeg) by decide) rfl ?_
    refine U.goto X (tgt := 15) dL_sum_9 (by decide) ?_
    refine U.iconst X (v := (0 : Int32)) dL_sum_15 (by decide) ?_
    exact hret dL_sum_16 (Or.inl ⟨v, w1, hq, rfl, rfl⟩)
  · refine U.astore_n X dL_sum_12 rfl (by decide) rfl ?_
    refine U.iconst X (v := (1 : Int32)) dL_sum_13 (by decide) ?_
    exact hret dL_sum_14 (Or.inr ⟨w1, hq, rfl, rfl⟩)
theorem CL_rests {l : Launch} {D : va_G} {cy : Nat → ClassId} {x o : Nat} {a1 a2 a3 a4 : Int32} {ws : va_W} {fs : List Value} {f : Nat → Int64} {Q2 : Option Value → va_W → Prop} {X2 : va_W → Prop} (hQ2 : ∀ r w, Q2 r w → ∃ v, r = some (.int v)) (hM : vxMet l D cy MX11_rests 6 1 6 [.ref x, .int a1, .int a2, .int a3, .int a4] ws Q2 X2) (hx : ws[0]? = some (x, .inr (11, fs))) :
    vwMet l D cy ML_rests [(0, 14, 17, 13)] 8 1 6 [.ref x, .int a1, .int a2, .int a3, .int a4, .ref o] (ws ++ vOut cy o f) (vLQ cy Q2 X2 o f) := by
  intro sz
  refine vx_Met.never (vx_ofWH (cc := cL_rests) (maxL := 7) (ret := some .int) (hh := [(0, 14, 17, 13)]) (ws' := vT) (by decide +kernel) rfl ?_)
  intro p e s m args below meth c s₁ B hml hv
  obtain ⟨rfl, ⟨hsz, hP, hK, hD0, hZ⟩, hxs⟩ := hv
  subst hsz
  have hl := lv_entry [.ref x, .int a1, .int a2, .int a3, .int a4, .ref o] (n := 7) (Nat.le_of_ble_eq_true rfl)
  rw [lg_entry_eq]
  have hts := atoms_spec (ws := vwWs ML_rests [(0, 14, 17, 13)]) B.pre
  have htab := vx_table (x := yL_sum) B (hts _ List.mem_cons_self)
  have X : UX D cy ML_rests (Cond.codeWith yL_rests cL_rests 7 (some .int) [(0, 14, 17, 13)]) ([.ref x, .int a1, .int a2, .int a3, .int a4, .ref o] : List Value).toArray (va_A (ws ++ vOut cy o f) s.heap.size) p s m meth c := ⟨B.exec, B.bytes, B.returns, hml, findClass_of_methodNamed B.named, B.notSynchronized, trivial, hts, hK, hZ⟩
  have hA : ∀ q : Nat, s.heap.size ≤ q → va_A (ws ++ vOut cy o f) s.heap.size q := fun q h => Or.inr h
  suffices hU : U D cy ML_rests l (vRoom 8 1 6) (va_A (ws ++ vOut cy o f) s.heap.size) (MQ below (vPost D (ws ++ vOut cy o f) s.heap.size (vLQ cy Q2 X2 o f)) ([.ref x, .int a1, .int a2, .int a3, .int a4, .ref o] : List Value).toArray s 1 6 (va_A (ws ++ vOut cy o f) s.heap.size)) p e s m ([.ref x, .int a1, .int a2, .int a3, .int a4, .ref o] : List Value).toArray below meth c 0 [(0, .ref x), (1, .int a1), (2, .int a2), (3, .int a3), (4, .int a4), (5, .ref o)] [] (ws ++ vOut cy o f) 0 0 from vx_ret (hU s.heap [] _ hP (hD0.self (sz := s.heap.size)) va_S.rf hl)
  refine U.aload X dL_rests_0 5 rfl ?_
  refine U.iconst X (v := (0 : Int32)) dL_rests_2 (by decide) ?_
  refine U.aload_n X dL_rests_3 rfl 0 rfl ?_
  refine U.iload_n X dL_rests_4 rfl 1 rfl ?_
  refine U.iload_n X dL_rests_5 rfl 2 rfl ?_
  refine U.iload_n X dL_rests_6 rfl 3 rfl ?_
  refine U.iload X dL_rests_7 4 rfl ?_
  have hret : ∀ {lv : List (Nat × Value)} {w : va_W} {r : Int32} {pc : Nat}, decode cL_rests pc = .ok (.ireturn, 1) → vLQ cy Q2 X2 o f (some (.int r)) w → U D cy ML_rests l (vRoom 8 1 6) (va_A (ws ++ vOut cy o f) s.heap.size) (MQ below (vPost D (ws ++ vOut cy o f) s.heap.size (vLQ cy Q2 X2 o f)) ([.ref x, .int a1, .int a2, .int a3, .int a4, .ref o] : List Value).toArray s 1 6 (va_A (ws ++ vOut cy o f) s.heap.size)) p e s m ([.ref x, .int a1, .int a2, .int a3, .int a4, .ref o] : List Value).toArray below meth c pc lv [.int r] w 1 6 := by
    intro lv w r pc hd hq H locs ls hP hD hS hl
    exact W.zret X.1 X.2.1 (ty := .int) X.2.2.1 rfl (fun t ht hW => ⟨⟨_, w, rfl, hq, by rw [ht]; exact hP, hD⟩, hS.F ht⟩) hS.2.2 hd X.2.2.2.2.2.1
  refine U.callX X hA hxs htab (by decide) (by decide) rfl (As := [.int a1, .int a2, .int a3, .int a4]) (rest := [.int 0, .ref o]) hM kvX11_rests kL_15 (List.Perm.refl _) hx rfl rfl rfl dL_rests_9 ⟨by decide, by decide⟩ ⟨by decide, by decide⟩ (Nat.le_of_ble_eq_true rfl) (fun r w1 hq => ?_) (fun q w1 hq => ?_)
  · obtain ⟨v, rfl⟩ := hQ2 r w1 hq
    refine U.i2l X dL_rests_12 ?_
    refine U.last X (ws' := vOut cy o (vp_updL f 0 v.toInt64) ++ w1) dL_rests_13 0 rfl (show ¬ ((0 : Int32) < 0 ∨ 1 ≤ (0 : Int32).toNatClampNeg) by decide) rfl ?_
    refine U.goto X (tgt := 21) dL_rests_14 (by decide) ?_
    refine U.iconst X (v := (0 : Int32)) dL_rests_21 (by decide) ?_
    exact hret dL_rests_22 (Or.inl ⟨v, w1, hq, rfl, rfl⟩)
  · refine U.astore X dL_rests_17 (by decide) rfl ?_
    refine U.iconst X (v := (1 : Int32)) dL_rests_19 (by decide) ?_
    exact hret dL_rests_20 (Or.inr ⟨w1, hq, rfl, rfl⟩)
