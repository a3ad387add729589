/-! more rows for the law -/
section ULAW
variable {D : va_G} {cy : Nat → ClassId} {M M2 : vM} {w0 : Cond} {l : Launch} {R : Room} {A : Nat → Prop} {Φ : State → Prop} {p : Program} {e : Env} {s : State} {m : MethodId} {args : Array Value} {below : List Frame} {meth : Method} {c : Code} {d2 mc2 ms2 : Nat} {Q2 : Option Value → va_W → Prop} {X2 : va_W → Prop} {pc : Nat} {lv lv' : List (Nat × Value)} {st : List Value} {ws ws' wc wr : va_W} {k n : Nat}
theorem U.sld (X : UX D cy M w0 args A p s m meth c) {b L : Nat} {xs : Nat → Int32} (hX : va_X b L xs s s.heap) (hbl : b < s.heap.size) (hbA : ¬ A b) {i y : Int32} (hin : vp_in i L) (hy : xs i.toNatClampNeg = y) (hd : decode M.2.1 pc = .ok (.iaload, 1)) (h : U D cy M l R A Φ p e s m args below meth c (pc + 1) lv (.int y :: st) ws k n) : U D cy M l R A Φ p e s m args below meth c pc lv (.int i :: .ref b :: st) ws k n := by
  intro H locs ls hP hD hS hl
  subst hy
  exact va_sld X.1 X.2.1 hX hbl hbA hS hin hd (h H locs ls hP hD hS hl)
theorem U.slen (X : UX D cy M w0 args A p s m meth c) {b L : Nat} {xs : Nat → Int32} (hX : va_X b L xs s s.heap) (hbl : b < s.heap.size) (hbA : ¬ A b) (hd : decode M.2.1 pc = .ok (.arraylength, 1)) (h : U D cy M l R A Φ p e s m args below meth c (pc + 1) lv (.int (Int32.ofNat L) :: st) ws k n) : U D cy M l R A Φ p e s m args below meth c pc lv (.ref b :: st) ws k n := by
  intro H locs ls hP hD hS hl
  exact va_slen X.1 X.2.1 hX hbl hbA hS hd (h H locs ls hP hD hS hl)
theorem U.new {C : String} {T : u_T} {N ci index : Nat} (X : UX D cy M w0 args A p s m meth c) (hA : ∀ q : Nat, s.heap.size ≤ q → A q) (hin : ∀ w ∈ u_ws C T N, w ∈ vT) (ty : Nat → FieldType) (hty : ∀ k, k < N → parseFieldDescriptor (T k).2.2.1 = some (ty k)) (hcl : Cond.classLink M.1.cls index C ∈ vT) (hinst : Cond.instantiable C N ∈ vT) (hini : Cond.initialized C ∈ vT) (hc : vCl[ci]? = some (C, T, N)) (fs : List Value) (hfs : ∀ j, j < N → defaultValue (ty j) = vp_V fs j) (hk : k + 1 ≤ R.cells) (hn : n + N ≤ R.slots) (hd : decode M.2.1 pc = .ok (.new index, 3))
    (h : ∀ q : Nat, U D cy M l R A Φ p e s m args below meth c (pc + 3) lv (.ref q :: st) (ws ++ [(q, .inr (ci, fs))]) (k + 1) (n + N)) : U D cy M l R A Φ p e s m args below meth c pc lv st ws k n := by
  intro H locs ls hP hD hS hl
  have hv : ∀ w ∈ vT, w.before args s = true := fun w hw => X.2.2.2.2.2.2.2.1 w (List.mem_cons_of_mem _ hw)
  exact va_new (Ts := vT) X.1 X.2.1 hv hin ty hty X.2.2.2.2.1 (hv _ hcl) (hv _ hinst) (hv _ hini) X.2.2.2.2.2.2.2.2.1 hP hD hS hA hc hfs hk hn hd (fun q H1 hP hD hS => h q H1 locs ls hP hD hS hl)
theorem U.newa {atype : ArrayType} {ty : FieldType} {z : Int32} {N' : Nat} (X : UX D cy M w0 args A p s m meth c) (hA : ∀ q : Nat, s.heap.size ≤ q → A q) (a0 : vp_A) (t0 : Nat) (hw : Cond.arrayClass (newarray.typeOf atype) ∈ vT) (hty : newarray.typeOf atype = ty) (ht : (vTys cy)[t0]? = some (cy t0, ty)) (ha : ∀ cA : ClassId, vp_cell cA a0 = arrV cA N' (fun _ => defaultValue ty)) (hz : ¬ z < 0) (hN : z.toNatClampNeg = N') (hby : N' * componentBytes ty ≤ 536870912) (hk : k + 1 ≤ R.cells) (hn : n + N' ≤ R.slots) (hd : decode M.2.1 pc = .ok (.newarray atype, 2))
    (h : ∀ q : Nat, U D cy M l R A Φ p e s m args below meth c (pc + 2) lv (.ref q :: st) (ws ++ [(q, .inl (cy t0, a0))]) (k + 1) (n + N')) : U D cy M l R A Φ p e s m args below meth c pc lv (.int z :: st) ws k n := by
  intro H locs ls hP hD hS hl
  have hv : ∀ w ∈ vT, w.before args s = true := fun w hw => X.2.2.2.2.2.2.2.1 w (List.mem_cons_of_mem _ hw)
  refine va_newa X.1 X.2.1 (hv _ hw) hty X.2.2.2.2.2.2.2.2.1 hP hD hS hA ha hz hN hby hk hn hd (fun q cA H1 hK1 hP hD hS => ?_)
  have hc := vK_ty hK1 X.2.2.2.2.2.2.2.2.1 ht
  subst hc
  exact h q H1 locs ls hP hD hS hl
/-- a static method with handlers that never throws -/
def vStW (M : vM) (hh : List (Nat × Nat × Nat × Nat)) (n : Nat) : Prop := Cond.codeWith M.1 M.2.1 M.2.2.1 M.2.2.2 hh ∈ vT ∧ Cond.initialized M.1.cls ∈ vT ∧ vOk M n ∧ Cond.static M.1 ∈ vT
theorem U.callW {As rest : List Value} {index : Nat} {hh : List (Nat × Nat × Nat × Nat)} (X : UX D cy M w0 args A p s m meth c) (hA : ∀ q : Nat, s.heap.size ≤ q → A q) (hxs : vxS A s s.heap) (hM : vwMet l D cy M2 hh d2 mc2 ms2 As wc Q2) (hw : vStW M2 hh As.length) (hk : Cond.methodLink M.1.cls index M2.1 ∈ vT) (hp : ws.Perm (wc ++ wr))
    (hst : st = As.reverse ++ rest) (hdg : decode M.2.1 pc = .ok (.invokestatic index, 3)) (hrm : uRoom R d2 M2.2.2.1) (hrk : k + mc2 ≤ R.cells ∧ n + ms2 ≤ R.slots) (hcat : (rest.map fun v => v.category).sum ≤ 8)
    (h : ∀ (r : Option Value) (w1 : va_W), Q2 r w1 → U D cy M l R A Φ p e s m args below meth c (pc + 3) lv (r.toList ++ rest) (wr ++ w1) (k + mc2) (n + ms2)) : U D cy M l R A Φ p e s m args below meth c pc lv st ws k n := by
  refine U.perm hp (U.after (wc := wc) (wr := wr) (List.range wc.length) ((List.range wr.length).map (fun i => wc.length + i)) vIsC vIsR (vNdR _ _) (vDis _ _) hA (av2 := As.toArray) ?_ h)
  intro H locs ls hP hD hS hl
  have ht := X.2.2.2.2.2.2.2.1
  have hv : ∀ w ∈ vT, w.before args s = true := fun w hw => ht w (List.mem_cons_of_mem _ hw)
  obtain ⟨w1, w2, w3, w4⟩ := hw
  have hFc := va_free (wc := wc) hD hS hA (List.range wc.length) vIsC
  refine vx_runSW (Ts := w0 :: vT) (own := M.1.cls) ⟨X.1, X.2.1, X.2.2.2.1, X.2.2.2.2.1, ht⟩ (hM H.size) ⟨⟨rfl, rfl, ?_, ?_, ?_, List.mem_cons_self⟩, hv _ w1, hv _ w2, ⟨w3.1, w3.2.1⟩, ?_, hv _ hk, hv _ w4⟩ ⟨vxBlind, fun U hU hW => ⟨rfl, uPre_call X hA hP hD hS (List.range wc.length) (vNdC _) vIsC U hU hW, vxS_call hxs hS hFc hU hW⟩⟩ rfl rfl hl.1 hst (lv_room hcat) hdg hrk
  · have := hrm.1; simp only [vRoom]; omega
  · have := hrm.2; simp only [vRoom]; omega
  · intro w hw a' U hW
    rcases List.mem_cons.mp hw with rfl | hw
    · exact word_at hW (vT_good w1) (hv _ w1)
    · exact word_at hW (vT_good hw) (hv _ hw)
  · intro sig h9
    have h2 := w3.2.2
    rw [h9] at h2
    exact (Option.some.inj h2).symm
end ULAW
abbrev ML : vM := (x, code, 7, ret)
theorem kwL_sum : vStW ML_sum [(0, 9, 12, 13)] 3 := ⟨vT_mem (by decide +kernel) (by decide +kernel), kiL, ⟨by decide +kernel, by decide +kernel, by decide +kernel⟩, vT_mem (by decide +kernel) (by decide +kernel)⟩
theorem kwL_rests : vStW ML_rests [(0, 14, 17, 13)] 6 := ⟨vT_mem (by decide +kernel) (by decide +kernel), kiL, ⟨by decide +kernel, by decide +kernel, by decide +kernel⟩, vT_mem (by decide +kernel) (by decide +kernel)⟩
theorem kL_90 : Cond.methodLink RL 90 yL_sum ∈ vT := vT_mem (by decide +kernel) (by decide +kernel)
theorem kL_c23 : Cond.constantLong RL 23 4294967295 ∈ vT := vT_mem (by decide +kernel) (by decide +kernel)
