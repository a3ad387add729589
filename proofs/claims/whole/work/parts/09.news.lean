/-! what is made: objects, arrays; references stored -/
theorem vK_ty {D : va_G} {cl : List vw_C} {cy : Nat → ClassId} {tys : List (ClassId × FieldType)} {s : State} {t0 : Nat} {cA : ClassId} {ty : FieldType} (hK : va_K D cl (tys ++ [(cA, ty)]) s) (h0 : va_K D cl (vTys cy) s) (ht : (vTys cy)[t0]? = some (cy t0, ty)) : cA = cy t0 := by
  have h1 := (hK.2 tys.length (cA, ty) (by simp)).2
  have h2 := (h0.2 t0 (cy t0, ty) ht).2
  cases ty with
  | object C =>
    obtain ⟨-, -, -, -, -, e1⟩ := h1
    obtain ⟨-, -, -, -, -, e2⟩ := h2
    exact Option.some.inj (e1.symm.trans e2)
  | _ => exact Option.some.inj ((show s.vm.findClass _ = some cA from h1).symm.trans (show s.vm.findClass _ = some (cy t0) from h2))
section NEWS
variable {l : Launch} {D : va_G} {cy : Nat → ClassId} {M : vM} {d mc ms : Nat} {av : List Value} {ws0 : va_W} {Q : Option Value → va_W → Prop} {pc : Nat} {lv : List (Nat × Value)} {st : List Value} {ws ws' : va_W} {k n : Nat}
theorem V.new {C : String} {T : u_T} {N ci index : Nat} (hin : ∀ w ∈ u_ws C T N, w ∈ vT) (ty : Nat → FieldType) (hty : ∀ k, k < N → parseFieldDescriptor (T k).2.2.1 = some (ty k)) (hcl : Cond.classLink M.1.cls index C ∈ vT) (hinst : Cond.instantiable C N ∈ vT) (hini : Cond.initialized C ∈ vT) (hc : vCl[ci]? = some (C, T, N)) (fs : List Value) (hfs : ∀ j, j < N → defaultValue (ty j) = vp_V fs j) (hk : k + 1 ≤ mc) (hn : n + N ≤ ms) (hd : decode M.2.1 pc = .ok (.new index, 3))
    (h : ∀ q : Nat, V l D cy M d mc ms av ws0 Q (pc + 3) lv (.ref q :: st) (ws ++ [(q, .inr (ci, fs))]) (k + 1) (n + N)) : V l D cy M d mc ms av ws0 Q pc lv st ws k n := by
  intro p e s m below meth c X H locs ls hP hD hS hl
  have hv : ∀ w ∈ vT, w.before av.toArray s = true := fun w hw => X.2.2.2.2.2.2.2.1 w (List.mem_cons_of_mem _ hw)
  exact va_new (Ts := vT) X.1 X.2.1 hv hin ty hty X.2.2.2.2.1 (hv _ hcl) (hv _ hinst) (hv _ hini) X.2.2.2.2.2.2.2.2.1 hP hD hS (fun q h => Or.inr h) hc hfs hk hn hd (fun q H1 hP hD hS => h q p e s m below meth c X H1 locs ls hP hD hS hl)
theorem V.newa {atype : ArrayType} {ty : FieldType} {z : Int32} {N' : Nat} (a0 : vp_A) (t0 : Nat) (hw : Cond.arrayClass (newarray.typeOf atype) ∈ vT) (hty : newarray.typeOf atype = ty) (ht : (vTys cy)[t0]? = some (cy t0, ty)) (ha : ∀ cA : ClassId, vp_cell cA a0 = arrV cA N' (fun _ => defaultValue ty)) (hz : ¬ z < 0) (hN : z.toNatClampNeg = N') (hby : N' * componentBytes ty ≤ 536870912) (hk : k + 1 ≤ mc) (hn : n + N' ≤ ms) (hd : decode M.2.1 pc = .ok (.newarray atype, 2))
    (h : ∀ q : Nat, V l D cy M d mc ms av ws0 Q (pc + 2) lv (.ref q :: st) (ws ++ [(q, .inl (cy t0, a0))]) (k + 1) (n + N')) : V l D cy M d mc ms av ws0 Q pc lv (.int z :: st) ws k n := by
  intro p e s m below meth c X H locs ls hP hD hS hl
  have hv : ∀ w ∈ vT, w.before av.toArray s = true := fun w hw => X.2.2.2.2.2.2.2.1 w (List.mem_cons_of_mem _ hw)
  refine va_newa X.1 X.2.1 (hv _ hw) hty X.2.2.2.2.2.2.2.2.1 hP hD hS (fun q h => Or.inr h) ha hz hN hby hk hn hd (fun q cA H1 hK1 hP hD hS => ?_)
  have hc := vK_ty hK1 X.2.2.2.2.2.2.2.2.1 ht
  subst hc
  exact h q p e s m below meth c X H1 locs ls hP hD hS hl
theorem V.newq {C : String} {index : Nat} {z : Int32} {N' : Nat} (t0 : Nat) (hcl : Cond.classLink M.1.cls index C ∈ vT) (hov : ∀ U, (va_AO RX5 U ∧ va_AO RX7 U ∧ va_AO RX8 U) → va_AO C U) (ht : (vTys cy)[t0]? = some (cy t0, .object C)) (hz : ¬ z < 0) (hN : z.toNatClampNeg = N') (hby : N' * 4 ≤ 536870912) (hk : k + 1 ≤ mc) (hn : n + N' ≤ ms) (hd : decode M.2.1 pc = .ok (.anewarray index, 3))
    (h : ∀ q : Nat, V l D cy M d mc ms av ws0 Q (pc + 3) lv (.ref q :: st) (ws ++ [(q, .inl (cy t0, N', .inr (.inr (.inr (.inr (fun _ => none))))))]) (k + 1) (n + N')) : V l D cy M d mc ms av ws0 Q pc lv (.int z :: st) ws k n := by
  intro p e s m below meth c X H locs ls hP hD hS hl
  have hv : ∀ w ∈ vT, w.before av.toArray s = true := fun w hw => X.2.2.2.2.2.2.2.1 w (List.mem_cons_of_mem _ hw)
  refine va_newq X.1 X.2.1 X.2.2.2.2.1 (hv _ hcl) (hov s X.2.2.2.2.2.2.2.2.2.1) X.2.2.2.2.2.2.2.2.1 hP hD hS (fun q h => Or.inr h) hz hN hby hk hn hd (fun q cA H1 hK1 hP hD hS => ?_)
  have hc := vK_ty hK1 X.2.2.2.2.2.2.2.2.1 ht
  subst hc
  exact h q p e s m below meth c X H1 locs ls hP hD hS hl
theorem V.aast {a : Nat} {N t0 qk ci v : Nat} {r : vw_C} {vs : List Value} {f : Nat → Option Nat} {i : Int32} (hd : decode M.2.1 pc = .ok (.aastore, 1)) (q0 : Nat) (ha : ws[q0]? = some (a, .inl (cy t0, N, .inr (.inr (.inr (.inr f)))))) (ht : (vTys cy)[t0]? = some (cy t0, .object r.1)) (hv : ws[qk]? = some (v, .inr (ci, vs))) (hc : vCl[ci]? = some r) (hin : vp_in i N) (hw : ws.set q0 (a, .inl (cy t0, N, .inr (.inr (.inr (.inr (va_up f i.toNatClampNeg (some v))))))) = ws')
    (h : V l D cy M d mc ms av ws0 Q (pc + 1) lv st ws' k n) : V l D cy M d mc ms av ws0 Q pc lv (.ref v :: .int i :: .ref a :: st) ws k n := by
  intro p e s m below meth c X H locs ls hP hD hS hl
  subst hw
  exact va_astq X.1 X.2.1 X.2.2.2.2.2.2.2.2.1 hP hD hS q0 t0 qk ci ha ht hv hc hin hd (fun H1 locs1 hP hD hS => h p e s m below meth c X H1 locs1 ls hP hD hS hl)
end NEWS
theorem kp_obj : Cond.instanceMethod Lib.objectInit ∈ vT ∧ Cond.code Lib.objectInit ⟨#[0xb1]⟩ 1 none ∈ vT := ⟨vT_i 33 (by decide +kernel) (by decide +kernel), vT_i 34 (by decide +kernel) (by decide +kernel)⟩
theorem ka_0 : Cond.arrayClass .byte ∈ vT := vT_i 67 (by decide +kernel) (by decide +kernel)
theorem ka_1 : Cond.arrayClass .int ∈ vT := vT_i 68 (by decide +kernel) (by decide +kernel)
theorem ka_2 : Cond.arrayClass .long ∈ vT := vT_i 69 (by decide +kernel) (by decide +kernel)
theorem ka_3 : Cond.arrayClass .boolean ∈ vT := vT_i 283 (by decide +kernel) (by decide +kernel)
theorem ka_4 : ∀ U, (va_AO RX5 U ∧ va_AO RX7 U ∧ va_AO RX8 U) → va_AO RX5 U := fun _ h => h.1
theorem ka_5 : ∀ U, (va_AO RX5 U ∧ va_AO RX7 U ∧ va_AO RX8 U) → va_AO RX7 U := fun _ h => h.2.1
theorem ka_6 : ∀ U, (va_AO RX5 U ∧ va_AO RX7 U ∧ va_AO RX8 U) → va_AO RX8 U := fun _ h => h.2.2
