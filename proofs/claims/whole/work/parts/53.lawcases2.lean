/-! the law's cases with a flag, and those that may throw -/
theorem uP3 {a b o : va_W} : (a ++ (b ++ o)).Perm ((a ++ o) ++ b) := by
  rw [List.append_assoc]
  exact (List.perm_append_comm).append_left a
theorem uP4 {a b o : va_W} : ((a ++ o) ++ b).Perm (o ++ (a ++ b)) := by
  rw [← List.append_assoc]
  exact (List.perm_append_comm).append_right b
theorem uP5 {a b o : va_W} : (o ++ (a ++ b)).Perm (a ++ (b ++ o)) := by
  rw [← List.append_assoc a]
  exact List.perm_append_comm
theorem uCmp3 {v r : Int32} {f : Nat → Int64} (h : v = r) : lg_cmp (vp_updL f 0 v.toInt64 (0 : Int32).toNatClampNeg) r.toInt64 = 0 := by
  subst h
  have h1 : vp_updL f 0 v.toInt64 (0 : Int32).toNatClampNeg = v.toInt64 := rfl
  rw [h1]
  exact uCmp _
section LCASES2
variable {D : va_G} {cy : Nat → ClassId} {w0 : Cond} {l : Launch} {A : Nat → Prop} {Φ : State → Prop} {p : Program} {e : Env} {s : State} {m : MethodId} {args : Array Value} {below : List Frame} {meth : Method} {c : Code} {k n : Nat}
theorem law_tie0 {b L ax am ao : Nat} {xs : Nat → Int32} {i : Int32} {f : Nat → Int64} {fs gs : List Value} {wx wm wx' wm' : va_W} {r : Int32} {y1 : Int32} {y2 : Int32} (X : UX D cy ML w0 args A p s m meth c) (hA : ∀ q : Nat, s.heap.size ≤ q → A q) (hX : va_X b L xs s s.heap) (hbl : b < s.heap.size) (hbA : ¬ A b) (h1 : vp_in (i + 1) L) (e1 : xs (i + (1 : Int32)).toNatClampNeg = y1) (h2 : vp_in (i + 2) L) (e2 : xs (i + (2 : Int32)).toNatClampNeg = y2) (hz : y2 = 0) (hk0 : k + 0 ≤ room_1.cells) (hn0 : n + 0 ≤ room_1.slots) (hx0 : wx[0]? = some (ax, .inr (11, fs))) (hm0 : wm[0]? = some (am, .inr (12, gs))) (hMX : vMet l D cy MX11_tie 3 0 0 [.ref ax, .int y1, .int (0 : Int32)] wx (fun r0 w => r0 = some (.int r) ∧ w.Perm wx')) (hMM : vMet l D cy MX12_tie 6 0 0 [.ref am, .int y1, .int (0 : Int32)] wm (fun r0 w => r0 = some (.int r) ∧ w.Perm wm')) (hk : U D cy ML l room_1 A Φ p e s m args below meth c 1071 [(0, .ref b), (1, .ref ax), (2, .ref am), (3, .ref ao), (4, .int i)] [] (wx' ++ (wm' ++ vOut cy ao f)) k n) : U D cy ML l room_1 A Φ p e s m args below meth c 399 [(0, .ref b), (1, .ref ax), (2, .ref am), (3, .ref ao), (4, .int i)] [] (wx ++ (wm ++ vOut cy ao f)) k n := by
  refine U.aload_n X dL_399 rfl 1 rfl ?_
  refine U.aload_n X dL_400 rfl 0 rfl ?_
  refine U.iload X dL_401 4 rfl ?_
  refine U.iconst X (v := (1 : Int32)) dL_403 (by decide) ?_
  refine U.iadd X dL_404 ?_
  refine U.sld X hX hbl hbA h1 e1 dL_405 ?_
  refine U.aload_n X dL_406 rfl 0 rfl ?_
  refine U.iload X dL_407 4 rfl ?_
  refine U.iconst X (v := (2 : Int32)) dL_409 (by decide) ?_
  refine U.iadd X dL_410 ?_
  refine U.sld X hX hbl hbA h2 e2 dL_411 ?_
  refine U.if_eq X (tgt := 419) dL_412 (by decide) (fun _ => ?_) (fun q9 => absurd hz q9)
  refine U.iconst X (v := (0 : Int32)) dL_419 (by decide) ?_
  refine U.callVP X hA (As := [.int y1, .int (0 : Int32)]) (rest := []) (wr := wm ++ vOut cy ao f) hMX kvX11_tie klL_48 (List.Perm.refl _) hx0 rfl rfl rfl dL_420 ⟨by decide, by decide⟩ ⟨hk0, hn0⟩ (Nat.le_of_ble_eq_true rfl) (fun r9 w1 hq => ?_)
  obtain ⟨rfl, hw⟩ := hq
  refine U.perm (ws' := wm ++ (wx' ++ vOut cy ao f)) ((hw.append_left _).trans uP1) ?_
  refine U.aload_n X dL_423 rfl 2 rfl ?_
  refine U.aload_n X dL_424 rfl 0 rfl ?_
  refine U.iload X dL_425 4 rfl ?_
  refine U.iconst X (v := (1 : Int32)) dL_427 (by decide) ?_
  refine U.iadd X dL_428 ?_
  refine U.sld X hX hbl hbA h1 e1 dL_429 ?_
  refine U.aload_n X dL_430 rfl 0 rfl ?_
  refine U.iload X dL_431 4 rfl ?_
  refine U.iconst X (v := (2 : Int32)) dL_433 (by decide) ?_
  refine U.iadd X dL_434 ?_
  refine U.sld X hX hbl hbA h2 e2 dL_435 ?_
  refine U.if_eq X (tgt := 443) dL_436 (by decide) (fun _ => ?_) (fun q9 => absurd hz q9)
  refine U.iconst X (v := (0 : Int32)) dL_443 (by decide) ?_
  refine U.callVP X hA (As := [.int y1, .int (0 : Int32)]) (rest := [.int r]) (wr := wx' ++ vOut cy ao f) hMM kvX12_tie klL_52 (List.Perm.refl _) hm0 rfl rfl rfl dL_444 ⟨by decide, by decide⟩ ⟨hk0, hn0⟩ (Nat.le_of_ble_eq_true rfl) (fun r9 w1 hq => ?_)
  obtain ⟨rfl, hw⟩ := hq
  refine U.perm (ws' := wx' ++ (wm' ++ vOut cy ao f)) ((hw.append_left _).trans uP2) ?_
  exact U.icmp_eq X (tgt := 1071) dL_447 (by decide) (fun _ => hk) (fun q9 => absurd rfl q9)
theorem law_tie1 {b L ax am ao : Nat} {xs : Nat → Int32} {i : Int32} {f : Nat → Int64} {fs gs : List Value} {wx wm wx' wm' : va_W} {r : Int32} {y1 : Int32} {y2 : Int32} (X : UX D cy ML w0 args A p s m meth c) (hA : ∀ q : Nat, s.heap.size ≤ q → A q) (hX : va_X b L xs s s.heap) (hbl : b < s.heap.size) (hbA : ¬ A b) (h1 : vp_in (i + 1) L) (e1 : xs (i + (1 : Int32)).toNatClampNeg = y1) (h2 : vp_in (i + 2) L) (e2 : xs (i + (2 : Int32)).toNatClampNeg = y2) (hz : ¬ y2 = 0) (hk0 : k + 0 ≤ room_1.cells) (hn0 : n + 0 ≤ room_1.slots) (hx0 : wx[0]? = some (ax, .inr (11, fs))) (hm0 : wm[0]? = some (am, .inr (12, gs))) (hMX : vMet l D cy MX11_tie 3 0 0 [.ref ax, .int y1, .int (1 : Int32)] wx (fun r0 w => r0 = some (.int r) ∧ w.Perm wx')) (hMM : vMet l D cy MX12_tie 6 0 0 [.ref am, .int y1, .int (1 : Int32)] wm (fun r0 w => r0 = some (.int r) ∧ w.Perm wm')) (hk : U D cy ML l room_1 A Φ p e s m args below meth c 1071 [(0, .ref b), (1, .ref ax), (2, .ref am), (3, .ref ao), (4, .int i)] [] (wx' ++ (wm' ++ vOut cy ao f)) k n) : U D cy ML l room_1 A Φ p e s m args below meth c 399 [(0, .ref b), (1, .ref ax), (2, .ref am), (3, .ref ao), (4, .int i)] [] (wx ++ (wm ++ vOut cy ao f)) k n := by
  refine U.aload_n X dL_399 rfl 1 rfl ?_
  refine U.aload_n X dL_400 rfl 0 rfl ?_
  refine U.iload X dL_401 4 rfl ?_
  refine U.iconst X (v := (1 : Int32)) dL_403 (by decide) ?_
  refine U.iadd X dL_404 ?_
  refine U.sld X hX hbl hbA h1 e1 dL_405 ?_
  refine U.aload_n X dL_406 rfl 0 rfl ?_
  refine U.iload X dL_407 4 rfl ?_
  refine U.iconst X (v := (2 : Int32)) dL_409 (by decide) ?_
  refine U.iadd X dL_410 ?_
  refine U.sld X hX hbl hbA h2 e2 dL_411 ?_
  refine U.if_eq X (tgt := 419) dL_412 (by decide) (fun q9 => absurd q9 hz) (fun _ => ?_)
  refine U.iconst X (v := (1 : Int32)) dL_415 (by decide) ?_
  refine U.goto X (tgt := 420) dL_416 (by decide) ?_
  refine U.callVP X hA (As := [.int y1, .int (1 : Int32)]) (rest := []) (wr := wm ++ vOut cy ao f) hMX kvX11_tie klL_48 (List.Perm.refl _) hx0 rfl rfl rfl dL_420 ⟨by decide, by decide⟩ ⟨hk0, hn0⟩ (Nat.le_of_ble_eq_true rfl) (fun r9 w1 hq => ?_)
  obtain ⟨rfl, hw⟩ := hq
  refine U.perm (ws' := wm ++ (wx' ++ vOut cy ao f)) ((hw.append_left _).trans uP1) ?_
  refine U.aload_n X dL_423 rfl 2 rfl ?_
  refine U.aload_n X dL_424 rfl 0 rfl ?_
  refine U.iload X dL_425 4 rfl ?_
  refine U.iconst X (v := (1 : Int32)) dL_427 (by decide) ?_
  refine U.iadd X dL_428 ?_
  refine U.sld X hX hbl hbA h1 e1 dL_429 ?_
  refine U.aload_n X dL_430 rfl 0 rfl ?_
  refine U.iload X dL_431 4 rfl ?_
  refine U.iconst X (v := (2 : Int32)) dL_433 (by decide) ?_
  refine U.iadd X dL_434 ?_
  refine U.sld X hX hbl hbA h2 e2 dL_435 ?_
  refine U.if_eq X (tgt := 443) dL_436 (by decide) (fun q9 => absurd q9 hz) (fun _ => ?_)
  refine U.iconst X (v := (1 : Int32)) dL_439 (by decide) ?_
  refine U.goto X (tgt := 444) dL_440 (by decide) ?_
  refine U.callVP X hA (As := [.int y1, .int (1 : Int32)]) (rest := [.int r]) (wr := wx' ++ vOut cy ao f) hMM kvX12_tie klL_52 (List.Perm.refl _) hm0 rfl rfl rfl dL_444 ⟨by decide, by decide⟩ ⟨hk0, hn0⟩ (Nat.le_of_ble_eq_true rfl) (fun r9 w1 hq => ?_)
  obtain ⟨rfl, hw⟩ := hq
  refine U.perm (ws' := wx' ++ (wm' ++ vOut cy ao f)) ((hw.append_left _).trans uP2) ?_
  exact U.icmp_eq X (tgt := 1071) dL_447 (by decide) (fun _ => hk) (fun q9 => absurd rfl q9)
theorem law_mark0 {b L ax am ao : Nat} {xs : Nat → Int32} {i : Int32} {f : Nat → Int64} {fs gs : List Value} {wx wm wx' wm' : va_W} {r : Int32} {y1 : Int32} {y2 : Int32} (X : UX D cy ML w0 args A p s m meth c) (hA : ∀ q : Nat, s.heap.size ≤ q → A q) (hX : va_X b L xs s s.heap) (hbl : b < s.heap.size) (hbA : ¬ A b) (h1 : vp_in (i + 1) L) (e1 : xs (i + (1 : Int32)).toNatClampNeg = y1) (h2 : vp_in (i + 2) L) (e2 : xs (i + (2 : Int32)).toNatClampNeg = y2) (hz : y2 = 0) (hk0 : k + 0 ≤ room_1.cells) (hn0 : n + 0 ≤ room_1.slots) (hx0 : wx[0]? = some (ax, .inr (11, fs))) (hm0 : wm[0]? = some (am, .inr (12, gs))) (hMX : vMet l D cy MX11_mark 2 0 0 [.ref ax, .int y1, .int (0 : Int32)] wx (fun r0 w => r0 = some (.int r) ∧ w.Perm wx')) (hMM : vMet l D cy MX12_mark 1 0 0 [.ref am, .int y1, .int (0 : Int32)] wm (fun r0 w => r0 = some (.int r) ∧ w.Perm wm')) (hk : U D cy ML l room_1 A Φ p e s m args below meth c 1071 [(0, .ref b), (1, .ref ax), (2, .ref am), (3, .ref ao), (4, .int i)] [] (wx' ++ (wm' ++ vOut cy ao f)) k n) : U D cy ML l room_1 A Φ p e s m args below meth c 993 [(0, .ref b), (1, .ref ax), (2, .ref am), (3, .ref ao), (4, .int i)] [] (wx ++ (wm ++ vOut cy ao f)) k n := by
  refine U.aload_n X dL_993 rfl 1 rfl ?_
  refine U.aload_n X dL_994 rfl 0 rfl ?_
  refine U.iload X dL_995 4 rfl ?_
  refine U.iconst X (v := (1 : Int32)) dL_997 (by decide) ?_
  refine U.iadd X dL_998 ?_
  refine U.sld X hX hbl hbA h1 e1 dL_999 ?_
  refine U.aload_n X dL_1000 rfl 0 rfl ?_
  refine U.iload X dL_1001 4 rfl ?_
  refine U.iconst X (v := (2 : Int32)) dL_1003 (by decide) ?_
  refine U.iadd X dL_1004 ?_
  refine U.sld X hX hbl hbA h2 e2 dL_1005 ?_
  refine U.if_eq X (tgt := 1013) dL_1006 (by decide) (fun _ => ?_) (fun q9 => absurd hz q9)
  refine U.iconst X (v := (0 : Int32)) dL_1013 (by decide) ?_
  refine U.callVP X hA (As := [.int y1, .int (0 : Int32)]) (rest := []) (wr := wm ++ vOut cy ao f) hMX kvX11_mark klL_150 (List.Perm.refl _) hx0 rfl rfl rfl dL_1014 ⟨by decide, by decide⟩ ⟨hk0, hn0⟩ (Nat.le_of_ble_eq_true rfl) (fun r9 w1 hq => ?_)
  obtain ⟨rfl, hw⟩ := hq
  refine U.perm (ws' := wm ++ (wx' ++ vOut cy ao f)) ((hw.append_left _).trans uP1) ?_
  refine U.aload_n X dL_1017 rfl 2 rfl ?_
  refine U.aload_n X dL_1018 rfl 0 rfl ?_
  refine U.iload X dL_1019 4 rfl ?_
  refine U.iconst X (v := (1 : Int32)) dL_1021 (by decide) ?_
  refine U.iadd X dL_1022 ?_
  refine U.sld X hX hbl hbA h1 e1 dL_1023 ?_
  refine U.aload_n X dL_1024 rfl 0 rfl ?_
  refine U.iload X dL_1025 4 rfl ?_
  refine U.iconst X (v := (2 : Int32)) dL_1027 (by decide) ?_
  refine U.iadd X dL_1028 ?_
  refine U.sld X hX hbl hbA h2 e2 dL_1029 ?_
  refine U.if_eq X (tgt := 1037) dL_1030 (by decide) (fun _ => ?_) (fun q9 => absurd hz q9)
  refine U.iconst X (v := (0 : Int32)) dL_1037 (by decide) ?_
  refine U.callVP X hA (As := [.int y1, .int (0 : Int32)]) (rest := [.int r]) (wr := wx' ++ vOut cy ao f) hMM kvX12_mark klL_154 (List.Perm.refl _) hm0 rfl rfl rfl dL_1038 ⟨by decide, by decide⟩ ⟨hk0, hn0⟩ (Nat.le_of_ble_eq_true rfl) (fun r9 w1 hq => ?_)
  obtain ⟨rfl, hw⟩ := hq
  refine U.perm (ws' := wx' ++ (wm' ++ vOut cy ao f)) ((hw.append_left _).trans uP2) ?_
  exact U.icmp_eq X (tgt := 1071) dL_1041 (by decide) (fun _ => hk) (fun q9 => absurd rfl q9)
theorem law_mark1 {b L ax am ao : Nat} {xs : Nat → Int32} {i : Int32} {f : Nat → Int64} {fs gs : List Value} {wx wm wx' wm' : va_W} {r : Int32} {y1 : Int32} {y2 : Int32} (X : UX D cy ML w0 args A p s m meth c) (hA : ∀ q : Nat, s.heap.size ≤ q → A q) (hX : va_X b L xs s s.heap) (hbl : b < s.heap.size) (hbA : ¬ A b) (h1 : vp_in (i + 1) L) (e1 : xs (i + (1 : Int32)).toNatClampNeg = y1) (h2 : vp_in (i + 2) L) (e2 : xs (i + (2 : Int32)).toNatClampNeg = y2) (hz : ¬ y2 = 0) (hk0 : k + 0 ≤ room_1.cells) (hn0 : n + 0 ≤ room_1.slots) (hx0 : wx[0]? = some (ax, .inr (11, fs))) (hm0 : wm[0]? = some (am, .inr (12, gs))) (hMX : vMet l D cy MX11_mark 2 0 0 [.ref ax, .int y1, .int (1 : Int32)] wx (fun r0 w => r0 = some (.int r) ∧ w.Perm wx')) (hMM : vMet l D cy MX12_mark 1 0 0 [.ref am, .int y1, .int (1 : Int32)] wm (fun r0 w => r0 = some (.int r) ∧ w.Perm wm')) (hk : U D cy ML l room_1 A Φ p e s m args below meth c 1071 [(0, .ref b), (1, .ref ax), (2, .ref am), (3, .ref ao), (4, .int i)] [] (wx' ++ (wm' ++ vOut cy ao f)) k n) : U D cy ML l room_1 A Φ p e s m args below meth c 993 [(0, .ref b), (1, .ref ax), (2, .ref am), (3, .ref ao), (4, .int i)] [] (wx ++ (wm ++ vOut cy ao f)) k n := by
  refine U.aload_n X dL_993 rfl 1 rfl ?_
  refine U.aload_n X dL_994 rfl 0 rfl ?_
  refine U.iload X dL_995 4 rfl ?_
  refine U.iconst X (v := (1 : Int32)) dL_997 (by decide) ?_
  refine U.iadd X dL_998 ?_
  refine U.sld X hX hbl hbA h1 e1 dL_999 ?_
  refine U.aload_n X dL_1000 rfl 0 rfl ?_
  refine U.iload X dL_1001 4 rfl ?_
  refine U.iconst X (v := (2 : Int32)) dL_1003 (by decide) ?_
  refine U.iadd X dL_1004 ?_
  refine U.sld X hX hbl hbA h2 e2 dL_1005 ?_
  refine U.if_eq X (tgt := 1013) dL_1006 (by decide) (fun q9 => absurd q9 hz) (fun _ => ?_)
  refine U.iconst X (v := (1 : Int32)) dL_1009 (by decide) ?_
  refine U.goto X (tgt := 1014) dL_1010 (by decide) ?_
  refine U.callVP X hA (As := [.int y1, .int (1 : Int32)]) (rest := []) (wr := wm ++ vOut cy ao f) hMX kvX11_mark klL_150 (List.Perm.refl _) hx0 rfl rfl rfl dL_1014 ⟨by decide, by decide⟩ ⟨hk0, hn0⟩ (Nat.le_of_ble_eq_true rfl) (fun r9 w1 hq => ?_)
  obtain ⟨rfl, hw⟩ := hq
  refine U.perm (ws' := wm ++ (wx' ++ vOut cy ao f)) ((hw.append_left _).trans uP1) ?_
  refine U.aload_n X dL_1017 rfl 2 rfl ?_
  refine U.aload_n X dL_1018 rfl 0 rfl ?_
  refine U.iload X dL_1019 4 rfl ?_
  refine U.iconst X (v := (1 : Int32)) dL_1021 (by decide) ?_
  refine U.iadd X dL_1022 ?_
  refine U.sld X hX hbl hbA h1 e1 dL_1023 ?_
  refine U.aload_n X dL_1024 rfl 0 rfl ?_
  refine U.iload X dL_1025 4 rfl ?_
  refine U.iconst X (v := (2 : Int32)) dL_1027 (by decide) ?_
  refine U.iadd X dL_1028 ?_
  refine U.sld X hX hbl hbA h2 e2 dL_1029 ?_
  refine U.if_eq X (tgt := 1037) dL_1030 (by decide) (fun q9 => absurd q9 hz) (fun _ => ?_)
  refine U.iconst X (v := (1 : Int32)) dL_1033 (by decide) ?_
  refine U.goto X (tgt := 1038) dL_1034 (by decide) ?_
  refine U.callVP X hA (As := [.int y1, .int (1 : Int32)]) (rest := [.int r]) (wr := wx' ++ vOut cy ao f) hMM kvX12_mark klL_154 (List.Perm.refl _) hm0 rfl rfl rfl dL_1038 ⟨by decide, by decide⟩ ⟨hk0, hn0⟩ (Nat.le_of_ble_eq_true rfl) (fun r9 w1 hq => ?_)
  obtain ⟨rfl, hw⟩ := hq
  refine U.perm (ws' := wx' ++ (wm' ++ vOut cy ao f)) ((hw.append_left _).trans uP2) ?_
  exact U.icmp_eq X (tgt := 1071) dL_1041 (by decide) (fun _ => hk) (fun q9 => absurd rfl q9)
theorem law_sum1 {b L ax am ao : Nat} {xs : Nat → Int32} {i : Int32} {f : Nat → Int64} {gs gs' : List Value} {wx wm wx' wm' : va_W} {r v : Int32} {y1 : Int32} (X : UX D cy ML w0 args A p s m meth c) (hA : ∀ q : Nat, s.heap.size ≤ q → A q) (hX : va_X b L xs s s.heap) (hbl : b < s.heap.size) (hbA : ¬ A b) (h1 : vp_in (i + 1) L) (e1 : xs (i + (1 : Int32)).toNatClampNeg = y1) (hxs : vxS A s s.heap) (hk0 : k + 1 ≤ room_1.cells) (hn0 : n + 6 ≤ room_1.slots) (hk1 : k + 1 + 0 ≤ room_1.cells) (hn1 : n + 6 + 0 ≤ room_1.slots) (hm0 : wm[0]? = some (am, .inr (12, gs))) (hm1 : wm'[0]? = some (am, .inr (12, gs'))) (hML : vwMet l D cy ML_sum [(0, 9, 12, 13)] 8 1 6 [.ref ax, .int y1, .ref ao] (wx ++ vOut cy ao f) (vLQ cy (fun r0 w => ∃ v0 : Int32, (some v) = some v0 ∧ r0 = some (.int v0) ∧ w.Perm wx') (fun w => (some v) = none ∧ w.Perm wx') ao f)) (hMM : vMet l D cy MX12_sum 2 0 0 [.ref am, .int y1] wm (fun r0 w => r0 = some (.int r) ∧ w.Perm wm')) (hMT : vMet l D cy MX12_thrown 0 0 0 [.ref am] wm' (fun r0 w => r0 = some (.int (0 : Int32)) ∧ w.Perm wm')) (hr : v = r) (hk : U D cy ML l room_1 A Φ p e s m args below meth c 1071 [(0, .ref b), (1, .ref ax), (2, .ref am), (3, .ref ao), (4, .int i)] [] (wx' ++ (wm' ++ vOut cy ao (vp_updL f 0 v.toInt64))) (k + 1) (n + 6)) : U D cy ML l room_1 A Φ p e s m args below meth c 617 [(0, .ref b), (1, .ref ax), (2, .ref am), (3, .ref ao), (4, .int i)] [] (wx ++ (wm ++ vOut cy ao f)) k n := by
  refine U.aload_n X dL_617 rfl 1 rfl ?_
  refine U.aload_n X dL_618 rfl 0 rfl ?_
  refine U.iload X dL_619 4 rfl ?_
  refine U.iconst X (v := (1 : Int32)) dL_621 (by decide) ?_
  refine U.iadd X dL_622 ?_
  refine U.sld X hX hbl hbA h1 e1 dL_623 ?_
  refine U.aload_n X dL_624 rfl 3 rfl ?_
  refine U.callW X hA hxs (As := [.ref ax, .int y1, .ref ao]) (rest := []) (wc := wx ++ vOut cy ao f) (wr := wm) hML kwL_sum kL_90 uP3 rfl dL_625 ⟨by decide, by decide⟩ ⟨hk0, hn0⟩ (Nat.le_of_ble_eq_true rfl) (fun r9 w1 hq => ?_)
  rcases hq with ⟨v9, w9, ⟨v8, hz1, hz2, hw⟩, hr9, rfl⟩ | ⟨w9, ⟨hz1, hw⟩, hr9, rfl⟩
  case inr => exact absurd hz1 (by simp)
  cases hz1; cases hz2; cases hr9
  refine U.perm (ws' := wm ++ (wx' ++ vOut cy ao (vp_updL f 0 v.toInt64))) (((hw.append_left _).append_left wm).trans (List.perm_append_comm.append_left wm)) ?_
  refine U.istore X (lv' := [(5, .int (0 : Int32)), (0, .ref b), (1, .ref ax), (2, .ref am), (3, .ref ao), (4, .int i)]) dL_628 (by decide) rfl ?_
  refine U.aload_n X dL_630 rfl 3 rfl ?_
  refine U.aload_n X dL_631 rfl 1 rfl ?_
  refine U.iload X dL_632 5 rfl ?_
  refine U.iconst X (v := (1 : Int32)) dL_634 (by decide) ?_
  refine U.iadd X dL_635 ?_
  refine U.sld X hX hbl hbA h1 e1 dL_636 ?_
  refine U.callVP X hA (As := [.int y1]) (rest := []) (wc := wm) (wr := wx' ++ vOut cy ao (vp_updL f 0 v.toInt64)) hMM kvX12_sum klL_95 (List.Perm.refl _) hm0 rfl rfl rfl dL_637 ⟨by decide, by decide⟩ ⟨hk1, hn1⟩ (Nat.le_of_ble_eq_true rfl) (fun r9 w1 hq => ?_)
  obtain ⟨rfl, hw⟩ := hq
  refine U.perm (ws' := wm' ++ (wx' ++ vOut cy ao (vp_updL f 0 v.toInt64))) ((hw.append_left _).trans List.perm_append_comm) ?_
  refine U.istore X (lv' := [(6, .int r), (5, .int (0 : Int32)), (0, .ref b), (1, .ref ax), (2, .ref am), (3, .ref ao), (4, .int i)]) dL_640 (by decide) rfl ?_
  refine U.aload_n X dL_642 rfl 4 rfl ?_
  refine U.callVP X hA (As := []) (rest := []) (wc := wm') (wr := wx' ++ vOut cy ao (vp_updL f 0 v.toInt64)) hMT kvX12_thrown klL_96 (List.Perm.refl _) hm1 rfl rfl rfl dL_643 ⟨by decide, by decide⟩ ⟨hk1, hn1⟩ (Nat.le_of_ble_eq_true rfl) (fun r9 w1 hq => ?_)
  obtain ⟨rfl, hw⟩ := hq
  refine U.perm (ws' := vOut cy ao (vp_updL f 0 v.toInt64) ++ (wx' ++ wm')) ((hw.append_left _).trans uP4) ?_
  refine U.iload X dL_646 1 rfl ?_
  refine U.icmp_eq X (tgt := 653) dL_648 (by decide) (fun _ => ?_) (fun q9 => absurd rfl q9)
  refine U.iload X dL_653 1 rfl ?_
  refine U.if_ne X (tgt := 670) dL_655 (by decide) (fun q9 => absurd rfl q9) (fun _ => ?_)
  refine U.aload_n X dL_658 rfl 5 rfl ?_
  refine U.iconst X (v := (0 : Int32)) dL_659 (by decide) ?_
  refine U.lald X dL_660 0 rfl (show ¬ ((0 : Int32) < 0 ∨ 1 ≤ (0 : Int32).toNatClampNeg) by decide) ?_
  refine U.iload X dL_661 0 rfl ?_
  refine U.i2l X dL_663 ?_
  refine U.lcmp X dL_664 ?_
  refine U.if_eq X (tgt := 670) dL_665 (by decide) (fun _ => ?_) (fun q9 => absurd (uCmp3 hr) q9)
  refine U.goto X (tgt := 1071) dL_670 (by decide) ?_
  refine U.lvs [2, 3, 4, 5, 6] rfl ?_
  refine U.perm (ws' := wx' ++ (wm' ++ vOut cy ao (vp_updL f 0 v.toInt64))) uP5 ?_
  exact hk
theorem law_sum0 {b L ax am ao : Nat} {xs : Nat → Int32} {i : Int32} {f : Nat → Int64} {gs gs' : List Value} {wx wm wx' wm' : va_W} {r : Int32} {y1 : Int32} (X : UX D cy ML w0 args A p s m meth c) (hA : ∀ q : Nat, s.heap.size ≤ q → A q) (hX : va_X b L xs s s.heap) (hbl : b < s.heap.size) (hbA : ¬ A b) (h1 : vp_in (i + 1) L) (e1 : xs (i + (1 : Int32)).toNatClampNeg = y1) (hxs : vxS A s s.heap) (hk0 : k + 1 ≤ room_1.cells) (hn0 : n + 6 ≤ room_1.slots) (hk1 : k + 1 + 0 ≤ room_1.cells) (hn1 : n + 6 + 0 ≤ room_1.slots) (hm0 : wm[0]? = some (am, .inr (12, gs))) (hm1 : wm'[0]? = some (am, .inr (12, gs'))) (hML : vwMet l D cy ML_sum [(0, 9, 12, 13)] 8 1 6 [.ref ax, .int y1, .ref ao] (wx ++ vOut cy ao f) (vLQ cy (fun r0 w => ∃ v0 : Int32, (none : Option Int32) = some v0 ∧ r0 = some (.int v0) ∧ w.Perm wx') (fun w => (none : Option Int32) = none ∧ w.Perm wx') ao f)) (hMM : vMet l D cy MX12_sum 2 0 0 [.ref am, .int y1] wm (fun r0 w => r0 = some (.int r) ∧ w.Perm wm')) (hMT : vMet l D cy MX12_thrown 0 0 0 [.ref am] wm' (fun r0 w => r0 = some (.int (1 : Int32)) ∧ w.Perm wm')) (hk : U D cy ML l room_1 A Φ p e s m args below meth c 1071 [(0, .ref b), (1, .ref ax), (2, .ref am), (3, .ref ao), (4, .int i)] [] (wx' ++ (wm' ++ vOut cy ao f)) (k + 1) (n + 6)) : U D cy ML l room_1 A Φ p e s m args below meth c 617 [(0, .ref b), (1, .ref ax), (2, .ref am), (3, .ref ao), (4, .int i)] [] (wx ++ (wm ++ vOut cy ao f)) k n := by
  refine U.aload_n X dL_617 rfl 1 rfl ?_
  refine U.aload_n X dL_618 rfl 0 rfl ?_
  refine U.iload X dL_619 4 rfl ?_
  refine U.iconst X (v := (1 : Int32)) dL_621 (by decide) ?_
  refine U.iadd X dL_622 ?_
  refine U.sld X hX hbl hbA h1 e1 dL_623 ?_
  refine U.aload_n X dL_624 rfl 3 rfl ?_
  refine U.callW X hA hxs (As := [.ref ax, .int y1, .ref ao]) (rest := []) (wc := wx ++ vOut cy ao f) (wr := wm) hML kwL_sum kL_90 uP3 rfl dL_625 ⟨by decide, by decide⟩ ⟨hk0, hn0⟩ (Nat.le_of_ble_eq_true rfl) (fun r9 w1 hq => ?_)
  rcases hq with ⟨v9, w9, ⟨v8, hz1, hz2, hw⟩, hr9, rfl⟩ | ⟨w9, ⟨hz1, hw⟩, hr9, rfl⟩
  case inl => exact absurd hz1 (by simp)
  cases hr9
  refine U.perm (ws' := wm ++ (wx' ++ vOut cy ao f)) (((hw.append_left _).append_left wm).trans (List.perm_append_comm.append_left wm)) ?_
  refine U.istore X (lv' := [(5, .int (1 : Int32)), (0, .ref b), (1, .ref ax), (2, .ref am), (3, .ref ao), (4, .int i)]) dL_628 (by decide) rfl ?_
  refine U.aload_n X dL_630 rfl 3 rfl ?_
  refine U.aload_n X dL_631 rfl 1 rfl ?_
  refine U.iload X dL_632 5 rfl ?_
  refine U.iconst X (v := (1 : Int32)) dL_634 (by decide) ?_
  refine U.iadd X dL_635 ?_
  refine U.sld X hX hbl hbA h1 e1 dL_636 ?_
  refine U.callVP X hA (As := [.int y1]) (rest := []) (wc := wm) (wr := wx' ++ vOut cy ao f) hMM kvX12_sum klL_95 (List.Perm.refl _) hm0 rfl rfl rfl dL_637 ⟨by decide, by decide⟩ ⟨hk1, hn1⟩ (Nat.le_of_ble_eq_true rfl) (fun r9 w1 hq => ?_)
  obtain ⟨rfl, hw⟩ := hq
  refine U.perm (ws' := wm' ++ (wx' ++ vOut cy ao f)) ((hw.append_left _).trans List.perm_append_comm) ?_
  refine U.istore X (lv' := [(6, .int r), (5, .int (1 : Int32)), (0, .ref b), (1, .ref ax), (2, .ref am), (3, .ref ao), (4, .int i)]) dL_640 (by decide) rfl ?_
  refine U.aload_n X dL_642 rfl 4 rfl ?_
  refine U.callVP X hA (As := []) (rest := []) (wc := wm') (wr := wx' ++ vOut cy ao f) hMT kvX12_thrown klL_96 (List.Perm.refl _) hm1 rfl rfl rfl dL_643 ⟨by decide, by decide⟩ ⟨hk1, hn1⟩ (Nat.le_of_ble_eq_true rfl) (fun r9 w1 hq => ?_)
  obtain ⟨rfl, hw⟩ := hq
  refine U.perm (ws' := vOut cy ao f ++ (wx' ++ wm')) ((hw.append_left _).trans uP4) ?_
  refine U.iload X dL_646 1 rfl ?_
  refine U.icmp_eq X (tgt := 653) dL_648 (by decide) (fun _ => ?_) (fun q9 => absurd rfl q9)
  refine U.iload X dL_653 1 rfl ?_
  refine U.if_ne X (tgt := 670) dL_655 (by decide) (fun _ => ?_) (fun q9 => absurd q9 (by decide))
  refine U.goto X (tgt := 1071) dL_670 (by decide) ?_
  refine U.lvs [2, 3, 4, 5, 6] rfl ?_
  refine U.perm (ws' := wx' ++ (wm' ++ vOut cy ao f)) uP5 ?_
  exact hk
theorem law_rests1 {b L ax am ao : Nat} {xs : Nat → Int32} {i : Int32} {f : Nat → Int64} {gs gs' : List Value} {wx wm wx' wm' : va_W} {r v : Int32} {y1 : Int32} {y2 : Int32} {y3 : Int32} {y4 : Int32} (X : UX D cy ML w0 args A p s m meth c) (hA : ∀ q : Nat, s.heap.size ≤ q → A q) (hX : va_X b L xs s s.heap) (hbl : b < s.heap.size) (hbA : ¬ A b) (h1 : vp_in (i + 1) L) (e1 : xs (i + (1 : Int32)).toNatClampNeg = y1) (h2 : vp_in (i + 2) L) (e2 : xs (i + (2 : Int32)).toNatClampNeg = y2) (h3 : vp_in (i + 3) L) (e3 : xs (i + (3 : Int32)).toNatClampNeg = y3) (h4 : vp_in (i + 4) L) (e4 : xs (i + (4 : Int32)).toNatClampNeg = y4) (hxs : vxS A s s.heap) (hk0 : k + 1 ≤ room_1.cells) (hn0 : n + 6 ≤ room_1.slots) (hk1 : k + 1 + 0 ≤ room_1.cells) (hn1 : n + 6 + 0 ≤ room_1.slots) (hm0 : wm[0]? = some (am, .inr (12, gs))) (hm1 : wm'[0]? = some (am, .inr (12, gs'))) (hML : vwMet l D cy ML_rests [(0, 14, 17, 13)] 8 1 6 [.ref ax, .int y1, .int y2, .int y3, .int y4, .ref ao] (wx ++ vOut cy ao f) (vLQ cy (fun r0 w => ∃ v0 : Int32, (some v) = some v0 ∧ r0 = some (.int v0) ∧ w.Perm wx') (fun w => (some v) = none ∧ w.Perm wx') ao f)) (hMM : vMet l D cy MX12_rests 2 0 0 [.ref am, .int y1, .int y2, .int y3, .int y4] wm (fun r0 w => r0 = some (.int r) ∧ w.Perm wm')) (hMT : vMet l D cy MX12_thrown 0 0 0 [.ref am] wm' (fun r0 w => r0 = some (.int (0 : Int32)) ∧ w.Perm wm')) (hr : v = r) (hk : U D cy ML l room_1 A Φ p e s m args below meth c 1071 [(0, .ref b), (1, .ref ax), (2, .ref am), (3, .ref ao), (4, .int i)] [] (wx' ++ (wm' ++ vOut cy ao (vp_updL f 0 v.toInt64))) (k + 1) (n + 6)) : U D cy ML l room_1 A Φ p e s m args below meth c 852 [(0, .ref b), (1, .ref ax), (2, .ref am), (3, .ref ao), (4, .int i)] [] (wx ++ (wm ++ vOut cy ao f)) k n := by
  refine U.aload_n X dL_852 rfl 1 rfl ?_
  refine U.aload_n X dL_853 rfl 0 rfl ?_
  refine U.iload X dL_854 4 rfl ?_
  refine U.iconst X (v := (1 : Int32)) dL_856 (by decide) ?_
  refine U.iadd X dL_857 ?_
  refine U.sld X hX hbl hbA h1 e1 dL_858 ?_
  refine U.aload_n X dL_859 rfl 0 rfl ?_
  refine U.iload X dL_860 4 rfl ?_
  refine U.iconst X (v := (2 : Int32)) dL_862 (by decide) ?_
  refine U.iadd X dL_863 ?_
  refine U.sld X hX hbl hbA h2 e2 dL_864 ?_
  refine U.aload_n X dL_865 rfl 0 rfl ?_
  refine U.iload X dL_866 4 rfl ?_
  refine U.iconst X (v := (3 : Int32)) dL_868 (by decide) ?_
  refine U.iadd X dL_869 ?_
  refine U.sld X hX hbl hbA h3 e3 dL_870 ?_
  refine U.aload_n X dL_871 rfl 0 rfl ?_
  refine U.iload X dL_872 4 rfl ?_
  refine U.iconst X (v := (4 : Int32)) dL_874 (by decide) ?_
  refine U.iadd X dL_875 ?_
  refine U.sld X hX hbl hbA h4 e4 dL_876 ?_
  refine U.aload_n X dL_877 rfl 3 rfl ?_
  refine U.callW X hA hxs (As := [.ref ax, .int y1, .int y2, .int y3, .int y4, .ref ao]) (rest := []) (wc := wx ++ vOut cy ao f) (wr := wm) hML kwL_rests (show Cond.methodLink RL 141 yL_rests ∈ vT from vT_mem (by decide +kernel) (by decide +kernel)) uP3 rfl dL_878 ⟨by decide, by decide⟩ ⟨hk0, hn0⟩ (Nat.le_of_ble_eq_true rfl) (fun r9 w1 hq => ?_)
  rcases hq with ⟨v9, w9, ⟨v8, hz1, hz2, hw⟩, hr9, rfl⟩ | ⟨w9, ⟨hz1, hw⟩, hr9, rfl⟩
  case inr => exact absurd hz1 (by simp)
  cases hz1; cases hz2; cases hr9
  refine U.perm (ws' := wm ++ (wx' ++ vOut cy ao (vp_updL f 0 v.toInt64))) (((hw.append_left _).append_left wm).trans (List.perm_append_comm.append_left wm)) ?_
  refine U.istore X (lv' := [(5, .int (0 : Int32)), (0, .ref b), (1, .ref ax), (2, .ref am), (3, .ref ao), (4, .int i)]) dL_881 (by decide) rfl ?_
  refine U.aload_n X dL_883 rfl 3 rfl ?_
  refine U.aload_n X dL_884 rfl 1 rfl ?_
  refine U.iload X dL_885 5 rfl ?_
  refine U.iconst X (v := (1 : Int32)) dL_887 (by decide) ?_
  refine U.iadd X dL_888 ?_
  refine U.sld X hX hbl hbA h1 e1 dL_889 ?_
  refine U.aload_n X dL_890 rfl 1 rfl ?_
  refine U.iload X dL_891 5 rfl ?_
  refine U.iconst X (v := (2 : Int32)) dL_893 (by decide) ?_
  refine U.iadd X dL_894 ?_
  refine U.sld X hX hbl hbA h2 e2 dL_895 ?_
  refine U.aload_n X dL_896 rfl 1 rfl ?_
  refine U.iload X dL_897 5 rfl ?_
  refine U.iconst X (v := (3 : Int32)) dL_899 (by decide) ?_
  refine U.iadd X dL_900 ?_
  refine U.sld X hX hbl hbA h3 e3 dL_901 ?_
  refine U.aload_n X dL_902 rfl 1 rfl ?_
  refine U.iload X dL_903 5 rfl ?_
  refine U.iconst X (v := (4 : Int32)) dL_905 (by decide) ?_
  refine U.iadd X dL_906 ?_
  refine U.sld X hX hbl hbA h4 e4 dL_907 ?_
  refine U.callVP X hA (As := [.int y1, .int y2, .int y3, .int y4]) (rest := []) (wc := wm) (wr := wx' ++ vOut cy ao (vp_updL f 0 v.toInt64)) hMM kvX12_rests klL_144 (List.Perm.refl _) hm0 rfl rfl rfl dL_908 ⟨by decide, by decide⟩ ⟨hk1, hn1⟩ (Nat.le_of_ble_eq_true rfl) (fun r9 w1 hq => ?_)
  obtain ⟨rfl, hw⟩ := hq
  refine U.perm (ws' := wm' ++ (wx' ++ vOut cy ao (vp_updL f 0 v.toInt64))) ((hw.append_left _).trans List.perm_append_comm) ?_
  refine U.istore X (lv' := [(6, .int r), (5, .int (0 : Int32)), (0, .ref b), (1, .ref ax), (2, .ref am), (3, .ref ao), (4, .int i)]) dL_911 (by decide) rfl ?_
  refine U.aload_n X dL_913 rfl 4 rfl ?_
  refine U.callVP X hA (As := []) (rest := []) (wc := wm') (wr := wx' ++ vOut cy ao (vp_updL f 0 v.toInt64)) hMT kvX12_thrown klL_96 (List.Perm.refl _) hm1 rfl rfl rfl dL_914 ⟨by decide, by decide⟩ ⟨hk1, hn1⟩ (Nat.le_of_ble_eq_true rfl) (fun r9 w1 hq => ?_)
  obtain ⟨rfl, hw⟩ := hq
  refine U.perm (ws' := vOut cy ao (vp_updL f 0 v.toInt64) ++ (wx' ++ wm')) ((hw.append_left _).trans uP4) ?_
  refine U.iload X dL_917 1 rfl ?_
  refine U.icmp_eq X (tgt := 924) dL_919 (by decide) (fun _ => ?_) (fun q9 => absurd rfl q9)
  refine U.iload X dL_924 1 rfl ?_
  refine U.if_ne X (tgt := 941) dL_926 (by decide) (fun q9 => absurd rfl q9) (fun _ => ?_)
  refine U.aload_n X dL_929 rfl 5 rfl ?_
  refine U.iconst X (v := (0 : Int32)) dL_930 (by decide) ?_
  refine U.lald X dL_931 0 rfl (show ¬ ((0 : Int32) < 0 ∨ 1 ≤ (0 : Int32).toNatClampNeg) by decide) ?_
  refine U.iload X dL_932 0 rfl ?_
  refine U.i2l X dL_934 ?_
  refine U.lcmp X dL_935 ?_
  refine U.if_eq X (tgt := 941) dL_936 (by decide) (fun _ => ?_) (fun q9 => absurd (uCmp3 hr) q9)
  refine U.goto X (tgt := 1071) dL_941 (by decide) ?_
  refine U.lvs [2, 3, 4, 5, 6] rfl ?_
  refine U.perm (ws' := wx' ++ (wm' ++ vOut cy ao (vp_updL f 0 v.toInt64))) uP5 ?_
  exact hk
theorem law_rests0 {b L ax am ao : Nat} {xs : Nat → Int32} {i : Int32} {f : Nat → Int64} {gs gs' : List Value} {wx wm wx' wm' : va_W} {r : Int32} {y1 : Int32} {y2 : Int32} {y3 : Int32} {y4 : Int32} (X : UX D cy ML w0 args A p s m meth c) (hA : ∀ q : Nat, s.heap.size ≤ q → A q) (hX : va_X b L xs s s.heap) (hbl : b < s.heap.size) (hbA : ¬ A b) (h1 : vp_in (i + 1) L) (e1 : xs (i + (1 : Int32)).toNatClampNeg = y1) (h2 : vp_in (i + 2) L) (e2 : xs (i + (2 : Int32)).toNatClampNeg = y2) (h3 : vp_in (i + 3) L) (e3 : xs (i + (3 : Int32)).toNatClampNeg = y3) (h4 : vp_in (i + 4) L) (e4 : xs (i + (4 : Int32)).toNatClampNeg = y4) (hxs : vxS A s s.heap) (hk0 : k + 1 ≤ room_1.cells) (hn0 : n + 6 ≤ room_1.slots) (hk1 : k + 1 + 0 ≤ room_1.cells) (hn1 : n + 6 + 0 ≤ room_1.slots) (hm0 : wm[0]? = some (am, .inr (12, gs))) (hm1 : wm'[0]? = some (am, .inr (12, gs'))) (hML : vwMet l D cy ML_rests [(0, 14, 17, 13)] 8 1 6 [.ref ax, .int y1, .int y2, .int y3, .int y4, .ref ao] (wx ++ vOut cy ao f) (vLQ cy (fun r0 w => ∃ v0 : Int32, (none : Option Int32) = some v0 ∧ r0 = some (.int v0) ∧ w.Perm wx') (fun w => (none : Option Int32) = none ∧ w.Perm wx') ao f)) (hMM : vMet l D cy MX12_rests 2 0 0 [.ref am, .int y1, .int y2, .int y3, .int y4] wm (fun r0 w => r0 = some (.int r) ∧ w.Perm wm')) (hMT : vMet l D cy MX12_thrown 0 0 0 [.ref am] wm' (fun r0 w => r0 = some (.int (1 : Int32)) ∧ w.Perm wm')) (hk : U D cy ML l room_1 A Φ p e s m args below meth c 1071 [(0, .ref b), (1, .ref ax), (2, .ref am), (3, .ref ao), (4, .int i)] [] (wx' ++ (wm' ++ vOut cy ao f)) (k + 1) (n + 6)) : U D cy ML l room_1 A Φ p e s m args below meth c 852 [(0, .ref b), (1, .ref ax), (2, .ref am), (3, .ref ao), (4, .int i)] [] (wx ++ (wm ++ vOut cy ao f)) k n := by
  refine U.aload_n X dL_852 rfl 1 rfl ?_
  refine U.aload_n X dL_853 rfl 0 rfl ?_
  refine U.iload X dL_854 4 rfl ?_
  refine U.iconst X (v := (1 : Int32)) dL_856 (by decide) ?_
  refine U.iadd X dL_857 ?_
  refine U.sld X hX hbl hbA h1 e1 dL_858 ?_
  refine U.aload_n X dL_859 rfl 0 rfl ?_
  refine U.iload X dL_860 4 rfl ?_
  refine U.iconst X (v := (2 : Int32)) dL_862 (by decide) ?_
  refine U.iadd X dL_863 ?_
  refine U.sld X hX hbl hbA h2 e2 dL_864 ?_
  refine U.aload_n X dL_865 rfl 0 rfl ?_
  refine U.iload X dL_866 4 rfl ?_
  refine U.iconst X (v := (3 : Int32)) dL_868 (by decide) ?_
  refine U.iadd X dL_869 ?_
  refine U.sld X hX hbl hbA h3 e3 dL_870 ?_
  refine U.aload_n X dL_871 rfl 0 rfl ?_
  refine U.iload X dL_872 4 rfl ?_
  refine U.iconst X (v := (4 : Int32)) dL_874 (by decide) ?_
  refine U.iadd X dL_875 ?_
  refine U.sld X hX hbl hbA h4 e4 dL_876 ?_
  refine U.aload_n X dL_877 rfl 3 rfl ?_
  refine U.callW X hA hxs (As := [.ref ax, .int y1, .int y2, .int y3, .int y4, .ref ao]) (rest := []) (wc := wx ++ vOut cy ao f) (wr := wm) hML kwL_rests (show Cond.methodLink RL 141 yL_rests ∈ vT from vT_mem (by decide +kernel) (by decide +kernel)) uP3 rfl dL_878 ⟨by decide, by decide⟩ ⟨hk0, hn0⟩ (Nat.le_of_ble_eq_true rfl) (fun r9 w1 hq => ?_)
  rcases hq with ⟨v9, w9, ⟨v8, hz1, hz2, hw⟩, hr9, rfl⟩ | ⟨w9, ⟨hz1, hw⟩, hr9, rfl⟩
  case inl => exact absurd hz1 (by simp)
  cases hr9
  refine U.perm (ws' := wm ++ (wx' ++ vOut cy ao f)) (((hw.append_left _).append_left wm).trans (List.perm_append_comm.append_left wm)) ?_
  refine U.istore X (lv' := [(5, .int (1 : Int32)), (0, .ref b), (1, .ref ax), (2, .ref am), (3, .ref ao), (4, .int i)]) dL_881 (by decide) rfl ?_
  refine U.aload_n X dL_883 rfl 3 rfl ?_
  refine U.aload_n X dL_884 rfl 1 rfl ?_
  refine U.iload X dL_885 5 rfl ?_
  refine U.iconst X (v := (1 : Int32)) dL_887 (by decide) ?_
  refine U.iadd X dL_888 ?_
  refine U.sld X hX hbl hbA h1 e1 dL_889 ?_
  refine U.aload_n X dL_890 rfl 1 rfl ?_
  refine U.iload X dL_891 5 rfl ?_
  refine U.iconst X (v := (2 : Int32)) dL_893 (by decide) ?_
  refine U.iadd X dL_894 ?_
  refine U.sld X hX hbl hbA h2 e2 dL_895 ?_
  refine U.aload_n X dL_896 rfl 1 rfl ?_
  refine U.iload X dL_897 5 rfl ?_
  refine U.iconst X (v := (3 : Int32)) dL_899 (by decide) ?_
  refine U.iadd X dL_900 ?_
  refine U.sld X hX hbl hbA h3 e3 dL_901 ?_
  refine U.aload_n X dL_902 rfl 1 rfl ?_
  refine U.iload X dL_903 5 rfl ?_
  refine U.iconst X (v := (4 : Int32)) dL_905 (by decide) ?_
  refine U.iadd X dL_906 ?_
  refine U.sld X hX hbl hbA h4 e4 dL_907 ?_
  refine U.callVP X hA (As := [.int y1, .int y2, .int y3, .int y4]) (rest := []) (wc := wm) (wr := wx' ++ vOut cy ao f) hMM kvX12_rests klL_144 (List.Perm.refl _) hm0 rfl rfl rfl dL_908 ⟨by decide, by decide⟩ ⟨hk1, hn1⟩ (Nat.le_of_ble_eq_true rfl) (fun r9 w1 hq => ?_)
  obtain ⟨rfl, hw⟩ := hq
  refine U.perm (ws' := wm' ++ (wx' ++ vOut cy ao f)) ((hw.append_left _).trans List.perm_append_comm) ?_
  refine U.istore X (lv' := [(6, .int r), (5, .int (1 : Int32)), (0, .ref b), (1, .ref ax), (2, .ref am), (3, .ref ao), (4, .int i)]) dL_911 (by decide) rfl ?_
  refine U.aload_n X dL_913 rfl 4 rfl ?_
  refine U.callVP X hA (As := []) (rest := []) (wc := wm') (wr := wx' ++ vOut cy ao f) hMT kvX12_thrown klL_96 (List.Perm.refl _) hm1 rfl rfl rfl dL_914 ⟨by decide, by decide⟩ ⟨hk1, hn1⟩ (Nat.le_of_ble_eq_true rfl) (fun r9 w1 hq => ?_)
  obtain ⟨rfl, hw⟩ := hq
  refine U.perm (ws' := vOut cy ao f ++ (wx' ++ wm')) ((hw.append_left _).trans uP4) ?_
  refine U.iload X dL_917 1 rfl ?_
  refine U.icmp_eq X (tgt := 924) dL_919 (by decide) (fun _ => ?_) (fun q9 => absurd rfl q9)
  refine U.iload X dL_924 1 rfl ?_
  refine U.if_ne X (tgt := 941) dL_926 (by decide) (fun _ => ?_) (fun q9 => absurd q9 (by decide))
  refine U.goto X (tgt := 1071) dL_941 (by decide) ?_
  refine U.lvs [2, 3, 4, 5, 6] rfl ?_
  refine U.perm (ws' := wx' ++ (wm' ++ vOut cy ao f)) uP5 ?_
  exact hk
end LCASES2
