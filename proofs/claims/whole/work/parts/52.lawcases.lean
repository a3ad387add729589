/-! the law's cases -/
/-- two ints as one long -/
abbrev lw2 (a b : Int32) : Int64 := (a.toInt64 <<< ((32 : Int32).toInt64 &&& 63)) ||| (b.toInt64 &&& 4294967295)
theorem uP1 {a b o : va_W} : ((b ++ o) ++ a).Perm (b ++ (a ++ o)) := by
  rw [List.append_assoc]
  exact (List.perm_append_comm).append_left b
theorem uP2 {a b o : va_W} : ((a ++ o) ++ b).Perm (a ++ (b ++ o)) := by
  rw [List.append_assoc]
  exact (List.perm_append_comm).append_left a
theorem uCmp (r : Int64) : lg_cmp r r = 0 := by simp [lg_cmp]
section LCASES
variable {D : va_G} {cy : Nat → ClassId} {w0 : Cond} {l : Launch} {A : Nat → Prop} {Φ : State → Prop} {p : Program} {e : Env} {s : State} {m : MethodId} {args : Array Value} {below : List Frame} {meth : Method} {c : Code} {k n : Nat}
theorem law_feed {b L ax am ao : Nat} {xs : Nat → Int32} {i : Int32} {f : Nat → Int64} {fs gs : List Value} {wx wm wx' wm' : va_W} {r : Int32} {y1 : Int32} {y2 : Int32} {y3 : Int32} {y4 : Int32} {y5 : Int32} {y6 : Int32} (X : UX D cy ML w0 args A p s m meth c) (hA : ∀ q : Nat, s.heap.size ≤ q → A q) (hX : va_X b L xs s s.heap) (hbl : b < s.heap.size) (hbA : ¬ A b) (h1 : vp_in (i + 1) L) (e1 : xs (i + (1 : Int32)).toNatClampNeg = y1) (h2 : vp_in (i + 2) L) (e2 : xs (i + (2 : Int32)).toNatClampNeg = y2) (h3 : vp_in (i + 3) L) (e3 : xs (i + (3 : Int32)).toNatClampNeg = y3) (h4 : vp_in (i + 4) L) (e4 : xs (i + (4 : Int32)).toNatClampNeg = y4) (h5 : vp_in (i + 5) L) (e5 : xs (i + (5 : Int32)).toNatClampNeg = y5) (h6 : vp_in (i + 6) L) (e6 : xs (i + (6 : Int32)).toNatClampNeg = y6) (hk0 : k + 0 ≤ room_1.cells) (hn0 : n + 0 ≤ room_1.slots) (hx0 : wx[0]? = some (ax, .inr (11, fs))) (hm0 : wm[0]? = some (am, .inr (12, gs))) (hMX : vMet l D cy MX11_feed 1 0 0 [.ref ax, .long (lw2 y1 y2), .long (lw2 y3 y4), .long (lw2 y5 y6)] wx (fun r0 w => r0 = some (.int r) ∧ w.Perm wx')) (hMM : vMet l D cy MX12_feed 0 0 0 [.ref am, .long (lw2 y1 y2), .long (lw2 y3 y4), .long (lw2 y5 y6)] wm (fun r0 w => r0 = some (.int r) ∧ w.Perm wm')) (hk : U D cy ML l room_1 A Φ p e s m args below meth c 1071 [(0, .ref b), (1, .ref ax), (2, .ref am), (3, .ref ao), (4, .int i)] [] (wx' ++ (wm' ++ vOut cy ao f)) k n) : U D cy ML l room_1 A Φ p e s m args below meth c 176 [(0, .ref b), (1, .ref ax), (2, .ref am), (3, .ref ao), (4, .int i)] [] (wx ++ (wm ++ vOut cy ao f)) k n := by
  refine U.aload_n X dL_176 rfl 1 rfl ?_
  refine U.aload_n X dL_177 rfl 0 rfl ?_
  refine U.iload X dL_178 4 rfl ?_
  refine U.iconst X (v := (1 : Int32)) dL_180 (by decide) ?_
  refine U.iadd X dL_181 ?_
  refine U.sld X hX hbl hbA h1 e1 dL_182 ?_
  refine U.i2l X dL_183 ?_
  refine U.bipush X (v := (32 : Int32)) dL_184 (by decide) ?_
  refine U.lshl X dL_186 ?_
  refine U.aload_n X dL_187 rfl 0 rfl ?_
  refine U.iload X dL_188 4 rfl ?_
  refine U.iconst X (v := (2 : Int32)) dL_190 (by decide) ?_
  refine U.iadd X dL_191 ?_
  refine U.sld X hX hbl hbA h2 e2 dL_192 ?_
  refine U.i2l X dL_193 ?_
  refine U.ldc2 X kL_c23 dL_194 ?_
  refine U.land X dL_197 ?_
  refine U.lor X dL_198 ?_
  refine U.aload_n X dL_199 rfl 0 rfl ?_
  refine U.iload X dL_200 4 rfl ?_
  refine U.iconst X (v := (3 : Int32)) dL_202 (by decide) ?_
  refine U.iadd X dL_203 ?_
  refine U.sld X hX hbl hbA h3 e3 dL_204 ?_
  refine U.i2l X dL_205 ?_
  refine U.bipush X (v := (32 : Int32)) dL_206 (by decide) ?_
  refine U.lshl X dL_208 ?_
  refine U.aload_n X dL_209 rfl 0 rfl ?_
  refine U.iload X dL_210 4 rfl ?_
  refine U.iconst X (v := (4 : Int32)) dL_212 (by decide) ?_
  refine U.iadd X dL_213 ?_
  refine U.sld X hX hbl hbA h4 e4 dL_214 ?_
  refine U.i2l X dL_215 ?_
  refine U.ldc2 X kL_c23 dL_216 ?_
  refine U.land X dL_219 ?_
  refine U.lor X dL_220 ?_
  refine U.aload_n X dL_221 rfl 0 rfl ?_
  refine U.iload X dL_222 4 rfl ?_
  refine U.iconst X (v := (5 : Int32)) dL_224 (by decide) ?_
  refine U.iadd X dL_225 ?_
  refine U.sld X hX hbl hbA h5 e5 dL_226 ?_
  refine U.i2l X dL_227 ?_
  refine U.bipush X (v := (32 : Int32)) dL_228 (by decide) ?_
  refine U.lshl X dL_230 ?_
  refine U.aload_n X dL_231 rfl 0 rfl ?_
  refine U.iload X dL_232 4 rfl ?_
  refine U.bipush X (v := (6 : Int32)) dL_234 (by decide) ?_
  refine U.iadd X dL_236 ?_
  refine U.sld X hX hbl hbA h6 e6 dL_237 ?_
  refine U.i2l X dL_238 ?_
  refine U.ldc2 X kL_c23 dL_239 ?_
  refine U.land X dL_242 ?_
  refine U.lor X dL_243 ?_
  refine U.callVP X hA (As := [.long (lw2 y1 y2), .long (lw2 y3 y4), .long (lw2 y5 y6)]) (rest := []) (wr := wm ++ vOut cy ao f) hMX kvX11_feed klL_25 (List.Perm.refl _) hx0 rfl rfl rfl dL_244 ⟨by decide, by decide⟩ ⟨hk0, hn0⟩ (Nat.le_of_ble_eq_true rfl) (fun r9 w1 hq => ?_)
  obtain ⟨rfl, hw⟩ := hq
  refine U.perm (ws' := wm ++ (wx' ++ vOut cy ao f)) ((hw.append_left _).trans uP1) ?_
  refine U.aload_n X dL_247 rfl 2 rfl ?_
  refine U.aload_n X dL_248 rfl 0 rfl ?_
  refine U.iload X dL_249 4 rfl ?_
  refine U.iconst X (v := (1 : Int32)) dL_251 (by decide) ?_
  refine U.iadd X dL_252 ?_
  refine U.sld X hX hbl hbA h1 e1 dL_253 ?_
  refine U.i2l X dL_254 ?_
  refine U.bipush X (v := (32 : Int32)) dL_255 (by decide) ?_
  refine U.lshl X dL_257 ?_
  refine U.aload_n X dL_258 rfl 0 rfl ?_
  refine U.iload X dL_259 4 rfl ?_
  refine U.iconst X (v := (2 : Int32)) dL_261 (by decide) ?_
  refine U.iadd X dL_262 ?_
  refine U.sld X hX hbl hbA h2 e2 dL_263 ?_
  refine U.i2l X dL_264 ?_
  refine U.ldc2 X kL_c23 dL_265 ?_
  refine U.land X dL_268 ?_
  refine U.lor X dL_269 ?_
  refine U.aload_n X dL_270 rfl 0 rfl ?_
  refine U.iload X dL_271 4 rfl ?_
  refine U.iconst X (v := (3 : Int32)) dL_273 (by decide) ?_
  refine U.iadd X dL_274 ?_
  refine U.sld X hX hbl hbA h3 e3 dL_275 ?_
  refine U.i2l X dL_276 ?_
  refine U.bipush X (v := (32 : Int32)) dL_277 (by decide) ?_
  refine U.lshl X dL_279 ?_
  refine U.aload_n X dL_280 rfl 0 rfl ?_
  refine U.iload X dL_281 4 rfl ?_
  refine U.iconst X (v := (4 : Int32)) dL_283 (by decide) ?_
  refine U.iadd X dL_284 ?_
  refine U.sld X hX hbl hbA h4 e4 dL_285 ?_
  refine U.i2l X dL_286 ?_
  refine U.ldc2 X kL_c23 dL_287 ?_
  refine U.land X dL_290 ?_
  refine U.lor X dL_291 ?_
  refine U.aload_n X dL_292 rfl 0 rfl ?_
  refine U.iload X dL_293 4 rfl ?_
  refine U.iconst X (v := (5 : Int32)) dL_295 (by decide) ?_
  refine U.iadd X dL_296 ?_
  refine U.sld X hX hbl hbA h5 e5 dL_297 ?_
  refine U.i2l X dL_298 ?_
  refine U.bipush X (v := (32 : Int32)) dL_299 (by decide) ?_
  refine U.lshl X dL_301 ?_
  refine U.aload_n X dL_302 rfl 0 rfl ?_
  refine U.iload X dL_303 4 rfl ?_
  refine U.bipush X (v := (6 : Int32)) dL_305 (by decide) ?_
  refine U.iadd X dL_307 ?_
  refine U.sld X hX hbl hbA h6 e6 dL_308 ?_
  refine U.i2l X dL_309 ?_
  refine U.ldc2 X kL_c23 dL_310 ?_
  refine U.land X dL_313 ?_
  refine U.lor X dL_314 ?_
  refine U.callVP X hA (As := [.long (lw2 y1 y2), .long (lw2 y3 y4), .long (lw2 y5 y6)]) (rest := [.int r]) (wr := wx' ++ vOut cy ao f) hMM kvX12_feed klL_29 (List.Perm.refl _) hm0 rfl rfl rfl dL_315 ⟨by decide, by decide⟩ ⟨hk0, hn0⟩ (Nat.le_of_ble_eq_true rfl) (fun r9 w1 hq => ?_)
  obtain ⟨rfl, hw⟩ := hq
  refine U.perm (ws' := wx' ++ (wm' ++ vOut cy ao f)) ((hw.append_left _).trans uP2) ?_
  exact U.icmp_eq X (tgt := 1071) dL_318 (by decide) (fun _ => hk) (fun q9 => absurd rfl q9)
theorem law_net {b L ax am ao : Nat} {xs : Nat → Int32} {i : Int32} {f : Nat → Int64} {fs gs : List Value} {wx wm wx' wm' : va_W} {r : Int32} (X : UX D cy ML w0 args A p s m meth c) (hA : ∀ q : Nat, s.heap.size ≤ q → A q) (hX : va_X b L xs s s.heap) (hbl : b < s.heap.size) (hbA : ¬ A b) (hk0 : k + 0 ≤ room_1.cells) (hn0 : n + 0 ≤ room_1.slots) (hx0 : wx[0]? = some (ax, .inr (11, fs))) (hm0 : wm[0]? = some (am, .inr (12, gs))) (hMX : vMet l D cy MX11_net 8 0 0 [.ref ax] wx (fun r0 w => r0 = some (.int r) ∧ w.Perm wx')) (hMM : vMet l D cy MX12_net 5 0 0 [.ref am] wm (fun r0 w => r0 = some (.int r) ∧ w.Perm wm')) (hk : U D cy ML l room_1 A Φ p e s m args below meth c 1071 [(0, .ref b), (1, .ref ax), (2, .ref am), (3, .ref ao), (4, .int i)] [] (wx' ++ (wm' ++ vOut cy ao f)) k n) : U D cy ML l room_1 A Φ p e s m args below meth c 323 [(0, .ref b), (1, .ref ax), (2, .ref am), (3, .ref ao), (4, .int i)] [] (wx ++ (wm ++ vOut cy ao f)) k n := by
  refine U.aload_n X dL_323 rfl 1 rfl ?_
  refine U.callVP X hA (As := []) (rest := []) (wr := wm ++ vOut cy ao f) hMX kvX11_net klL_30 (List.Perm.refl _) hx0 rfl rfl rfl dL_324 ⟨by decide, by decide⟩ ⟨hk0, hn0⟩ (Nat.le_of_ble_eq_true rfl) (fun r9 w1 hq => ?_)
  obtain ⟨rfl, hw⟩ := hq
  refine U.perm (ws' := wm ++ (wx' ++ vOut cy ao f)) ((hw.append_left _).trans uP1) ?_
  refine U.aload_n X dL_327 rfl 2 rfl ?_
  refine U.callVP X hA (As := []) (rest := [.int r]) (wr := wx' ++ vOut cy ao f) hMM kvX12_net klL_34 (List.Perm.refl _) hm0 rfl rfl rfl dL_328 ⟨by decide, by decide⟩ ⟨hk0, hn0⟩ (Nat.le_of_ble_eq_true rfl) (fun r9 w1 hq => ?_)
  obtain ⟨rfl, hw⟩ := hq
  refine U.perm (ws' := wx' ++ (wm' ++ vOut cy ao f)) ((hw.append_left _).trans uP2) ?_
  exact U.icmp_eq X (tgt := 1071) dL_331 (by decide) (fun _ => hk) (fun q9 => absurd rfl q9)
theorem law_year {b L ax am ao : Nat} {xs : Nat → Int32} {i : Int32} {f : Nat → Int64} {fs gs : List Value} {wx wm wx' wm' : va_W} {r : Int32} (X : UX D cy ML w0 args A p s m meth c) (hA : ∀ q : Nat, s.heap.size ≤ q → A q) (hX : va_X b L xs s s.heap) (hbl : b < s.heap.size) (hbA : ¬ A b) (hk0 : k + 0 ≤ room_1.cells) (hn0 : n + 0 ≤ room_1.slots) (hx0 : wx[0]? = some (ax, .inr (11, fs))) (hm0 : wm[0]? = some (am, .inr (12, gs))) (hMX : vMet l D cy MX11_year 8 0 0 [.ref ax] wx (fun r0 w => r0 = some (.int r) ∧ w.Perm wx')) (hMM : vMet l D cy MX12_year 4 0 0 [.ref am] wm (fun r0 w => r0 = some (.int r) ∧ w.Perm wm')) (hk : U D cy ML l room_1 A Φ p e s m args below meth c 1071 [(0, .ref b), (1, .ref ax), (2, .ref am), (3, .ref ao), (4, .int i)] [] (wx' ++ (wm' ++ vOut cy ao f)) k n) : U D cy ML l room_1 A Φ p e s m args below meth c 336 [(0, .ref b), (1, .ref ax), (2, .ref am), (3, .ref ao), (4, .int i)] [] (wx ++ (wm ++ vOut cy ao f)) k n := by
  refine U.aload_n X dL_336 rfl 1 rfl ?_
  refine U.callVP X hA (As := []) (rest := []) (wr := wm ++ vOut cy ao f) hMX kvX11_year klL_35 (List.Perm.refl _) hx0 rfl rfl rfl dL_337 ⟨by decide, by decide⟩ ⟨hk0, hn0⟩ (Nat.le_of_ble_eq_true rfl) (fun r9 w1 hq => ?_)
  obtain ⟨rfl, hw⟩ := hq
  refine U.perm (ws' := wm ++ (wx' ++ vOut cy ao f)) ((hw.append_left _).trans uP1) ?_
  refine U.aload_n X dL_340 rfl 2 rfl ?_
  refine U.callVP X hA (As := []) (rest := [.int r]) (wr := wx' ++ vOut cy ao f) hMM kvX12_year klL_38 (List.Perm.refl _) hm0 rfl rfl rfl dL_341 ⟨by decide, by decide⟩ ⟨hk0, hn0⟩ (Nat.le_of_ble_eq_true rfl) (fun r9 w1 hq => ?_)
  obtain ⟨rfl, hw⟩ := hq
  refine U.perm (ws' := wx' ++ (wm' ++ vOut cy ao f)) ((hw.append_left _).trans uP2) ?_
  exact U.icmp_eq X (tgt := 1071) dL_344 (by decide) (fun _ => hk) (fun q9 => absurd rfl q9)
theorem law_other {b L ax am ao : Nat} {xs : Nat → Int32} {i : Int32} {f : Nat → Int64} {fs gs : List Value} {wx wm wx' wm' : va_W} {r : Int32} (X : UX D cy ML w0 args A p s m meth c) (hA : ∀ q : Nat, s.heap.size ≤ q → A q) (hX : va_X b L xs s s.heap) (hbl : b < s.heap.size) (hbA : ¬ A b) (hk0 : k + 0 ≤ room_1.cells) (hn0 : n + 0 ≤ room_1.slots) (hx0 : wx[0]? = some (ax, .inr (11, fs))) (hm0 : wm[0]? = some (am, .inr (12, gs))) (hMX : vMet l D cy MX11_other 8 0 0 [.ref ax] wx (fun r0 w => r0 = some (.int r) ∧ w.Perm wx')) (hMM : vMet l D cy MX12_other 4 0 0 [.ref am] wm (fun r0 w => r0 = some (.int r) ∧ w.Perm wm')) (hk : U D cy ML l room_1 A Φ p e s m args below meth c 1071 [(0, .ref b), (1, .ref ax), (2, .ref am), (3, .ref ao), (4, .int i)] [] (wx' ++ (wm' ++ vOut cy ao f)) k n) : U D cy ML l room_1 A Φ p e s m args below meth c 349 [(0, .ref b), (1, .ref ax), (2, .ref am), (3, .ref ao), (4, .int i)] [] (wx ++ (wm ++ vOut cy ao f)) k n := by
  refine U.aload_n X dL_349 rfl 1 rfl ?_
  refine U.callVP X hA (As := []) (rest := []) (wr := wm ++ vOut cy ao f) hMX kvX11_other klL_39 (List.Perm.refl _) hx0 rfl rfl rfl dL_350 ⟨by decide, by decide⟩ ⟨hk0, hn0⟩ (Nat.le_of_ble_eq_true rfl) (fun r9 w1 hq => ?_)
  obtain ⟨rfl, hw⟩ := hq
  refine U.perm (ws' := wm ++ (wx' ++ vOut cy ao f)) ((hw.append_left _).trans uP1) ?_
  refine U.aload_n X dL_353 rfl 2 rfl ?_
  refine U.callVP X hA (As := []) (rest := [.int r]) (wr := wx' ++ vOut cy ao f) hMM kvX12_other klL_42 (List.Perm.refl _) hm0 rfl rfl rfl dL_354 ⟨by decide, by decide⟩ ⟨hk0, hn0⟩ (Nat.le_of_ble_eq_true rfl) (fun r9 w1 hq => ?_)
  obtain ⟨rfl, hw⟩ := hq
  refine U.perm (ws' := wx' ++ (wm' ++ vOut cy ao f)) ((hw.append_left _).trans uP2) ?_
  exact U.icmp_eq X (tgt := 1071) dL_357 (by decide) (fun _ => hk) (fun q9 => absurd rfl q9)
theorem law_folk {b L ax am ao : Nat} {xs : Nat → Int32} {i : Int32} {f : Nat → Int64} {fs gs : List Value} {wx wm wx' wm' : va_W} {r : Int32} {y1 : Int32} {y2 : Int32} (X : UX D cy ML w0 args A p s m meth c) (hA : ∀ q : Nat, s.heap.size ≤ q → A q) (hX : va_X b L xs s s.heap) (hbl : b < s.heap.size) (hbA : ¬ A b) (h1 : vp_in (i + 1) L) (e1 : xs (i + (1 : Int32)).toNatClampNeg = y1) (h2 : vp_in (i + 2) L) (e2 : xs (i + (2 : Int32)).toNatClampNeg = y2) (hk0 : k + 0 ≤ room_1.cells) (hn0 : n + 0 ≤ room_1.slots) (hx0 : wx[0]? = some (ax, .inr (11, fs))) (hm0 : wm[0]? = some (am, .inr (12, gs))) (hMX : vMet l D cy MX11_folk 1 0 0 [.ref ax, .int y1, .int y2] wx (fun r0 w => r0 = some (.int r) ∧ w.Perm wx')) (hMM : vMet l D cy MX12_folk 1 0 0 [.ref am, .int y1, .int y2] wm (fun r0 w => r0 = some (.int r) ∧ w.Perm wm')) (hk : U D cy ML l room_1 A Φ p e s m args below meth c 1071 [(0, .ref b), (1, .ref ax), (2, .ref am), (3, .ref ao), (4, .int i)] [] (wx' ++ (wm' ++ vOut cy ao f)) k n) : U D cy ML l room_1 A Φ p e s m args below meth c 362 [(0, .ref b), (1, .ref ax), (2, .ref am), (3, .ref ao), (4, .int i)] [] (wx ++ (wm ++ vOut cy ao f)) k n := by
  refine U.aload_n X dL_362 rfl 1 rfl ?_
  refine U.aload_n X dL_363 rfl 0 rfl ?_
  refine U.iload X dL_364 4 rfl ?_
  refine U.iconst X (v := (1 : Int32)) dL_366 (by decide) ?_
  refine U.iadd X dL_367 ?_
  refine U.sld X hX hbl hbA h1 e1 dL_368 ?_
  refine U.aload_n X dL_369 rfl 0 rfl ?_
  refine U.iload X dL_370 4 rfl ?_
  refine U.iconst X (v := (2 : Int32)) dL_372 (by decide) ?_
  refine U.iadd X dL_373 ?_
  refine U.sld X hX hbl hbA h2 e2 dL_374 ?_
  refine U.callVP X hA (As := [.int y1, .int y2]) (rest := []) (wr := wm ++ vOut cy ao f) hMX kvX11_folk klL_43 (List.Perm.refl _) hx0 rfl rfl rfl dL_375 ⟨by decide, by decide⟩ ⟨hk0, hn0⟩ (Nat.le_of_ble_eq_true rfl) (fun r9 w1 hq => ?_)
  obtain ⟨rfl, hw⟩ := hq
  refine U.perm (ws' := wm ++ (wx' ++ vOut cy ao f)) ((hw.append_left _).trans uP1) ?_
  refine U.aload_n X dL_378 rfl 2 rfl ?_
  refine U.aload_n X dL_379 rfl 0 rfl ?_
  refine U.iload X dL_380 4 rfl ?_
  refine U.iconst X (v := (1 : Int32)) dL_382 (by decide) ?_
  refine U.iadd X dL_383 ?_
  refine U.sld X hX hbl hbA h1 e1 dL_384 ?_
  refine U.aload_n X dL_385 rfl 0 rfl ?_
  refine U.iload X dL_386 4 rfl ?_
  refine U.iconst X (v := (2 : Int32)) dL_388 (by decide) ?_
  refine U.iadd X dL_389 ?_
  refine U.sld X hX hbl hbA h2 e2 dL_390 ?_
  refine U.callVP X hA (As := [.int y1, .int y2]) (rest := [.int r]) (wr := wx' ++ vOut cy ao f) hMM kvX12_folk klL_47 (List.Perm.refl _) hm0 rfl rfl rfl dL_391 ⟨by decide, by decide⟩ ⟨hk0, hn0⟩ (Nat.le_of_ble_eq_true rfl) (fun r9 w1 hq => ?_)
  obtain ⟨rfl, hw⟩ := hq
  refine U.perm (ws' := wx' ++ (wm' ++ vOut cy ao f)) ((hw.append_left _).trans uP2) ?_
  exact U.icmp_eq X (tgt := 1071) dL_394 (by decide) (fun _ => hk) (fun q9 => absurd rfl q9)
theorem law_cut {b L ax am ao : Nat} {xs : Nat → Int32} {i : Int32} {f : Nat → Int64} {fs gs : List Value} {wx wm wx' wm' : va_W} {r : Int32} {y1 : Int32} (X : UX D cy ML w0 args A p s m meth c) (hA : ∀ q : Nat, s.heap.size ≤ q → A q) (hX : va_X b L xs s s.heap) (hbl : b < s.heap.size) (hbA : ¬ A b) (h1 : vp_in (i + 1) L) (e1 : xs (i + (1 : Int32)).toNatClampNeg = y1) (hk0 : k + 0 ≤ room_1.cells) (hn0 : n + 0 ≤ room_1.slots) (hx0 : wx[0]? = some (ax, .inr (11, fs))) (hm0 : wm[0]? = some (am, .inr (12, gs))) (hMX : vMet l D cy MX11_cut 2 0 0 [.ref ax, .int y1] wx (fun r0 w => r0 = some (.int r) ∧ w.Perm wx')) (hMM : vMet l D cy MX12_cut 2 0 0 [.ref am, .int y1] wm (fun r0 w => r0 = some (.int r) ∧ w.Perm wm')) (hk : U D cy ML l room_1 A Φ p e s m args below meth c 1071 [(0, .ref b), (1, .ref ax), (2, .ref am), (3, .ref ao), (4, .int i)] [] (wx' ++ (wm' ++ vOut cy ao f)) k n) : U D cy ML l room_1 A Φ p e s m args below meth c 452 [(0, .ref b), (1, .ref ax), (2, .ref am), (3, .ref ao), (4, .int i)] [] (wx ++ (wm ++ vOut cy ao f)) k n := by
  refine U.aload_n X dL_452 rfl 1 rfl ?_
  refine U.aload_n X dL_453 rfl 0 rfl ?_
  refine U.iload X dL_454 4 rfl ?_
  refine U.iconst X (v := (1 : Int32)) dL_456 (by decide) ?_
  refine U.iadd X dL_457 ?_
  refine U.sld X hX hbl hbA h1 e1 dL_458 ?_
  refine U.callVP X hA (As := [.int y1]) (rest := []) (wr := wm ++ vOut cy ao f) hMX kvX11_cut klL_53 (List.Perm.refl _) hx0 rfl rfl rfl dL_459 ⟨by decide, by decide⟩ ⟨hk0, hn0⟩ (Nat.le_of_ble_eq_true rfl) (fun r9 w1 hq => ?_)
  obtain ⟨rfl, hw⟩ := hq
  refine U.perm (ws' := wm ++ (wx' ++ vOut cy ao f)) ((hw.append_left _).trans uP1) ?_
  refine U.aload_n X dL_462 rfl 2 rfl ?_
  refine U.aload_n X dL_463 rfl 0 rfl ?_
  refine U.iload X dL_464 4 rfl ?_
  refine U.iconst X (v := (1 : Int32)) dL_466 (by decide) ?_
  refine U.iadd X dL_467 ?_
  refine U.sld X hX hbl hbA h1 e1 dL_468 ?_
  refine U.callVP X hA (As := [.int y1]) (rest := [.int r]) (wr := wx' ++ vOut cy ao f) hMM kvX12_cut klL_56 (List.Perm.refl _) hm0 rfl rfl rfl dL_469 ⟨by decide, by decide⟩ ⟨hk0, hn0⟩ (Nat.le_of_ble_eq_true rfl) (fun r9 w1 hq => ?_)
  obtain ⟨rfl, hw⟩ := hq
  refine U.perm (ws' := wx' ++ (wm' ++ vOut cy ao f)) ((hw.append_left _).trans uP2) ?_
  exact U.icmp_eq X (tgt := 1071) dL_472 (by decide) (fun _ => hk) (fun q9 => absurd rfl q9)
theorem law_pull {b L ax am ao : Nat} {xs : Nat → Int32} {i : Int32} {f : Nat → Int64} {fs gs : List Value} {wx wm wx' wm' : va_W} {r : Int32} (X : UX D cy ML w0 args A p s m meth c) (hA : ∀ q : Nat, s.heap.size ≤ q → A q) (hX : va_X b L xs s s.heap) (hbl : b < s.heap.size) (hbA : ¬ A b) (hk0 : k + 0 ≤ room_1.cells) (hn0 : n + 0 ≤ room_1.slots) (hx0 : wx[0]? = some (ax, .inr (11, fs))) (hm0 : wm[0]? = some (am, .inr (12, gs))) (hMX : vMet l D cy MX11_pull 4 0 0 [.ref ax] wx (fun r0 w => r0 = some (.int r) ∧ w.Perm wx')) (hMM : vMet l D cy MX12_pull 6 0 0 [.ref am] wm (fun r0 w => r0 = some (.int r) ∧ w.Perm wm')) (hk : U D cy ML l room_1 A Φ p e s m args below meth c 1071 [(0, .ref b), (1, .ref ax), (2, .ref am), (3, .ref ao), (4, .int i)] [] (wx' ++ (wm' ++ vOut cy ao f)) k n) : U D cy ML l room_1 A Φ p e s m args below meth c 477 [(0, .ref b), (1, .ref ax), (2, .ref am), (3, .ref ao), (4, .int i)] [] (wx ++ (wm ++ vOut cy ao f)) k n := by
  refine U.aload_n X dL_477 rfl 1 rfl ?_
  refine U.callVP X hA (As := []) (rest := []) (wr := wm ++ vOut cy ao f) hMX kvX11_pull klL_57 (List.Perm.refl _) hx0 rfl rfl rfl dL_478 ⟨by decide, by decide⟩ ⟨hk0, hn0⟩ (Nat.le_of_ble_eq_true rfl) (fun r9 w1 hq => ?_)
  obtain ⟨rfl, hw⟩ := hq
  refine U.perm (ws' := wm ++ (wx' ++ vOut cy ao f)) ((hw.append_left _).trans uP1) ?_
  refine U.aload_n X dL_481 rfl 2 rfl ?_
  refine U.callVP X hA (As := []) (rest := [.int r]) (wr := wx' ++ vOut cy ao f) hMM kvX12_pull klL_60 (List.Perm.refl _) hm0 rfl rfl rfl dL_482 ⟨by decide, by decide⟩ ⟨hk0, hn0⟩ (Nat.le_of_ble_eq_true rfl) (fun r9 w1 hq => ?_)
  obtain ⟨rfl, hw⟩ := hq
  refine U.perm (ws' := wx' ++ (wm' ++ vOut cy ao f)) ((hw.append_left _).trans uP2) ?_
  exact U.icmp_eq X (tgt := 1071) dL_485 (by decide) (fun _ => hk) (fun q9 => absurd rfl q9)
theorem law_undo {b L ax am ao : Nat} {xs : Nat → Int32} {i : Int32} {f : Nat → Int64} {fs gs : List Value} {wx wm wx' wm' : va_W} {r : Int32} (X : UX D cy ML w0 args A p s m meth c) (hA : ∀ q : Nat, s.heap.size ≤ q → A q) (hX : va_X b L xs s s.heap) (hbl : b < s.heap.size) (hbA : ¬ A b) (hk0 : k + 0 ≤ room_1.cells) (hn0 : n + 0 ≤ room_1.slots) (hx0 : wx[0]? = some (ax, .inr (11, fs))) (hm0 : wm[0]? = some (am, .inr (12, gs))) (hMX : vMet l D cy MX11_undo 2 0 0 [.ref ax] wx (fun r0 w => r0 = some (.int r) ∧ w.Perm wx')) (hMM : vMet l D cy MX12_undo 1 0 0 [.ref am] wm (fun r0 w => r0 = some (.int r) ∧ w.Perm wm')) (hk : U D cy ML l room_1 A Φ p e s m args below meth c 1071 [(0, .ref b), (1, .ref ax), (2, .ref am), (3, .ref ao), (4, .int i)] [] (wx' ++ (wm' ++ vOut cy ao f)) k n) : U D cy ML l room_1 A Φ p e s m args below meth c 490 [(0, .ref b), (1, .ref ax), (2, .ref am), (3, .ref ao), (4, .int i)] [] (wx ++ (wm ++ vOut cy ao f)) k n := by
  refine U.aload_n X dL_490 rfl 1 rfl ?_
  refine U.callVP X hA (As := []) (rest := []) (wr := wm ++ vOut cy ao f) hMX kvX11_undo klL_61 (List.Perm.refl _) hx0 rfl rfl rfl dL_491 ⟨by decide, by decide⟩ ⟨hk0, hn0⟩ (Nat.le_of_ble_eq_true rfl) (fun r9 w1 hq => ?_)
  obtain ⟨rfl, hw⟩ := hq
  refine U.perm (ws' := wm ++ (wx' ++ vOut cy ao f)) ((hw.append_left _).trans uP1) ?_
  refine U.aload_n X dL_494 rfl 2 rfl ?_
  refine U.callVP X hA (As := []) (rest := [.int r]) (wr := wx' ++ vOut cy ao f) hMM kvX12_undo klL_65 (List.Perm.refl _) hm0 rfl rfl rfl dL_495 ⟨by decide, by decide⟩ ⟨hk0, hn0⟩ (Nat.le_of_ble_eq_true rfl) (fun r9 w1 hq => ?_)
  obtain ⟨rfl, hw⟩ := hq
  refine U.perm (ws' := wx' ++ (wm' ++ vOut cy ao f)) ((hw.append_left _).trans uP2) ?_
  exact U.icmp_eq X (tgt := 1071) dL_498 (by decide) (fun _ => hk) (fun q9 => absurd rfl q9)
theorem law_judged {b L ax am ao : Nat} {xs : Nat → Int32} {i : Int32} {f : Nat → Int64} {fs gs : List Value} {wx wm wx' wm' : va_W} {r : Int32} {y1 : Int32} (X : UX D cy ML w0 args A p s m meth c) (hA : ∀ q : Nat, s.heap.size ≤ q → A q) (hX : va_X b L xs s s.heap) (hbl : b < s.heap.size) (hbA : ¬ A b) (h1 : vp_in (i + 1) L) (e1 : xs (i + (1 : Int32)).toNatClampNeg = y1) (hk0 : k + 0 ≤ room_1.cells) (hn0 : n + 0 ≤ room_1.slots) (hx0 : wx[0]? = some (ax, .inr (11, fs))) (hm0 : wm[0]? = some (am, .inr (12, gs))) (hMX : vMet l D cy MX11_judged 6 0 0 [.ref ax, .int y1] wx (fun r0 w => r0 = some (.int r) ∧ w.Perm wx')) (hMM : vMet l D cy MX12_judged 7 0 0 [.ref am, .int y1] wm (fun r0 w => r0 = some (.int r) ∧ w.Perm wm')) (hk : U D cy ML l room_1 A Φ p e s m args below meth c 1071 [(0, .ref b), (1, .ref ax), (2, .ref am), (3, .ref ao), (4, .int i)] [] (wx' ++ (wm' ++ vOut cy ao f)) k n) : U D cy ML l room_1 A Φ p e s m args below meth c 503 [(0, .ref b), (1, .ref ax), (2, .ref am), (3, .ref ao), (4, .int i)] [] (wx ++ (wm ++ vOut cy ao f)) k n := by
  refine U.aload_n X dL_503 rfl 1 rfl ?_
  refine U.aload_n X dL_504 rfl 0 rfl ?_
  refine U.iload X dL_505 4 rfl ?_
  refine U.iconst X (v := (1 : Int32)) dL_507 (by decide) ?_
  refine U.iadd X dL_508 ?_
  refine U.sld X hX hbl hbA h1 e1 dL_509 ?_
  refine U.callVP X hA (As := [.int y1]) (rest := []) (wr := wm ++ vOut cy ao f) hMX kvX11_judged klL_66 (List.Perm.refl _) hx0 rfl rfl rfl dL_510 ⟨by decide, by decide⟩ ⟨hk0, hn0⟩ (Nat.le_of_ble_eq_true rfl) (fun r9 w1 hq => ?_)
  obtain ⟨rfl, hw⟩ := hq
  refine U.perm (ws' := wm ++ (wx' ++ vOut cy ao f)) ((hw.append_left _).trans uP1) ?_
  refine U.aload_n X dL_513 rfl 2 rfl ?_
  refine U.aload_n X dL_514 rfl 0 rfl ?_
  refine U.iload X dL_515 4 rfl ?_
  refine U.iconst X (v := (1 : Int32)) dL_517 (by decide) ?_
  refine U.iadd X dL_518 ?_
  refine U.sld X hX hbl hbA h1 e1 dL_519 ?_
  refine U.callVP X hA (As := [.int y1]) (rest := [.int r]) (wr := wx' ++ vOut cy ao f) hMM kvX12_judged klL_69 (List.Perm.refl _) hm0 rfl rfl rfl dL_520 ⟨by decide, by decide⟩ ⟨hk0, hn0⟩ (Nat.le_of_ble_eq_true rfl) (fun r9 w1 hq => ?_)
  obtain ⟨rfl, hw⟩ := hq
  refine U.perm (ws' := wx' ++ (wm' ++ vOut cy ao f)) ((hw.append_left _).trans uP2) ?_
  exact U.icmp_eq X (tgt := 1071) dL_523 (by decide) (fun _ => hk) (fun q9 => absurd rfl q9)
theorem law_at {b L ax am ao : Nat} {xs : Nat → Int32} {i : Int32} {f : Nat → Int64} {fs gs : List Value} {wx wm wx' wm' : va_W} {r : Int32} {y1 : Int32} (X : UX D cy ML w0 args A p s m meth c) (hA : ∀ q : Nat, s.heap.size ≤ q → A q) (hX : va_X b L xs s s.heap) (hbl : b < s.heap.size) (hbA : ¬ A b) (h1 : vp_in (i + 1) L) (e1 : xs (i + (1 : Int32)).toNatClampNeg = y1) (hk0 : k + 0 ≤ room_1.cells) (hn0 : n + 0 ≤ room_1.slots) (hx0 : wx[0]? = some (ax, .inr (11, fs))) (hm0 : wm[0]? = some (am, .inr (12, gs))) (hMX : vMet l D cy MX11_at 1 0 0 [.ref ax, .int y1] wx (fun r0 w => r0 = some (.int r) ∧ w.Perm wx')) (hMM : vMet l D cy MX12_at 0 0 0 [.ref am, .int y1] wm (fun r0 w => r0 = some (.int r) ∧ w.Perm wm')) (hk : U D cy ML l room_1 A Φ p e s m args below meth c 1071 [(0, .ref b), (1, .ref ax), (2, .ref am), (3, .ref ao), (4, .int i)] [] (wx' ++ (wm' ++ vOut cy ao f)) k n) : U D cy ML l room_1 A Φ p e s m args below meth c 528 [(0, .ref b), (1, .ref ax), (2, .ref am), (3, .ref ao), (4, .int i)] [] (wx ++ (wm ++ vOut cy ao f)) k n := by
  refine U.aload_n X dL_528 rfl 1 rfl ?_
  refine U.aload_n X dL_529 rfl 0 rfl ?_
  refine U.iload X dL_530 4 rfl ?_
  refine U.iconst X (v := (1 : Int32)) dL_532 (by decide) ?_
  refine U.iadd X dL_533 ?_
  refine U.sld X hX hbl hbA h1 e1 dL_534 ?_
  refine U.callVP X hA (As := [.int y1]) (rest := []) (wr := wm ++ vOut cy ao f) hMX kvX11_at klL_70 (List.Perm.refl _) hx0 rfl rfl rfl dL_535 ⟨by decide, by decide⟩ ⟨hk0, hn0⟩ (Nat.le_of_ble_eq_true rfl) (fun r9 w1 hq => ?_)
  obtain ⟨rfl, hw⟩ := hq
  refine U.perm (ws' := wm ++ (wx' ++ vOut cy ao f)) ((hw.append_left _).trans uP1) ?_
  refine U.aload_n X dL_538 rfl 2 rfl ?_
  refine U.aload_n X dL_539 rfl 0 rfl ?_
  refine U.iload X dL_540 4 rfl ?_
  refine U.iconst X (v := (1 : Int32)) dL_542 (by decide) ?_
  refine U.iadd X dL_543 ?_
  refine U.sld X hX hbl hbA h1 e1 dL_544 ?_
  refine U.callVP X hA (As := [.int y1]) (rest := [.int r]) (wr := wx' ++ vOut cy ao f) hMM kvX12_at klL_73 (List.Perm.refl _) hm0 rfl rfl rfl dL_545 ⟨by decide, by decide⟩ ⟨hk0, hn0⟩ (Nat.le_of_ble_eq_true rfl) (fun r9 w1 hq => ?_)
  obtain ⟨rfl, hw⟩ := hq
  refine U.perm (ws' := wx' ++ (wm' ++ vOut cy ao f)) ((hw.append_left _).trans uP2) ?_
  exact U.icmp_eq X (tgt := 1071) dL_548 (by decide) (fun _ => hk) (fun q9 => absurd rfl q9)
theorem law_form {b L ax am ao : Nat} {xs : Nat → Int32} {i : Int32} {f : Nat → Int64} {fs gs : List Value} {wx wm wx' wm' : va_W} {r : Int32} {y1 : Int32} (X : UX D cy ML w0 args A p s m meth c) (hA : ∀ q : Nat, s.heap.size ≤ q → A q) (hX : va_X b L xs s s.heap) (hbl : b < s.heap.size) (hbA : ¬ A b) (h1 : vp_in (i + 1) L) (e1 : xs (i + (1 : Int32)).toNatClampNeg = y1) (hk0 : k + 0 ≤ room_1.cells) (hn0 : n + 0 ≤ room_1.slots) (hx0 : wx[0]? = some (ax, .inr (11, fs))) (hm0 : wm[0]? = some (am, .inr (12, gs))) (hMX : vMet l D cy MX11_form 4 0 0 [.ref ax, .int y1] wx (fun r0 w => r0 = some (.int r) ∧ w.Perm wx')) (hMM : vMet l D cy MX12_form 5 0 0 [.ref am, .int y1] wm (fun r0 w => r0 = some (.int r) ∧ w.Perm wm')) (hk : U D cy ML l room_1 A Φ p e s m args below meth c 1071 [(0, .ref b), (1, .ref ax), (2, .ref am), (3, .ref ao), (4, .int i)] [] (wx' ++ (wm' ++ vOut cy ao f)) k n) : U D cy ML l room_1 A Φ p e s m args below meth c 553 [(0, .ref b), (1, .ref ax), (2, .ref am), (3, .ref ao), (4, .int i)] [] (wx ++ (wm ++ vOut cy ao f)) k n := by
  refine U.aload_n X dL_553 rfl 1 rfl ?_
  refine U.aload_n X dL_554 rfl 0 rfl ?_
  refine U.iload X dL_555 4 rfl ?_
  refine U.iconst X (v := (1 : Int32)) dL_557 (by decide) ?_
  refine U.iadd X dL_558 ?_
  refine U.sld X hX hbl hbA h1 e1 dL_559 ?_
  refine U.callVP X hA (As := [.int y1]) (rest := []) (wr := wm ++ vOut cy ao f) hMX kvX11_form klL_74 (List.Perm.refl _) hx0 rfl rfl rfl dL_560 ⟨by decide, by decide⟩ ⟨hk0, hn0⟩ (Nat.le_of_ble_eq_true rfl) (fun r9 w1 hq => ?_)
  obtain ⟨rfl, hw⟩ := hq
  refine U.perm (ws' := wm ++ (wx' ++ vOut cy ao f)) ((hw.append_left _).trans uP1) ?_
  refine U.aload_n X dL_563 rfl 2 rfl ?_
  refine U.aload_n X dL_564 rfl 0 rfl ?_
  refine U.iload X dL_565 4 rfl ?_
  refine U.iconst X (v := (1 : Int32)) dL_567 (by decide) ?_
  refine U.iadd X dL_568 ?_
  refine U.sld X hX hbl hbA h1 e1 dL_569 ?_
  refine U.callVP X hA (As := [.int y1]) (rest := [.int r]) (wr := wx' ++ vOut cy ao f) hMM kvX12_form klL_77 (List.Perm.refl _) hm0 rfl rfl rfl dL_570 ⟨by decide, by decide⟩ ⟨hk0, hn0⟩ (Nat.le_of_ble_eq_true rfl) (fun r9 w1 hq => ?_)
  obtain ⟨rfl, hw⟩ := hq
  refine U.perm (ws' := wx' ++ (wm' ++ vOut cy ao f)) ((hw.append_left _).trans uP2) ?_
  exact U.icmp_eq X (tgt := 1071) dL_573 (by decide) (fun _ => hk) (fun q9 => absurd rfl q9)
theorem law_out {b L ax am ao : Nat} {xs : Nat → Int32} {i : Int32} {f : Nat → Int64} {fs gs : List Value} {wx wm wx' wm' : va_W} {r : Int32} (X : UX D cy ML w0 args A p s m meth c) (hA : ∀ q : Nat, s.heap.size ≤ q → A q) (hX : va_X b L xs s s.heap) (hbl : b < s.heap.size) (hbA : ¬ A b) (hk0 : k + 0 ≤ room_1.cells) (hn0 : n + 0 ≤ room_1.slots) (hx0 : wx[0]? = some (ax, .inr (11, fs))) (hm0 : wm[0]? = some (am, .inr (12, gs))) (hMX : vMet l D cy MX11_out 4 0 0 [.ref ax] wx (fun r0 w => r0 = some (.int r) ∧ w.Perm wx')) (hMM : vMet l D cy MX12_out 5 0 0 [.ref am] wm (fun r0 w => r0 = some (.int r) ∧ w.Perm wm')) (hk : U D cy ML l room_1 A Φ p e s m args below meth c 1071 [(0, .ref b), (1, .ref ax), (2, .ref am), (3, .ref ao), (4, .int i)] [] (wx' ++ (wm' ++ vOut cy ao f)) k n) : U D cy ML l room_1 A Φ p e s m args below meth c 578 [(0, .ref b), (1, .ref ax), (2, .ref am), (3, .ref ao), (4, .int i)] [] (wx ++ (wm ++ vOut cy ao f)) k n := by
  refine U.aload_n X dL_578 rfl 1 rfl ?_
  refine U.callVP X hA (As := []) (rest := []) (wr := wm ++ vOut cy ao f) hMX kvX11_out klL_78 (List.Perm.refl _) hx0 rfl rfl rfl dL_579 ⟨by decide, by decide⟩ ⟨hk0, hn0⟩ (Nat.le_of_ble_eq_true rfl) (fun r9 w1 hq => ?_)
  obtain ⟨rfl, hw⟩ := hq
  refine U.perm (ws' := wm ++ (wx' ++ vOut cy ao f)) ((hw.append_left _).trans uP1) ?_
  refine U.aload_n X dL_582 rfl 2 rfl ?_
  refine U.callVP X hA (As := []) (rest := [.int r]) (wr := wx' ++ vOut cy ao f) hMM kvX12_out klL_81 (List.Perm.refl _) hm0 rfl rfl rfl dL_583 ⟨by decide, by decide⟩ ⟨hk0, hn0⟩ (Nat.le_of_ble_eq_true rfl) (fun r9 w1 hq => ?_)
  obtain ⟨rfl, hw⟩ := hq
  refine U.perm (ws' := wx' ++ (wm' ++ vOut cy ao f)) ((hw.append_left _).trans uP2) ?_
  exact U.icmp_eq X (tgt := 1071) dL_586 (by decide) (fun _ => hk) (fun q9 => absurd rfl q9)
theorem law_held {b L ax am ao : Nat} {xs : Nat → Int32} {i : Int32} {f : Nat → Int64} {fs gs : List Value} {wx wm wx' wm' : va_W} {r : Int32} (X : UX D cy ML w0 args A p s m meth c) (hA : ∀ q : Nat, s.heap.size ≤ q → A q) (hX : va_X b L xs s s.heap) (hbl : b < s.heap.size) (hbA : ¬ A b) (hk0 : k + 0 ≤ room_1.cells) (hn0 : n + 0 ≤ room_1.slots) (hx0 : wx[0]? = some (ax, .inr (11, fs))) (hm0 : wm[0]? = some (am, .inr (12, gs))) (hMX : vMet l D cy MX11_held 4 0 0 [.ref ax] wx (fun r0 w => r0 = some (.int r) ∧ w.Perm wx')) (hMM : vMet l D cy MX12_held 5 0 0 [.ref am] wm (fun r0 w => r0 = some (.int r) ∧ w.Perm wm')) (hk : U D cy ML l room_1 A Φ p e s m args below meth c 1071 [(0, .ref b), (1, .ref ax), (2, .ref am), (3, .ref ao), (4, .int i)] [] (wx' ++ (wm' ++ vOut cy ao f)) k n) : U D cy ML l room_1 A Φ p e s m args below meth c 591 [(0, .ref b), (1, .ref ax), (2, .ref am), (3, .ref ao), (4, .int i)] [] (wx ++ (wm ++ vOut cy ao f)) k n := by
  refine U.aload_n X dL_591 rfl 1 rfl ?_
  refine U.callVP X hA (As := []) (rest := []) (wr := wm ++ vOut cy ao f) hMX kvX11_held klL_82 (List.Perm.refl _) hx0 rfl rfl rfl dL_592 ⟨by decide, by decide⟩ ⟨hk0, hn0⟩ (Nat.le_of_ble_eq_true rfl) (fun r9 w1 hq => ?_)
  obtain ⟨rfl, hw⟩ := hq
  refine U.perm (ws' := wm ++ (wx' ++ vOut cy ao f)) ((hw.append_left _).trans uP1) ?_
  refine U.aload_n X dL_595 rfl 2 rfl ?_
  refine U.callVP X hA (As := []) (rest := [.int r]) (wr := wx' ++ vOut cy ao f) hMM kvX12_held klL_85 (List.Perm.refl _) hm0 rfl rfl rfl dL_596 ⟨by decide, by decide⟩ ⟨hk0, hn0⟩ (Nat.le_of_ble_eq_true rfl) (fun r9 w1 hq => ?_)
  obtain ⟨rfl, hw⟩ := hq
  refine U.perm (ws' := wx' ++ (wm' ++ vOut cy ao f)) ((hw.append_left _).trans uP2) ?_
  exact U.icmp_eq X (tgt := 1071) dL_599 (by decide) (fun _ => hk) (fun q9 => absurd rfl q9)
theorem law_fault {b L ax am ao : Nat} {xs : Nat → Int32} {i : Int32} {f : Nat → Int64} {fs gs : List Value} {wx wm wx' wm' : va_W} {r : Int32} (X : UX D cy ML w0 args A p s m meth c) (hA : ∀ q : Nat, s.heap.size ≤ q → A q) (hX : va_X b L xs s s.heap) (hbl : b < s.heap.size) (hbA : ¬ A b) (hk0 : k + 0 ≤ room_1.cells) (hn0 : n + 0 ≤ room_1.slots) (hx0 : wx[0]? = some (ax, .inr (11, fs))) (hm0 : wm[0]? = some (am, .inr (12, gs))) (hMX : vMet l D cy MX11_fault 4 0 0 [.ref ax] wx (fun r0 w => r0 = some (.int r) ∧ w.Perm wx')) (hMM : vMet l D cy MX12_fault 4 0 0 [.ref am] wm (fun r0 w => r0 = some (.int r) ∧ w.Perm wm')) (hk : U D cy ML l room_1 A Φ p e s m args below meth c 1071 [(0, .ref b), (1, .ref ax), (2, .ref am), (3, .ref ao), (4, .int i)] [] (wx' ++ (wm' ++ vOut cy ao f)) k n) : U D cy ML l room_1 A Φ p e s m args below meth c 604 [(0, .ref b), (1, .ref ax), (2, .ref am), (3, .ref ao), (4, .int i)] [] (wx ++ (wm ++ vOut cy ao f)) k n := by
  refine U.aload_n X dL_604 rfl 1 rfl ?_
  refine U.callVP X hA (As := []) (rest := []) (wr := wm ++ vOut cy ao f) hMX kvX11_fault klL_86 (List.Perm.refl _) hx0 rfl rfl rfl dL_605 ⟨by decide, by decide⟩ ⟨hk0, hn0⟩ (Nat.le_of_ble_eq_true rfl) (fun r9 w1 hq => ?_)
  obtain ⟨rfl, hw⟩ := hq
  refine U.perm (ws' := wm ++ (wx' ++ vOut cy ao f)) ((hw.append_left _).trans uP1) ?_
  refine U.aload_n X dL_608 rfl 2 rfl ?_
  refine U.callVP X hA (As := []) (rest := [.int r]) (wr := wx' ++ vOut cy ao f) hMM kvX12_fault klL_89 (List.Perm.refl _) hm0 rfl rfl rfl dL_609 ⟨by decide, by decide⟩ ⟨hk0, hn0⟩ (Nat.le_of_ble_eq_true rfl) (fun r9 w1 hq => ?_)
  obtain ⟨rfl, hw⟩ := hq
  refine U.perm (ws' := wx' ++ (wm' ++ vOut cy ao f)) ((hw.append_left _).trans uP2) ?_
  exact U.icmp_eq X (tgt := 1071) dL_612 (by decide) (fun _ => hk) (fun q9 => absurd rfl q9)
theorem law_shown {b L ax am ao : Nat} {xs : Nat → Int32} {i : Int32} {f : Nat → Int64} {fs gs : List Value} {wx wm wx' wm' : va_W} {r : Int32} (X : UX D cy ML w0 args A p s m meth c) (hA : ∀ q : Nat, s.heap.size ≤ q → A q) (hX : va_X b L xs s s.heap) (hbl : b < s.heap.size) (hbA : ¬ A b) (hk0 : k + 0 ≤ room_1.cells) (hn0 : n + 0 ≤ room_1.slots) (hx0 : wx[0]? = some (ax, .inr (11, fs))) (hm0 : wm[0]? = some (am, .inr (12, gs))) (hMX : vMet l D cy MX11_shown 4 0 0 [.ref ax] wx (fun r0 w => r0 = some (.int r) ∧ w.Perm wx')) (hMM : vMet l D cy MX12_shown 4 0 0 [.ref am] wm (fun r0 w => r0 = some (.int r) ∧ w.Perm wm')) (hk : U D cy ML l room_1 A Φ p e s m args below meth c 1071 [(0, .ref b), (1, .ref ax), (2, .ref am), (3, .ref ao), (4, .int i)] [] (wx' ++ (wm' ++ vOut cy ao f)) k n) : U D cy ML l room_1 A Φ p e s m args below meth c 673 [(0, .ref b), (1, .ref ax), (2, .ref am), (3, .ref ao), (4, .int i)] [] (wx ++ (wm ++ vOut cy ao f)) k n := by
  refine U.aload_n X dL_673 rfl 1 rfl ?_
  refine U.callVP X hA (As := []) (rest := []) (wr := wm ++ vOut cy ao f) hMX kvX11_shown klL_99 (List.Perm.refl _) hx0 rfl rfl rfl dL_674 ⟨by decide, by decide⟩ ⟨hk0, hn0⟩ (Nat.le_of_ble_eq_true rfl) (fun r9 w1 hq => ?_)
  obtain ⟨rfl, hw⟩ := hq
  refine U.perm (ws' := wm ++ (wx' ++ vOut cy ao f)) ((hw.append_left _).trans uP1) ?_
  refine U.aload_n X dL_677 rfl 2 rfl ?_
  refine U.callVP X hA (As := []) (rest := [.int r]) (wr := wx' ++ vOut cy ao f) hMM kvX12_shown klL_102 (List.Perm.refl _) hm0 rfl rfl rfl dL_678 ⟨by decide, by decide⟩ ⟨hk0, hn0⟩ (Nat.le_of_ble_eq_true rfl) (fun r9 w1 hq => ?_)
  obtain ⟨rfl, hw⟩ := hq
  refine U.perm (ws' := wx' ++ (wm' ++ vOut cy ao f)) ((hw.append_left _).trans uP2) ?_
  exact U.icmp_eq X (tgt := 1071) dL_681 (by decide) (fun _ => hk) (fun q9 => absurd rfl q9)
theorem law_loose {b L ax am ao : Nat} {xs : Nat → Int32} {i : Int32} {f : Nat → Int64} {fs gs : List Value} {wx wm wx' wm' : va_W} {r : Int32} {y1 : Int32} (X : UX D cy ML w0 args A p s m meth c) (hA : ∀ q : Nat, s.heap.size ≤ q → A q) (hX : va_X b L xs s s.heap) (hbl : b < s.heap.size) (hbA : ¬ A b) (h1 : vp_in (i + 1) L) (e1 : xs (i + (1 : Int32)).toNatClampNeg = y1) (hk0 : k + 0 ≤ room_1.cells) (hn0 : n + 0 ≤ room_1.slots) (hx0 : wx[0]? = some (ax, .inr (11, fs))) (hm0 : wm[0]? = some (am, .inr (12, gs))) (hMX : vMet l D cy MX11_loose 4 0 0 [.ref ax, .int y1] wx (fun r0 w => r0 = some (.int r) ∧ w.Perm wx')) (hMM : vMet l D cy MX12_loose 3 0 0 [.ref am, .int y1] wm (fun r0 w => r0 = some (.int r) ∧ w.Perm wm')) (hk : U D cy ML l room_1 A Φ p e s m args below meth c 1071 [(0, .ref b), (1, .ref ax), (2, .ref am), (3, .ref ao), (4, .int i)] [] (wx' ++ (wm' ++ vOut cy ao f)) k n) : U D cy ML l room_1 A Φ p e s m args below meth c 686 [(0, .ref b), (1, .ref ax), (2, .ref am), (3, .ref ao), (4, .int i)] [] (wx ++ (wm ++ vOut cy ao f)) k n := by
  refine U.aload_n X dL_686 rfl 1 rfl ?_
  refine U.aload_n X dL_687 rfl 0 rfl ?_
  refine U.iload X dL_688 4 rfl ?_
  refine U.iconst X (v := (1 : Int32)) dL_690 (by decide) ?_
  refine U.iadd X dL_691 ?_
  refine U.sld X hX hbl hbA h1 e1 dL_692 ?_
  refine U.callVP X hA (As := [.int y1]) (rest := []) (wr := wm ++ vOut cy ao f) hMX kvX11_loose klL_103 (List.Perm.refl _) hx0 rfl rfl rfl dL_693 ⟨by decide, by decide⟩ ⟨hk0, hn0⟩ (Nat.le_of_ble_eq_true rfl) (fun r9 w1 hq => ?_)
  obtain ⟨rfl, hw⟩ := hq
  refine U.perm (ws' := wm ++ (wx' ++ vOut cy ao f)) ((hw.append_left _).trans uP1) ?_
  refine U.aload_n X dL_696 rfl 2 rfl ?_
  refine U.aload_n X dL_697 rfl 0 rfl ?_
  refine U.iload X dL_698 4 rfl ?_
  refine U.iconst X (v := (1 : Int32)) dL_700 (by decide) ?_
  refine U.iadd X dL_701 ?_
  refine U.sld X hX hbl hbA h1 e1 dL_702 ?_
  refine U.callVP X hA (As := [.int y1]) (rest := [.int r]) (wr := wx' ++ vOut cy ao f) hMM kvX12_loose klL_106 (List.Perm.refl _) hm0 rfl rfl rfl dL_703 ⟨by decide, by decide⟩ ⟨hk0, hn0⟩ (Nat.le_of_ble_eq_true rfl) (fun r9 w1 hq => ?_)
  obtain ⟨rfl, hw⟩ := hq
  refine U.perm (ws' := wx' ++ (wm' ++ vOut cy ao f)) ((hw.append_left _).trans uP2) ?_
  exact U.icmp_eq X (tgt := 1071) dL_706 (by decide) (fun _ => hk) (fun q9 => absurd rfl q9)
theorem law_yet {b L ax am ao : Nat} {xs : Nat → Int32} {i : Int32} {f : Nat → Int64} {fs gs : List Value} {wx wm wx' wm' : va_W} {r : Int32} {y1 : Int32} (X : UX D cy ML w0 args A p s m meth c) (hA : ∀ q : Nat, s.heap.size ≤ q → A q) (hX : va_X b L xs s s.heap) (hbl : b < s.heap.size) (hbA : ¬ A b) (h1 : vp_in (i + 1) L) (e1 : xs (i + (1 : Int32)).toNatClampNeg = y1) (hk0 : k + 0 ≤ room_1.cells) (hn0 : n + 0 ≤ room_1.slots) (hx0 : wx[0]? = some (ax, .inr (11, fs))) (hm0 : wm[0]? = some (am, .inr (12, gs))) (hMX : vMet l D cy MX11_yet 3 0 0 [.ref ax, .int y1] wx (fun r0 w => r0 = some (.int r) ∧ w.Perm wx')) (hMM : vMet l D cy MX12_yet 4 0 0 [.ref am, .int y1] wm (fun r0 w => r0 = some (.int r) ∧ w.Perm wm')) (hk : U D cy ML l room_1 A Φ p e s m args below meth c 1071 [(0, .ref b), (1, .ref ax), (2, .ref am), (3, .ref ao), (4, .int i)] [] (wx' ++ (wm' ++ vOut cy ao f)) k n) : U D cy ML l room_1 A Φ p e s m args below meth c 711 [(0, .ref b), (1, .ref ax), (2, .ref am), (3, .ref ao), (4, .int i)] [] (wx ++ (wm ++ vOut cy ao f)) k n := by
  refine U.aload_n X dL_711 rfl 1 rfl ?_
  refine U.aload_n X dL_712 rfl 0 rfl ?_
  refine U.iload X dL_713 4 rfl ?_
  refine U.iconst X (v := (1 : Int32)) dL_715 (by decide) ?_
  refine U.iadd X dL_716 ?_
  refine U.sld X hX hbl hbA h1 e1 dL_717 ?_
  refine U.callVP X hA (As := [.int y1]) (rest := []) (wr := wm ++ vOut cy ao f) hMX kvX11_yet klL_107 (List.Perm.refl _) hx0 rfl rfl rfl dL_718 ⟨by decide, by decide⟩ ⟨hk0, hn0⟩ (Nat.le_of_ble_eq_true rfl) (fun r9 w1 hq => ?_)
  obtain ⟨rfl, hw⟩ := hq
  refine U.perm (ws' := wm ++ (wx' ++ vOut cy ao f)) ((hw.append_left _).trans uP1) ?_
  refine U.aload_n X dL_721 rfl 2 rfl ?_
  refine U.aload_n X dL_722 rfl 0 rfl ?_
  refine U.iload X dL_723 4 rfl ?_
  refine U.iconst X (v := (1 : Int32)) dL_725 (by decide) ?_
  refine U.iadd X dL_726 ?_
  refine U.sld X hX hbl hbA h1 e1 dL_727 ?_
  refine U.callVP X hA (As := [.int y1]) (rest := [.int r]) (wr := wx' ++ vOut cy ao f) hMM kvX12_yet klL_110 (List.Perm.refl _) hm0 rfl rfl rfl dL_728 ⟨by decide, by decide⟩ ⟨hk0, hn0⟩ (Nat.le_of_ble_eq_true rfl) (fun r9 w1 hq => ?_)
  obtain ⟨rfl, hw⟩ := hq
  refine U.perm (ws' := wx' ++ (wm' ++ vOut cy ao f)) ((hw.append_left _).trans uP2) ?_
  exact U.icmp_eq X (tgt := 1071) dL_731 (by decide) (fun _ => hk) (fun q9 => absurd rfl q9)
theorem law_cuts {b L ax am ao : Nat} {xs : Nat → Int32} {i : Int32} {f : Nat → Int64} {fs gs : List Value} {wx wm wx' wm' : va_W} {r : Int32} (X : UX D cy ML w0 args A p s m meth c) (hA : ∀ q : Nat, s.heap.size ≤ q → A q) (hX : va_X b L xs s s.heap) (hbl : b < s.heap.size) (hbA : ¬ A b) (hk0 : k + 0 ≤ room_1.cells) (hn0 : n + 0 ≤ room_1.slots) (hx0 : wx[0]? = some (ax, .inr (11, fs))) (hm0 : wm[0]? = some (am, .inr (12, gs))) (hMX : vMet l D cy MX11_cuts 42 0 0 [.ref ax] wx (fun r0 w => r0 = some (.int r) ∧ w.Perm wx')) (hMM : vMet l D cy MX12_cuts 4 0 0 [.ref am] wm (fun r0 w => r0 = some (.int r) ∧ w.Perm wm')) (hk : U D cy ML l room_1 A Φ p e s m args below meth c 1071 [(0, .ref b), (1, .ref ax), (2, .ref am), (3, .ref ao), (4, .int i)] [] (wx' ++ (wm' ++ vOut cy ao f)) k n) : U D cy ML l room_1 A Φ p e s m args below meth c 736 [(0, .ref b), (1, .ref ax), (2, .ref am), (3, .ref ao), (4, .int i)] [] (wx ++ (wm ++ vOut cy ao f)) k n := by
  refine U.aload_n X dL_736 rfl 1 rfl ?_
  refine U.callVP X hA (As := []) (rest := []) (wr := wm ++ vOut cy ao f) hMX kvX11_cuts klL_111 (List.Perm.refl _) hx0 rfl rfl rfl dL_737 ⟨by decide, by decide⟩ ⟨hk0, hn0⟩ (Nat.le_of_ble_eq_true rfl) (fun r9 w1 hq => ?_)
  obtain ⟨rfl, hw⟩ := hq
  refine U.perm (ws' := wm ++ (wx' ++ vOut cy ao f)) ((hw.append_left _).trans uP1) ?_
  refine U.aload_n X dL_740 rfl 2 rfl ?_
  refine U.callVP X hA (As := []) (rest := [.int r]) (wr := wx' ++ vOut cy ao f) hMM kvX12_cuts klL_114 (List.Perm.refl _) hm0 rfl rfl rfl dL_741 ⟨by decide, by decide⟩ ⟨hk0, hn0⟩ (Nat.le_of_ble_eq_true rfl) (fun r9 w1 hq => ?_)
  obtain ⟨rfl, hw⟩ := hq
  refine U.perm (ws' := wx' ++ (wm' ++ vOut cy ao f)) ((hw.append_left _).trans uP2) ?_
  exact U.icmp_eq X (tgt := 1071) dL_744 (by decide) (fun _ => hk) (fun q9 => absurd rfl q9)
theorem law_ahead {b L ax am ao : Nat} {xs : Nat → Int32} {i : Int32} {f : Nat → Int64} {fs gs : List Value} {wx wm wx' wm' : va_W} {r : Int32} {y1 : Int32} {y2 : Int32} (X : UX D cy ML w0 args A p s m meth c) (hA : ∀ q : Nat, s.heap.size ≤ q → A q) (hX : va_X b L xs s s.heap) (hbl : b < s.heap.size) (hbA : ¬ A b) (h1 : vp_in (i + 1) L) (e1 : xs (i + (1 : Int32)).toNatClampNeg = y1) (h2 : vp_in (i + 2) L) (e2 : xs (i + (2 : Int32)).toNatClampNeg = y2) (hk0 : k + 0 ≤ room_1.cells) (hn0 : n + 0 ≤ room_1.slots) (hx0 : wx[0]? = some (ax, .inr (11, fs))) (hm0 : wm[0]? = some (am, .inr (12, gs))) (hMX : vMet l D cy MX11_ahead 1 0 0 [.ref ax, .int y1, .int y2] wx (fun r0 w => r0 = some (.int r) ∧ w.Perm wx')) (hMM : vMet l D cy MX12_ahead 0 0 0 [.ref am, .int y1, .int y2] wm (fun r0 w => r0 = some (.int r) ∧ w.Perm wm')) (hk : U D cy ML l room_1 A Φ p e s m args below meth c 1071 [(0, .ref b), (1, .ref ax), (2, .ref am), (3, .ref ao), (4, .int i)] [] (wx' ++ (wm' ++ vOut cy ao f)) k n) : U D cy ML l room_1 A Φ p e s m args below meth c 749 [(0, .ref b), (1, .ref ax), (2, .ref am), (3, .ref ao), (4, .int i)] [] (wx ++ (wm ++ vOut cy ao f)) k n := by
  refine U.aload_n X dL_749 rfl 1 rfl ?_
  refine U.aload_n X dL_750 rfl 0 rfl ?_
  refine U.iload X dL_751 4 rfl ?_
  refine U.iconst X (v := (1 : Int32)) dL_753 (by decide) ?_
  refine U.iadd X dL_754 ?_
  refine U.sld X hX hbl hbA h1 e1 dL_755 ?_
  refine U.aload_n X dL_756 rfl 0 rfl ?_
  refine U.iload X dL_757 4 rfl ?_
  refine U.iconst X (v := (2 : Int32)) dL_759 (by decide) ?_
  refine U.iadd X dL_760 ?_
  refine U.sld X hX hbl hbA h2 e2 dL_761 ?_
  refine U.callVP X hA (As := [.int y1, .int y2]) (rest := []) (wr := wm ++ vOut cy ao f) hMX kvX11_ahead klL_115 (List.Perm.refl _) hx0 rfl rfl rfl dL_762 ⟨by decide, by decide⟩ ⟨hk0, hn0⟩ (Nat.le_of_ble_eq_true rfl) (fun r9 w1 hq => ?_)
  obtain ⟨rfl, hw⟩ := hq
  refine U.perm (ws' := wm ++ (wx' ++ vOut cy ao f)) ((hw.append_left _).trans uP1) ?_
  refine U.aload_n X dL_765 rfl 2 rfl ?_
  refine U.aload_n X dL_766 rfl 0 rfl ?_
  refine U.iload X dL_767 4 rfl ?_
  refine U.iconst X (v := (1 : Int32)) dL_769 (by decide) ?_
  refine U.iadd X dL_770 ?_
  refine U.sld X hX hbl hbA h1 e1 dL_771 ?_
  refine U.aload_n X dL_772 rfl 0 rfl ?_
  refine U.iload X dL_773 4 rfl ?_
  refine U.iconst X (v := (2 : Int32)) dL_775 (by decide) ?_
  refine U.iadd X dL_776 ?_
  refine U.sld X hX hbl hbA h2 e2 dL_777 ?_
  refine U.callVP X hA (As := [.int y1, .int y2]) (rest := [.int r]) (wr := wx' ++ vOut cy ao f) hMM kvX12_ahead klL_119 (List.Perm.refl _) hm0 rfl rfl rfl dL_778 ⟨by decide, by decide⟩ ⟨hk0, hn0⟩ (Nat.le_of_ble_eq_true rfl) (fun r9 w1 hq => ?_)
  obtain ⟨rfl, hw⟩ := hq
  refine U.perm (ws' := wx' ++ (wm' ++ vOut cy ao f)) ((hw.append_left _).trans uP2) ?_
  exact U.icmp_eq X (tgt := 1071) dL_781 (by decide) (fun _ => hk) (fun q9 => absurd rfl q9)
theorem law_orders {b L ax am ao : Nat} {xs : Nat → Int32} {i : Int32} {f : Nat → Int64} {fs gs : List Value} {wx wm wx' wm' : va_W} {r : Int64} (X : UX D cy ML w0 args A p s m meth c) (hA : ∀ q : Nat, s.heap.size ≤ q → A q) (hX : va_X b L xs s s.heap) (hbl : b < s.heap.size) (hbA : ¬ A b) (hk0 : k + 0 ≤ room_1.cells) (hn0 : n + 0 ≤ room_1.slots) (hx0 : wx[0]? = some (ax, .inr (11, fs))) (hm0 : wm[0]? = some (am, .inr (12, gs))) (hMX : vMet l D cy MX11_orders 4 0 0 [.ref ax] wx (fun r0 w => r0 = some (.long r) ∧ w.Perm wx')) (hMM : vMet l D cy MX12_orders 3 0 0 [.ref am] wm (fun r0 w => r0 = some (.long r) ∧ w.Perm wm')) (hk : U D cy ML l room_1 A Φ p e s m args below meth c 1071 [(0, .ref b), (1, .ref ax), (2, .ref am), (3, .ref ao), (4, .int i)] [] (wx' ++ (wm' ++ vOut cy ao f)) k n) : U D cy ML l room_1 A Φ p e s m args below meth c 786 [(0, .ref b), (1, .ref ax), (2, .ref am), (3, .ref ao), (4, .int i)] [] (wx ++ (wm ++ vOut cy ao f)) k n := by
  refine U.aload_n X dL_786 rfl 1 rfl ?_
  refine U.callVP X hA (As := []) (rest := []) (wr := wm ++ vOut cy ao f) hMX kvX11_orders klL_120 (List.Perm.refl _) hx0 rfl rfl rfl dL_787 ⟨by decide, by decide⟩ ⟨hk0, hn0⟩ (Nat.le_of_ble_eq_true rfl) (fun r9 w1 hq => ?_)
  obtain ⟨rfl, hw⟩ := hq
  refine U.perm (ws' := wm ++ (wx' ++ vOut cy ao f)) ((hw.append_left _).trans uP1) ?_
  refine U.aload_n X dL_790 rfl 2 rfl ?_
  refine U.callVP X hA (As := []) (rest := [.long r]) (wr := wx' ++ vOut cy ao f) hMM kvX12_orders klL_124 (List.Perm.refl _) hm0 rfl rfl rfl dL_791 ⟨by decide, by decide⟩ ⟨hk0, hn0⟩ (Nat.le_of_ble_eq_true rfl) (fun r9 w1 hq => ?_)
  obtain ⟨rfl, hw⟩ := hq
  refine U.perm (ws' := wx' ++ (wm' ++ vOut cy ao f)) ((hw.append_left _).trans uP2) ?_
  refine U.lcmp X dL_794 ?_
  exact U.if_eq X (tgt := 1071) dL_795 (by decide) (fun _ => hk) (fun q9 => absurd (uCmp r) q9)
theorem law_ask {b L ax am ao : Nat} {xs : Nat → Int32} {i : Int32} {f : Nat → Int64} {fs gs : List Value} {wx wm wx' wm' : va_W} {r : Int32} (X : UX D cy ML w0 args A p s m meth c) (hA : ∀ q : Nat, s.heap.size ≤ q → A q) (hX : va_X b L xs s s.heap) (hbl : b < s.heap.size) (hbA : ¬ A b) (hk0 : k + 0 ≤ room_1.cells) (hn0 : n + 0 ≤ room_1.slots) (hx0 : wx[0]? = some (ax, .inr (11, fs))) (hm0 : wm[0]? = some (am, .inr (12, gs))) (hMX : vMet l D cy MX11_ask 4 0 0 [.ref ax] wx (fun r0 w => r0 = some (.int r) ∧ w.Perm wx')) (hMM : vMet l D cy MX12_ask 3 0 0 [.ref am] wm (fun r0 w => r0 = some (.int r) ∧ w.Perm wm')) (hk : U D cy ML l room_1 A Φ p e s m args below meth c 1071 [(0, .ref b), (1, .ref ax), (2, .ref am), (3, .ref ao), (4, .int i)] [] (wx' ++ (wm' ++ vOut cy ao f)) k n) : U D cy ML l room_1 A Φ p e s m args below meth c 800 [(0, .ref b), (1, .ref ax), (2, .ref am), (3, .ref ao), (4, .int i)] [] (wx ++ (wm ++ vOut cy ao f)) k n := by
  refine U.aload_n X dL_800 rfl 1 rfl ?_
  refine U.callVP X hA (As := []) (rest := []) (wr := wm ++ vOut cy ao f) hMX kvX11_ask klL_125 (List.Perm.refl _) hx0 rfl rfl rfl dL_801 ⟨by decide, by decide⟩ ⟨hk0, hn0⟩ (Nat.le_of_ble_eq_true rfl) (fun r9 w1 hq => ?_)
  obtain ⟨rfl, hw⟩ := hq
  refine U.perm (ws' := wm ++ (wx' ++ vOut cy ao f)) ((hw.append_left _).trans uP1) ?_
  refine U.aload_n X dL_804 rfl 2 rfl ?_
  refine U.callVP X hA (As := []) (rest := [.int r]) (wr := wx' ++ vOut cy ao f) hMM kvX12_ask klL_128 (List.Perm.refl _) hm0 rfl rfl rfl dL_805 ⟨by decide, by decide⟩ ⟨hk0, hn0⟩ (Nat.le_of_ble_eq_true rfl) (fun r9 w1 hq => ?_)
  obtain ⟨rfl, hw⟩ := hq
  refine U.perm (ws' := wx' ++ (wm' ++ vOut cy ao f)) ((hw.append_left _).trans uP2) ?_
  exact U.icmp_eq X (tgt := 1071) dL_808 (by decide) (fun _ => hk) (fun q9 => absurd rfl q9)
theorem law_same {b L ax am ao : Nat} {xs : Nat → Int32} {i : Int32} {f : Nat → Int64} {fs gs : List Value} {wx wm wx' wm' : va_W} {r : Int32} (X : UX D cy ML w0 args A p s m meth c) (hA : ∀ q : Nat, s.heap.size ≤ q → A q) (hX : va_X b L xs s s.heap) (hbl : b < s.heap.size) (hbA : ¬ A b) (hk0 : k + 0 ≤ room_1.cells) (hn0 : n + 0 ≤ room_1.slots) (hx0 : wx[0]? = some (ax, .inr (11, fs))) (hm0 : wm[0]? = some (am, .inr (12, gs))) (hMX : vMet l D cy MX11_same 4 0 0 [.ref ax] wx (fun r0 w => r0 = some (.int r) ∧ w.Perm wx')) (hMM : vMet l D cy MX12_same 4 0 0 [.ref am] wm (fun r0 w => r0 = some (.int r) ∧ w.Perm wm')) (hk : U D cy ML l room_1 A Φ p e s m args below meth c 1071 [(0, .ref b), (1, .ref ax), (2, .ref am), (3, .ref ao), (4, .int i)] [] (wx' ++ (wm' ++ vOut cy ao f)) k n) : U D cy ML l room_1 A Φ p e s m args below meth c 813 [(0, .ref b), (1, .ref ax), (2, .ref am), (3, .ref ao), (4, .int i)] [] (wx ++ (wm ++ vOut cy ao f)) k n := by
  refine U.aload_n X dL_813 rfl 1 rfl ?_
  refine U.callVP X hA (As := []) (rest := []) (wr := wm ++ vOut cy ao f) hMX kvX11_same klL_129 (List.Perm.refl _) hx0 rfl rfl rfl dL_814 ⟨by decide, by decide⟩ ⟨hk0, hn0⟩ (Nat.le_of_ble_eq_true rfl) (fun r9 w1 hq => ?_)
  obtain ⟨rfl, hw⟩ := hq
  refine U.perm (ws' := wm ++ (wx' ++ vOut cy ao f)) ((hw.append_left _).trans uP1) ?_
  refine U.aload_n X dL_817 rfl 2 rfl ?_
  refine U.callVP X hA (As := []) (rest := [.int r]) (wr := wx' ++ vOut cy ao f) hMM kvX12_same klL_132 (List.Perm.refl _) hm0 rfl rfl rfl dL_818 ⟨by decide, by decide⟩ ⟨hk0, hn0⟩ (Nat.le_of_ble_eq_true rfl) (fun r9 w1 hq => ?_)
  obtain ⟨rfl, hw⟩ := hq
  refine U.perm (ws' := wx' ++ (wm' ++ vOut cy ao f)) ((hw.append_left _).trans uP2) ?_
  exact U.icmp_eq X (tgt := 1071) dL_821 (by decide) (fun _ => hk) (fun q9 => absurd rfl q9)
theorem law_pass {b L ax am ao : Nat} {xs : Nat → Int32} {i : Int32} {f : Nat → Int64} {fs gs : List Value} {wx wm wx' wm' : va_W} {r : Int32} (X : UX D cy ML w0 args A p s m meth c) (hA : ∀ q : Nat, s.heap.size ≤ q → A q) (hX : va_X b L xs s s.heap) (hbl : b < s.heap.size) (hbA : ¬ A b) (hk0 : k + 0 ≤ room_1.cells) (hn0 : n + 0 ≤ room_1.slots) (hx0 : wx[0]? = some (ax, .inr (11, fs))) (hm0 : wm[0]? = some (am, .inr (12, gs))) (hMX : vMet l D cy MX11_pass 4 0 0 [.ref ax] wx (fun r0 w => r0 = some (.int r) ∧ w.Perm wx')) (hMM : vMet l D cy MX12_pass 4 0 0 [.ref am] wm (fun r0 w => r0 = some (.int r) ∧ w.Perm wm')) (hk : U D cy ML l room_1 A Φ p e s m args below meth c 1071 [(0, .ref b), (1, .ref ax), (2, .ref am), (3, .ref ao), (4, .int i)] [] (wx' ++ (wm' ++ vOut cy ao f)) k n) : U D cy ML l room_1 A Φ p e s m args below meth c 826 [(0, .ref b), (1, .ref ax), (2, .ref am), (3, .ref ao), (4, .int i)] [] (wx ++ (wm ++ vOut cy ao f)) k n := by
  refine U.aload_n X dL_826 rfl 1 rfl ?_
  refine U.callVP X hA (As := []) (rest := []) (wr := wm ++ vOut cy ao f) hMX kvX11_pass klL_133 (List.Perm.refl _) hx0 rfl rfl rfl dL_827 ⟨by decide, by decide⟩ ⟨hk0, hn0⟩ (Nat.le_of_ble_eq_true rfl) (fun r9 w1 hq => ?_)
  obtain ⟨rfl, hw⟩ := hq
  refine U.perm (ws' := wm ++ (wx' ++ vOut cy ao f)) ((hw.append_left _).trans uP1) ?_
  refine U.aload_n X dL_830 rfl 2 rfl ?_
  refine U.callVP X hA (As := []) (rest := [.int r]) (wr := wx' ++ vOut cy ao f) hMM kvX12_pass klL_136 (List.Perm.refl _) hm0 rfl rfl rfl dL_831 ⟨by decide, by decide⟩ ⟨hk0, hn0⟩ (Nat.le_of_ble_eq_true rfl) (fun r9 w1 hq => ?_)
  obtain ⟨rfl, hw⟩ := hq
  refine U.perm (ws' := wx' ++ (wm' ++ vOut cy ao f)) ((hw.append_left _).trans uP2) ?_
  exact U.icmp_eq X (tgt := 1071) dL_834 (by decide) (fun _ => hk) (fun q9 => absurd rfl q9)
theorem law_ring {b L ax am ao : Nat} {xs : Nat → Int32} {i : Int32} {f : Nat → Int64} {fs gs : List Value} {wx wm wx' wm' : va_W} {r : Int32} (X : UX D cy ML w0 args A p s m meth c) (hA : ∀ q : Nat, s.heap.size ≤ q → A q) (hX : va_X b L xs s s.heap) (hbl : b < s.heap.size) (hbA : ¬ A b) (hk0 : k + 0 ≤ room_1.cells) (hn0 : n + 0 ≤ room_1.slots) (hx0 : wx[0]? = some (ax, .inr (11, fs))) (hm0 : wm[0]? = some (am, .inr (12, gs))) (hMX : vMet l D cy MX11_ring 6 0 0 [.ref ax] wx (fun r0 w => r0 = some (.int r) ∧ w.Perm wx')) (hMM : vMet l D cy MX12_ring 6 0 0 [.ref am] wm (fun r0 w => r0 = some (.int r) ∧ w.Perm wm')) (hk : U D cy ML l room_1 A Φ p e s m args below meth c 1071 [(0, .ref b), (1, .ref ax), (2, .ref am), (3, .ref ao), (4, .int i)] [] (wx' ++ (wm' ++ vOut cy ao f)) k n) : U D cy ML l room_1 A Φ p e s m args below meth c 839 [(0, .ref b), (1, .ref ax), (2, .ref am), (3, .ref ao), (4, .int i)] [] (wx ++ (wm ++ vOut cy ao f)) k n := by
  refine U.aload_n X dL_839 rfl 1 rfl ?_
  refine U.callVP X hA (As := []) (rest := []) (wr := wm ++ vOut cy ao f) hMX kvX11_ring klL_137 (List.Perm.refl _) hx0 rfl rfl rfl dL_840 ⟨by decide, by decide⟩ ⟨hk0, hn0⟩ (Nat.le_of_ble_eq_true rfl) (fun r9 w1 hq => ?_)
  obtain ⟨rfl, hw⟩ := hq
  refine U.perm (ws' := wm ++ (wx' ++ vOut cy ao f)) ((hw.append_left _).trans uP1) ?_
  refine U.aload_n X dL_843 rfl 2 rfl ?_
  refine U.callVP X hA (As := []) (rest := [.int r]) (wr := wx' ++ vOut cy ao f) hMM kvX12_ring klL_140 (List.Perm.refl _) hm0 rfl rfl rfl dL_844 ⟨by decide, by decide⟩ ⟨hk0, hn0⟩ (Nat.le_of_ble_eq_true rfl) (fun r9 w1 hq => ?_)
  obtain ⟨rfl, hw⟩ := hq
  refine U.perm (ws' := wx' ++ (wm' ++ vOut cy ao f)) ((hw.append_left _).trans uP2) ?_
  exact U.icmp_eq X (tgt := 1071) dL_847 (by decide) (fun _ => hk) (fun q9 => absurd rfl q9)
theorem law_centuries {b L ax am ao : Nat} {xs : Nat → Int32} {i : Int32} {f : Nat → Int64} {fs gs : List Value} {wx wm wx' wm' : va_W} {r : Int32} {y1 : Int32} {y2 : Int32} {y3 : Int32} (X : UX D cy ML w0 args A p s m meth c) (hA : ∀ q : Nat, s.heap.size ≤ q → A q) (hX : va_X b L xs s s.heap) (hbl : b < s.heap.size) (hbA : ¬ A b) (h1 : vp_in (i + 1) L) (e1 : xs (i + (1 : Int32)).toNatClampNeg = y1) (h2 : vp_in (i + 2) L) (e2 : xs (i + (2 : Int32)).toNatClampNeg = y2) (h3 : vp_in (i + 3) L) (e3 : xs (i + (3 : Int32)).toNatClampNeg = y3) (hk0 : k + 0 ≤ room_1.cells) (hn0 : n + 0 ≤ room_1.slots) (hx0 : wx[0]? = some (ax, .inr (11, fs))) (hm0 : wm[0]? = some (am, .inr (12, gs))) (hMX : vMet l D cy MX11_centuries 6 0 0 [.ref ax, .int y1, .int y2, .int y3] wx (fun r0 w => r0 = some (.int r) ∧ w.Perm wx')) (hMM : vMet l D cy MX12_centuries 6 0 0 [.ref am, .int y1, .int y2, .int y3] wm (fun r0 w => r0 = some (.int r) ∧ w.Perm wm')) (hk : U D cy ML l room_1 A Φ p e s m args below meth c 1071 [(0, .ref b), (1, .ref ax), (2, .ref am), (3, .ref ao), (4, .int i)] [] (wx' ++ (wm' ++ vOut cy ao f)) k n) : U D cy ML l room_1 A Φ p e s m args below meth c 944 [(0, .ref b), (1, .ref ax), (2, .ref am), (3, .ref ao), (4, .int i)] [] (wx ++ (wm ++ vOut cy ao f)) k n := by
  refine U.aload_n X dL_944 rfl 1 rfl ?_
  refine U.aload_n X dL_945 rfl 0 rfl ?_
  refine U.iload X dL_946 4 rfl ?_
  refine U.iconst X (v := (1 : Int32)) dL_948 (by decide) ?_
  refine U.iadd X dL_949 ?_
  refine U.sld X hX hbl hbA h1 e1 dL_950 ?_
  refine U.aload_n X dL_951 rfl 0 rfl ?_
  refine U.iload X dL_952 4 rfl ?_
  refine U.iconst X (v := (2 : Int32)) dL_954 (by decide) ?_
  refine U.iadd X dL_955 ?_
  refine U.sld X hX hbl hbA h2 e2 dL_956 ?_
  refine U.aload_n X dL_957 rfl 0 rfl ?_
  refine U.iload X dL_958 4 rfl ?_
  refine U.iconst X (v := (3 : Int32)) dL_960 (by decide) ?_
  refine U.iadd X dL_961 ?_
  refine U.sld X hX hbl hbA h3 e3 dL_962 ?_
  refine U.callVP X hA (As := [.int y1, .int y2, .int y3]) (rest := []) (wr := wm ++ vOut cy ao f) hMX kvX11_centuries klL_145 (List.Perm.refl _) hx0 rfl rfl rfl dL_963 ⟨by decide, by decide⟩ ⟨hk0, hn0⟩ (Nat.le_of_ble_eq_true rfl) (fun r9 w1 hq => ?_)
  obtain ⟨rfl, hw⟩ := hq
  refine U.perm (ws' := wm ++ (wx' ++ vOut cy ao f)) ((hw.append_left _).trans uP1) ?_
  refine U.aload_n X dL_966 rfl 2 rfl ?_
  refine U.aload_n X dL_967 rfl 0 rfl ?_
  refine U.iload X dL_968 4 rfl ?_
  refine U.iconst X (v := (1 : Int32)) dL_970 (by decide) ?_
  refine U.iadd X dL_971 ?_
  refine U.sld X hX hbl hbA h1 e1 dL_972 ?_
  refine U.aload_n X dL_973 rfl 0 rfl ?_
  refine U.iload X dL_974 4 rfl ?_
  refine U.iconst X (v := (2 : Int32)) dL_976 (by decide) ?_
  refine U.iadd X dL_977 ?_
  refine U.sld X hX hbl hbA h2 e2 dL_978 ?_
  refine U.aload_n X dL_979 rfl 0 rfl ?_
  refine U.iload X dL_980 4 rfl ?_
  refine U.iconst X (v := (3 : Int32)) dL_982 (by decide) ?_
  refine U.iadd X dL_983 ?_
  refine U.sld X hX hbl hbA h3 e3 dL_984 ?_
  refine U.callVP X hA (As := [.int y1, .int y2, .int y3]) (rest := [.int r]) (wr := wx' ++ vOut cy ao f) hMM kvX12_centuries klL_149 (List.Perm.refl _) hm0 rfl rfl rfl dL_985 ⟨by decide, by decide⟩ ⟨hk0, hn0⟩ (Nat.le_of_ble_eq_true rfl) (fun r9 w1 hq => ?_)
  obtain ⟨rfl, hw⟩ := hq
  refine U.perm (ws' := wx' ++ (wm' ++ vOut cy ao f)) ((hw.append_left _).trans uP2) ?_
  exact U.icmp_eq X (tgt := 1071) dL_988 (by decide) (fun _ => hk) (fun q9 => absurd rfl q9)
theorem law_count {b L ax am ao : Nat} {xs : Nat → Int32} {i : Int32} {f : Nat → Int64} {fs gs : List Value} {wx wm wx' wm' : va_W} {r : Int32} {y1 : Int32} (X : UX D cy ML w0 args A p s m meth c) (hA : ∀ q : Nat, s.heap.size ≤ q → A q) (hX : va_X b L xs s s.heap) (hbl : b < s.heap.size) (hbA : ¬ A b) (h1 : vp_in (i + 1) L) (e1 : xs (i + (1 : Int32)).toNatClampNeg = y1) (hk0 : k + 0 ≤ room_1.cells) (hn0 : n + 0 ≤ room_1.slots) (hx0 : wx[0]? = some (ax, .inr (11, fs))) (hm0 : wm[0]? = some (am, .inr (12, gs))) (hMX : vMet l D cy MX11_count 4 0 0 [.ref ax, .int y1] wx (fun r0 w => r0 = some (.int r) ∧ w.Perm wx')) (hMM : vMet l D cy MX12_count 6 0 0 [.ref am, .int y1] wm (fun r0 w => r0 = some (.int r) ∧ w.Perm wm')) (hk : U D cy ML l room_1 A Φ p e s m args below meth c 1071 [(0, .ref b), (1, .ref ax), (2, .ref am), (3, .ref ao), (4, .int i)] [] (wx' ++ (wm' ++ vOut cy ao f)) k n) : U D cy ML l room_1 A Φ p e s m args below meth c 1046 [(0, .ref b), (1, .ref ax), (2, .ref am), (3, .ref ao), (4, .int i)] [] (wx ++ (wm ++ vOut cy ao f)) k n := by
  refine U.aload_n X dL_1046 rfl 1 rfl ?_
  refine U.aload_n X dL_1047 rfl 0 rfl ?_
  refine U.iload X dL_1048 4 rfl ?_
  refine U.iconst X (v := (1 : Int32)) dL_1050 (by decide) ?_
  refine U.iadd X dL_1051 ?_
  refine U.sld X hX hbl hbA h1 e1 dL_1052 ?_
  refine U.callVP X hA (As := [.int y1]) (rest := []) (wr := wm ++ vOut cy ao f) hMX kvX11_count klL_155 (List.Perm.refl _) hx0 rfl rfl rfl dL_1053 ⟨by decide, by decide⟩ ⟨hk0, hn0⟩ (Nat.le_of_ble_eq_true rfl) (fun r9 w1 hq => ?_)
  obtain ⟨rfl, hw⟩ := hq
  refine U.perm (ws' := wm ++ (wx' ++ vOut cy ao f)) ((hw.append_left _).trans uP1) ?_
  refine U.aload_n X dL_1056 rfl 2 rfl ?_
  refine U.aload_n X dL_1057 rfl 0 rfl ?_
  refine U.iload X dL_1058 4 rfl ?_
  refine U.iconst X (v := (1 : Int32)) dL_1060 (by decide) ?_
  refine U.iadd X dL_1061 ?_
  refine U.sld X hX hbl hbA h1 e1 dL_1062 ?_
  refine U.callVP X hA (As := [.int y1]) (rest := [.int r]) (wr := wx' ++ vOut cy ao f) hMM kvX12_count klL_158 (List.Perm.refl _) hm0 rfl rfl rfl dL_1063 ⟨by decide, by decide⟩ ⟨hk0, hn0⟩ (Nat.le_of_ble_eq_true rfl) (fun r9 w1 hq => ?_)
  obtain ⟨rfl, hw⟩ := hq
  refine U.perm (ws' := wx' ++ (wm' ++ vOut cy ao f)) ((hw.append_left _).trans uP2) ?_
  exact U.icmp_eq X (tgt := 1071) dL_1066 (by decide) (fun _ => hk) (fun q9 => absurd rfl q9)
end LCASES
