/-! statics and texts -/
theorem vS_at {cy : Nat → ClassId} {A : Nat → Prop} {U : State} {H : Heap} (h : vZ cy A U H) : vk_S 2 [100, 8] [vTx0, vTx1] (vAdK cy) (vAdV cy) A U H := h.2.2.2.2.2.2.2
def vLen (i : Nat) : Nat := if i = 0 then 100 else 8
def vTx (i : Nat) : List Int32 := if i = 0 then vTx0 else vTx1
def vKx (i : Nat) : Nat := if i = 0 then 90 else 53
section STAT
variable {l : Launch} {D : va_G} {cy : Nat → ClassId} {M M2 : vM} {d mc ms d2 mc2 ms2 : Nat} {av : List Value} {ws0 : va_W} {Q Q2 : Option Value → va_W → Prop} {pc : Nat} {lv : List (Nat × Value)} {st : List Value} {ws ws' wc wr : va_W} {k n : Nat}
theorem V.gets {index : Nat} (hk : Cond.fieldLink M.1.cls index RX2 "ROUNDS" "[I" ∈ vT) (hd : decode M.2.1 pc = .ok (.getstatic index, 3)) (h : V l D cy M d mc ms av ws0 Q (pc + 3) lv (.ref (cy 7) :: st) ws k n) : V l D cy M d mc ms av ws0 Q pc lv st ws k n := by
  intro p e s m below meth c X H locs ls hP hD hS hl
  exact va_gets X.1 X.2.1 X.2.2.2.2.2.2.2.2.2.2.1 hS X.2.2.2.2.1 (X.2.2.2.2.2.2.2.1 _ (List.mem_cons_of_mem _ hk)) (fun _ h => h) hd (h p e s m below meth c X H locs ls hP hD hS hl)
theorem V.zlen (hd : decode M.2.1 pc = .ok (.arraylength, 1)) (h : V l D cy M d mc ms av ws0 Q (pc + 1) lv (.int 4 :: st) ws k n) : V l D cy M d mc ms av ws0 Q pc lv (.ref (cy 7) :: st) ws k n := by
  intro p e s m below meth c X H locs ls hP hD hS hl
  exact va_tlen X.1 X.2.1 X.2.2.2.2.2.2.2.2.2.2.2.1 hS rfl hd (h p e s m below meth c X H locs ls hP hD hS hl)
theorem V.rald {i : Int32} (hd : decode M.2.1 pc = .ok (.iaload, 1)) (hin : vp_in i 4) (h : V l D cy M d mc ms av ws0 Q (pc + 1) lv (.int (vRnd i.toNatClampNeg) :: st) ws k n) : V l D cy M d mc ms av ws0 Q pc lv (.int i :: .ref (cy 7) :: st) ws k n := by
  intro p e s m below meth c X H locs ls hP hD hS hl
  exact va_ti X.1 X.2.1 X.2.2.2.2.2.2.2.2.2.2.2.1 hS hin rfl hd (h p e s m below meth c X H locs ls hP hD hS hl)
theorem V.ldcS (i : Nat) (hi : i < 2) (hm : M.1.cls = RX9) (hd : decode M.2.1 pc = .ok (.ldc (vKx i), 2)) (h : V l D cy M d mc ms av ws0 Q (pc + 2) lv (.ref (vAdK cy i) :: st) ws k n) : V l D cy M d mc ms av ws0 Q pc lv st ws k n := by
  intro p e s m below meth c X H locs ls hP hD hS hl
  rcases (show i = 0 ∨ i = 1 by omega) with rfl | rfl
  · exact va_ldcS X.1 X.2.1 (hm ▸ X.2.2.2.2.1) X.2.2.2.2.2.2.2.2.2.2.2.2.2.2.1 hd (h p e s m below meth c X H locs ls hP hD hS hl)
  · exact va_ldcS X.1 X.2.1 (hm ▸ X.2.2.2.2.1) X.2.2.2.2.2.2.2.2.2.2.2.2.2.2.2.1 hd (h p e s m below meth c X H locs ls hP hD hS hl)
theorem V.zval {index : Nat} (i : Nat) (hi : i < 2) (hk : Cond.fieldLink M.1.cls index "java/lang/String" "value" "[B" ∈ vT) (hd : decode M.2.1 pc = .ok (.getfield index, 3)) (h : V l D cy M d mc ms av ws0 Q (pc + 3) lv (.ref (vAdV cy i) :: st) ws k n) : V l D cy M d mc ms av ws0 Q pc lv (.ref (vAdK cy i) :: st) ws k n := by
  intro p e s m below meth c X H locs ls hP hD hS hl
  exact vk_getf X.1 X.2.1 ((vS_at X.2.2.2.2.2.2.2.2.2).1 i hi).2.2.1 hS X.2.2.2.2.1 (X.2.2.2.2.2.2.2.1 _ (List.mem_cons_of_mem _ hk)) (fun _ h => h) hd (h p e s m below meth c X H locs ls hP hD hS hl)
theorem V.zcod {index : Nat} (i : Nat) (hi : i < 2) (hk : Cond.fieldLink M.1.cls index "java/lang/String" "coder" "B" ∈ vT) (hd : decode M.2.1 pc = .ok (.getfield index, 3)) (h : V l D cy M d mc ms av ws0 Q (pc + 3) lv (.int 0 :: st) ws k n) : V l D cy M d mc ms av ws0 Q pc lv (.ref (vAdK cy i) :: st) ws k n := by
  intro p e s m below meth c X H locs ls hP hD hS hl
  exact vk_getf X.1 X.2.1 ((vS_at X.2.2.2.2.2.2.2.2.2).1 i hi).2.1 hS X.2.2.2.2.1 (X.2.2.2.2.2.2.2.1 _ (List.mem_cons_of_mem _ hk)) (fun _ h => h) hd (h p e s m below meth c X H locs ls hP hD hS hl)
theorem V.zblen (i : Nat) (hi : i < 2) (hd : decode M.2.1 pc = .ok (.arraylength, 1)) (h : V l D cy M d mc ms av ws0 Q (pc + 1) lv (.int (Int32.ofNat (vLen i)) :: st) ws k n) : V l D cy M d mc ms av ws0 Q pc lv (.ref (vAdV cy i) :: st) ws k n := by
  intro p e s m below meth c X H locs ls hP hD hS hl
  have hT := ((vS_at X.2.2.2.2.2.2.2.2.2).1 i hi).2.2.2
  rcases (show i = 0 ∨ i = 1 by omega) with rfl | rfl
  · exact va_tlen X.1 X.2.1 hT hS rfl hd (h p e s m below meth c X H locs ls hP hD hS hl)
  · exact va_tlen X.1 X.2.1 hT hS rfl hd (h p e s m below meth c X H locs ls hP hD hS hl)
theorem V.zbald {x : Int32} (i : Nat) (hi : i < 2) (hd : decode M.2.1 pc = .ok (.baload, 1)) (hin : vp_in x (vLen i)) (h : V l D cy M d mc ms av ws0 Q (pc + 1) lv (.int ((vTx i).getD x.toNatClampNeg 0) :: st) ws k n) : V l D cy M d mc ms av ws0 Q pc lv (.int x :: .ref (vAdV cy i) :: st) ws k n := by
  intro p e s m below meth c X H locs ls hP hD hS hl
  have hT := ((vS_at X.2.2.2.2.2.2.2.2.2).1 i hi).2.2.2
  rcases (show i = 0 ∨ i = 1 by omega) with rfl | rfl
  · exact va_tb X.1 X.2.1 hT hS hin rfl hd (h p e s m below meth c X H locs ls hP hD hS hl)
  · exact va_tb X.1 X.2.1 hT hS hin rfl hd (h p e s m below meth c X H locs ls hP hD hS hl)
theorem V.zcompact {index : Nat} (hk : Cond.fieldLink M.1.cls index "java/lang/String" "COMPACT_STRINGS" "Z" ∈ vT) (hd : decode M.2.1 pc = .ok (.getstatic index, 3)) (h : V l D cy M d mc ms av ws0 Q (pc + 3) lv (.int 1 :: st) ws k n) : V l D cy M d mc ms av ws0 Q pc lv st ws k n := by
  intro p e s m below meth c X H locs ls hP hD hS hl
  exact va_gets X.1 X.2.1 X.2.2.2.2.2.2.2.2.2.2.2.2.1 hS X.2.2.2.2.1 (X.2.2.2.2.2.2.2.1 _ (List.mem_cons_of_mem _ hk)) (fun _ h => h) hd (h p e s m below meth c X H locs ls hP hD hS hl)
theorem V.zfmt {index : Nat} (hk : Cond.fieldLink M.1.cls index "jdk/internal/util/Preconditions" "SIOOBE_FORMATTER" "Ljava/util/function/BiFunction;" ∈ vT) (hd : decode M.2.1 pc = .ok (.getstatic index, 3)) (h : ∀ v : Value, v.category = 1 → V l D cy M d mc ms av ws0 Q (pc + 3) lv (v :: st) ws k n) : V l D cy M d mc ms av ws0 Q pc lv st ws k n := by
  intro p e s m below meth c X H locs ls hP hD hS hl
  rcases X.2.2.2.2.2.2.2.2.2.2.2.2.2.1 with hZ | ⟨t, hZ⟩
  · exact va_gets X.1 X.2.1 hZ hS X.2.2.2.2.1 (X.2.2.2.2.2.2.2.1 _ (List.mem_cons_of_mem _ hk)) (fun _ h => h) hd (h .null rfl p e s m below meth c X H locs ls hP hD hS hl)
  · exact va_gets X.1 X.2.1 hZ hS X.2.2.2.2.1 (X.2.2.2.2.2.2.2.1 _ (List.mem_cons_of_mem _ hk)) (fun _ h => h) hd (h (.ref t) rfl p e s m below meth c X H locs ls hP hD hS hl)
theorem V.callVz {As rest : List Value} {index : Nat} (i : Nat) (hi : i < 2) (hM : vMet l D cy M2 d2 mc2 ms2 (.ref (vAdK cy i) :: As) [] Q2) (hw : vIns M2 As.length) (hk : Cond.methodLink M.1.cls index M2.1 ∈ vT) (hcn : M2.1.cls = "java/lang/String")
    (hst : st = As.reverse ++ .ref (vAdK cy i) :: rest) (hdg : decode M.2.1 pc = .ok (.invokevirtual index, 3)) (hrm : d2 + 1 ≤ d ∧ M2.2.2.1 ≤ 40 ∧ k + mc2 ≤ mc ∧ n + ms2 ≤ ms) (hcat : (rest.map fun v => v.category).sum ≤ 8)
    (h : ∀ (r : Option Value) (w1 : va_W), Q2 r w1 → V l D cy M d mc ms av ws0 Q (pc + 3) lv (r.toList ++ rest) (ws ++ w1) (k + mc2) (n + ms2)) : V l D cy M d mc ms av ws0 Q pc lv st ws k n := by
  refine V.after (wc := []) (wr := ws) [] (List.range ws.length) rfl ?_ ?_ (fun _ _ => by simp) (av2 := (Value.ref (vAdK cy i) :: As).toArray) ?_ h
  · apply List.ext_getElem?
    intro j
    by_cases hj : j < ws.length
    · simp [hj]
    · simp [hj]
  · have : ∀ (l : List Nat), l.Nodup → va_nd l = true := by
      intro l
      induction l with
      | nil => intro _; rfl
      | cons a l ih =>
        intro h
        rw [List.nodup_cons] at h
        simp only [va_nd, Bool.and_eq_true, decide_eq_true_eq]
        exact ⟨h.1, ih h.2⟩
    exact this _ List.nodup_range
  intro p e s m below meth c X H locs ls hP hD hS hl
  have ht := X.2.2.2.2.2.2.2.1
  have hv : ∀ w ∈ vT, w.before av.toArray s = true := fun w hw => ht w (List.mem_cons_of_mem _ hw)
  obtain ⟨w1, w2, w3, w4, w5⟩ := hw
  have cb : CallB (vRoom d mc ms) s av.toArray M.1.cls index M2.1 M2.2.1 M2.2.2.1 M2.2.2.2 (vWs M2) (vRoom d2 mc2 ms2) mc2 ms2 As.length :=
    callB_of As.length ht (vGood w1) rfl rfl rfl (hv _ w2) (hv _ hk) w3 ⟨by simp only [vRoom]; omega, by simp only [vRoom]; omega⟩
  exact va_runV (Ts := vWs M) (own := M.1.cls) (C := M2.1.cls) ⟨X.1, X.2.1, X.2.2.2.1, X.2.2.2.2.1, ht⟩ (hM H.size) ⟨cb, hv _ w4, hv _ w5⟩
    ⟨vBlind, by rw [hcn]; exact vk_recv (vS_at X.2.2.2.2.2.2.2.2.2) hi hS, fun U hU hW => ⟨rfl, vPre_call X hP hD hS [] rfl rfl U hU hW⟩⟩ rfl rfl hl.1 hst (lv_room hcat) hdg ⟨hrm.2.2.1, hrm.2.2.2⟩
end STAT
