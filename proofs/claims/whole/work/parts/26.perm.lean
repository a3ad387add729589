/-! worlds up to order; pools of like cells -/
theorem va_P_perm {D : va_G} {cl : List vw_C} {ws ws' : va_W} {H : Heap} (h : ws.Perm ws') (hP : va_P D cl ws H) : va_P D cl ws' H := by
  intro k q hk
  obtain ⟨i, hi⟩ := List.getElem?_of_mem (h.mem_iff.mpr (List.mem_of_getElem? hk))
  exact hP i q hi
theorem va_D_nodup {A : Nat → Prop} {ws : va_W} : va_D A ws ↔ (ws.map Prod.fst).Nodup ∧ ∀ q ∈ ws, A q.1 := by
  constructor
  · intro h
    refine ⟨?_, fun q hq => ?_⟩
    · unfold List.Nodup
      rw [List.pairwise_iff_getElem]
      intro i j hi hj hij he
      simp only [List.getElem_map, List.length_map] at he hi hj
      exact absurd (h.1 i j _ _ (List.getElem?_eq_getElem hi) (List.getElem?_eq_getElem hj) he) (by omega)
    · obtain ⟨i, hi⟩ := List.getElem?_of_mem hq
      exact h.2 i q hi
  · intro h
    refine ⟨fun i j p q hi hj he => ?_, fun k q hk => h.2 q (List.mem_of_getElem? hk)⟩
    obtain ⟨hi1, hi2⟩ := List.getElem?_eq_some_iff.mp hi
    obtain ⟨hj1, hj2⟩ := List.getElem?_eq_some_iff.mp hj
    have h1 := h.1
    unfold List.Nodup at h1
    rw [List.pairwise_iff_getElem] at h1
    rcases Nat.lt_trichotomy i j with g | g | g
    · have h2 := h1 i j (by simpa using hi1) (by simpa using hj1) g
      simp only [List.getElem_map, hi2, hj2] at h2
      exact absurd he h2
    · exact g
    · have h2 := h1 j i (by simpa using hj1) (by simpa using hi1) g
      simp only [List.getElem_map, hi2, hj2] at h2
      exact absurd he.symm h2
theorem va_D_perm {A : Nat → Prop} {ws ws' : va_W} (h : ws.Perm ws') (hD : va_D A ws) : va_D A ws' := by
  rw [va_D_nodup] at hD ⊢
  exact ⟨(h.map Prod.fst).nodup_iff.mp hD.1, fun q hq => hD.2 q (h.mem_iff.mpr hq)⟩
theorem va_nd_nodup : ∀ (l : List Nat), l.Nodup → va_nd l = true
  | [], _ => rfl
  | a :: l, h => by
    rw [List.nodup_cons] at h
    simp only [va_nd, Bool.and_eq_true, decide_eq_true_eq]
    exact ⟨h.1, va_nd_nodup l h.2⟩
theorem vIdx (ws : va_W) : (List.range ws.length).map (fun i => ws[i]?) = ws.map some := by
  apply List.ext_getElem?
  intro i
  by_cases hi : i < ws.length
  · simp [hi]
  · simp [hi]
theorem vPermIdx {ws ws' : va_W} (is : List Nat) (hp : is.Perm (List.range ws.length)) (hs : is.map (fun i => ws[i]?) = ws'.map some) : ws.Perm ws' := by
  have h1 : (ws'.map some).Perm (ws.map some) := by rw [← hs, ← vIdx ws]; exact hp.map _
  have h2 := h1.filterMap id
  simpa [List.filterMap_map, Function.comp_def] using h2.symm
def vPool (n : Nat) (blk : Nat → va_W) : va_W := (List.range n).flatMap blk
def vPoolX (n j : Nat) (blk : Nat → va_W) : va_W := ((List.range n).erase j).flatMap blk
theorem vPool_perm {n j : Nat} {blk : Nat → va_W} (hj : j < n) : (vPool n blk).Perm (blk j ++ vPoolX n j blk) := by
  have h := (List.perm_cons_erase (List.mem_range.mpr hj)).flatMap_right blk
  simpa [vPool, vPoolX] using h
theorem vPoolX_congr {n j : Nat} {blk blk' : Nat → va_W} (h : ∀ i, i ≠ j → blk' i = blk i) : vPoolX n j blk' = vPoolX n j blk := by
  unfold vPoolX
  have hn : ((List.range n).erase j).Nodup := List.Nodup.erase j List.nodup_range
  have key : ∀ i ∈ (List.range n).erase j, blk' i = blk i := by
    intro i hi
    refine h i (fun e => ?_)
    subst e
    exact (List.Nodup.not_mem_erase List.nodup_range) hi
  rw [List.flatMap_def, List.flatMap_def, List.map_congr_left key]
theorem vPool_in {n j : Nat} {blk : Nat → va_W} {pl : va_W} (hj : j < n) : (pl ++ vPool n blk).Perm ((pl ++ blk j) ++ vPoolX n j blk) := by
  rw [List.append_assoc]
  exact (vPool_perm hj).append_left pl
theorem vPool_out {n j : Nat} {blk blk' : Nat → va_W} {pl : va_W} (hj : j < n) (hb : ∀ i, i ≠ j → blk' i = blk i) : ((pl ++ blk' j) ++ vPoolX n j blk).Perm (pl ++ vPool n blk') := by
  rw [← vPoolX_congr hb]
  exact (vPool_in hj).symm
theorem vPool_out' {n j : Nat} {blk blk' : Nat → va_W} {pl cs : va_W} (hj : j < n) (hb : ∀ i, i ≠ j → blk' i = blk i) (hc : blk' j = cs) : ((pl ++ cs) ++ vPoolX n j blk).Perm (pl ++ vPool n blk') := by
  rw [← hc]
  exact vPool_out hj hb
def vPoolY (n j i : Nat) (blk : Nat → va_W) : va_W := (((List.range n).erase j).erase i).flatMap blk
theorem vPoolX_perm {n j i : Nat} {blk : Nat → va_W} (hi : i < n) (hij : i ≠ j) : (vPoolX n j blk).Perm (blk i ++ vPoolY n j i blk) := by
  have hm : i ∈ (List.range n).erase j := (List.mem_erase_of_ne hij).mpr (List.mem_range.mpr hi)
  have h := (List.perm_cons_erase hm).flatMap_right blk
  simpa [vPoolX, vPoolY] using h
theorem vPool_in2 {n j i : Nat} {blk : Nat → va_W} {pl : va_W} (hj : j < n) (hi : i < n) (hij : i ≠ j) : (pl ++ vPool n blk).Perm ((pl ++ (blk j ++ blk i)) ++ vPoolY n j i blk) := by
  refine (vPool_in hj).trans ?_
  have h := (vPoolX_perm (blk := blk) hi hij).append_left (pl ++ blk j)
  simpa [List.append_assoc] using h
theorem vPool_out2 {n j i : Nat} {blk blk' : Nat → va_W} {pl cs ds : va_W} (hj : j < n) (hi : i < n) (hij : i ≠ j) (hb : ∀ a, a ≠ j → blk' a = blk a) (hc : blk' j = cs) (hd : blk i = ds) : ((pl ++ (cs ++ ds)) ++ vPoolY n j i blk).Perm (pl ++ vPool n blk') := by
  subst hc; subst hd
  refine List.Perm.trans ?_ (vPool_out hj hb)
  have h := (vPoolX_perm (blk := blk) hi hij).symm.append_left (pl ++ blk' j)
  simpa [List.append_assoc] using h
theorem vPermA {pl X wc wr0 : va_W} (is : List Nat) (m : Nat) (hm : pl.length = m) (hp : is.Perm (List.range m)) (hs : is.map (fun i => pl[i]?) = (wc ++ wr0).map some) : (pl ++ X).Perm (wc ++ (wr0 ++ X)) := by
  subst hm
  rw [← List.append_assoc]
  exact (vPermIdx is hp hs).append_right X
theorem vPermB {pl X w1 wr0 : va_W} (is : List Nat) (m : Nat) (hm : (w1 ++ wr0).length = m) (hp : is.Perm (List.range m)) (hs : is.map (fun i => (w1 ++ wr0)[i]?) = pl.map some) : (w1 ++ (wr0 ++ X)).Perm (pl ++ X) := by
  subst hm
  rw [← List.append_assoc]
  exact (vPermIdx is hp hs).append_right X
/-- a callee that has the pool, too -/
theorem vPermC {pl X wc wr0 : va_W} (is : List Nat) (m : Nat) (hm : pl.length = m) (hp : is.Perm (List.range m)) (hs : is.map (fun i => pl[i]?) = (wc ++ wr0).map some) : (pl ++ X).Perm ((wc ++ X) ++ wr0) := by
  subst hm
  refine (vPermA is _ rfl hp hs).trans ?_
  rw [List.append_assoc]
  exact (List.perm_append_comm).append_left wc
theorem vPermD {pl X w1 wr0 : va_W} (is : List Nat) (m : Nat) (hm : (w1 ++ wr0).length = m) (hp : is.Perm (List.range m)) (hs : is.map (fun i => (w1 ++ wr0)[i]?) = pl.map some) : ((w1 ++ X) ++ wr0).Perm (pl ++ X) := by
  subst hm
  refine List.Perm.trans ?_ (vPermB is _ rfl hp hs)
  rw [List.append_assoc]
  exact (List.perm_append_comm).append_left w1
section LAYER4
variable {l : Launch} {D : va_G} {cy : Nat → ClassId} {M M2 : vM} {d mc ms d2 mc2 ms2 : Nat} {av : List Value} {ws0 : va_W} {Q Q2 : Option Value → va_W → Prop} {pc : Nat} {lv lv' : List (Nat × Value)} {st : List Value} {ws ws' wc wr : va_W} {k n : Nat}
theorem V.perm (hp : ws.Perm ws') (h : V l D cy M d mc ms av ws0 Q pc lv st ws' k n) : V l D cy M d mc ms av ws0 Q pc lv st ws k n := by
  intro p e s m below meth c X H locs ls hP hD hS hl
  exact h p e s m below meth c X H locs ls (va_P_perm hp hP) (va_D_perm hp hD) hS hl
theorem vIsC : (List.range wc.length).map (fun i => (wc ++ wr)[i]?) = wc.map some := by
  rw [← vIdx wc]
  apply List.map_congr_left
  intro i hi
  exact List.getElem?_append_left (List.mem_range.mp hi)
theorem vIsR : ((List.range wr.length).map (fun i => wc.length + i)).map (fun i => (wc ++ wr)[i]?) = wr.map some := by
  rw [← vIdx wr, List.map_map]
  apply List.map_congr_left
  intro i hi
  show (wc ++ wr)[wc.length + i]? = wr[i]?
  rw [List.getElem?_append_right (by omega)]
  congr 1
  omega
theorem vNdC (n : Nat) : va_nd (List.range n) = true := va_nd_nodup _ List.nodup_range
theorem vNdR (m n : Nat) : va_nd ((List.range n).map (fun i => m + i)) = true := va_nd_nodup _ (by
  unfold List.Nodup
  rw [List.pairwise_map]
  exact List.nodup_range.imp (fun h => by omega))
theorem vDis (m n : Nat) : ∀ i ∈ (List.range n).map (fun i => m + i), i ∉ List.range m := by
  intro i hi
  obtain ⟨a, -, rfl⟩ := List.mem_map.mp hi
  simp
theorem V.callVP {As rest : List Value} {b index q0 ci : Nat} {fs : List Value} {cq : vw_C} (hM : vMet l D cy M2 d2 mc2 ms2 (.ref b :: As) wc Q2) (hw : vIns M2 As.length) (hk : Cond.methodLink M.1.cls index M2.1 ∈ vT) (hp : ws.Perm (wc ++ wr))
    (hrc : wc[q0]? = some (b, .inr (ci, fs))) (hcl : vCl[ci]? = some cq) (hcn : cq.1 = M2.1.cls) (hst : st = As.reverse ++ .ref b :: rest) (hdg : decode M.2.1 pc = .ok (.invokevirtual index, 3)) (hrm : d2 + 1 ≤ d ∧ M2.2.2.1 ≤ 40 ∧ k + mc2 ≤ mc ∧ n + ms2 ≤ ms) (hcat : (rest.map fun v => v.category).sum ≤ 8)
    (h : ∀ (r : Option Value) (w1 : va_W), Q2 r w1 → V l D cy M d mc ms av ws0 Q (pc + 3) lv (r.toList ++ rest) (w1 ++ wr) (k + mc2) (n + ms2)) : V l D cy M d mc ms av ws0 Q pc lv st ws k n := by
  refine V.perm hp (V.callV (wr := wr) hM hw hk (List.range wc.length) ((List.range wr.length).map (fun i => wc.length + i)) vIsC vIsR (vNdC _) (vNdR _ _) (vDis _ _) (q0 := q0) (ci := ci) (fs := fs) ?_ hcl hcn hst hdg hrm hcat (fun r w1 hq => V.perm List.perm_append_comm (h r w1 hq)))
  rw [List.getElem?_append_left (List.getElem?_eq_some_iff.mp hrc).1]
  exact hrc
theorem V.callSP {As rest : List Value} {index : Nat} (hM : vMet l D cy M2 d2 mc2 ms2 As wc Q2) (hw : vSta M2 As.length) (hk : Cond.methodLink M.1.cls index M2.1 ∈ vT) (hp : ws.Perm (wc ++ wr))
    (hst : st = As.reverse ++ rest) (hdg : decode M.2.1 pc = .ok (.invokestatic index, 3)) (hrm : d2 + 1 ≤ d ∧ M2.2.2.1 ≤ 40 ∧ k + mc2 ≤ mc ∧ n + ms2 ≤ ms) (hcat : (rest.map fun v => v.category).sum ≤ 8)
    (h : ∀ (r : Option Value) (w1 : va_W), Q2 r w1 → V l D cy M d mc ms av ws0 Q (pc + 3) lv (r.toList ++ rest) (w1 ++ wr) (k + mc2) (n + ms2)) : V l D cy M d mc ms av ws0 Q pc lv st ws k n := by
  refine V.perm hp (V.callS (wr := wr) hM hw hk (List.range wc.length) ((List.range wr.length).map (fun i => wc.length + i)) vIsC vIsR (vNdC _) (vNdR _ _) (vDis _ _) hst hdg hrm hcat (fun r w1 hq => V.perm List.perm_append_comm (h r w1 hq)))
end LAYER4
