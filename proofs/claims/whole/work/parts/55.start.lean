/-! what holds at the law's start -/
theorem vS_congr {N : Nat} {len : List Nat} {byt : List (List Int32)} {adK adV adK' adV' : Nat → Nat} {A : Nat → Prop} {U : State} {H : Heap} (h : vk_S N len byt adK adV A U H) (e1 : ∀ i, i < N → adK' i = adK i) (e2 : ∀ i, i < N → adV' i = adV i) : vk_S N len byt adK' adV' A U H := by
  refine ⟨fun i hi => ?_, fun i j hi hj he => ?_⟩
  · rw [e1 i hi, e2 i hi]
    exact h.1 i hi
  · rw [e1 i hi, e1 j hj] at he
    exact h.2 i j hi hj he
theorem fl_len : ∀ i : Nat, i < 2 → ([100, 8] : List Nat).getD i 0 < 2 ^ 31 := by decide
def vTm (i : Nat) : Term := .string RX9 (vKx i)
theorem fl_ex : ∀ i : Nat, i < 2 → Cond.exactly (vTm i) "java/lang/String" ∈ flatC (Cond.and given_1 narrow_1) := by decide +kernel
theorem fl_co : ∀ i : Nat, i < 2 → Cond.eq (.field (vTm i) "java/lang/String" "coder" "B") (.int 0) ∈ flatC (Cond.and given_1 narrow_1) := by decide +kernel
theorem fl_ar : ∀ i : Nat, i < 2 → Cond.arrayOf (.field (vTm i) "java/lang/String" "value" "[B") .byte ∈ flatC (Cond.and given_1 narrow_1) := by decide +kernel
theorem fl_le : ∀ i : Nat, i < 2 → Cond.eq (.length (.field (vTm i) "java/lang/String" "value" "[B")) (.int (Int32.ofNat (([100, 8] : List Nat).getD i 0))) ∈ flatC (Cond.and given_1 narrow_1) := by decide +kernel
theorem fl_el : ∀ i : Nat, i < 2 → ∀ j : Nat, j < ([100, 8] : List Nat).getD i 0 → Cond.eq (.elem (.field (vTm i) "java/lang/String" "value" "[B") (.int (Int32.ofNat j))) (.int ((([vTx0, vTx1] : List (List Int32)).getD i []).getD j 0)) ∈ flatC (Cond.and given_1 narrow_1) := by decide +kernel
theorem fl_ne : ∀ i : Nat, i < 2 → ∀ j : Nat, j < 2 → i ≠ j → Cond.not (Cond.eq (vTm i) (vTm j)) ∈ flatC (Cond.and given_1 narrow_1) ∨ Cond.not (Cond.eq (vTm j) (vTm i)) ∈ flatC (Cond.and given_1 narrow_1) := by decide +kernel
theorem fl_rel : ∀ j : Nat, j < 4 → Cond.eq (.elem (.static RX2 "ROUNDS" "[I") (.int (Int32.ofNat j))) (.int (vRnd j)) ∈ flatC (Cond.and given_1 narrow_1) := by decide +kernel
theorem fl_decl : ∀ x ∈ vxN, Cond.declares x ∈ lw_tbl := by decide +kernel
theorem vStart {s : State} {b : Nat} (hts : ∀ w ∈ lw_tbl, w.before #[Value.ref b] s = true) (hgv : (Cond.and given_1 narrow_1).before #[Value.ref b] s = true) :
    ∃ (D : va_G) (cy : Nat → ClassId), va_K D vCl (vTys cy) s ∧ vZ cy (fun q => s.heap.size ≤ q) s s.heap ∧ vxS (fun q => s.heap.size ≤ q) s s.heap := by
  have hA0 : ∀ a : Nat, a < s.heap.size → ¬ (fun q : Nat => s.heap.size ≤ q) a := fun a h => Nat.not_le.mpr h
  have hv : ∀ w ∈ vT, w.before #[Value.ref b] s = true := fun w hw => hts w (vT_lw hw)
  have hs := flat_of_before _ hgv
  obtain ⟨c0, j0, u0⟩ := u_known (C := RX0) (T := TX0) (N := 5) (n := 5) hv kfX0 (hv _ knX0)
  obtain ⟨c1, j1, u1⟩ := u_known (C := RX1) (T := TX1) (N := 8) (n := 8) hv kfX1 (hv _ knX1)
  obtain ⟨c2, j2, u2⟩ := u_known (C := RX2) (T := TX2) (N := 13) (n := 13) hv kfX2 (hv _ knX2)
  obtain ⟨c3, j3, u3⟩ := u_known (C := RX3) (T := TX3) (N := 10) (n := 10) hv kfX3 (hv _ knX3)
  obtain ⟨c4, j4, u4⟩ := u_known (C := RX4) (T := TX4) (N := 3) (n := 3) hv kfX4 (hv _ knX4)
  obtain ⟨c5, j5, u5⟩ := u_known (C := RX5) (T := TX5) (N := 4) (n := 4) hv kfX5 (hv _ knX5)
  obtain ⟨c6, j6, u6⟩ := u_known (C := RX6) (T := TX6) (N := 7) (n := 7) hv kfX6 (hv _ knX6)
  obtain ⟨c7, j7, u7⟩ := u_known (C := RX7) (T := TX7) (N := 2) (n := 2) hv kfX7 (hv _ knX7)
  obtain ⟨c8, j8, u8⟩ := u_known (C := RX8) (T := TX8) (N := 7) (n := 7) hv kfX8 (hv _ knX8)
  obtain ⟨c9, j9, u9⟩ := u_known (C := RX9) (T := TX9) (N := 8) (n := 8) hv kfX9 (hv _ knX9)
  obtain ⟨c10, j10, u10⟩ := u_known (C := RX10) (T := TX10) (N := 5) (n := 5) hv kfX10 (hv _ knX10)
  obtain ⟨c11, j11, u11⟩ := u_known (C := RX11) (T := TX11) (N := 14) (n := 14) hv kfX11 (hv _ knX11)
  obtain ⟨c12, j12, u12⟩ := u_known (C := RX12) (T := TX12) (N := 60) (n := 60) hv kfX12 (hv _ knX12)
  obtain ⟨D, hD⟩ : ∃ D : va_G, ∀ (k : Nat) (q : vw_C), vCl[k]? = some q → u_Kn s q.1 q.2.1 q.2.2 (D.1 k) (D.2 k) := by
    refine ⟨(fun k => if k = 0 then c0 else if k = 1 then c1 else if k = 2 then c2 else if k = 3 then c3 else if k = 4 then c4 else if k = 5 then c5 else if k = 6 then c6 else if k = 7 then c7 else if k = 8 then c8 else if k = 9 then c9 else if k = 10 then c10 else if k = 11 then c11 else c12, fun k => if k = 0 then j0 else if k = 1 then j1 else if k = 2 then j2 else if k = 3 then j3 else if k = 4 then j4 else if k = 5 then j5 else if k = 6 then j6 else if k = 7 then j7 else if k = 8 then j8 else if k = 9 then j9 else if k = 10 then j10 else if k = 11 then j11 else j12), ?_⟩
    intro k q hq
    match k, hq with
    | 0, hq => cases hq; exact u0
    | 1, hq => cases hq; exact u1
    | 2, hq => cases hq; exact u2
    | 3, hq => cases hq; exact u3
    | 4, hq => cases hq; exact u4
    | 5, hq => cases hq; exact u5
    | 6, hq => cases hq; exact u6
    | 7, hq => cases hq; exact u7
    | 8, hq => cases hq; exact u8
    | 9, hq => cases hq; exact u9
    | 10, hq => cases hq; exact u10
    | 11, hq => cases hq; exact u11
    | 12, hq => cases hq; exact u12
    | k + 13, hq => simp [vCl] at hq
  obtain ⟨a0, k0, p0, f0, g0, d0⟩ := Cond.arrayClass_spec (type := .byte) (hts (.arrayClass .byte) (by decide +kernel))
  obtain ⟨a1, k1, p1, f1, g1, d1⟩ := Cond.arrayClass_spec (type := .int) (hts (.arrayClass .int) (by decide +kernel))
  obtain ⟨a2, k2, p2, f2, g2, d2⟩ := Cond.arrayClass_spec (type := .long) (hts (.arrayClass .long) (by decide +kernel))
  obtain ⟨a3, k3, p3, f3, g3, d3⟩ := Cond.arrayClass_spec (type := .boolean) (hts (.arrayClass .boolean) (by decide +kernel))
  obtain ⟨p4, a4, k4, f4, -, g4, d4, n4⟩ := Cond.arrayOver_spec (n := RX5) (hts (.arrayOver (.object RX5)) (by decide +kernel))
  obtain ⟨p5, a5, k5, f5, -, g5, d5, n5⟩ := Cond.arrayOver_spec (n := RX7) (hts (.arrayOver (.object RX7)) (by decide +kernel))
  obtain ⟨p6, a6, k6, f6, -, g6, d6, n6⟩ := Cond.arrayOver_spec (n := RX8) (hts (.arrayOver (.object RX8)) (by decide +kernel))
  obtain ⟨a7, hr1, hr2⟩ := va_Tof (s := s) (tm := .static RX2 "ROUNDS" "[I") (ty := .int) (N := 4) (f := fun j => .int (vRnd j)) (A := fun q => s.heap.size ≤ q) (by decide) (hs _ (by decide +kernel)) (va_eqt (hs (.eq (.length (.static RX2 "ROUNDS" "[I")) (.int (Int32.ofNat 4))) (by decide +kernel))) (fun j hj => va_eqt (hs _ (fl_rel j hj))) hA0
  obtain ⟨adK, adV, hS1, hS2⟩ := vk_Sof (s := s) (N := 2) (tm := vTm) (len := [100, 8]) (byt := [vTx0, vTx1]) (A := fun q => s.heap.size ≤ q) fl_len (fun i hi => hs _ (fl_ex i hi)) (fun i hi => hs _ (fl_co i hi)) (fun i hi => hs _ (fl_ar i hi)) (fun i hi => hs _ (fl_le i hi)) (fun i hi j hj => hs _ (fl_el i hi j hj)) (fun i j hi hj hne => (fl_ne i hi j hj hne).imp (hs _) (hs _)) hA0
  obtain ⟨cy, q0, q1, q2, q3, q4, q5, q6, q7, q8, q9, q10, q11⟩ : ∃ cy : Nat → Nat, cy 0 = a0 ∧ cy 1 = a1 ∧ cy 2 = a2 ∧ cy 3 = a3 ∧ cy 4 = a4 ∧ cy 5 = a5 ∧ cy 6 = a6 ∧ cy 7 = a7 ∧ cy 8 = adK 0 ∧ cy 9 = adK 1 ∧ cy 10 = adV 0 ∧ cy 11 = adV 1 :=
    ⟨fun k => if k = 0 then a0 else if k = 1 then a1 else if k = 2 then a2 else if k = 3 then a3 else if k = 4 then a4 else if k = 5 then a5 else if k = 6 then a6 else if k = 7 then a7 else if k = 8 then adK 0 else if k = 9 then adK 1 else if k = 10 then adV 0 else adV 1, rfl, rfl, rfl, rfl, rfl, rfl, rfl, rfl, rfl, rfl, rfl, rfl⟩
  subst q0; subst q1; subst q2; subst q3; subst q4; subst q5; subst q6; subst q7
  refine ⟨D, cy, ⟨hD, ?_⟩, ⟨⟨va_AO.of (hts (.arrayOver (.object RX5)) (by decide +kernel)), va_AO.of (hts (.arrayOver (.object RX7)) (by decide +kernel)), va_AO.of (hts (.arrayOver (.object RX8)) (by decide +kernel))⟩, va_Zof (hts (.laysStatic RX2 "ROUNDS" "[I") (by decide +kernel)) (hts (.initialized RX2) (by decide +kernel)) hr1 hA0, hr2, va_Zof (hts (.laysStatic "java/lang/String" "COMPACT_STRINGS" "Z") (by decide +kernel)) (hts (.initialized "java/lang/String") (by decide +kernel)) (va_eqi (hs _ (by decide +kernel))) hA0, va_Zqof (hts (.laysStatic "jdk/internal/util/Preconditions" "SIOOBE_FORMATTER" "Ljava/util/function/BiFunction;") (by decide +kernel)) (hts (.initialized "jdk/internal/util/Preconditions") (by decide +kernel)) (hs _ (by decide +kernel)) hA0, ?_, ?_, ?_⟩, ?_⟩
  · intro k q hk
    match k, hk with
    | 0, hk => cases hk; exact ⟨fun n z => ⟨fun k h => (by cases h), k0, g0, p0, d0⟩, f0⟩
    | 1, hk => cases hk; exact ⟨fun n z => ⟨fun k h => (by cases h), k1, g1, p1, d1⟩, f1⟩
    | 2, hk => cases hk; exact ⟨fun n z => ⟨fun k h => (by cases h), k2, g2, p2, d2⟩, f2⟩
    | 3, hk => cases hk; exact ⟨fun n z => ⟨fun k h => (by cases h), k3, g3, p3, d3⟩, f3⟩
    | 4, hk => cases hk; exact ⟨fun n z => ⟨fun k h => (by cases h), k4, g4, p4, d4⟩, k4, p4, g4, d4, f4, n4⟩
    | 5, hk => cases hk; exact ⟨fun n z => ⟨fun k h => (by cases h), k5, g5, p5, d5⟩, k5, p5, g5, d5, f5, n5⟩
    | 6, hk => cases hk; exact ⟨fun n z => ⟨fun k h => (by cases h), k6, g6, p6, d6⟩, k6, p6, g6, d6, f6, n6⟩
    | k + 7, hk => simp [vTys] at hk
  · rw [q8]; exact vk_R.of (hts (.stringRef RX9 90 "folk kin  line rope takesover undercut  pull bend slip hitchwar  not  and  or   placesort kins below") (by decide +kernel)) (hS2 0 (by decide))
  · rw [q9]; exact vk_R.of (hts (.stringRef RX9 53 "()<=+-*;") (by decide +kernel)) (hS2 1 (by decide))
  · refine vS_congr hS1 (fun i hi => ?_) (fun i hi => ?_)
    · rcases (show i = 0 ∨ i = 1 by omega) with rfl | rfl
      · exact q8
      · exact q9
    · rcases (show i = 0 ∨ i = 1 by omega) with rfl | rfl
      · exact q10
      · exact q11
  · refine ⟨vx_Zqof (hts (.laysStatic Bundle.tN "UNASSIGNED_STACK" Bundle.steD) (by decide +kernel)) (hts (.initialized Bundle.tN) (by decide +kernel)) (hs _ (by decide +kernel)) hA0, vx_Zqof (hts (.laysStatic Bundle.tN "SUPPRESSED_SENTINEL" Bundle.listD) (by decide +kernel)) (hts (.initialized Bundle.tN) (by decide +kernel)) (hs _ (by decide +kernel)) hA0, fun x hx => va_Nw.of rfl (hts _ (fl_decl x hx)), va_Nw.of rfl (hts (.castable vNs vNs) (by decide +kernel))⟩
