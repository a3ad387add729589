/-! THE STEPS OF THE REFERENCE -/
theorem yrM_fr {li lw lN li' lw' lN' : Nat → Int32} (h : frM 200 li lw lN li' lw' lN') {c : Nat} (hc : c < 5) {Y : List Nat} (h40 : Y.length ≤ 40) (hy : yrM li lw lN c Y) : yrM li' lw' lN' c Y :=
  ⟨by rw [h.2 c hc]; exact hy.1, fun k hk => by rw [(h.1 (40 * c + k) (by omega)).1, (h.1 (40 * c + k) (by omega)).2]; exact hy.2 k hk⟩
theorem yrM_f4 {li lw lN li' lw' lN' : Nat → Int32} (h : fr14 40 200 li lw li' lw') (h' : fr14 40 200 li lN li' lN') {c : Nat} (h1 : 1 ≤ c) (hc : c < 5) {Y : List Nat} (h40 : Y.length ≤ 40) (hy : yrM li lw lN c Y) : yrM li' lw' lN' c Y :=
  ⟨by rw [h.2 c h1 hc]; exact hy.1, fun k hk => by rw [h.1 (40 * c + k) (by omega) (by omega), h'.1 (40 * c + k) (by omega) (by omega)]; exact hy.2 k hk⟩
theorem otM_fr {os ot os' ot' : Nat → Int32} (h : frO5 120 os ot os' ot') {c : Nat} (hc : c < 5) {O : List Nat} (h24 : O.length ≤ 24) (hy : otM os ot c O) : otM os' ot' c O :=
  ⟨by rw [h.2 c hc]; exact hy.1, fun k hk => by rw [h.1 (24 * c + k) (by omega)]; exact hy.2 k hk⟩
theorem otM_f4 {os ot os' ot' : Nat → Int32} (h : fr14 24 120 os ot os' ot') {c : Nat} (h1 : 1 ≤ c) (hc : c < 5) {O : List Nat} (h24 : O.length ≤ 24) (hy : otM os ot c O) : otM os' ot' c O :=
  ⟨by rw [h.2 c h1 hc]; exact hy.1, fun k hk => by rw [h.1 (24 * c + k) (by omega) (by omega)]; exact hy.2 k hk⟩
theorem mkM_map {laid md li lw lN os ot ah on tw li' lw' lN' os' ot' ah' on' tw' : Nat → Int32} {n ln : Nat} {M : Nat → Option (List Nat × List Nat × List Nat × List Nat × List Nat)} (h : mkM laid md li lw lN os ot ah on tw n ln M) (g : ∀ m, m < 4 → ∀ L Y O E G, okS n ln L Y O E G → slM li lw lN os ot ah on tw (m + 1) Y O E G → slM li' lw' lN' os' ot' ah' on' tw' (m + 1) Y O E G) : mkM laid md li' lw' lN' os' ot' ah' on' tw' n ln M := by
  intro m hm
  rcases h m hm with h1 | ⟨L, Y, O, E, G, q1, q2, q3, q4, q5⟩
  · exact Or.inl h1
  · exact Or.inr ⟨L, Y, O, E, G, q1, q2, q3, q4, g m hm L Y O E G q3 q5⟩
theorem ahM_0 {ah on tw : Nat → Int32} {x : Int32} {c : Nat} (hc : 1 ≤ c) {E G : List Nat} (h : ahM ah on tw c E G) : ahM (upd ah 0 x) on tw c E G := ⟨by rw [upd_ne _ _ (by omega)]; exact h.1, h.2⟩
theorem ahM_nil (ah on tw : Nat → Int32) : ahM (upd ah 0 0) on tw 0 [] [] := ⟨upd_same _ _ _, fun k hk => absurd hk (Nat.not_lt_zero k), fun k hk => absurd hk (Nat.not_lt_zero k)⟩
theorem rS_nil (s : Nat → Int32) : rS (upd s 0 0) [] := ⟨upd_same _ _ _, fun k hk => absurd hk (Nat.not_lt_zero k)⟩
theorem yrM_nil (li lw lN : Nat → Int32) : yrM (upd li 0 0) lw lN 0 [] := ⟨upd_same _ _ _, fun k hk => absurd hk (Nat.not_lt_zero k)⟩
theorem otM_nil (os ot : Nat → Int32) : otM (upd os 0 0) ot 0 [] := ⟨upd_same _ _ _, fun k hk => absurd hk (Nat.not_lt_zero k)⟩
theorem ahM_sn {ah on tw : Nat → Int32} {E G : List Nat} {a b : Nat} (hG : G.length = E.length) (h : ahM ah on tw 0 E G) : ahM (upd ah 0 (ii (E.length + 1))) (upd on E.length (ii a)) (upd tw E.length (ii b)) 0 (E ++ [a]) (G ++ [b]) := by
  obtain ⟨h1, h2, h3⟩ := h
  have r1 : rL on E := fun k hk => by have := h2 k hk; rw [Nat.mul_zero, Nat.zero_add] at this; exact this
  have r2 : rL tw G := fun k hk => by have := h3 k hk; rw [Nat.mul_zero, Nat.zero_add] at this; exact this
  have s1 := rL_snoc (t := a) r1
  have s2 := rL_snoc (t := b) r2
  rw [hG] at s2
  refine ⟨by rw [upd_same, List.length_append]; rfl, fun k hk => ?_, fun k hk => ?_⟩
  · rw [Nat.mul_zero, Nat.zero_add]; exact s1 k hk
  · rw [Nat.mul_zero, Nat.zero_add]; exact s2 k hk
theorem ahM_s1 {ah on tw : Nat → Int32} {x y z : Int32} {m c : Nat} (hc : 1 ≤ c) (hm : m < 8) {E G : List Nat} (h : ahM ah on tw c E G) : ahM (upd ah 0 x) (upd on m y) (upd tw m z) c E G :=
  ⟨by rw [upd_ne _ _ (by omega)]; exact h.1, fun k hk => by rw [upd_ne _ _ (by omega)]; exact h.2.1 k hk, fun k hk => by rw [upd_ne _ _ (by omega)]; exact h.2.2 k hk⟩
theorem uM_out {F : Nat} (hF : 20000 ≤ F) {l : Launch} {D : va_G} {cy : Nat → ClassId} {T : List Nat} {S : NSt} {L Y O E G : List Nat} {P : List (List Nat)} {M : Nat → Option (List Nat × List Nat × List Nat × List Nat × List Nat)} (hD : okDt T S L Y O E G P)   (A : Nat → Nat) (i0 : Int32) (i1 : Int32) (i2 : Int32) (i3 : Int32) (i4 : Int32) (i5 : Int32) (i6 : Int32) (i7 : Int32) (i8 : Int32) (i9 : Int32) (i10 : Int32) (i11 : Int32) (i12 : Int32) (i13 : Int32) (i14 : Int32) (i15 : Int32) (r0 : Nat → Int32) (r1 : Nat → Int32) (r2 : Nat → Int32) (r3 : Nat → Int32) (r4 : Nat → Int32) (r5 : Nat → Int32) (r6 : Nat → Int32) (r7 : Nat → Int32) (r8 : Nat → Int32) (r9 : Nat → Int32) (r10 : Nat → Int32) (r11 : Nat → Int32) (r12 : Nat → Int32) (r13 : Nat → Int32) (r14 : Nat → Int32) (r15 : Nat → Int32) (r16 : Nat → Int32) (r17 : Nat → Int32) (r18 : Nat → Int32) (r19 : Nat → Int32) (r20 : Nat → Int32) (r21 : Nat → Int32) (r22 : Nat → Int32) (r23 : Nat → Int32) (r24 : Nat → Int32) (r25 : Nat → Int32) (r26 : Nat → Int32) (r27 : Nat → Int32) (r28 : Nat → Int32) (r29 : Nat → Int32) (r30 : Nat → Int32) (r31 : Nat → Int32) (r32 : Nat → Int32) (r33 : Nat → Int32) (r34 : Nat → Int32) (r35 : Nat → Int32) (r36 : Nat → Int32) (l0 : Int64) (l1 : Int64) (q0 : Nat → Int64) (q1 : Nat → Int64) (q2 : Nat → Int64) (q3 : Nat → Int64) (q4 : Nat → Int64) (hR : RM T S L Y O E G P M i1 i11 r0 r1 r2 r3 r4 r5 r6 r19 r21 r22 r23 r24 r25 r26 r27 r28 r29 r30 r31 q0) : ∃ wx', vMet l D cy MX12_out 5 0 0 [.ref (A 0)] (WM cy A i0 i1 i2 i3 i4 i5 i6 i7 i8 i9 i10 i11 i12 i13 i14 i15 r0 r1 r2 r3 r4 r5 r6 r7 r8 r9 r10 r11 r12 r13 r14 r15 r16 r17 r18 r19 r20 r21 r22 r23 r24 r25 r26 r27 r28 r29 r30 r31 r32 r33 r34 r35 r36 l0 l1 q0 q1 q2 q3 q4) (fun r0 w => r0 = some (.int (ov (psL S.2.2.1 (rdS S) [] L))) ∧ w.Perm wx') ∧ IM cy (A 0) T S L Y O E G P M wx' := by
  obtain ⟨hT, hS, hK0, hP⟩ := hD
  have hR0 := hR
  obtain ⟨rfl, htp, hN, hs, hsl, rfl, hp, hm⟩ := hR
  obtain ⟨hm0, hk0, hlw, n0, n1, n2, n3, hnm, hkn⟩ := S_M hS hN
  have hn := S_N hS
  have hr := S_R S
  have h24 := okS_24 hS hK0
  have hln := S_ln hS
  have hrp := S_rp hS
  have hot := otM_rL hsl.2.1
  have hP24 := row_le (fun p hp => Nat.le_trans (hP p hp).2 hln)
  have hK1 := hK0
  obtain ⟨k1, k2, k3, k4, k5, k6, k7, k8, k9, k10⟩ := hK0
  obtain ⟨z, fo', co', e⟩ := out_M (F := F) hn hm0 (by omega) k6 hs h24 i0 i12 r32 r33
  exact ⟨_, LX12_out A i0 (ii T.length) i2 i3 i4 i5 i6 i7 i8 i9 i10 (ii P.length) i12 i13 i14 i15 r0 r1 r2 r3 r4 r5 r6 r7 r8 r9 r10 r11 r12 r13 r14 r15 r16 r17 r18 r19 r20 r21 r22 r23 r24 r25 r26 r27 r28 r29 r30 r31 r32 r33 r34 r35 r36 l0 l1 q0 q1 q2 q3 q4 F  _ e, A, (fun k => ([_, _, _, _, _, _, _, _, _, _, _, _, _, _, _, _] : List Int32).getD k 0), (fun k => ([_, _, _, _, _, _, _, _, _, _, _, _, _, _, _, _, _, _, _, _, _, _, _, _, _, _, _, _, _, _, _, _, _, _, _, _, _] : List (Nat → Int32)).getD k (fun _ => 0)), (fun k => ([_, _] : List Int64).getD k 0), (fun k => ([_, _, _, _, _] : List (Nat → Int64)).getD k (fun _ => 0)), rfl, rfl, hR0⟩
theorem uM_held {F : Nat} (hF : 20000 ≤ F) {l : Launch} {D : va_G} {cy : Nat → ClassId} {T : List Nat} {S : NSt} {L Y O E G : List Nat} {P : List (List Nat)} {M : Nat → Option (List Nat × List Nat × List Nat × List Nat × List Nat)} (hD : okDt T S L Y O E G P)   (A : Nat → Nat) (i0 : Int32) (i1 : Int32) (i2 : Int32) (i3 : Int32) (i4 : Int32) (i5 : Int32) (i6 : Int32) (i7 : Int32) (i8 : Int32) (i9 : Int32) (i10 : Int32) (i11 : Int32) (i12 : Int32) (i13 : Int32) (i14 : Int32) (i15 : Int32) (r0 : Nat → Int32) (r1 : Nat → Int32) (r2 : Nat → Int32) (r3 : Nat → Int32) (r4 : Nat → Int32) (r5 : Nat → Int32) (r6 : Nat → Int32) (r7 : Nat → Int32) (r8 : Nat → Int32) (r9 : Nat → Int32) (r10 : Nat → Int32) (r11 : Nat → Int32) (r12 : Nat → Int32) (r13 : Nat → Int32) (r14 : Nat → Int32) (r15 : Nat → Int32) (r16 : Nat → Int32) (r17 : Nat → Int32) (r18 : Nat → Int32) (r19 : Nat → Int32) (r20 : Nat → Int32) (r21 : Nat → Int32) (r22 : Nat → Int32) (r23 : Nat → Int32) (r24 : Nat → Int32) (r25 : Nat → Int32) (r26 : Nat → Int32) (r27 : Nat → Int32) (r28 : Nat → Int32) (r29 : Nat → Int32) (r30 : Nat → Int32) (r31 : Nat → Int32) (r32 : Nat → Int32) (r33 : Nat → Int32) (r34 : Nat → Int32) (r35 : Nat → Int32) (r36 : Nat → Int32) (l0 : Int64) (l1 : Int64) (q0 : Nat → Int64) (q1 : Nat → Int64) (q2 : Nat → Int64) (q3 : Nat → Int64) (q4 : Nat → Int64) (hR : RM T S L Y O E G P M i1 i11 r0 r1 r2 r3 r4 r5 r6 r19 r21 r22 r23 r24 r25 r26 r27 r28 r29 r30 r31 q0) : ∃ wx', vMet l D cy MX12_held 5 0 0 [.ref (A 0)] (WM cy A i0 i1 i2 i3 i4 i5 i6 i7 i8 i9 i10 i11 i12 i13 i14 i15 r0 r1 r2 r3 r4 r5 r6 r7 r8 r9 r10 r11 r12 r13 r14 r15 r16 r17 r18 r19 r20 r21 r22 r23 r24 r25 r26 r27 r28 r29 r30 r31 r32 r33 r34 r35 r36 l0 l1 q0 q1 q2 q3 q4) (fun r0 w => r0 = some (.int (ii (ob 0 ((psL S.2.2.1 (rdS S) [] L).map Prod.fst)))) ∧ w.Perm wx') ∧ IM cy (A 0) T S L Y O E G P M wx' := by
  obtain ⟨hT, hS, hK0, hP⟩ := hD
  have hR0 := hR
  obtain ⟨rfl, htp, hN, hs, hsl, rfl, hp, hm⟩ := hR
  obtain ⟨hm0, hk0, hlw, n0, n1, n2, n3, hnm, hkn⟩ := S_M hS hN
  have hn := S_N hS
  have hr := S_R S
  have h24 := okS_24 hS hK0
  have hln := S_ln hS
  have hrp := S_rp hS
  have hot := otM_rL hsl.2.1
  have hP24 := row_le (fun p hp => Nat.le_trans (hP p hp).2 hln)
  have hK1 := hK0
  obtain ⟨k1, k2, k3, k4, k5, k6, k7, k8, k9, k10⟩ := hK0
  obtain ⟨b', tm', fmn', fo', co', ti', fm', e⟩ := held_M (F := F) hn hr hm0 (by omega) k6 hs h24 i0 i12 i13 i14 r32 r33 r34 r35
  exact ⟨_, LX12_held A i0 (ii T.length) i2 i3 i4 i5 i6 i7 i8 i9 i10 (ii P.length) i12 i13 i14 i15 r0 r1 r2 r3 r4 r5 r6 r7 r8 r9 r10 r11 r12 r13 r14 r15 r16 r17 r18 r19 r20 r21 r22 r23 r24 r25 r26 r27 r28 r29 r30 r31 r32 r33 r34 r35 r36 l0 l1 q0 q1 q2 q3 q4 F  _ e, A, (fun k => ([_, _, _, _, _, _, _, _, _, _, _, _, _, _, _, _] : List Int32).getD k 0), (fun k => ([_, _, _, _, _, _, _, _, _, _, _, _, _, _, _, _, _, _, _, _, _, _, _, _, _, _, _, _, _, _, _, _, _, _, _, _, _] : List (Nat → Int32)).getD k (fun _ => 0)), (fun k => ([_, _] : List Int64).getD k 0), (fun k => ([_, _, _, _, _] : List (Nat → Int64)).getD k (fun _ => 0)), rfl, rfl, hR0⟩
theorem uM_fault {F : Nat} (hF : 20000 ≤ F) {l : Launch} {D : va_G} {cy : Nat → ClassId} {T : List Nat} {S : NSt} {L Y O E G : List Nat} {P : List (List Nat)} {M : Nat → Option (List Nat × List Nat × List Nat × List Nat × List Nat)} (hD : okDt T S L Y O E G P)   (A : Nat → Nat) (i0 : Int32) (i1 : Int32) (i2 : Int32) (i3 : Int32) (i4 : Int32) (i5 : Int32) (i6 : Int32) (i7 : Int32) (i8 : Int32) (i9 : Int32) (i10 : Int32) (i11 : Int32) (i12 : Int32) (i13 : Int32) (i14 : Int32) (i15 : Int32) (r0 : Nat → Int32) (r1 : Nat → Int32) (r2 : Nat → Int32) (r3 : Nat → Int32) (r4 : Nat → Int32) (r5 : Nat → Int32) (r6 : Nat → Int32) (r7 : Nat → Int32) (r8 : Nat → Int32) (r9 : Nat → Int32) (r10 : Nat → Int32) (r11 : Nat → Int32) (r12 : Nat → Int32) (r13 : Nat → Int32) (r14 : Nat → Int32) (r15 : Nat → Int32) (r16 : Nat → Int32) (r17 : Nat → Int32) (r18 : Nat → Int32) (r19 : Nat → Int32) (r20 : Nat → Int32) (r21 : Nat → Int32) (r22 : Nat → Int32) (r23 : Nat → Int32) (r24 : Nat → Int32) (r25 : Nat → Int32) (r26 : Nat → Int32) (r27 : Nat → Int32) (r28 : Nat → Int32) (r29 : Nat → Int32) (r30 : Nat → Int32) (r31 : Nat → Int32) (r32 : Nat → Int32) (r33 : Nat → Int32) (r34 : Nat → Int32) (r35 : Nat → Int32) (r36 : Nat → Int32) (l0 : Int64) (l1 : Int64) (q0 : Nat → Int64) (q1 : Nat → Int64) (q2 : Nat → Int64) (q3 : Nat → Int64) (q4 : Nat → Int64) (hR : RM T S L Y O E G P M i1 i11 r0 r1 r2 r3 r4 r5 r6 r19 r21 r22 r23 r24 r25 r26 r27 r28 r29 r30 r31 q0) : ∃ wx', vMet l D cy MX12_fault 4 0 0 [.ref (A 0)] (WM cy A i0 i1 i2 i3 i4 i5 i6 i7 i8 i9 i10 i11 i12 i13 i14 i15 r0 r1 r2 r3 r4 r5 r6 r7 r8 r9 r10 r11 r12 r13 r14 r15 r16 r17 r18 r19 r20 r21 r22 r23 r24 r25 r26 r27 r28 r29 r30 r31 r32 r33 r34 r35 r36 l0 l1 q0 q1 q2 q3 q4) (fun r0 w => r0 = some (.int (ii (fa (cF S.2.2.1 (rdS S) L) S.1.length 0 0))) ∧ w.Perm wx') ∧ IM cy (A 0) T S L Y O E G P M wx' := by
  obtain ⟨hT, hS, hK0, hP⟩ := hD
  have hR0 := hR
  obtain ⟨rfl, htp, hN, hs, hsl, rfl, hp, hm⟩ := hR
  obtain ⟨hm0, hk0, hlw, n0, n1, n2, n3, hnm, hkn⟩ := S_M hS hN
  have hn := S_N hS
  have hr := S_R S
  have h24 := okS_24 hS hK0
  have hln := S_ln hS
  have hrp := S_rp hS
  have hot := otM_rL hsl.2.1
  have hP24 := row_le (fun p hp => Nat.le_trans (hP p hp).2 hln)
  have hK1 := hK0
  obtain ⟨k1, k2, k3, k4, k5, k6, k7, k8, k9, k10⟩ := hK0
  obtain ⟨z, fo', co', e⟩ := fault_M (F := F) hn hm0 n0 (by omega) k6 hs h24 i0 i12 r32 r33
  exact ⟨_, LX12_fault A i0 (ii T.length) i2 i3 i4 i5 i6 i7 i8 i9 i10 (ii P.length) i12 i13 i14 i15 r0 r1 r2 r3 r4 r5 r6 r7 r8 r9 r10 r11 r12 r13 r14 r15 r16 r17 r18 r19 r20 r21 r22 r23 r24 r25 r26 r27 r28 r29 r30 r31 r32 r33 r34 r35 r36 l0 l1 q0 q1 q2 q3 q4 F  _ e, A, (fun k => ([_, _, _, _, _, _, _, _, _, _, _, _, _, _, _, _] : List Int32).getD k 0), (fun k => ([_, _, _, _, _, _, _, _, _, _, _, _, _, _, _, _, _, _, _, _, _, _, _, _, _, _, _, _, _, _, _, _, _, _, _, _, _] : List (Nat → Int32)).getD k (fun _ => 0)), (fun k => ([_, _] : List Int64).getD k 0), (fun k => ([_, _, _, _, _] : List (Nat → Int64)).getD k (fun _ => 0)), rfl, rfl, hR0⟩
theorem uM_shown {F : Nat} (hF : 20000 ≤ F) {l : Launch} {D : va_G} {cy : Nat → ClassId} {T : List Nat} {S : NSt} {L Y O E G : List Nat} {P : List (List Nat)} {M : Nat → Option (List Nat × List Nat × List Nat × List Nat × List Nat)} (hD : okDt T S L Y O E G P)   (A : Nat → Nat) (i0 : Int32) (i1 : Int32) (i2 : Int32) (i3 : Int32) (i4 : Int32) (i5 : Int32) (i6 : Int32) (i7 : Int32) (i8 : Int32) (i9 : Int32) (i10 : Int32) (i11 : Int32) (i12 : Int32) (i13 : Int32) (i14 : Int32) (i15 : Int32) (r0 : Nat → Int32) (r1 : Nat → Int32) (r2 : Nat → Int32) (r3 : Nat → Int32) (r4 : Nat → Int32) (r5 : Nat → Int32) (r6 : Nat → Int32) (r7 : Nat → Int32) (r8 : Nat → Int32) (r9 : Nat → Int32) (r10 : Nat → Int32) (r11 : Nat → Int32) (r12 : Nat → Int32) (r13 : Nat → Int32) (r14 : Nat → Int32) (r15 : Nat → Int32) (r16 : Nat → Int32) (r17 : Nat → Int32) (r18 : Nat → Int32) (r19 : Nat → Int32) (r20 : Nat → Int32) (r21 : Nat → Int32) (r22 : Nat → Int32) (r23 : Nat → Int32) (r24 : Nat → Int32) (r25 : Nat → Int32) (r26 : Nat → Int32) (r27 : Nat → Int32) (r28 : Nat → Int32) (r29 : Nat → Int32) (r30 : Nat → Int32) (r31 : Nat → Int32) (r32 : Nat → Int32) (r33 : Nat → Int32) (r34 : Nat → Int32) (r35 : Nat → Int32) (r36 : Nat → Int32) (l0 : Int64) (l1 : Int64) (q0 : Nat → Int64) (q1 : Nat → Int64) (q2 : Nat → Int64) (q3 : Nat → Int64) (q4 : Nat → Int64) (hR : RM T S L Y O E G P M i1 i11 r0 r1 r2 r3 r4 r5 r6 r19 r21 r22 r23 r24 r25 r26 r27 r28 r29 r30 r31 q0) : ∃ wx', vMet l D cy MX12_shown 4 0 0 [.ref (A 0)] (WM cy A i0 i1 i2 i3 i4 i5 i6 i7 i8 i9 i10 i11 i12 i13 i14 i15 r0 r1 r2 r3 r4 r5 r6 r7 r8 r9 r10 r11 r12 r13 r14 r15 r16 r17 r18 r19 r20 r21 r22 r23 r24 r25 r26 r27 r28 r29 r30 r31 r32 r33 r34 r35 r36 l0 l1 q0 q1 q2 q3 q4) (fun r0 w => r0 = some (.int (si (cS S.2.2.1 (rdS S) L) S.1.length S.1.length 0)) ∧ w.Perm wx') ∧ IM cy (A 0) T S L Y O E G P M wx' := by
  obtain ⟨hT, hS, hK0, hP⟩ := hD
  have hR0 := hR
  obtain ⟨rfl, htp, hN, hs, hsl, rfl, hp, hm⟩ := hR
  obtain ⟨hm0, hk0, hlw, n0, n1, n2, n3, hnm, hkn⟩ := S_M hS hN
  have hn := S_N hS
  have hr := S_R S
  have h24 := okS_24 hS hK0
  have hln := S_ln hS
  have hrp := S_rp hS
  have hot := otM_rL hsl.2.1
  have hP24 := row_le (fun p hp => Nat.le_trans (hP p hp).2 hln)
  have hK1 := hK0
  obtain ⟨k1, k2, k3, k4, k5, k6, k7, k8, k9, k10⟩ := hK0
  obtain ⟨z, fo', co', e⟩ := shown_M (F := F) hn hm0 n0 (by omega) k6 hs h24 i0 i12 r32 r33
  exact ⟨_, LX12_shown A i0 (ii T.length) i2 i3 i4 i5 i6 i7 i8 i9 i10 (ii P.length) i12 i13 i14 i15 r0 r1 r2 r3 r4 r5 r6 r7 r8 r9 r10 r11 r12 r13 r14 r15 r16 r17 r18 r19 r20 r21 r22 r23 r24 r25 r26 r27 r28 r29 r30 r31 r32 r33 r34 r35 r36 l0 l1 q0 q1 q2 q3 q4 F  _ e, A, (fun k => ([_, _, _, _, _, _, _, _, _, _, _, _, _, _, _, _] : List Int32).getD k 0), (fun k => ([_, _, _, _, _, _, _, _, _, _, _, _, _, _, _, _, _, _, _, _, _, _, _, _, _, _, _, _, _, _, _, _, _, _, _, _, _] : List (Nat → Int32)).getD k (fun _ => 0)), (fun k => ([_, _] : List Int64).getD k 0), (fun k => ([_, _, _, _, _] : List (Nat → Int64)).getD k (fun _ => 0)), rfl, rfl, hR0⟩
theorem uM_same {F : Nat} (hF : 20000 ≤ F) {l : Launch} {D : va_G} {cy : Nat → ClassId} {T : List Nat} {S : NSt} {L Y O E G : List Nat} {P : List (List Nat)} {M : Nat → Option (List Nat × List Nat × List Nat × List Nat × List Nat)} (hD : okDt T S L Y O E G P)   (A : Nat → Nat) (i0 : Int32) (i1 : Int32) (i2 : Int32) (i3 : Int32) (i4 : Int32) (i5 : Int32) (i6 : Int32) (i7 : Int32) (i8 : Int32) (i9 : Int32) (i10 : Int32) (i11 : Int32) (i12 : Int32) (i13 : Int32) (i14 : Int32) (i15 : Int32) (r0 : Nat → Int32) (r1 : Nat → Int32) (r2 : Nat → Int32) (r3 : Nat → Int32) (r4 : Nat → Int32) (r5 : Nat → Int32) (r6 : Nat → Int32) (r7 : Nat → Int32) (r8 : Nat → Int32) (r9 : Nat → Int32) (r10 : Nat → Int32) (r11 : Nat → Int32) (r12 : Nat → Int32) (r13 : Nat → Int32) (r14 : Nat → Int32) (r15 : Nat → Int32) (r16 : Nat → Int32) (r17 : Nat → Int32) (r18 : Nat → Int32) (r19 : Nat → Int32) (r20 : Nat → Int32) (r21 : Nat → Int32) (r22 : Nat → Int32) (r23 : Nat → Int32) (r24 : Nat → Int32) (r25 : Nat → Int32) (r26 : Nat → Int32) (r27 : Nat → Int32) (r28 : Nat → Int32) (r29 : Nat → Int32) (r30 : Nat → Int32) (r31 : Nat → Int32) (r32 : Nat → Int32) (r33 : Nat → Int32) (r34 : Nat → Int32) (r35 : Nat → Int32) (r36 : Nat → Int32) (l0 : Int64) (l1 : Int64) (q0 : Nat → Int64) (q1 : Nat → Int64) (q2 : Nat → Int64) (q3 : Nat → Int64) (q4 : Nat → Int64) (hR : RM T S L Y O E G P M i1 i11 r0 r1 r2 r3 r4 r5 r6 r19 r21 r22 r23 r24 r25 r26 r27 r28 r29 r30 r31 q0) : ∃ wx', vMet l D cy MX12_same 4 0 0 [.ref (A 0)] (WM cy A i0 i1 i2 i3 i4 i5 i6 i7 i8 i9 i10 i11 i12 i13 i14 i15 r0 r1 r2 r3 r4 r5 r6 r7 r8 r9 r10 r11 r12 r13 r14 r15 r16 r17 r18 r19 r20 r21 r22 r23 r24 r25 r26 r27 r28 r29 r30 r31 r32 r33 r34 r35 r36 l0 l1 q0 q1 q2 q3 q4) (fun r0 w => r0 = some (.int (ov (psL S.2.2.1 (rdS S) (psL S.2.2.1 (rdS S) [] L) (bk O)))) ∧ w.Perm wx') ∧ IM cy (A 0) T S L Y O E G P M wx' := by
  obtain ⟨hT, hS, hK0, hP⟩ := hD
  have hR0 := hR
  obtain ⟨rfl, htp, hN, hs, hsl, rfl, hp, hm⟩ := hR
  obtain ⟨hm0, hk0, hlw, n0, n1, n2, n3, hnm, hkn⟩ := S_M hS hN
  have hn := S_N hS
  have hr := S_R S
  have h24 := okS_24 hS hK0
  have hln := S_ln hS
  have hrp := S_rp hS
  have hot := otM_rL hsl.2.1
  have hP24 := row_le (fun p hp => Nat.le_trans (hP p hp).2 hln)
  have hK1 := hK0
  obtain ⟨k1, k2, k3, k4, k5, k6, k7, k8, k9, k10⟩ := hK0
  obtain ⟨z, fo', co', e⟩ := same_M (F := F) hn hm0 (by omega) k6 hs h24 k7 hsl.2.1.1 hot k3 i0 i12 r32 r33
  exact ⟨_, LX12_same A i0 (ii T.length) i2 i3 i4 i5 i6 i7 i8 i9 i10 (ii P.length) i12 i13 i14 i15 r0 r1 r2 r3 r4 r5 r6 r7 r8 r9 r10 r11 r12 r13 r14 r15 r16 r17 r18 r19 r20 r21 r22 r23 r24 r25 r26 r27 r28 r29 r30 r31 r32 r33 r34 r35 r36 l0 l1 q0 q1 q2 q3 q4 F  _ e, A, (fun k => ([_, _, _, _, _, _, _, _, _, _, _, _, _, _, _, _] : List Int32).getD k 0), (fun k => ([_, _, _, _, _, _, _, _, _, _, _, _, _, _, _, _, _, _, _, _, _, _, _, _, _, _, _, _, _, _, _, _, _, _, _, _, _] : List (Nat → Int32)).getD k (fun _ => 0)), (fun k => ([_, _] : List Int64).getD k 0), (fun k => ([_, _, _, _, _] : List (Nat → Int64)).getD k (fun _ => 0)), rfl, rfl, hR0⟩
theorem uM_pass {F : Nat} (hF : 20000 ≤ F) {l : Launch} {D : va_G} {cy : Nat → ClassId} {T : List Nat} {S : NSt} {L Y O E G : List Nat} {P : List (List Nat)} {M : Nat → Option (List Nat × List Nat × List Nat × List Nat × List Nat)} (hD : okDt T S L Y O E G P)   (A : Nat → Nat) (i0 : Int32) (i1 : Int32) (i2 : Int32) (i3 : Int32) (i4 : Int32) (i5 : Int32) (i6 : Int32) (i7 : Int32) (i8 : Int32) (i9 : Int32) (i10 : Int32) (i11 : Int32) (i12 : Int32) (i13 : Int32) (i14 : Int32) (i15 : Int32) (r0 : Nat → Int32) (r1 : Nat → Int32) (r2 : Nat → Int32) (r3 : Nat → Int32) (r4 : Nat → Int32) (r5 : Nat → Int32) (r6 : Nat → Int32) (r7 : Nat → Int32) (r8 : Nat → Int32) (r9 : Nat → Int32) (r10 : Nat → Int32) (r11 : Nat → Int32) (r12 : Nat → Int32) (r13 : Nat → Int32) (r14 : Nat → Int32) (r15 : Nat → Int32) (r16 : Nat → Int32) (r17 : Nat → Int32) (r18 : Nat → Int32) (r19 : Nat → Int32) (r20 : Nat → Int32) (r21 : Nat → Int32) (r22 : Nat → Int32) (r23 : Nat → Int32) (r24 : Nat → Int32) (r25 : Nat → Int32) (r26 : Nat → Int32) (r27 : Nat → Int32) (r28 : Nat → Int32) (r29 : Nat → Int32) (r30 : Nat → Int32) (r31 : Nat → Int32) (r32 : Nat → Int32) (r33 : Nat → Int32) (r34 : Nat → Int32) (r35 : Nat → Int32) (r36 : Nat → Int32) (l0 : Int64) (l1 : Int64) (q0 : Nat → Int64) (q1 : Nat → Int64) (q2 : Nat → Int64) (q3 : Nat → Int64) (q4 : Nat → Int64) (hR : RM T S L Y O E G P M i1 i11 r0 r1 r2 r3 r4 r5 r6 r19 r21 r22 r23 r24 r25 r26 r27 r28 r29 r30 r31 q0) : ∃ wx', vMet l D cy MX12_pass 4 0 0 [.ref (A 0)] (WM cy A i0 i1 i2 i3 i4 i5 i6 i7 i8 i9 i10 i11 i12 i13 i14 i15 r0 r1 r2 r3 r4 r5 r6 r7 r8 r9 r10 r11 r12 r13 r14 r15 r16 r17 r18 r19 r20 r21 r22 r23 r24 r25 r26 r27 r28 r29 r30 r31 r32 r33 r34 r35 r36 l0 l1 q0 q1 q2 q3 q4) (fun r0 w => r0 = some (.int (ov (psL S.2.2.1 (rdS S) (psL S.2.2.1 (rdS S) (psL S.2.2.1 (rdS S) (psL S.2.2.1 (rdS S) [] L) O) (bk L)) (bk O)))) ∧ w.Perm wx') ∧ IM cy (A 0) T S L Y O E G P M wx' := by
  obtain ⟨hT, hS, hK0, hP⟩ := hD
  have hR0 := hR
  obtain ⟨rfl, htp, hN, hs, hsl, rfl, hp, hm⟩ := hR
  obtain ⟨hm0, hk0, hlw, n0, n1, n2, n3, hnm, hkn⟩ := S_M hS hN
  have hn := S_N hS
  have hr := S_R S
  have h24 := okS_24 hS hK0
  have hln := S_ln hS
  have hrp := S_rp hS
  have hot := otM_rL hsl.2.1
  have hP24 := row_le (fun p hp => Nat.le_trans (hP p hp).2 hln)
  have hK1 := hK0
  obtain ⟨k1, k2, k3, k4, k5, k6, k7, k8, k9, k10⟩ := hK0
  obtain ⟨z, fo', co', e⟩ := pass_M (F := F) hn hm0 (by omega) k6 hs h24 k7 hsl.2.1.1 hot k3 i0 i12 r32 r33
  exact ⟨_, LX12_pass A i0 (ii T.length) i2 i3 i4 i5 i6 i7 i8 i9 i10 (ii P.length) i12 i13 i14 i15 r0 r1 r2 r3 r4 r5 r6 r7 r8 r9 r10 r11 r12 r13 r14 r15 r16 r17 r18 r19 r20 r21 r22 r23 r24 r25 r26 r27 r28 r29 r30 r31 r32 r33 r34 r35 r36 l0 l1 q0 q1 q2 q3 q4 F  _ e, A, (fun k => ([_, _, _, _, _, _, _, _, _, _, _, _, _, _, _, _] : List Int32).getD k 0), (fun k => ([_, _, _, _, _, _, _, _, _, _, _, _, _, _, _, _, _, _, _, _, _, _, _, _, _, _, _, _, _, _, _, _, _, _, _, _, _] : List (Nat → Int32)).getD k (fun _ => 0)), (fun k => ([_, _] : List Int64).getD k 0), (fun k => ([_, _, _, _, _] : List (Nat → Int64)).getD k (fun _ => 0)), rfl, rfl, hR0⟩
theorem uM_at {F : Nat} (hF : 20000 ≤ F) {l : Launch} {D : va_G} {cy : Nat → ClassId} {T : List Nat} {S : NSt} {L Y O E G : List Nat} {P : List (List Nat)} {M : Nat → Option (List Nat × List Nat × List Nat × List Nat × List Nat)} (hD : okDt T S L Y O E G P) (a1 : Int32)  (A : Nat → Nat) (i0 : Int32) (i1 : Int32) (i2 : Int32) (i3 : Int32) (i4 : Int32) (i5 : Int32) (i6 : Int32) (i7 : Int32) (i8 : Int32) (i9 : Int32) (i10 : Int32) (i11 : Int32) (i12 : Int32) (i13 : Int32) (i14 : Int32) (i15 : Int32) (r0 : Nat → Int32) (r1 : Nat → Int32) (r2 : Nat → Int32) (r3 : Nat → Int32) (r4 : Nat → Int32) (r5 : Nat → Int32) (r6 : Nat → Int32) (r7 : Nat → Int32) (r8 : Nat → Int32) (r9 : Nat → Int32) (r10 : Nat → Int32) (r11 : Nat → Int32) (r12 : Nat → Int32) (r13 : Nat → Int32) (r14 : Nat → Int32) (r15 : Nat → Int32) (r16 : Nat → Int32) (r17 : Nat → Int32) (r18 : Nat → Int32) (r19 : Nat → Int32) (r20 : Nat → Int32) (r21 : Nat → Int32) (r22 : Nat → Int32) (r23 : Nat → Int32) (r24 : Nat → Int32) (r25 : Nat → Int32) (r26 : Nat → Int32) (r27 : Nat → Int32) (r28 : Nat → Int32) (r29 : Nat → Int32) (r30 : Nat → Int32) (r31 : Nat → Int32) (r32 : Nat → Int32) (r33 : Nat → Int32) (r34 : Nat → Int32) (r35 : Nat → Int32) (r36 : Nat → Int32) (l0 : Int64) (l1 : Int64) (q0 : Nat → Int64) (q1 : Nat → Int64) (q2 : Nat → Int64) (q3 : Nat → Int64) (q4 : Nat → Int64) (hR : RM T S L Y O E G P M i1 i11 r0 r1 r2 r3 r4 r5 r6 r19 r21 r22 r23 r24 r25 r26 r27 r28 r29 r30 r31 q0) : ∃ wx', vMet l D cy MX12_at 0 0 0 [.ref (A 0), .int a1] (WM cy A i0 i1 i2 i3 i4 i5 i6 i7 i8 i9 i10 i11 i12 i13 i14 i15 r0 r1 r2 r3 r4 r5 r6 r7 r8 r9 r10 r11 r12 r13 r14 r15 r16 r17 r18 r19 r20 r21 r22 r23 r24 r25 r26 r27 r28 r29 r30 r31 r32 r33 r34 r35 r36 l0 l1 q0 q1 q2 q3 q4) (fun r0 w => r0 = some (.int (atL L a1)) ∧ w.Perm wx') ∧ IM cy (A 0) T S L Y O E G P M wx' := by
  obtain ⟨hT, hS, hK0, hP⟩ := hD
  have hR0 := hR
  obtain ⟨rfl, htp, hN, hs, hsl, rfl, hp, hm⟩ := hR
  obtain ⟨hm0, hk0, hlw, n0, n1, n2, n3, hnm, hkn⟩ := S_M hS hN
  have hn := S_N hS
  have hr := S_R S
  have h24 := okS_24 hS hK0
  have hln := S_ln hS
  have hrp := S_rp hS
  have hot := otM_rL hsl.2.1
  have hP24 := row_le (fun p hp => Nat.le_trans (hP p hp).2 hln)
  have hK1 := hK0
  obtain ⟨k1, k2, k3, k4, k5, k6, k7, k8, k9, k10⟩ := hK0
  have e := at_M (F := F) hs h24 a1 i0
  exact ⟨_, LX12_at A i0 (ii T.length) i2 i3 i4 i5 i6 i7 i8 i9 i10 (ii P.length) i12 i13 i14 i15 r0 r1 r2 r3 r4 r5 r6 r7 r8 r9 r10 r11 r12 r13 r14 r15 r16 r17 r18 r19 r20 r21 r22 r23 r24 r25 r26 r27 r28 r29 r30 r31 r32 r33 r34 r35 r36 l0 l1 q0 q1 q2 q3 q4 F a1 _ e, A, (fun k => ([_, _, _, _, _, _, _, _, _, _, _, _, _, _, _, _] : List Int32).getD k 0), (fun k => ([_, _, _, _, _, _, _, _, _, _, _, _, _, _, _, _, _, _, _, _, _, _, _, _, _, _, _, _, _, _, _, _, _, _, _, _, _] : List (Nat → Int32)).getD k (fun _ => 0)), (fun k => ([_, _] : List Int64).getD k 0), (fun k => ([_, _, _, _, _] : List (Nat → Int64)).getD k (fun _ => 0)), rfl, rfl, hR0⟩
theorem uM_form {F : Nat} (hF : 20000 ≤ F) {l : Launch} {D : va_G} {cy : Nat → ClassId} {T : List Nat} {S : NSt} {L Y O E G : List Nat} {P : List (List Nat)} {M : Nat → Option (List Nat × List Nat × List Nat × List Nat × List Nat)} (hD : okDt T S L Y O E G P) (a1 : Int32)  (A : Nat → Nat) (i0 : Int32) (i1 : Int32) (i2 : Int32) (i3 : Int32) (i4 : Int32) (i5 : Int32) (i6 : Int32) (i7 : Int32) (i8 : Int32) (i9 : Int32) (i10 : Int32) (i11 : Int32) (i12 : Int32) (i13 : Int32) (i14 : Int32) (i15 : Int32) (r0 : Nat → Int32) (r1 : Nat → Int32) (r2 : Nat → Int32) (r3 : Nat → Int32) (r4 : Nat → Int32) (r5 : Nat → Int32) (r6 : Nat → Int32) (r7 : Nat → Int32) (r8 : Nat → Int32) (r9 : Nat → Int32) (r10 : Nat → Int32) (r11 : Nat → Int32) (r12 : Nat → Int32) (r13 : Nat → Int32) (r14 : Nat → Int32) (r15 : Nat → Int32) (r16 : Nat → Int32) (r17 : Nat → Int32) (r18 : Nat → Int32) (r19 : Nat → Int32) (r20 : Nat → Int32) (r21 : Nat → Int32) (r22 : Nat → Int32) (r23 : Nat → Int32) (r24 : Nat → Int32) (r25 : Nat → Int32) (r26 : Nat → Int32) (r27 : Nat → Int32) (r28 : Nat → Int32) (r29 : Nat → Int32) (r30 : Nat → Int32) (r31 : Nat → Int32) (r32 : Nat → Int32) (r33 : Nat → Int32) (r34 : Nat → Int32) (r35 : Nat → Int32) (r36 : Nat → Int32) (l0 : Int64) (l1 : Int64) (q0 : Nat → Int64) (q1 : Nat → Int64) (q2 : Nat → Int64) (q3 : Nat → Int64) (q4 : Nat → Int64) (hR : RM T S L Y O E G P M i1 i11 r0 r1 r2 r3 r4 r5 r6 r19 r21 r22 r23 r24 r25 r26 r27 r28 r29 r30 r31 q0) : ∃ wx', vMet l D cy MX12_form 5 0 0 [.ref (A 0), .int a1] (WM cy A i0 i1 i2 i3 i4 i5 i6 i7 i8 i9 i10 i11 i12 i13 i14 i15 r0 r1 r2 r3 r4 r5 r6 r7 r8 r9 r10 r11 r12 r13 r14 r15 r16 r17 r18 r19 r20 r21 r22 r23 r24 r25 r26 r27 r28 r29 r30 r31 r32 r33 r34 r35 r36 l0 l1 q0 q1 q2 q3 q4) (fun r0 w => r0 = some (.int (atL (frm S.2.2.1 (rdS S) L) a1)) ∧ w.Perm wx') ∧ IM cy (A 0) T S L Y O E G P M wx' := by
  obtain ⟨hT, hS, hK0, hP⟩ := hD
  have hR0 := hR
  obtain ⟨rfl, htp, hN, hs, hsl, rfl, hp, hm⟩ := hR
  obtain ⟨hm0, hk0, hlw, n0, n1, n2, n3, hnm, hkn⟩ := S_M hS hN
  have hn := S_N hS
  have hr := S_R S
  have h24 := okS_24 hS hK0
  have hln := S_ln hS
  have hrp := S_rp hS
  have hot := otM_rL hsl.2.1
  have hP24 := row_le (fun p hp => Nat.le_trans (hP p hp).2 hln)
  have hK1 := hK0
  obtain ⟨k1, k2, k3, k4, k5, k6, k7, k8, k9, k10⟩ := hK0
  obtain ⟨b', tm', fmn', fo', co', ti', fm', e⟩ := form_M2 (F := F) hn hr hm0 (by omega) k6 hs h24 (frm_FM S.2.2.1 (rdS S) L) a1 i0 i12 i13 i14 r32 r33 r34 r35
  exact ⟨_, LX12_form A i0 (ii T.length) i2 i3 i4 i5 i6 i7 i8 i9 i10 (ii P.length) i12 i13 i14 i15 r0 r1 r2 r3 r4 r5 r6 r7 r8 r9 r10 r11 r12 r13 r14 r15 r16 r17 r18 r19 r20 r21 r22 r23 r24 r25 r26 r27 r28 r29 r30 r31 r32 r33 r34 r35 r36 l0 l1 q0 q1 q2 q3 q4 F a1 _ e, A, (fun k => ([_, _, _, _, _, _, _, _, _, _, _, _, _, _, _, _] : List Int32).getD k 0), (fun k => ([_, _, _, _, _, _, _, _, _, _, _, _, _, _, _, _, _, _, _, _, _, _, _, _, _, _, _, _, _, _, _, _, _, _, _, _, _] : List (Nat → Int32)).getD k (fun _ => 0)), (fun k => ([_, _] : List Int64).getD k 0), (fun k => ([_, _, _, _, _] : List (Nat → Int64)).getD k (fun _ => 0)), rfl, rfl, hR0⟩
theorem uM_loose {F : Nat} (hF : 20000 ≤ F) {l : Launch} {D : va_G} {cy : Nat → ClassId} {T : List Nat} {S : NSt} {L Y O E G : List Nat} {P : List (List Nat)} {M : Nat → Option (List Nat × List Nat × List Nat × List Nat × List Nat)} (hD : okDt T S L Y O E G P) (a1 : Int32)  (A : Nat → Nat) (i0 : Int32) (i1 : Int32) (i2 : Int32) (i3 : Int32) (i4 : Int32) (i5 : Int32) (i6 : Int32) (i7 : Int32) (i8 : Int32) (i9 : Int32) (i10 : Int32) (i11 : Int32) (i12 : Int32) (i13 : Int32) (i14 : Int32) (i15 : Int32) (r0 : Nat → Int32) (r1 : Nat → Int32) (r2 : Nat → Int32) (r3 : Nat → Int32) (r4 : Nat → Int32) (r5 : Nat → Int32) (r6 : Nat → Int32) (r7 : Nat → Int32) (r8 : Nat → Int32) (r9 : Nat → Int32) (r10 : Nat → Int32) (r11 : Nat → Int32) (r12 : Nat → Int32) (r13 : Nat → Int32) (r14 : Nat → Int32) (r15 : Nat → Int32) (r16 : Nat → Int32) (r17 : Nat → Int32) (r18 : Nat → Int32) (r19 : Nat → Int32) (r20 : Nat → Int32) (r21 : Nat → Int32) (r22 : Nat → Int32) (r23 : Nat → Int32) (r24 : Nat → Int32) (r25 : Nat → Int32) (r26 : Nat → Int32) (r27 : Nat → Int32) (r28 : Nat → Int32) (r29 : Nat → Int32) (r30 : Nat → Int32) (r31 : Nat → Int32) (r32 : Nat → Int32) (r33 : Nat → Int32) (r34 : Nat → Int32) (r35 : Nat → Int32) (r36 : Nat → Int32) (l0 : Int64) (l1 : Int64) (q0 : Nat → Int64) (q1 : Nat → Int64) (q2 : Nat → Int64) (q3 : Nat → Int64) (q4 : Nat → Int64) (hR : RM T S L Y O E G P M i1 i11 r0 r1 r2 r3 r4 r5 r6 r19 r21 r22 r23 r24 r25 r26 r27 r28 r29 r30 r31 q0) : ∃ wx', vMet l D cy MX12_loose 3 0 0 [.ref (A 0), .int a1] (WM cy A i0 i1 i2 i3 i4 i5 i6 i7 i8 i9 i10 i11 i12 i13 i14 i15 r0 r1 r2 r3 r4 r5 r6 r7 r8 r9 r10 r11 r12 r13 r14 r15 r16 r17 r18 r19 r20 r21 r22 r23 r24 r25 r26 r27 r28 r29 r30 r31 r32 r33 r34 r35 r36 l0 l1 q0 q1 q2 q3 q4) (fun r0 w => r0 = some (.int (loA S.2.2.1 (rdS S) L a1)) ∧ w.Perm wx') ∧ IM cy (A 0) T S L Y O E G P M wx' := by
  obtain ⟨hT, hS, hK0, hP⟩ := hD
  have hR0 := hR
  obtain ⟨rfl, htp, hN, hs, hsl, rfl, hp, hm⟩ := hR
  obtain ⟨hm0, hk0, hlw, n0, n1, n2, n3, hnm, hkn⟩ := S_M hS hN
  have hn := S_N hS
  have hr := S_R S
  have h24 := okS_24 hS hK0
  have hln := S_ln hS
  have hrp := S_rp hS
  have hot := otM_rL hsl.2.1
  have hP24 := row_le (fun p hp => Nat.le_trans (hP p hp).2 hln)
  have hK1 := hK0
  obtain ⟨k1, k2, k3, k4, k5, k6, k7, k8, k9, k10⟩ := hK0
  obtain ⟨z, fo', co', e⟩ := loose_M (F := F) hn hm0 (by omega) k6 hs h24 a1 i0 i12 r32 r33
  exact ⟨_, LX12_loose A i0 (ii T.length) i2 i3 i4 i5 i6 i7 i8 i9 i10 (ii P.length) i12 i13 i14 i15 r0 r1 r2 r3 r4 r5 r6 r7 r8 r9 r10 r11 r12 r13 r14 r15 r16 r17 r18 r19 r20 r21 r22 r23 r24 r25 r26 r27 r28 r29 r30 r31 r32 r33 r34 r35 r36 l0 l1 q0 q1 q2 q3 q4 F a1 _ e, A, (fun k => ([_, _, _, _, _, _, _, _, _, _, _, _, _, _, _, _] : List Int32).getD k 0), (fun k => ([_, _, _, _, _, _, _, _, _, _, _, _, _, _, _, _, _, _, _, _, _, _, _, _, _, _, _, _, _, _, _, _, _, _, _, _, _] : List (Nat → Int32)).getD k (fun _ => 0)), (fun k => ([_, _] : List Int64).getD k 0), (fun k => ([_, _, _, _, _] : List (Nat → Int64)).getD k (fun _ => 0)), rfl, rfl, hR0⟩
theorem uM_yet {F : Nat} (hF : 20000 ≤ F) {l : Launch} {D : va_G} {cy : Nat → ClassId} {T : List Nat} {S : NSt} {L Y O E G : List Nat} {P : List (List Nat)} {M : Nat → Option (List Nat × List Nat × List Nat × List Nat × List Nat)} (hD : okDt T S L Y O E G P) (a1 : Int32)  (A : Nat → Nat) (i0 : Int32) (i1 : Int32) (i2 : Int32) (i3 : Int32) (i4 : Int32) (i5 : Int32) (i6 : Int32) (i7 : Int32) (i8 : Int32) (i9 : Int32) (i10 : Int32) (i11 : Int32) (i12 : Int32) (i13 : Int32) (i14 : Int32) (i15 : Int32) (r0 : Nat → Int32) (r1 : Nat → Int32) (r2 : Nat → Int32) (r3 : Nat → Int32) (r4 : Nat → Int32) (r5 : Nat → Int32) (r6 : Nat → Int32) (r7 : Nat → Int32) (r8 : Nat → Int32) (r9 : Nat → Int32) (r10 : Nat → Int32) (r11 : Nat → Int32) (r12 : Nat → Int32) (r13 : Nat → Int32) (r14 : Nat → Int32) (r15 : Nat → Int32) (r16 : Nat → Int32) (r17 : Nat → Int32) (r18 : Nat → Int32) (r19 : Nat → Int32) (r20 : Nat → Int32) (r21 : Nat → Int32) (r22 : Nat → Int32) (r23 : Nat → Int32) (r24 : Nat → Int32) (r25 : Nat → Int32) (r26 : Nat → Int32) (r27 : Nat → Int32) (r28 : Nat → Int32) (r29 : Nat → Int32) (r30 : Nat → Int32) (r31 : Nat → Int32) (r32 : Nat → Int32) (r33 : Nat → Int32) (r34 : Nat → Int32) (r35 : Nat → Int32) (r36 : Nat → Int32) (l0 : Int64) (l1 : Int64) (q0 : Nat → Int64) (q1 : Nat → Int64) (q2 : Nat → Int64) (q3 : Nat → Int64) (q4 : Nat → Int64) (hR : RM T S L Y O E G P M i1 i11 r0 r1 r2 r3 r4 r5 r6 r19 r21 r22 r23 r24 r25 r26 r27 r28 r29 r30 r31 q0) : ∃ wx', vMet l D cy MX12_yet 4 0 0 [.ref (A 0), .int a1] (WM cy A i0 i1 i2 i3 i4 i5 i6 i7 i8 i9 i10 i11 i12 i13 i14 i15 r0 r1 r2 r3 r4 r5 r6 r7 r8 r9 r10 r11 r12 r13 r14 r15 r16 r17 r18 r19 r20 r21 r22 r23 r24 r25 r26 r27 r28 r29 r30 r31 r32 r33 r34 r35 r36 l0 l1 q0 q1 q2 q3 q4) (fun r0 w => r0 = some (.int (yA (frm S.2.2.1 (rdS S) (bk L)) a1)) ∧ w.Perm wx') ∧ IM cy (A 0) T S L Y O E G P M wx' := by
  obtain ⟨hT, hS, hK0, hP⟩ := hD
  have hR0 := hR
  obtain ⟨rfl, htp, hN, hs, hsl, rfl, hp, hm⟩ := hR
  obtain ⟨hm0, hk0, hlw, n0, n1, n2, n3, hnm, hkn⟩ := S_M hS hN
  have hn := S_N hS
  have hr := S_R S
  have h24 := okS_24 hS hK0
  have hln := S_ln hS
  have hrp := S_rp hS
  have hot := otM_rL hsl.2.1
  have hP24 := row_le (fun p hp => Nat.le_trans (hP p hp).2 hln)
  have hK1 := hK0
  obtain ⟨k1, k2, k3, k4, k5, k6, k7, k8, k9, k10⟩ := hK0
  obtain ⟨b', tm', fmn', fo', co', ti', fm', e⟩ := yet_M (F := F) hn hr hm0 (by omega) k6 hs h24 (frm_FM S.2.2.1 (rdS S) (bk L)) a1 i0 i12 i13 i14 r32 r33 r34 r35
  exact ⟨_, LX12_yet A i0 (ii T.length) i2 i3 i4 i5 i6 i7 i8 i9 i10 (ii P.length) i12 i13 i14 i15 r0 r1 r2 r3 r4 r5 r6 r7 r8 r9 r10 r11 r12 r13 r14 r15 r16 r17 r18 r19 r20 r21 r22 r23 r24 r25 r26 r27 r28 r29 r30 r31 r32 r33 r34 r35 r36 l0 l1 q0 q1 q2 q3 q4 F a1 _ e, A, (fun k => ([_, _, _, _, _, _, _, _, _, _, _, _, _, _, _, _] : List Int32).getD k 0), (fun k => ([_, _, _, _, _, _, _, _, _, _, _, _, _, _, _, _, _, _, _, _, _, _, _, _, _, _, _, _, _, _, _, _, _, _, _, _, _] : List (Nat → Int32)).getD k (fun _ => 0)), (fun k => ([_, _] : List Int64).getD k 0), (fun k => ([_, _, _, _, _] : List (Nat → Int64)).getD k (fun _ => 0)), rfl, rfl, hR0⟩
theorem uM_folk {F : Nat} (hF : 20000 ≤ F) {l : Launch} {D : va_G} {cy : Nat → ClassId} {T : List Nat} {S : NSt} {L Y O E G : List Nat} {P : List (List Nat)} {M : Nat → Option (List Nat × List Nat × List Nat × List Nat × List Nat)} (hD : okDt T S L Y O E G P) (a1 : Int32) (a2 : Int32)  (A : Nat → Nat) (i0 : Int32) (i1 : Int32) (i2 : Int32) (i3 : Int32) (i4 : Int32) (i5 : Int32) (i6 : Int32) (i7 : Int32) (i8 : Int32) (i9 : Int32) (i10 : Int32) (i11 : Int32) (i12 : Int32) (i13 : Int32) (i14 : Int32) (i15 : Int32) (r0 : Nat → Int32) (r1 : Nat → Int32) (r2 : Nat → Int32) (r3 : Nat → Int32) (r4 : Nat → Int32) (r5 : Nat → Int32) (r6 : Nat → Int32) (r7 : Nat → Int32) (r8 : Nat → Int32) (r9 : Nat → Int32) (r10 : Nat → Int32) (r11 : Nat → Int32) (r12 : Nat → Int32) (r13 : Nat → Int32) (r14 : Nat → Int32) (r15 : Nat → Int32) (r16 : Nat → Int32) (r17 : Nat → Int32) (r18 : Nat → Int32) (r19 : Nat → Int32) (r20 : Nat → Int32) (r21 : Nat → Int32) (r22 : Nat → Int32) (r23 : Nat → Int32) (r24 : Nat → Int32) (r25 : Nat → Int32) (r26 : Nat → Int32) (r27 : Nat → Int32) (r28 : Nat → Int32) (r29 : Nat → Int32) (r30 : Nat → Int32) (r31 : Nat → Int32) (r32 : Nat → Int32) (r33 : Nat → Int32) (r34 : Nat → Int32) (r35 : Nat → Int32) (r36 : Nat → Int32) (l0 : Int64) (l1 : Int64) (q0 : Nat → Int64) (q1 : Nat → Int64) (q2 : Nat → Int64) (q3 : Nat → Int64) (q4 : Nat → Int64) (hR : RM T S L Y O E G P M i1 i11 r0 r1 r2 r3 r4 r5 r6 r19 r21 r22 r23 r24 r25 r26 r27 r28 r29 r30 r31 q0) : ∃ wx', vMet l D cy MX12_folk 1 0 0 [.ref (A 0), .int a1, .int a2] (WM cy A i0 i1 i2 i3 i4 i5 i6 i7 i8 i9 i10 i11 i12 i13 i14 i15 r0 r1 r2 r3 r4 r5 r6 r7 r8 r9 r10 r11 r12 r13 r14 r15 r16 r17 r18 r19 r20 r21 r22 r23 r24 r25 r26 r27 r28 r29 r30 r31 r32 r33 r34 r35 r36 l0 l1 q0 q1 q2 q3 q4) (fun r0 w => r0 = some (.int (foA S.1.length (fun f => ii (kdS S f)) (fun f => ii (S.2.2.1 f)) a1 a2)) ∧ w.Perm wx') ∧ IM cy (A 0) T S L Y O E G P M wx' := by
  obtain ⟨hT, hS, hK0, hP⟩ := hD
  have hR0 := hR
  obtain ⟨rfl, htp, hN, hs, hsl, rfl, hp, hm⟩ := hR
  obtain ⟨hm0, hk0, hlw, n0, n1, n2, n3, hnm, hkn⟩ := S_M hS hN
  have hn := S_N hS
  have hr := S_R S
  have h24 := okS_24 hS hK0
  have hln := S_ln hS
  have hrp := S_rp hS
  have hot := otM_rL hsl.2.1
  have hP24 := row_le (fun p hp => Nat.le_trans (hP p hp).2 hln)
  have hK1 := hK0
  obtain ⟨k1, k2, k3, k4, k5, k6, k7, k8, k9, k10⟩ := hK0
  have e := folk_M (F := F) hS.1 n0 r2 r3 a1 a2 i0
  rw [foA_eq hS.1 (fun f hf => (hk0 f hf).2) hkn] at e
  exact ⟨_, LX12_folk A i0 (ii T.length) i2 i3 i4 i5 i6 i7 i8 i9 i10 (ii P.length) i12 i13 i14 i15 r0 r1 r2 r3 r4 r5 r6 r7 r8 r9 r10 r11 r12 r13 r14 r15 r16 r17 r18 r19 r20 r21 r22 r23 r24 r25 r26 r27 r28 r29 r30 r31 r32 r33 r34 r35 r36 l0 l1 q0 q1 q2 q3 q4 F a1 a2 _ e, A, (fun k => ([_, _, _, _, _, _, _, _, _, _, _, _, _, _, _, _] : List Int32).getD k 0), (fun k => ([_, _, _, _, _, _, _, _, _, _, _, _, _, _, _, _, _, _, _, _, _, _, _, _, _, _, _, _, _, _, _, _, _, _, _, _, _] : List (Nat → Int32)).getD k (fun _ => 0)), (fun k => ([_, _] : List Int64).getD k 0), (fun k => ([_, _, _, _, _] : List (Nat → Int64)).getD k (fun _ => 0)), rfl, rfl, hR0⟩
theorem uM_judged {F : Nat} (hF : 20000 ≤ F) {l : Launch} {D : va_G} {cy : Nat → ClassId} {T : List Nat} {S : NSt} {L Y O E G : List Nat} {P : List (List Nat)} {M : Nat → Option (List Nat × List Nat × List Nat × List Nat × List Nat)} (hD : okDt T S L Y O E G P) (a1 : Int32)  (A : Nat → Nat) (i0 : Int32) (i1 : Int32) (i2 : Int32) (i3 : Int32) (i4 : Int32) (i5 : Int32) (i6 : Int32) (i7 : Int32) (i8 : Int32) (i9 : Int32) (i10 : Int32) (i11 : Int32) (i12 : Int32) (i13 : Int32) (i14 : Int32) (i15 : Int32) (r0 : Nat → Int32) (r1 : Nat → Int32) (r2 : Nat → Int32) (r3 : Nat → Int32) (r4 : Nat → Int32) (r5 : Nat → Int32) (r6 : Nat → Int32) (r7 : Nat → Int32) (r8 : Nat → Int32) (r9 : Nat → Int32) (r10 : Nat → Int32) (r11 : Nat → Int32) (r12 : Nat → Int32) (r13 : Nat → Int32) (r14 : Nat → Int32) (r15 : Nat → Int32) (r16 : Nat → Int32) (r17 : Nat → Int32) (r18 : Nat → Int32) (r19 : Nat → Int32) (r20 : Nat → Int32) (r21 : Nat → Int32) (r22 : Nat → Int32) (r23 : Nat → Int32) (r24 : Nat → Int32) (r25 : Nat → Int32) (r26 : Nat → Int32) (r27 : Nat → Int32) (r28 : Nat → Int32) (r29 : Nat → Int32) (r30 : Nat → Int32) (r31 : Nat → Int32) (r32 : Nat → Int32) (r33 : Nat → Int32) (r34 : Nat → Int32) (r35 : Nat → Int32) (r36 : Nat → Int32) (l0 : Int64) (l1 : Int64) (q0 : Nat → Int64) (q1 : Nat → Int64) (q2 : Nat → Int64) (q3 : Nat → Int64) (q4 : Nat → Int64) (hR : RM T S L Y O E G P M i1 i11 r0 r1 r2 r3 r4 r5 r6 r19 r21 r22 r23 r24 r25 r26 r27 r28 r29 r30 r31 q0) : ∃ wx', vMet l D cy MX12_judged 7 0 0 [.ref (A 0), .int a1] (WM cy A i0 i1 i2 i3 i4 i5 i6 i7 i8 i9 i10 i11 i12 i13 i14 i15 r0 r1 r2 r3 r4 r5 r6 r7 r8 r9 r10 r11 r12 r13 r14 r15 r16 r17 r18 r19 r20 r21 r22 r23 r24 r25 r26 r27 r28 r29 r30 r31 r32 r33 r34 r35 r36 l0 l1 q0 q1 q2 q3 q4) (fun r0 w => r0 = some (.int (jdA S.2.2.1 (rdS S) (tauS S) (lnS S) (rpS S) Y a1)) ∧ w.Perm wx') ∧ IM cy (A 0) T S L Y O E G P M wx' := by
  obtain ⟨hT, hS, hK0, hP⟩ := hD
  have hR0 := hR
  obtain ⟨rfl, htp, hN, hs, hsl, rfl, hp, hm⟩ := hR
  obtain ⟨hm0, hk0, hlw, n0, n1, n2, n3, hnm, hkn⟩ := S_M hS hN
  have hn := S_N hS
  have hr := S_R S
  have h24 := okS_24 hS hK0
  have hln := S_ln hS
  have hrp := S_rp hS
  have hot := otM_rL hsl.2.1
  have hP24 := row_le (fun p hp => Nat.le_trans (hP p hp).2 hln)
  have hK1 := hK0
  obtain ⟨k1, k2, k3, k4, k5, k6, k7, k8, k9, k10⟩ := hK0
  obtain ⟨b', tm', fmn', c1', c2', c3', c4', c5', c6', c7', c8', c9', c10', s', asd', fo', co', ti', fm', e, g⟩ := judged_M (F := F) (by omega) hn hr hm0 hk0 n2 n3 hrp hln hlw k8 hsl.1 k2 hs h24 a1 i0 i12 i13 i14 r9 r10 r11 r12 r13 r14 r15 r16 r17 r18 r20 r32 r33 r34 r35
  exact ⟨_, LX12_judged A i0 (ii T.length) i2 i3 i4 i5 i6 i7 i8 i9 i10 (ii P.length) i12 i13 i14 i15 r0 r1 r2 r3 r4 r5 r6 r7 r8 r9 r10 r11 r12 r13 r14 r15 r16 r17 r18 r19 r20 r21 r22 r23 r24 r25 r26 r27 r28 r29 r30 r31 r32 r33 r34 r35 r36 l0 l1 q0 q1 q2 q3 q4 F a1 _ e, A, (fun k => ([_, _, _, _, _, _, _, _, _, _, _, _, _, _, _, _] : List Int32).getD k 0), (fun k => ([_, _, _, _, _, _, _, _, _, _, _, _, _, _, _, _, _, _, _, _, _, _, _, _, _, _, _, _, _, _, _, _, _, _, _, _, _] : List (Nat → Int32)).getD k (fun _ => 0)), (fun k => ([_, _] : List Int64).getD k 0), (fun k => ([_, _, _, _, _] : List (Nat → Int64)).getD k (fun _ => 0)), rfl, rfl, ⟨rfl, htp, hN, g, hsl, rfl, hp, hm⟩⟩
theorem uM_centuries {F : Nat} (hF : 20000 ≤ F) {l : Launch} {D : va_G} {cy : Nat → ClassId} {T : List Nat} {S : NSt} {L Y O E G : List Nat} {P : List (List Nat)} {M : Nat → Option (List Nat × List Nat × List Nat × List Nat × List Nat)} (hD : okDt T S L Y O E G P) (a1 : Int32) (a2 : Int32) (a3 : Int32)  (A : Nat → Nat) (i0 : Int32) (i1 : Int32) (i2 : Int32) (i3 : Int32) (i4 : Int32) (i5 : Int32) (i6 : Int32) (i7 : Int32) (i8 : Int32) (i9 : Int32) (i10 : Int32) (i11 : Int32) (i12 : Int32) (i13 : Int32) (i14 : Int32) (i15 : Int32) (r0 : Nat → Int32) (r1 : Nat → Int32) (r2 : Nat → Int32) (r3 : Nat → Int32) (r4 : Nat → Int32) (r5 : Nat → Int32) (r6 : Nat → Int32) (r7 : Nat → Int32) (r8 : Nat → Int32) (r9 : Nat → Int32) (r10 : Nat → Int32) (r11 : Nat → Int32) (r12 : Nat → Int32) (r13 : Nat → Int32) (r14 : Nat → Int32) (r15 : Nat → Int32) (r16 : Nat → Int32) (r17 : Nat → Int32) (r18 : Nat → Int32) (r19 : Nat → Int32) (r20 : Nat → Int32) (r21 : Nat → Int32) (r22 : Nat → Int32) (r23 : Nat → Int32) (r24 : Nat → Int32) (r25 : Nat → Int32) (r26 : Nat → Int32) (r27 : Nat → Int32) (r28 : Nat → Int32) (r29 : Nat → Int32) (r30 : Nat → Int32) (r31 : Nat → Int32) (r32 : Nat → Int32) (r33 : Nat → Int32) (r34 : Nat → Int32) (r35 : Nat → Int32) (r36 : Nat → Int32) (l0 : Int64) (l1 : Int64) (q0 : Nat → Int64) (q1 : Nat → Int64) (q2 : Nat → Int64) (q3 : Nat → Int64) (q4 : Nat → Int64) (hR : RM T S L Y O E G P M i1 i11 r0 r1 r2 r3 r4 r5 r6 r19 r21 r22 r23 r24 r25 r26 r27 r28 r29 r30 r31 q0) : ∃ wx', vMet l D cy MX12_centuries 6 0 0 [.ref (A 0), .int a1, .int a2, .int a3] (WM cy A i0 i1 i2 i3 i4 i5 i6 i7 i8 i9 i10 i11 i12 i13 i14 i15 r0 r1 r2 r3 r4 r5 r6 r7 r8 r9 r10 r11 r12 r13 r14 r15 r16 r17 r18 r19 r20 r21 r22 r23 r24 r25 r26 r27 r28 r29 r30 r31 r32 r33 r34 r35 r36 l0 l1 q0 q1 q2 q3 q4) (fun r0 w => r0 = some (.int (ceA nx (fun G m => nx G / 65536 % m) S.2.2.1 (rdS S) (tauS S) (lnS S) (rpS S) S.1.length a1 a2 a3)) ∧ w.Perm wx') ∧ IM cy (A 0) T S L Y O E G P M wx' := by
  obtain ⟨hT, hS, hK0, hP⟩ := hD
  have hR0 := hR
  obtain ⟨rfl, htp, hN, hs, hsl, rfl, hp, hm⟩ := hR
  obtain ⟨hm0, hk0, hlw, n0, n1, n2, n3, hnm, hkn⟩ := S_M hS hN
  have hn := S_N hS
  have hr := S_R S
  have h24 := okS_24 hS hK0
  have hln := S_ln hS
  have hrp := S_rp hS
  have hot := otM_rL hsl.2.1
  have hP24 := row_le (fun p hp => Nat.le_trans (hP p hp).2 hln)
  have hK1 := hK0
  obtain ⟨k1, k2, k3, k4, k5, k6, k7, k8, k9, k10⟩ := hK0
  obtain ⟨b', tm', fmn', g', c1', c2', c3', c4', c5', c6', c7', c8', c9', c10', s', asd', fo', co', ti', fm', e, g⟩ := centuries_M (F := F) (ν := nx) (δ := fun G m => nx G / 65536 % m) (fun G => Nat.mod_lt _ (by decide)) (fun G m h => Nat.mod_lt _ h) nx_M (by omega) hn hr hm0 hk0 n0 n2 n3 hrp hln hlw hs h24 a1 a2 a3 i0 i12 i13 i14 l1 r9 r10 r11 r12 r13 r14 r15 r16 r17 r18 r20 r32 r33 r34 r35
  exact ⟨_, LX12_centuries A i0 (ii T.length) i2 i3 i4 i5 i6 i7 i8 i9 i10 (ii P.length) i12 i13 i14 i15 r0 r1 r2 r3 r4 r5 r6 r7 r8 r9 r10 r11 r12 r13 r14 r15 r16 r17 r18 r19 r20 r21 r22 r23 r24 r25 r26 r27 r28 r29 r30 r31 r32 r33 r34 r35 r36 l0 l1 q0 q1 q2 q3 q4 F a1 a2 a3 _ e, A, (fun k => ([_, _, _, _, _, _, _, _, _, _, _, _, _, _, _, _] : List Int32).getD k 0), (fun k => ([_, _, _, _, _, _, _, _, _, _, _, _, _, _, _, _, _, _, _, _, _, _, _, _, _, _, _, _, _, _, _, _, _, _, _, _, _] : List (Nat → Int32)).getD k (fun _ => 0)), (fun k => ([_, _] : List Int64).getD k 0), (fun k => ([_, _, _, _, _] : List (Nat → Int64)).getD k (fun _ => 0)), rfl, rfl, ⟨rfl, htp, hN, g, hsl, rfl, hp, hm⟩⟩
theorem uM_count {F : Nat} (hF : 20000 ≤ F) {l : Launch} {D : va_G} {cy : Nat → ClassId} {T : List Nat} {S : NSt} {L Y O E G : List Nat} {P : List (List Nat)} {M : Nat → Option (List Nat × List Nat × List Nat × List Nat × List Nat)} (hD : okDt T S L Y O E G P) (a1 : Int32)  (A : Nat → Nat) (i0 : Int32) (i1 : Int32) (i2 : Int32) (i3 : Int32) (i4 : Int32) (i5 : Int32) (i6 : Int32) (i7 : Int32) (i8 : Int32) (i9 : Int32) (i10 : Int32) (i11 : Int32) (i12 : Int32) (i13 : Int32) (i14 : Int32) (i15 : Int32) (r0 : Nat → Int32) (r1 : Nat → Int32) (r2 : Nat → Int32) (r3 : Nat → Int32) (r4 : Nat → Int32) (r5 : Nat → Int32) (r6 : Nat → Int32) (r7 : Nat → Int32) (r8 : Nat → Int32) (r9 : Nat → Int32) (r10 : Nat → Int32) (r11 : Nat → Int32) (r12 : Nat → Int32) (r13 : Nat → Int32) (r14 : Nat → Int32) (r15 : Nat → Int32) (r16 : Nat → Int32) (r17 : Nat → Int32) (r18 : Nat → Int32) (r19 : Nat → Int32) (r20 : Nat → Int32) (r21 : Nat → Int32) (r22 : Nat → Int32) (r23 : Nat → Int32) (r24 : Nat → Int32) (r25 : Nat → Int32) (r26 : Nat → Int32) (r27 : Nat → Int32) (r28 : Nat → Int32) (r29 : Nat → Int32) (r30 : Nat → Int32) (r31 : Nat → Int32) (r32 : Nat → Int32) (r33 : Nat → Int32) (r34 : Nat → Int32) (r35 : Nat → Int32) (r36 : Nat → Int32) (l0 : Int64) (l1 : Int64) (q0 : Nat → Int64) (q1 : Nat → Int64) (q2 : Nat → Int64) (q3 : Nat → Int64) (q4 : Nat → Int64) (hR : RM T S L Y O E G P M i1 i11 r0 r1 r2 r3 r4 r5 r6 r19 r21 r22 r23 r24 r25 r26 r27 r28 r29 r30 r31 q0) : ∃ wx', vMet l D cy MX12_count 6 0 0 [.ref (A 0), .int a1] (WM cy A i0 i1 i2 i3 i4 i5 i6 i7 i8 i9 i10 i11 i12 i13 i14 i15 r0 r1 r2 r3 r4 r5 r6 r7 r8 r9 r10 r11 r12 r13 r14 r15 r16 r17 r18 r19 r20 r21 r22 r23 r24 r25 r26 r27 r28 r29 r30 r31 r32 r33 r34 r35 r36 l0 l1 q0 q1 q2 q3 q4) (fun r0 w => r0 = some (.int (coA (ii S.1.length) (ii S.2.2.2.1) (ii (lnS S)) (ii (rpS S)) (ii (usd (tauS S) 0 L)) (ii L.length) (ii (frm S.2.2.1 (rdS S) L).length) (ii Y.length) (ii O.length) (ii E.length) (ii P.length) (ii T.length) a1)) ∧ w.Perm wx') ∧ IM cy (A 0) T S L Y O E G P M wx' := by
  obtain ⟨hT, hS, hK0, hP⟩ := hD
  have hR0 := hR
  obtain ⟨rfl, htp, hN, hs, hsl, rfl, hp, hm⟩ := hR
  obtain ⟨hm0, hk0, hlw, n0, n1, n2, n3, hnm, hkn⟩ := S_M hS hN
  have hn := S_N hS
  have hr := S_R S
  have h24 := okS_24 hS hK0
  have hln := S_ln hS
  have hrp := S_rp hS
  have hot := otM_rL hsl.2.1
  have hP24 := row_le (fun p hp => Nat.le_trans (hP p hp).2 hln)
  have hK1 := hK0
  obtain ⟨k1, k2, k3, k4, k5, k6, k7, k8, k9, k10⟩ := hK0
  obtain ⟨b', tm', fmn', c1', c2', c3', c4', c5', c6', c7', c8', c9', c10', fo', co', ti', fm', e⟩ := count_M (F := F) (by omega) hn hr hm0 hk0 n0 n2 n3 hlw k6 hs h24 (ii T.length) (ii P.length) r24 r27 r29 a1 i0 i12 i13 i14 r9 r10 r11 r12 r13 r14 r15 r16 r17 r18 r32 r33 r34 r35
  rw [n1, hsl.1.1, hsl.2.1.1, hsl.2.2.1] at e
  exact ⟨_, LX12_count A i0 (ii T.length) i2 i3 i4 i5 i6 i7 i8 i9 i10 (ii P.length) i12 i13 i14 i15 r0 r1 r2 r3 r4 r5 r6 r7 r8 r9 r10 r11 r12 r13 r14 r15 r16 r17 r18 r19 r20 r21 r22 r23 r24 r25 r26 r27 r28 r29 r30 r31 r32 r33 r34 r35 r36 l0 l1 q0 q1 q2 q3 q4 F a1 _ e, A, (fun k => ([_, _, _, _, _, _, _, _, _, _, _, _, _, _, _, _] : List Int32).getD k 0), (fun k => ([_, _, _, _, _, _, _, _, _, _, _, _, _, _, _, _, _, _, _, _, _, _, _, _, _, _, _, _, _, _, _, _, _, _, _, _, _] : List (Nat → Int32)).getD k (fun _ => 0)), (fun k => ([_, _] : List Int64).getD k 0), (fun k => ([_, _, _, _, _] : List (Nat → Int64)).getD k (fun _ => 0)), rfl, rfl, hR0⟩
theorem uM_cuts1 {F : Nat} (hF : 20000 ≤ F) {l : Launch} {D : va_G} {cy : Nat → ClassId} {T : List Nat} {S : NSt} {L Y O E G : List Nat} {P : List (List Nat)} {M : Nat → Option (List Nat × List Nat × List Nat × List Nat × List Nat)} (hD : okDt T S L Y O E G P)  (h14 : L.length ≤ 14) (A : Nat → Nat) (i0 : Int32) (i1 : Int32) (i2 : Int32) (i3 : Int32) (i4 : Int32) (i5 : Int32) (i6 : Int32) (i7 : Int32) (i8 : Int32) (i9 : Int32) (i10 : Int32) (i11 : Int32) (i12 : Int32) (i13 : Int32) (i14 : Int32) (i15 : Int32) (r0 : Nat → Int32) (r1 : Nat → Int32) (r2 : Nat → Int32) (r3 : Nat → Int32) (r4 : Nat → Int32) (r5 : Nat → Int32) (r6 : Nat → Int32) (r7 : Nat → Int32) (r8 : Nat → Int32) (r9 : Nat → Int32) (r10 : Nat → Int32) (r11 : Nat → Int32) (r12 : Nat → Int32) (r13 : Nat → Int32) (r14 : Nat → Int32) (r15 : Nat → Int32) (r16 : Nat → Int32) (r17 : Nat → Int32) (r18 : Nat → Int32) (r19 : Nat → Int32) (r20 : Nat → Int32) (r21 : Nat → Int32) (r22 : Nat → Int32) (r23 : Nat → Int32) (r24 : Nat → Int32) (r25 : Nat → Int32) (r26 : Nat → Int32) (r27 : Nat → Int32) (r28 : Nat → Int32) (r29 : Nat → Int32) (r30 : Nat → Int32) (r31 : Nat → Int32) (r32 : Nat → Int32) (r33 : Nat → Int32) (r34 : Nat → Int32) (r35 : Nat → Int32) (r36 : Nat → Int32) (l0 : Int64) (l1 : Int64) (q0 : Nat → Int64) (q1 : Nat → Int64) (q2 : Nat → Int64) (q3 : Nat → Int64) (q4 : Nat → Int64) (hR : RM T S L Y O E G P M i1 i11 r0 r1 r2 r3 r4 r5 r6 r19 r21 r22 r23 r24 r25 r26 r27 r28 r29 r30 r31 q0) : ∃ Bn wx', bsC S.2.2.1 (rdS S) L (2 ^ L.length) (some Bn) ∧ vMet l D cy MX12_cuts 4 0 0 [.ref (A 0)] (WM cy A i0 i1 i2 i3 i4 i5 i6 i7 i8 i9 i10 i11 i12 i13 i14 i15 r0 r1 r2 r3 r4 r5 r6 r7 r8 r9 r10 r11 r12 r13 r14 r15 r16 r17 r18 r19 r20 r21 r22 r23 r24 r25 r26 r27 r28 r29 r30 r31 r32 r33 r34 r35 r36 l0 l1 q0 q1 q2 q3 q4) (fun r0 w => r0 = some (.int (ii Bn)) ∧ w.Perm wx') ∧ IM cy (A 0) T S L Y O E G P M wx' := by
  obtain ⟨hT, hS, hK0, hP⟩ := hD
  have hR0 := hR
  obtain ⟨rfl, htp, hN, hs, hsl, rfl, hp, hm⟩ := hR
  obtain ⟨hm0, hk0, hlw, n0, n1, n2, n3, hnm, hkn⟩ := S_M hS hN
  have hn := S_N hS
  have hr := S_R S
  have h24 := okS_24 hS hK0
  have hln := S_ln hS
  have hrp := S_rp hS
  have hot := otM_rL hsl.2.1
  have hP24 := row_le (fun p hp => Nat.le_trans (hP p hp).2 hln)
  have hK1 := hK0
  obtain ⟨k1, k2, k3, k4, k5, k6, k7, k8, k9, k10⟩ := hK0
  obtain ⟨Bn, z', fo', co', e, hb⟩ := cuts_M (F := F) hn hm0 (by omega) k6 hs h14 i0 i12 r32 r33
  exact ⟨Bn, _, hb, LX12_cuts A i0 (ii T.length) i2 i3 i4 i5 i6 i7 i8 i9 i10 (ii P.length) i12 i13 i14 i15 r0 r1 r2 r3 r4 r5 r6 r7 r8 r9 r10 r11 r12 r13 r14 r15 r16 r17 r18 r19 r20 r21 r22 r23 r24 r25 r26 r27 r28 r29 r30 r31 r32 r33 r34 r35 r36 l0 l1 q0 q1 q2 q3 q4 F  _ e, A, (fun k => ([_, _, _, _, _, _, _, _, _, _, _, _, _, _, _, _] : List Int32).getD k 0), (fun k => ([_, _, _, _, _, _, _, _, _, _, _, _, _, _, _, _, _, _, _, _, _, _, _, _, _, _, _, _, _, _, _, _, _, _, _, _, _] : List (Nat → Int32)).getD k (fun _ => 0)), (fun k => ([_, _] : List Int64).getD k 0), (fun k => ([_, _, _, _, _] : List (Nat → Int64)).getD k (fun _ => 0)), rfl, rfl, hR0⟩
theorem uM_cuts0 {F : Nat} (hF : 20000 ≤ F) {l : Launch} {D : va_G} {cy : Nat → ClassId} {T : List Nat} {S : NSt} {L Y O E G : List Nat} {P : List (List Nat)} {M : Nat → Option (List Nat × List Nat × List Nat × List Nat × List Nat)} (hD : okDt T S L Y O E G P)  (h14 : 14 < L.length) (A : Nat → Nat) (i0 : Int32) (i1 : Int32) (i2 : Int32) (i3 : Int32) (i4 : Int32) (i5 : Int32) (i6 : Int32) (i7 : Int32) (i8 : Int32) (i9 : Int32) (i10 : Int32) (i11 : Int32) (i12 : Int32) (i13 : Int32) (i14 : Int32) (i15 : Int32) (r0 : Nat → Int32) (r1 : Nat → Int32) (r2 : Nat → Int32) (r3 : Nat → Int32) (r4 : Nat → Int32) (r5 : Nat → Int32) (r6 : Nat → Int32) (r7 : Nat → Int32) (r8 : Nat → Int32) (r9 : Nat → Int32) (r10 : Nat → Int32) (r11 : Nat → Int32) (r12 : Nat → Int32) (r13 : Nat → Int32) (r14 : Nat → Int32) (r15 : Nat → Int32) (r16 : Nat → Int32) (r17 : Nat → Int32) (r18 : Nat → Int32) (r19 : Nat → Int32) (r20 : Nat → Int32) (r21 : Nat → Int32) (r22 : Nat → Int32) (r23 : Nat → Int32) (r24 : Nat → Int32) (r25 : Nat → Int32) (r26 : Nat → Int32) (r27 : Nat → Int32) (r28 : Nat → Int32) (r29 : Nat → Int32) (r30 : Nat → Int32) (r31 : Nat → Int32) (r32 : Nat → Int32) (r33 : Nat → Int32) (r34 : Nat → Int32) (r35 : Nat → Int32) (r36 : Nat → Int32) (l0 : Int64) (l1 : Int64) (q0 : Nat → Int64) (q1 : Nat → Int64) (q2 : Nat → Int64) (q3 : Nat → Int64) (q4 : Nat → Int64) (hR : RM T S L Y O E G P M i1 i11 r0 r1 r2 r3 r4 r5 r6 r19 r21 r22 r23 r24 r25 r26 r27 r28 r29 r30 r31 q0) : ∃ wx', vMet l D cy MX12_cuts 4 0 0 [.ref (A 0)] (WM cy A i0 i1 i2 i3 i4 i5 i6 i7 i8 i9 i10 i11 i12 i13 i14 i15 r0 r1 r2 r3 r4 r5 r6 r7 r8 r9 r10 r11 r12 r13 r14 r15 r16 r17 r18 r19 r20 r21 r22 r23 r24 r25 r26 r27 r28 r29 r30 r31 r32 r33 r34 r35 r36 l0 l1 q0 q1 q2 q3 q4) (fun r0 w => r0 = some (.int (-1)) ∧ w.Perm wx') ∧ IM cy (A 0) T S L Y O E G P M wx' := by
  obtain ⟨hT, hS, hK0, hP⟩ := hD
  have hR0 := hR
  obtain ⟨rfl, htp, hN, hs, hsl, rfl, hp, hm⟩ := hR
  obtain ⟨hm0, hk0, hlw, n0, n1, n2, n3, hnm, hkn⟩ := S_M hS hN
  have hn := S_N hS
  have hr := S_R S
  have h24 := okS_24 hS hK0
  have hln := S_ln hS
  have hrp := S_rp hS
  have hot := otM_rL hsl.2.1
  have hP24 := row_le (fun p hp => Nat.le_trans (hP p hp).2 hln)
  have hK1 := hK0
  obtain ⟨k1, k2, k3, k4, k5, k6, k7, k8, k9, k10⟩ := hK0
  have e := cuts_M0 (F := F) hs h14 h24 r2 r3 i0 i12 r32 r33
  exact ⟨_, LX12_cuts A i0 (ii T.length) i2 i3 i4 i5 i6 i7 i8 i9 i10 (ii P.length) i12 i13 i14 i15 r0 r1 r2 r3 r4 r5 r6 r7 r8 r9 r10 r11 r12 r13 r14 r15 r16 r17 r18 r19 r20 r21 r22 r23 r24 r25 r26 r27 r28 r29 r30 r31 r32 r33 r34 r35 r36 l0 l1 q0 q1 q2 q3 q4 F  _ e, A, (fun k => ([_, _, _, _, _, _, _, _, _, _, _, _, _, _, _, _] : List Int32).getD k 0), (fun k => ([_, _, _, _, _, _, _, _, _, _, _, _, _, _, _, _, _, _, _, _, _, _, _, _, _, _, _, _, _, _, _, _, _, _, _, _, _] : List (Nat → Int32)).getD k (fun _ => 0)), (fun k => ([_, _] : List Int64).getD k 0), (fun k => ([_, _, _, _, _] : List (Nat → Int64)).getD k (fun _ => 0)), rfl, rfl, hR0⟩
theorem uM_orders1 {F : Nat} (hF : 20000 ≤ F) {l : Launch} {D : va_G} {cy : Nat → ClassId} {T : List Nat} {S : NSt} {L Y O E G : List Nat} {P : List (List Nat)} {M : Nat → Option (List Nat × List Nat × List Nat × List Nat × List Nat)} (hD : okDt T S L Y O E G P)  (h14 : L.length ≤ 14) (A : Nat → Nat) (i0 : Int32) (i1 : Int32) (i2 : Int32) (i3 : Int32) (i4 : Int32) (i5 : Int32) (i6 : Int32) (i7 : Int32) (i8 : Int32) (i9 : Int32) (i10 : Int32) (i11 : Int32) (i12 : Int32) (i13 : Int32) (i14 : Int32) (i15 : Int32) (r0 : Nat → Int32) (r1 : Nat → Int32) (r2 : Nat → Int32) (r3 : Nat → Int32) (r4 : Nat → Int32) (r5 : Nat → Int32) (r6 : Nat → Int32) (r7 : Nat → Int32) (r8 : Nat → Int32) (r9 : Nat → Int32) (r10 : Nat → Int32) (r11 : Nat → Int32) (r12 : Nat → Int32) (r13 : Nat → Int32) (r14 : Nat → Int32) (r15 : Nat → Int32) (r16 : Nat → Int32) (r17 : Nat → Int32) (r18 : Nat → Int32) (r19 : Nat → Int32) (r20 : Nat → Int32) (r21 : Nat → Int32) (r22 : Nat → Int32) (r23 : Nat → Int32) (r24 : Nat → Int32) (r25 : Nat → Int32) (r26 : Nat → Int32) (r27 : Nat → Int32) (r28 : Nat → Int32) (r29 : Nat → Int32) (r30 : Nat → Int32) (r31 : Nat → Int32) (r32 : Nat → Int32) (r33 : Nat → Int32) (r34 : Nat → Int32) (r35 : Nat → Int32) (r36 : Nat → Int32) (l0 : Int64) (l1 : Int64) (q0 : Nat → Int64) (q1 : Nat → Int64) (q2 : Nat → Int64) (q3 : Nat → Int64) (q4 : Nat → Int64) (hR : RM T S L Y O E G P M i1 i11 r0 r1 r2 r3 r4 r5 r6 r19 r21 r22 r23 r24 r25 r26 r27 r28 r29 r30 r31 q0) : ∃ wx', vMet l D cy MX12_orders 3 0 0 [.ref (A 0)] (WM cy A i0 i1 i2 i3 i4 i5 i6 i7 i8 i9 i10 i11 i12 i13 i14 i15 r0 r1 r2 r3 r4 r5 r6 r7 r8 r9 r10 r11 r12 r13 r14 r15 r16 r17 r18 r19 r20 r21 r22 r23 r24 r25 r26 r27 r28 r29 r30 r31 r32 r33 r34 r35 r36 l0 l1 q0 q1 q2 q3 q4) (fun r0 w => r0 = some (.long (il (nW L.length (muA S.2.2.1 L E G) (2 ^ L.length - 1)))) ∧ w.Perm wx') ∧ IM cy (A 0) T S L Y O E G P M wx' := by
  obtain ⟨hT, hS, hK0, hP⟩ := hD
  have hR0 := hR
  obtain ⟨rfl, htp, hN, hs, hsl, rfl, hp, hm⟩ := hR
  obtain ⟨hm0, hk0, hlw, n0, n1, n2, n3, hnm, hkn⟩ := S_M hS hN
  have hn := S_N hS
  have hr := S_R S
  have h24 := okS_24 hS hK0
  have hln := S_ln hS
  have hrp := S_rp hS
  have hot := otM_rL hsl.2.1
  have hP24 := row_le (fun p hp => Nat.le_trans (hP p hp).2 hln)
  have hK1 := hK0
  obtain ⟨k1, k2, k3, k4, k5, k6, k7, k8, k9, k10⟩ := hK0
  obtain ⟨mu', w', v', e⟩ := orders_M (F := F) hn hm0 (by omega) k6 hs h14 hsl.2.2 k5 k4 k9 k10 i0 r36 q1 q2
  exact ⟨_, LX12_orders A i0 (ii T.length) i2 i3 i4 i5 i6 i7 i8 i9 i10 (ii P.length) i12 i13 i14 i15 r0 r1 r2 r3 r4 r5 r6 r7 r8 r9 r10 r11 r12 r13 r14 r15 r16 r17 r18 r19 r20 r21 r22 r23 r24 r25 r26 r27 r28 r29 r30 r31 r32 r33 r34 r35 r36 l0 l1 q0 q1 q2 q3 q4 F  _ e, A, (fun k => ([_, _, _, _, _, _, _, _, _, _, _, _, _, _, _, _] : List Int32).getD k 0), (fun k => ([_, _, _, _, _, _, _, _, _, _, _, _, _, _, _, _, _, _, _, _, _, _, _, _, _, _, _, _, _, _, _, _, _, _, _, _, _] : List (Nat → Int32)).getD k (fun _ => 0)), (fun k => ([_, _] : List Int64).getD k 0), (fun k => ([_, _, _, _, _] : List (Nat → Int64)).getD k (fun _ => 0)), rfl, rfl, hR0⟩
theorem uM_orders0 {F : Nat} (hF : 20000 ≤ F) {l : Launch} {D : va_G} {cy : Nat → ClassId} {T : List Nat} {S : NSt} {L Y O E G : List Nat} {P : List (List Nat)} {M : Nat → Option (List Nat × List Nat × List Nat × List Nat × List Nat)} (hD : okDt T S L Y O E G P)  (h14 : 14 < L.length) (A : Nat → Nat) (i0 : Int32) (i1 : Int32) (i2 : Int32) (i3 : Int32) (i4 : Int32) (i5 : Int32) (i6 : Int32) (i7 : Int32) (i8 : Int32) (i9 : Int32) (i10 : Int32) (i11 : Int32) (i12 : Int32) (i13 : Int32) (i14 : Int32) (i15 : Int32) (r0 : Nat → Int32) (r1 : Nat → Int32) (r2 : Nat → Int32) (r3 : Nat → Int32) (r4 : Nat → Int32) (r5 : Nat → Int32) (r6 : Nat → Int32) (r7 : Nat → Int32) (r8 : Nat → Int32) (r9 : Nat → Int32) (r10 : Nat → Int32) (r11 : Nat → Int32) (r12 : Nat → Int32) (r13 : Nat → Int32) (r14 : Nat → Int32) (r15 : Nat → Int32) (r16 : Nat → Int32) (r17 : Nat → Int32) (r18 : Nat → Int32) (r19 : Nat → Int32) (r20 : Nat → Int32) (r21 : Nat → Int32) (r22 : Nat → Int32) (r23 : Nat → Int32) (r24 : Nat → Int32) (r25 : Nat → Int32) (r26 : Nat → Int32) (r27 : Nat → Int32) (r28 : Nat → Int32) (r29 : Nat → Int32) (r30 : Nat → Int32) (r31 : Nat → Int32) (r32 : Nat → Int32) (r33 : Nat → Int32) (r34 : Nat → Int32) (r35 : Nat → Int32) (r36 : Nat → Int32) (l0 : Int64) (l1 : Int64) (q0 : Nat → Int64) (q1 : Nat → Int64) (q2 : Nat → Int64) (q3 : Nat → Int64) (q4 : Nat → Int64) (hR : RM T S L Y O E G P M i1 i11 r0 r1 r2 r3 r4 r5 r6 r19 r21 r22 r23 r24 r25 r26 r27 r28 r29 r30 r31 q0) : ∃ wx', vMet l D cy MX12_orders 3 0 0 [.ref (A 0)] (WM cy A i0 i1 i2 i3 i4 i5 i6 i7 i8 i9 i10 i11 i12 i13 i14 i15 r0 r1 r2 r3 r4 r5 r6 r7 r8 r9 r10 r11 r12 r13 r14 r15 r16 r17 r18 r19 r20 r21 r22 r23 r24 r25 r26 r27 r28 r29 r30 r31 r32 r33 r34 r35 r36 l0 l1 q0 q1 q2 q3 q4) (fun r0 w => r0 = some (.long (-1)) ∧ w.Perm wx') ∧ IM cy (A 0) T S L Y O E G P M wx' := by
  obtain ⟨hT, hS, hK0, hP⟩ := hD
  have hR0 := hR
  obtain ⟨rfl, htp, hN, hs, hsl, rfl, hp, hm⟩ := hR
  obtain ⟨hm0, hk0, hlw, n0, n1, n2, n3, hnm, hkn⟩ := S_M hS hN
  have hn := S_N hS
  have hr := S_R S
  have h24 := okS_24 hS hK0
  have hln := S_ln hS
  have hrp := S_rp hS
  have hot := otM_rL hsl.2.1
  have hP24 := row_le (fun p hp => Nat.le_trans (hP p hp).2 hln)
  have hK1 := hK0
  obtain ⟨k1, k2, k3, k4, k5, k6, k7, k8, k9, k10⟩ := hK0
  have e := orders_M0 (F := F) hs h14 h24 r3 r29 r30 r31 i0 r36 q1 q2
  exact ⟨_, LX12_orders A i0 (ii T.length) i2 i3 i4 i5 i6 i7 i8 i9 i10 (ii P.length) i12 i13 i14 i15 r0 r1 r2 r3 r4 r5 r6 r7 r8 r9 r10 r11 r12 r13 r14 r15 r16 r17 r18 r19 r20 r21 r22 r23 r24 r25 r26 r27 r28 r29 r30 r31 r32 r33 r34 r35 r36 l0 l1 q0 q1 q2 q3 q4 F  _ e, A, (fun k => ([_, _, _, _, _, _, _, _, _, _, _, _, _, _, _, _] : List Int32).getD k 0), (fun k => ([_, _, _, _, _, _, _, _, _, _, _, _, _, _, _, _, _, _, _, _, _, _, _, _, _, _, _, _, _, _, _, _, _, _, _, _, _] : List (Nat → Int32)).getD k (fun _ => 0)), (fun k => ([_, _] : List Int64).getD k 0), (fun k => ([_, _, _, _, _] : List (Nat → Int64)).getD k (fun _ => 0)), rfl, rfl, hR0⟩
theorem uM_ask1 {F : Nat} (hF : 20000 ≤ F) {l : Launch} {D : va_G} {cy : Nat → ClassId} {T : List Nat} {S : NSt} {L Y O E G : List Nat} {P : List (List Nat)} {M : Nat → Option (List Nat × List Nat × List Nat × List Nat × List Nat)} (hD : okDt T S L Y O E G P)  (h14 : L.length ≤ 14) (A : Nat → Nat) (i0 : Int32) (i1 : Int32) (i2 : Int32) (i3 : Int32) (i4 : Int32) (i5 : Int32) (i6 : Int32) (i7 : Int32) (i8 : Int32) (i9 : Int32) (i10 : Int32) (i11 : Int32) (i12 : Int32) (i13 : Int32) (i14 : Int32) (i15 : Int32) (r0 : Nat → Int32) (r1 : Nat → Int32) (r2 : Nat → Int32) (r3 : Nat → Int32) (r4 : Nat → Int32) (r5 : Nat → Int32) (r6 : Nat → Int32) (r7 : Nat → Int32) (r8 : Nat → Int32) (r9 : Nat → Int32) (r10 : Nat → Int32) (r11 : Nat → Int32) (r12 : Nat → Int32) (r13 : Nat → Int32) (r14 : Nat → Int32) (r15 : Nat → Int32) (r16 : Nat → Int32) (r17 : Nat → Int32) (r18 : Nat → Int32) (r19 : Nat → Int32) (r20 : Nat → Int32) (r21 : Nat → Int32) (r22 : Nat → Int32) (r23 : Nat → Int32) (r24 : Nat → Int32) (r25 : Nat → Int32) (r26 : Nat → Int32) (r27 : Nat → Int32) (r28 : Nat → Int32) (r29 : Nat → Int32) (r30 : Nat → Int32) (r31 : Nat → Int32) (r32 : Nat → Int32) (r33 : Nat → Int32) (r34 : Nat → Int32) (r35 : Nat → Int32) (r36 : Nat → Int32) (l0 : Int64) (l1 : Int64) (q0 : Nat → Int64) (q1 : Nat → Int64) (q2 : Nat → Int64) (q3 : Nat → Int64) (q4 : Nat → Int64) (hR : RM T S L Y O E G P M i1 i11 r0 r1 r2 r3 r4 r5 r6 r19 r21 r22 r23 r24 r25 r26 r27 r28 r29 r30 r31 q0) : ∃ wx', vMet l D cy MX12_ask 3 0 0 [.ref (A 0)] (WM cy A i0 i1 i2 i3 i4 i5 i6 i7 i8 i9 i10 i11 i12 i13 i14 i15 r0 r1 r2 r3 r4 r5 r6 r7 r8 r9 r10 r11 r12 r13 r14 r15 r16 r17 r18 r19 r20 r21 r22 r23 r24 r25 r26 r27 r28 r29 r30 r31 r32 r33 r34 r35 r36 l0 l1 q0 q1 q2 q3 q4) (fun r0 w => r0 = some (.int ((akO (aW L.length (muA S.2.2.1 L E G)) L.length L.length 0 (nW L.length (muA S.2.2.1 L E G) (2 ^ L.length - 1), -1)).2)) ∧ w.Perm wx') ∧ IM cy (A 0) T S L Y O E G P M wx' := by
  obtain ⟨hT, hS, hK0, hP⟩ := hD
  have hR0 := hR
  obtain ⟨rfl, htp, hN, hs, hsl, rfl, hp, hm⟩ := hR
  obtain ⟨hm0, hk0, hlw, n0, n1, n2, n3, hnm, hkn⟩ := S_M hS hN
  have hn := S_N hS
  have hr := S_R S
  have h24 := okS_24 hS hK0
  have hln := S_ln hS
  have hrp := S_rp hS
  have hot := otM_rL hsl.2.1
  have hP24 := row_le (fun p hp => Nat.le_trans (hP p hp).2 hln)
  have hK1 := hK0
  obtain ⟨k1, k2, k3, k4, k5, k6, k7, k8, k9, k10⟩ := hK0
  obtain ⟨mu', w', v', ia', e⟩ := ask_M (F := F) hn hm0 (by omega) k6 hs h14 hsl.2.2 k5 k4 k9 k10 i0 r36 q1 q2 q3
  exact ⟨_, LX12_ask A i0 (ii T.length) i2 i3 i4 i5 i6 i7 i8 i9 i10 (ii P.length) i12 i13 i14 i15 r0 r1 r2 r3 r4 r5 r6 r7 r8 r9 r10 r11 r12 r13 r14 r15 r16 r17 r18 r19 r20 r21 r22 r23 r24 r25 r26 r27 r28 r29 r30 r31 r32 r33 r34 r35 r36 l0 l1 q0 q1 q2 q3 q4 F  _ e, A, (fun k => ([_, _, _, _, _, _, _, _, _, _, _, _, _, _, _, _] : List Int32).getD k 0), (fun k => ([_, _, _, _, _, _, _, _, _, _, _, _, _, _, _, _, _, _, _, _, _, _, _, _, _, _, _, _, _, _, _, _, _, _, _, _, _] : List (Nat → Int32)).getD k (fun _ => 0)), (fun k => ([_, _] : List Int64).getD k 0), (fun k => ([_, _, _, _, _] : List (Nat → Int64)).getD k (fun _ => 0)), rfl, rfl, hR0⟩
theorem uM_ask0 {F : Nat} (hF : 20000 ≤ F) {l : Launch} {D : va_G} {cy : Nat → ClassId} {T : List Nat} {S : NSt} {L Y O E G : List Nat} {P : List (List Nat)} {M : Nat → Option (List Nat × List Nat × List Nat × List Nat × List Nat)} (hD : okDt T S L Y O E G P)  (h14 : 14 < L.length) (A : Nat → Nat) (i0 : Int32) (i1 : Int32) (i2 : Int32) (i3 : Int32) (i4 : Int32) (i5 : Int32) (i6 : Int32) (i7 : Int32) (i8 : Int32) (i9 : Int32) (i10 : Int32) (i11 : Int32) (i12 : Int32) (i13 : Int32) (i14 : Int32) (i15 : Int32) (r0 : Nat → Int32) (r1 : Nat → Int32) (r2 : Nat → Int32) (r3 : Nat → Int32) (r4 : Nat → Int32) (r5 : Nat → Int32) (r6 : Nat → Int32) (r7 : Nat → Int32) (r8 : Nat → Int32) (r9 : Nat → Int32) (r10 : Nat → Int32) (r11 : Nat → Int32) (r12 : Nat → Int32) (r13 : Nat → Int32) (r14 : Nat → Int32) (r15 : Nat → Int32) (r16 : Nat → Int32) (r17 : Nat → Int32) (r18 : Nat → Int32) (r19 : Nat → Int32) (r20 : Nat → Int32) (r21 : Nat → Int32) (r22 : Nat → Int32) (r23 : Nat → Int32) (r24 : Nat → Int32) (r25 : Nat → Int32) (r26 : Nat → Int32) (r27 : Nat → Int32) (r28 : Nat → Int32) (r29 : Nat → Int32) (r30 : Nat → Int32) (r31 : Nat → Int32) (r32 : Nat → Int32) (r33 : Nat → Int32) (r34 : Nat → Int32) (r35 : Nat → Int32) (r36 : Nat → Int32) (l0 : Int64) (l1 : Int64) (q0 : Nat → Int64) (q1 : Nat → Int64) (q2 : Nat → Int64) (q3 : Nat → Int64) (q4 : Nat → Int64) (hR : RM T S L Y O E G P M i1 i11 r0 r1 r2 r3 r4 r5 r6 r19 r21 r22 r23 r24 r25 r26 r27 r28 r29 r30 r31 q0) : ∃ wx', vMet l D cy MX12_ask 3 0 0 [.ref (A 0)] (WM cy A i0 i1 i2 i3 i4 i5 i6 i7 i8 i9 i10 i11 i12 i13 i14 i15 r0 r1 r2 r3 r4 r5 r6 r7 r8 r9 r10 r11 r12 r13 r14 r15 r16 r17 r18 r19 r20 r21 r22 r23 r24 r25 r26 r27 r28 r29 r30 r31 r32 r33 r34 r35 r36 l0 l1 q0 q1 q2 q3 q4) (fun r0 w => r0 = some (.int (-1)) ∧ w.Perm wx') ∧ IM cy (A 0) T S L Y O E G P M wx' := by
  obtain ⟨hT, hS, hK0, hP⟩ := hD
  have hR0 := hR
  obtain ⟨rfl, htp, hN, hs, hsl, rfl, hp, hm⟩ := hR
  obtain ⟨hm0, hk0, hlw, n0, n1, n2, n3, hnm, hkn⟩ := S_M hS hN
  have hn := S_N hS
  have hr := S_R S
  have h24 := okS_24 hS hK0
  have hln := S_ln hS
  have hrp := S_rp hS
  have hot := otM_rL hsl.2.1
  have hP24 := row_le (fun p hp => Nat.le_trans (hP p hp).2 hln)
  have hK1 := hK0
  obtain ⟨k1, k2, k3, k4, k5, k6, k7, k8, k9, k10⟩ := hK0
  have e := ask_M0 (F := F) hs h14 h24 r3 r29 r30 r31 i0 r36 q1 q2 q3
  exact ⟨_, LX12_ask A i0 (ii T.length) i2 i3 i4 i5 i6 i7 i8 i9 i10 (ii P.length) i12 i13 i14 i15 r0 r1 r2 r3 r4 r5 r6 r7 r8 r9 r10 r11 r12 r13 r14 r15 r16 r17 r18 r19 r20 r21 r22 r23 r24 r25 r26 r27 r28 r29 r30 r31 r32 r33 r34 r35 r36 l0 l1 q0 q1 q2 q3 q4 F  _ e, A, (fun k => ([_, _, _, _, _, _, _, _, _, _, _, _, _, _, _, _] : List Int32).getD k 0), (fun k => ([_, _, _, _, _, _, _, _, _, _, _, _, _, _, _, _, _, _, _, _, _, _, _, _, _, _, _, _, _, _, _, _, _, _, _, _, _] : List (Nat → Int32)).getD k (fun _ => 0)), (fun k => ([_, _] : List Int64).getD k 0), (fun k => ([_, _, _, _, _] : List (Nat → Int64)).getD k (fun _ => 0)), rfl, rfl, hR0⟩
theorem uM_ring {F : Nat} (hF : 20000 ≤ F) {l : Launch} {D : va_G} {cy : Nat → ClassId} {T : List Nat} {S : NSt} {L Y O E G : List Nat} {P : List (List Nat)} {M : Nat → Option (List Nat × List Nat × List Nat × List Nat × List Nat)} (hD : okDt T S L Y O E G P)   (A : Nat → Nat) (i0 : Int32) (i1 : Int32) (i2 : Int32) (i3 : Int32) (i4 : Int32) (i5 : Int32) (i6 : Int32) (i7 : Int32) (i8 : Int32) (i9 : Int32) (i10 : Int32) (i11 : Int32) (i12 : Int32) (i13 : Int32) (i14 : Int32) (i15 : Int32) (r0 : Nat → Int32) (r1 : Nat → Int32) (r2 : Nat → Int32) (r3 : Nat → Int32) (r4 : Nat → Int32) (r5 : Nat → Int32) (r6 : Nat → Int32) (r7 : Nat → Int32) (r8 : Nat → Int32) (r9 : Nat → Int32) (r10 : Nat → Int32) (r11 : Nat → Int32) (r12 : Nat → Int32) (r13 : Nat → Int32) (r14 : Nat → Int32) (r15 : Nat → Int32) (r16 : Nat → Int32) (r17 : Nat → Int32) (r18 : Nat → Int32) (r19 : Nat → Int32) (r20 : Nat → Int32) (r21 : Nat → Int32) (r22 : Nat → Int32) (r23 : Nat → Int32) (r24 : Nat → Int32) (r25 : Nat → Int32) (r26 : Nat → Int32) (r27 : Nat → Int32) (r28 : Nat → Int32) (r29 : Nat → Int32) (r30 : Nat → Int32) (r31 : Nat → Int32) (r32 : Nat → Int32) (r33 : Nat → Int32) (r34 : Nat → Int32) (r35 : Nat → Int32) (r36 : Nat → Int32) (l0 : Int64) (l1 : Int64) (q0 : Nat → Int64) (q1 : Nat → Int64) (q2 : Nat → Int64) (q3 : Nat → Int64) (q4 : Nat → Int64) (hR : RM T S L Y O E G P M i1 i11 r0 r1 r2 r3 r4 r5 r6 r19 r21 r22 r23 r24 r25 r26 r27 r28 r29 r30 r31 q0) : ∃ wx', vMet l D cy MX12_ring 6 0 0 [.ref (A 0)] (WM cy A i0 i1 i2 i3 i4 i5 i6 i7 i8 i9 i10 i11 i12 i13 i14 i15 r0 r1 r2 r3 r4 r5 r6 r7 r8 r9 r10 r11 r12 r13 r14 r15 r16 r17 r18 r19 r20 r21 r22 r23 r24 r25 r26 r27 r28 r29 r30 r31 r32 r33 r34 r35 r36 l0 l1 q0 q1 q2 q3 q4) (fun r0 w => r0 = some (.int (rgA S.2.2.1 (rdS S) L O)) ∧ w.Perm wx') ∧ IM cy (A 0) T S L Y O E G P M wx' := by
  obtain ⟨hT, hS, hK0, hP⟩ := hD
  have hR0 := hR
  obtain ⟨rfl, htp, hN, hs, hsl, rfl, hp, hm⟩ := hR
  obtain ⟨hm0, hk0, hlw, n0, n1, n2, n3, hnm, hkn⟩ := S_M hS hN
  have hn := S_N hS
  have hr := S_R S
  have h24 := okS_24 hS hK0
  have hln := S_ln hS
  have hrp := S_rp hS
  have hot := otM_rL hsl.2.1
  have hP24 := row_le (fun p hp => Nat.le_trans (hP p hp).2 hln)
  have hK1 := hK0
  obtain ⟨k1, k2, k3, k4, k5, k6, k7, k8, k9, k10⟩ := hK0
  obtain ⟨b', tm', fmn', rm', fo', co', ti', fm', rg', e⟩ := ring_M (F := F) hn hr hm0 n0 (by omega) k6 hs h24 k7 hsl.2.1.1 hot k3 i0 i12 i13 i14 i15 r32 r33 r34 r35 q4
  exact ⟨_, LX12_ring A i0 (ii T.length) i2 i3 i4 i5 i6 i7 i8 i9 i10 (ii P.length) i12 i13 i14 i15 r0 r1 r2 r3 r4 r5 r6 r7 r8 r9 r10 r11 r12 r13 r14 r15 r16 r17 r18 r19 r20 r21 r22 r23 r24 r25 r26 r27 r28 r29 r30 r31 r32 r33 r34 r35 r36 l0 l1 q0 q1 q2 q3 q4 F  _ e, A, (fun k => ([_, _, _, _, _, _, _, _, _, _, _, _, _, _, _, _] : List Int32).getD k 0), (fun k => ([_, _, _, _, _, _, _, _, _, _, _, _, _, _, _, _, _, _, _, _, _, _, _, _, _, _, _, _, _, _, _, _, _, _, _, _, _] : List (Nat → Int32)).getD k (fun _ => 0)), (fun k => ([_, _] : List Int64).getD k 0), (fun k => ([_, _, _, _, _] : List (Nat → Int64)).getD k (fun _ => 0)), rfl, rfl, hR0⟩
theorem uM_feed {F : Nat} (hF : 20000 ≤ F) {l : Launch} {D : va_G} {cy : Nat → ClassId} {T : List Nat} {S : NSt} {L Y O E G : List Nat} {P : List (List Nat)} {M : Nat → Option (List Nat × List Nat × List Nat × List Nat × List Nat)} (hD : okDt T S L Y O E G P) (a1 : Int64) (a2 : Int64) (a3 : Int64)  (A : Nat → Nat) (i0 : Int32) (i1 : Int32) (i2 : Int32) (i3 : Int32) (i4 : Int32) (i5 : Int32) (i6 : Int32) (i7 : Int32) (i8 : Int32) (i9 : Int32) (i10 : Int32) (i11 : Int32) (i12 : Int32) (i13 : Int32) (i14 : Int32) (i15 : Int32) (r0 : Nat → Int32) (r1 : Nat → Int32) (r2 : Nat → Int32) (r3 : Nat → Int32) (r4 : Nat → Int32) (r5 : Nat → Int32) (r6 : Nat → Int32) (r7 : Nat → Int32) (r8 : Nat → Int32) (r9 : Nat → Int32) (r10 : Nat → Int32) (r11 : Nat → Int32) (r12 : Nat → Int32) (r13 : Nat → Int32) (r14 : Nat → Int32) (r15 : Nat → Int32) (r16 : Nat → Int32) (r17 : Nat → Int32) (r18 : Nat → Int32) (r19 : Nat → Int32) (r20 : Nat → Int32) (r21 : Nat → Int32) (r22 : Nat → Int32) (r23 : Nat → Int32) (r24 : Nat → Int32) (r25 : Nat → Int32) (r26 : Nat → Int32) (r27 : Nat → Int32) (r28 : Nat → Int32) (r29 : Nat → Int32) (r30 : Nat → Int32) (r31 : Nat → Int32) (r32 : Nat → Int32) (r33 : Nat → Int32) (r34 : Nat → Int32) (r35 : Nat → Int32) (r36 : Nat → Int32) (l0 : Int64) (l1 : Int64) (q0 : Nat → Int64) (q1 : Nat → Int64) (q2 : Nat → Int64) (q3 : Nat → Int64) (q4 : Nat → Int64) (hR : RM T S L Y O E G P M i1 i11 r0 r1 r2 r3 r4 r5 r6 r19 r21 r22 r23 r24 r25 r26 r27 r28 r29 r30 r31 q0) : ∃ wx', vMet l D cy MX12_feed 0 0 0 [.ref (A 0), .long a1, .long a2, .long a3] (WM cy A i0 i1 i2 i3 i4 i5 i6 i7 i8 i9 i10 i11 i12 i13 i14 i15 r0 r1 r2 r3 r4 r5 r6 r7 r8 r9 r10 r11 r12 r13 r14 r15 r16 r17 r18 r19 r20 r21 r22 r23 r24 r25 r26 r27 r28 r29 r30 r31 r32 r33 r34 r35 r36 l0 l1 q0 q1 q2 q3 q4) (fun r0 w => r0 = some (.int (ii (fdX a3 8 0 (fdX a2 8 0 (fdX a1 8 0 T))).length)) ∧ w.Perm wx') ∧ IM cy (A 0) (fdX a3 8 0 (fdX a2 8 0 (fdX a1 8 0 T))) S L Y O E G P M wx' := by
  obtain ⟨hT, hS, hK0, hP⟩ := hD
  have hR0 := hR
  obtain ⟨rfl, htp, hN, hs, hsl, rfl, hp, hm⟩ := hR
  obtain ⟨hm0, hk0, hlw, n0, n1, n2, n3, hnm, hkn⟩ := S_M hS hN
  have hn := S_N hS
  have hr := S_R S
  have h24 := okS_24 hS hK0
  have hln := S_ln hS
  have hrp := S_rp hS
  have hot := otM_rL hsl.2.1
  have hP24 := row_le (fun p hp => Nat.le_trans (hP p hp).2 hln)
  have hK1 := hK0
  obtain ⟨k1, k2, k3, k4, k5, k6, k7, k8, k9, k10⟩ := hK0
  obtain ⟨a', e, hh⟩ := feed_M (F := F) (x := a1) (y := a2) (z := a3) (th := i0) (by omega) hT.1 htp
  exact ⟨_, LX12_feed A i0 (ii T.length) i2 i3 i4 i5 i6 i7 i8 i9 i10 (ii P.length) i12 i13 i14 i15 r0 r1 r2 r3 r4 r5 r6 r7 r8 r9 r10 r11 r12 r13 r14 r15 r16 r17 r18 r19 r20 r21 r22 r23 r24 r25 r26 r27 r28 r29 r30 r31 r32 r33 r34 r35 r36 l0 l1 q0 q1 q2 q3 q4 F a1 a2 a3 _ e, A, (fun k => ([_, _, _, _, _, _, _, _, _, _, _, _, _, _, _, _] : List Int32).getD k 0), (fun k => ([_, _, _, _, _, _, _, _, _, _, _, _, _, _, _, _, _, _, _, _, _, _, _, _, _, _, _, _, _, _, _, _, _, _, _, _, _] : List (Nat → Int32)).getD k (fun _ => 0)), (fun k => ([_, _] : List Int64).getD k 0), (fun k => ([_, _, _, _, _] : List (Nat → Int64)).getD k (fun _ => 0)), rfl, rfl, ⟨rfl, hh, hN, hs, hsl, rfl, hp, hm⟩⟩
theorem uM_tie1 {F : Nat} (hF : 20000 ≤ F) {l : Launch} {D : va_G} {cy : Nat → ClassId} {T : List Nat} {S : NSt} {L Y O E G : List Nat} {P : List (List Nat)} {M : Nat → Option (List Nat × List Nat × List Nat × List Nat × List Nat)} (hD : okDt T S L Y O E G P) (a1 : Int32) (a2 : Int32) (hok : tiOk S.1.length (tauS S) (lnS S) (rpS S) L a1 a2) (A : Nat → Nat) (i0 : Int32) (i1 : Int32) (i2 : Int32) (i3 : Int32) (i4 : Int32) (i5 : Int32) (i6 : Int32) (i7 : Int32) (i8 : Int32) (i9 : Int32) (i10 : Int32) (i11 : Int32) (i12 : Int32) (i13 : Int32) (i14 : Int32) (i15 : Int32) (r0 : Nat → Int32) (r1 : Nat → Int32) (r2 : Nat → Int32) (r3 : Nat → Int32) (r4 : Nat → Int32) (r5 : Nat → Int32) (r6 : Nat → Int32) (r7 : Nat → Int32) (r8 : Nat → Int32) (r9 : Nat → Int32) (r10 : Nat → Int32) (r11 : Nat → Int32) (r12 : Nat → Int32) (r13 : Nat → Int32) (r14 : Nat → Int32) (r15 : Nat → Int32) (r16 : Nat → Int32) (r17 : Nat → Int32) (r18 : Nat → Int32) (r19 : Nat → Int32) (r20 : Nat → Int32) (r21 : Nat → Int32) (r22 : Nat → Int32) (r23 : Nat → Int32) (r24 : Nat → Int32) (r25 : Nat → Int32) (r26 : Nat → Int32) (r27 : Nat → Int32) (r28 : Nat → Int32) (r29 : Nat → Int32) (r30 : Nat → Int32) (r31 : Nat → Int32) (r32 : Nat → Int32) (r33 : Nat → Int32) (r34 : Nat → Int32) (r35 : Nat → Int32) (r36 : Nat → Int32) (l0 : Int64) (l1 : Int64) (q0 : Nat → Int64) (q1 : Nat → Int64) (q2 : Nat → Int64) (q3 : Nat → Int64) (q4 : Nat → Int64) (hR : RM T S L Y O E G P M i1 i11 r0 r1 r2 r3 r4 r5 r6 r19 r21 r22 r23 r24 r25 r26 r27 r28 r29 r30 r31 q0) : ∃ wx', vMet l D cy MX12_tie 6 0 0 [.ref (A 0), .int a1, .int a2] (WM cy A i0 i1 i2 i3 i4 i5 i6 i7 i8 i9 i10 i11 i12 i13 i14 i15 r0 r1 r2 r3 r4 r5 r6 r7 r8 r9 r10 r11 r12 r13 r14 r15 r16 r17 r18 r19 r20 r21 r22 r23 r24 r25 r26 r27 r28 r29 r30 r31 r32 r33 r34 r35 r36 l0 l1 q0 q1 q2 q3 q4) (fun r0 w => r0 = some (.int (ii (L.length + 1))) ∧ w.Perm wx') ∧ IM cy (A 0) T S (L ++ [tiN a1 a2]) Y O E G (kp P L) M wx' := by
  obtain ⟨hT, hS, hK0, hP⟩ := hD
  have hR0 := hR
  obtain ⟨rfl, htp, hN, hs, hsl, rfl, hp, hm⟩ := hR
  obtain ⟨hm0, hk0, hlw, n0, n1, n2, n3, hnm, hkn⟩ := S_M hS hN
  have hn := S_N hS
  have hr := S_R S
  have h24 := okS_24 hS hK0
  have hln := S_ln hS
  have hrp := S_rp hS
  have hot := otM_rL hsl.2.1
  have hP24 := row_le (fun p hp => Nat.le_trans (hP p hp).2 hln)
  have hK1 := hK0
  obtain ⟨k1, k2, k3, k4, k5, k6, k7, k8, k9, k10⟩ := hK0
  obtain ⟨c1', c2', c3', c4', c5', c6', c7', c8', c9', c10', s', un', e, g1, g2⟩ := tie_M1 (F := F) (by omega) hn hm0 hk0 n0 n2 n3 hrp hln hlw k6 hs hok hp hP24 i0 r9 r10 r11 r12 r13 r14 r15 r16 r17 r18
  exact ⟨_, LX12_tie A i0 (ii T.length) i2 i3 i4 i5 i6 i7 i8 i9 i10 (ii P.length) i12 i13 i14 i15 r0 r1 r2 r3 r4 r5 r6 r7 r8 r9 r10 r11 r12 r13 r14 r15 r16 r17 r18 r19 r20 r21 r22 r23 r24 r25 r26 r27 r28 r29 r30 r31 r32 r33 r34 r35 r36 l0 l1 q0 q1 q2 q3 q4 F a1 a2 _ e, A, (fun k => ([_, _, _, _, _, _, _, _, _, _, _, _, _, _, _, _] : List Int32).getD k 0), (fun k => ([_, _, _, _, _, _, _, _, _, _, _, _, _, _, _, _, _, _, _, _, _, _, _, _, _, _, _, _, _, _, _, _, _, _, _, _, _] : List (Nat → Int32)).getD k (fun _ => 0)), (fun k => ([_, _] : List Int64).getD k 0), (fun k => ([_, _, _, _, _] : List (Nat → Int64)).getD k (fun _ => 0)), rfl, rfl, ⟨rfl, htp, hN, g1, hsl, rfl, g2, hm⟩⟩
theorem uM_tie0 {F : Nat} (hF : 20000 ≤ F) {l : Launch} {D : va_G} {cy : Nat → ClassId} {T : List Nat} {S : NSt} {L Y O E G : List Nat} {P : List (List Nat)} {M : Nat → Option (List Nat × List Nat × List Nat × List Nat × List Nat)} (hD : okDt T S L Y O E G P) (a1 : Int32) (a2 : Int32) (hno : ¬ tiOk S.1.length (tauS S) (lnS S) (rpS S) L a1 a2) (A : Nat → Nat) (i0 : Int32) (i1 : Int32) (i2 : Int32) (i3 : Int32) (i4 : Int32) (i5 : Int32) (i6 : Int32) (i7 : Int32) (i8 : Int32) (i9 : Int32) (i10 : Int32) (i11 : Int32) (i12 : Int32) (i13 : Int32) (i14 : Int32) (i15 : Int32) (r0 : Nat → Int32) (r1 : Nat → Int32) (r2 : Nat → Int32) (r3 : Nat → Int32) (r4 : Nat → Int32) (r5 : Nat → Int32) (r6 : Nat → Int32) (r7 : Nat → Int32) (r8 : Nat → Int32) (r9 : Nat → Int32) (r10 : Nat → Int32) (r11 : Nat → Int32) (r12 : Nat → Int32) (r13 : Nat → Int32) (r14 : Nat → Int32) (r15 : Nat → Int32) (r16 : Nat → Int32) (r17 : Nat → Int32) (r18 : Nat → Int32) (r19 : Nat → Int32) (r20 : Nat → Int32) (r21 : Nat → Int32) (r22 : Nat → Int32) (r23 : Nat → Int32) (r24 : Nat → Int32) (r25 : Nat → Int32) (r26 : Nat → Int32) (r27 : Nat → Int32) (r28 : Nat → Int32) (r29 : Nat → Int32) (r30 : Nat → Int32) (r31 : Nat → Int32) (r32 : Nat → Int32) (r33 : Nat → Int32) (r34 : Nat → Int32) (r35 : Nat → Int32) (r36 : Nat → Int32) (l0 : Int64) (l1 : Int64) (q0 : Nat → Int64) (q1 : Nat → Int64) (q2 : Nat → Int64) (q3 : Nat → Int64) (q4 : Nat → Int64) (hR : RM T S L Y O E G P M i1 i11 r0 r1 r2 r3 r4 r5 r6 r19 r21 r22 r23 r24 r25 r26 r27 r28 r29 r30 r31 q0) : ∃ wx', vMet l D cy MX12_tie 6 0 0 [.ref (A 0), .int a1, .int a2] (WM cy A i0 i1 i2 i3 i4 i5 i6 i7 i8 i9 i10 i11 i12 i13 i14 i15 r0 r1 r2 r3 r4 r5 r6 r7 r8 r9 r10 r11 r12 r13 r14 r15 r16 r17 r18 r19 r20 r21 r22 r23 r24 r25 r26 r27 r28 r29 r30 r31 r32 r33 r34 r35 r36 l0 l1 q0 q1 q2 q3 q4) (fun r0 w => r0 = some (.int (-1)) ∧ w.Perm wx') ∧ IM cy (A 0) T S L Y O E G P M wx' := by
  obtain ⟨hT, hS, hK0, hP⟩ := hD
  have hR0 := hR
  obtain ⟨rfl, htp, hN, hs, hsl, rfl, hp, hm⟩ := hR
  obtain ⟨hm0, hk0, hlw, n0, n1, n2, n3, hnm, hkn⟩ := S_M hS hN
  have hn := S_N hS
  have hr := S_R S
  have h24 := okS_24 hS hK0
  have hln := S_ln hS
  have hrp := S_rp hS
  have hot := otM_rL hsl.2.1
  have hP24 := row_le (fun p hp => Nat.le_trans (hP p hp).2 hln)
  have hK1 := hK0
  obtain ⟨k1, k2, k3, k4, k5, k6, k7, k8, k9, k10⟩ := hK0
  obtain ⟨c1', c2', c3', c4', c5', c6', c7', c8', c9', c10', e⟩ := tie_M0 (F := F) (by omega) hn hm0 hk0 n0 n2 n3 hrp hln hlw k6 hs h24 hno i0 (ii P.length) r9 r10 r11 r12 r13 r14 r15 r16 r17 r18 r22
  exact ⟨_, LX12_tie A i0 (ii T.length) i2 i3 i4 i5 i6 i7 i8 i9 i10 (ii P.length) i12 i13 i14 i15 r0 r1 r2 r3 r4 r5 r6 r7 r8 r9 r10 r11 r12 r13 r14 r15 r16 r17 r18 r19 r20 r21 r22 r23 r24 r25 r26 r27 r28 r29 r30 r31 r32 r33 r34 r35 r36 l0 l1 q0 q1 q2 q3 q4 F a1 a2 _ e, A, (fun k => ([_, _, _, _, _, _, _, _, _, _, _, _, _, _, _, _] : List Int32).getD k 0), (fun k => ([_, _, _, _, _, _, _, _, _, _, _, _, _, _, _, _, _, _, _, _, _, _, _, _, _, _, _, _, _, _, _, _, _, _, _, _, _] : List (Nat → Int32)).getD k (fun _ => 0)), (fun k => ([_, _] : List Int64).getD k 0), (fun k => ([_, _, _, _, _] : List (Nat → Int64)).getD k (fun _ => 0)), rfl, rfl, hR0⟩
theorem uM_cut1 {F : Nat} (hF : 20000 ≤ F) {l : Launch} {D : va_G} {cy : Nat → ClassId} {T : List Nat} {S : NSt} {A0 B0 : List Nat} {c0 : Nat} {Y O E G : List Nat} {P : List (List Nat)} {M : Nat → Option (List Nat × List Nat × List Nat × List Nat × List Nat)} (hD : okDt T S (A0 ++ c0 :: B0) Y O E G P)   (A : Nat → Nat) (i0 : Int32) (i1 : Int32) (i2 : Int32) (i3 : Int32) (i4 : Int32) (i5 : Int32) (i6 : Int32) (i7 : Int32) (i8 : Int32) (i9 : Int32) (i10 : Int32) (i11 : Int32) (i12 : Int32) (i13 : Int32) (i14 : Int32) (i15 : Int32) (r0 : Nat → Int32) (r1 : Nat → Int32) (r2 : Nat → Int32) (r3 : Nat → Int32) (r4 : Nat → Int32) (r5 : Nat → Int32) (r6 : Nat → Int32) (r7 : Nat → Int32) (r8 : Nat → Int32) (r9 : Nat → Int32) (r10 : Nat → Int32) (r11 : Nat → Int32) (r12 : Nat → Int32) (r13 : Nat → Int32) (r14 : Nat → Int32) (r15 : Nat → Int32) (r16 : Nat → Int32) (r17 : Nat → Int32) (r18 : Nat → Int32) (r19 : Nat → Int32) (r20 : Nat → Int32) (r21 : Nat → Int32) (r22 : Nat → Int32) (r23 : Nat → Int32) (r24 : Nat → Int32) (r25 : Nat → Int32) (r26 : Nat → Int32) (r27 : Nat → Int32) (r28 : Nat → Int32) (r29 : Nat → Int32) (r30 : Nat → Int32) (r31 : Nat → Int32) (r32 : Nat → Int32) (r33 : Nat → Int32) (r34 : Nat → Int32) (r35 : Nat → Int32) (r36 : Nat → Int32) (l0 : Int64) (l1 : Int64) (q0 : Nat → Int64) (q1 : Nat → Int64) (q2 : Nat → Int64) (q3 : Nat → Int64) (q4 : Nat → Int64) (hR : RM T S (A0 ++ c0 :: B0) Y O E G P M i1 i11 r0 r1 r2 r3 r4 r5 r6 r19 r21 r22 r23 r24 r25 r26 r27 r28 r29 r30 r31 q0) : ∃ wx', vMet l D cy MX12_cut 2 0 0 [.ref (A 0), .int (ii A0.length)] (WM cy A i0 i1 i2 i3 i4 i5 i6 i7 i8 i9 i10 i11 i12 i13 i14 i15 r0 r1 r2 r3 r4 r5 r6 r7 r8 r9 r10 r11 r12 r13 r14 r15 r16 r17 r18 r19 r20 r21 r22 r23 r24 r25 r26 r27 r28 r29 r30 r31 r32 r33 r34 r35 r36 l0 l1 q0 q1 q2 q3 q4) (fun r0 w => r0 = some (.int (ii (A0 ++ B0).length)) ∧ w.Perm wx') ∧ IM cy (A 0) T S (A0 ++ B0) Y O [] [] (kp P (A0 ++ c0 :: B0)) M wx' := by
  obtain ⟨hT, hS, hK0, hP⟩ := hD
  have hR0 := hR
  obtain ⟨rfl, htp, hN, hs, hsl, rfl, hp, hm⟩ := hR
  obtain ⟨hm0, hk0, hlw, n0, n1, n2, n3, hnm, hkn⟩ := S_M hS hN
  have hn := S_N hS
  have hr := S_R S
  have h24 := okS_24 hS hK0
  have hln := S_ln hS
  have hrp := S_rp hS
  have hot := otM_rL hsl.2.1
  have hP24 := row_le (fun p hp => Nat.le_trans (hP p hp).2 hln)
  have hK1 := hK0
  obtain ⟨k1, k2, k3, k4, k5, k6, k7, k8, k9, k10⟩ := hK0
  obtain ⟨s', un', e, g1, g2⟩ := cut_M1 (F := F) (by omega) hs h24 hp hP24 i0 r29
  exact ⟨_, LX12_cut A i0 (ii T.length) i2 i3 i4 i5 i6 i7 i8 i9 i10 (ii P.length) i12 i13 i14 i15 r0 r1 r2 r3 r4 r5 r6 r7 r8 r9 r10 r11 r12 r13 r14 r15 r16 r17 r18 r19 r20 r21 r22 r23 r24 r25 r26 r27 r28 r29 r30 r31 r32 r33 r34 r35 r36 l0 l1 q0 q1 q2 q3 q4 F ((ii A0.length)) _ e, A, (fun k => ([_, _, _, _, _, _, _, _, _, _, _, _, _, _, _, _] : List Int32).getD k 0), (fun k => ([_, _, _, _, _, _, _, _, _, _, _, _, _, _, _, _, _, _, _, _, _, _, _, _, _, _, _, _, _, _, _, _, _, _, _, _, _] : List (Nat → Int32)).getD k (fun _ => 0)), (fun k => ([_, _] : List Int64).getD k 0), (fun k => ([_, _, _, _, _] : List (Nat → Int64)).getD k (fun _ => 0)), rfl, rfl, ⟨rfl, htp, hN, g1, ⟨hsl.1, hsl.2.1, ahM_nil _ _ _⟩, rfl, g2, (mkM_map hm (fun m hm4 L' Y' O' E' G' hk hq => ⟨hq.1, hq.2.1, ahM_0 (by omega) hq.2.2⟩))⟩⟩
theorem uM_cut0 {F : Nat} (hF : 20000 ≤ F) {l : Launch} {D : va_G} {cy : Nat → ClassId} {T : List Nat} {S : NSt} {L Y O E G : List Nat} {P : List (List Nat)} {M : Nat → Option (List Nat × List Nat × List Nat × List Nat × List Nat)} (hD : okDt T S L Y O E G P) (a1 : Int32) (hc : a1 < 0 ∨ ¬ a1 < ii L.length) (A : Nat → Nat) (i0 : Int32) (i1 : Int32) (i2 : Int32) (i3 : Int32) (i4 : Int32) (i5 : Int32) (i6 : Int32) (i7 : Int32) (i8 : Int32) (i9 : Int32) (i10 : Int32) (i11 : Int32) (i12 : Int32) (i13 : Int32) (i14 : Int32) (i15 : Int32) (r0 : Nat → Int32) (r1 : Nat → Int32) (r2 : Nat → Int32) (r3 : Nat → Int32) (r4 : Nat → Int32) (r5 : Nat → Int32) (r6 : Nat → Int32) (r7 : Nat → Int32) (r8 : Nat → Int32) (r9 : Nat → Int32) (r10 : Nat → Int32) (r11 : Nat → Int32) (r12 : Nat → Int32) (r13 : Nat → Int32) (r14 : Nat → Int32) (r15 : Nat → Int32) (r16 : Nat → Int32) (r17 : Nat → Int32) (r18 : Nat → Int32) (r19 : Nat → Int32) (r20 : Nat → Int32) (r21 : Nat → Int32) (r22 : Nat → Int32) (r23 : Nat → Int32) (r24 : Nat → Int32) (r25 : Nat → Int32) (r26 : Nat → Int32) (r27 : Nat → Int32) (r28 : Nat → Int32) (r29 : Nat → Int32) (r30 : Nat → Int32) (r31 : Nat → Int32) (r32 : Nat → Int32) (r33 : Nat → Int32) (r34 : Nat → Int32) (r35 : Nat → Int32) (r36 : Nat → Int32) (l0 : Int64) (l1 : Int64) (q0 : Nat → Int64) (q1 : Nat → Int64) (q2 : Nat → Int64) (q3 : Nat → Int64) (q4 : Nat → Int64) (hR : RM T S L Y O E G P M i1 i11 r0 r1 r2 r3 r4 r5 r6 r19 r21 r22 r23 r24 r25 r26 r27 r28 r29 r30 r31 q0) : ∃ wx', vMet l D cy MX12_cut 2 0 0 [.ref (A 0), .int a1] (WM cy A i0 i1 i2 i3 i4 i5 i6 i7 i8 i9 i10 i11 i12 i13 i14 i15 r0 r1 r2 r3 r4 r5 r6 r7 r8 r9 r10 r11 r12 r13 r14 r15 r16 r17 r18 r19 r20 r21 r22 r23 r24 r25 r26 r27 r28 r29 r30 r31 r32 r33 r34 r35 r36 l0 l1 q0 q1 q2 q3 q4) (fun r0 w => r0 = some (.int (-1)) ∧ w.Perm wx') ∧ IM cy (A 0) T S L Y O E G P M wx' := by
  obtain ⟨hT, hS, hK0, hP⟩ := hD
  have hR0 := hR
  obtain ⟨rfl, htp, hN, hs, hsl, rfl, hp, hm⟩ := hR
  obtain ⟨hm0, hk0, hlw, n0, n1, n2, n3, hnm, hkn⟩ := S_M hS hN
  have hn := S_N hS
  have hr := S_R S
  have h24 := okS_24 hS hK0
  have hln := S_ln hS
  have hrp := S_rp hS
  have hot := otM_rL hsl.2.1
  have hP24 := row_le (fun p hp => Nat.le_trans (hP p hp).2 hln)
  have hK1 := hK0
  obtain ⟨k1, k2, k3, k4, k5, k6, k7, k8, k9, k10⟩ := hK0
  have e := cut_M0 (F := F) hs hc i0 (ii P.length) r22 r29
  exact ⟨_, LX12_cut A i0 (ii T.length) i2 i3 i4 i5 i6 i7 i8 i9 i10 (ii P.length) i12 i13 i14 i15 r0 r1 r2 r3 r4 r5 r6 r7 r8 r9 r10 r11 r12 r13 r14 r15 r16 r17 r18 r19 r20 r21 r22 r23 r24 r25 r26 r27 r28 r29 r30 r31 r32 r33 r34 r35 r36 l0 l1 q0 q1 q2 q3 q4 F a1 _ e, A, (fun k => ([_, _, _, _, _, _, _, _, _, _, _, _, _, _, _, _] : List Int32).getD k 0), (fun k => ([_, _, _, _, _, _, _, _, _, _, _, _, _, _, _, _, _, _, _, _, _, _, _, _, _, _, _, _, _, _, _, _, _, _, _, _, _] : List (Nat → Int32)).getD k (fun _ => 0)), (fun k => ([_, _] : List Int64).getD k 0), (fun k => ([_, _, _, _, _] : List (Nat → Int64)).getD k (fun _ => 0)), rfl, rfl, hR0⟩
theorem uM_pull1 {F : Nat} (hF : 20000 ≤ F) {l : Launch} {D : va_G} {cy : Nat → ClassId} {T : List Nat} {S : NSt} {L Y O E G : List Nat} {P : List (List Nat)} {M : Nat → Option (List Nat × List Nat × List Nat × List Nat × List Nat)} (hD : okDt T S L Y O E G P)  (hOL : frm S.2.2.1 (rdS S) L ≠ L) (A : Nat → Nat) (i0 : Int32) (i1 : Int32) (i2 : Int32) (i3 : Int32) (i4 : Int32) (i5 : Int32) (i6 : Int32) (i7 : Int32) (i8 : Int32) (i9 : Int32) (i10 : Int32) (i11 : Int32) (i12 : Int32) (i13 : Int32) (i14 : Int32) (i15 : Int32) (r0 : Nat → Int32) (r1 : Nat → Int32) (r2 : Nat → Int32) (r3 : Nat → Int32) (r4 : Nat → Int32) (r5 : Nat → Int32) (r6 : Nat → Int32) (r7 : Nat → Int32) (r8 : Nat → Int32) (r9 : Nat → Int32) (r10 : Nat → Int32) (r11 : Nat → Int32) (r12 : Nat → Int32) (r13 : Nat → Int32) (r14 : Nat → Int32) (r15 : Nat → Int32) (r16 : Nat → Int32) (r17 : Nat → Int32) (r18 : Nat → Int32) (r19 : Nat → Int32) (r20 : Nat → Int32) (r21 : Nat → Int32) (r22 : Nat → Int32) (r23 : Nat → Int32) (r24 : Nat → Int32) (r25 : Nat → Int32) (r26 : Nat → Int32) (r27 : Nat → Int32) (r28 : Nat → Int32) (r29 : Nat → Int32) (r30 : Nat → Int32) (r31 : Nat → Int32) (r32 : Nat → Int32) (r33 : Nat → Int32) (r34 : Nat → Int32) (r35 : Nat → Int32) (r36 : Nat → Int32) (l0 : Int64) (l1 : Int64) (q0 : Nat → Int64) (q1 : Nat → Int64) (q2 : Nat → Int64) (q3 : Nat → Int64) (q4 : Nat → Int64) (hR : RM T S L Y O E G P M i1 i11 r0 r1 r2 r3 r4 r5 r6 r19 r21 r22 r23 r24 r25 r26 r27 r28 r29 r30 r31 q0) : ∃ wx', vMet l D cy MX12_pull 6 0 0 [.ref (A 0)] (WM cy A i0 i1 i2 i3 i4 i5 i6 i7 i8 i9 i10 i11 i12 i13 i14 i15 r0 r1 r2 r3 r4 r5 r6 r7 r8 r9 r10 r11 r12 r13 r14 r15 r16 r17 r18 r19 r20 r21 r22 r23 r24 r25 r26 r27 r28 r29 r30 r31 r32 r33 r34 r35 r36 l0 l1 q0 q1 q2 q3 q4) (fun r0 w => r0 = some (.int (ii (frm S.2.2.1 (rdS S) L).length)) ∧ w.Perm wx') ∧ IM cy (A 0) T S (frm S.2.2.1 (rdS S) L) Y O [] [] (kp P L) M wx' := by
  obtain ⟨hT, hS, hK0, hP⟩ := hD
  have hR0 := hR
  obtain ⟨rfl, htp, hN, hs, hsl, rfl, hp, hm⟩ := hR
  obtain ⟨hm0, hk0, hlw, n0, n1, n2, n3, hnm, hkn⟩ := S_M hS hN
  have hn := S_N hS
  have hr := S_R S
  have h24 := okS_24 hS hK0
  have hln := S_ln hS
  have hrp := S_rp hS
  have hot := otM_rL hsl.2.1
  have hP24 := row_le (fun p hp => Nat.le_trans (hP p hp).2 hln)
  have hK1 := hK0
  obtain ⟨k1, k2, k3, k4, k5, k6, k7, k8, k9, k10⟩ := hK0
  obtain ⟨b', tm', fmn', s', un', fo', co', ti', fm', e, g1, g2⟩ := pull_M1 (F := F) hn hr hm0 (by omega) k6 hs h24 (frm_FM S.2.2.1 (rdS S) L) hOL hp hP24 i0 i12 i13 i14 r29 r32 r33 r34 r35
  exact ⟨_, LX12_pull A i0 (ii T.length) i2 i3 i4 i5 i6 i7 i8 i9 i10 (ii P.length) i12 i13 i14 i15 r0 r1 r2 r3 r4 r5 r6 r7 r8 r9 r10 r11 r12 r13 r14 r15 r16 r17 r18 r19 r20 r21 r22 r23 r24 r25 r26 r27 r28 r29 r30 r31 r32 r33 r34 r35 r36 l0 l1 q0 q1 q2 q3 q4 F  _ e, A, (fun k => ([_, _, _, _, _, _, _, _, _, _, _, _, _, _, _, _] : List Int32).getD k 0), (fun k => ([_, _, _, _, _, _, _, _, _, _, _, _, _, _, _, _, _, _, _, _, _, _, _, _, _, _, _, _, _, _, _, _, _, _, _, _, _] : List (Nat → Int32)).getD k (fun _ => 0)), (fun k => ([_, _] : List Int64).getD k 0), (fun k => ([_, _, _, _, _] : List (Nat → Int64)).getD k (fun _ => 0)), rfl, rfl, ⟨rfl, htp, hN, g1, ⟨hsl.1, hsl.2.1, ahM_nil _ _ _⟩, rfl, g2, (mkM_map hm (fun m hm4 L' Y' O' E' G' hk hq => ⟨hq.1, hq.2.1, ahM_0 (by omega) hq.2.2⟩))⟩⟩
theorem uM_pull0 {F : Nat} (hF : 20000 ≤ F) {l : Launch} {D : va_G} {cy : Nat → ClassId} {T : List Nat} {S : NSt} {L Y O E G : List Nat} {P : List (List Nat)} {M : Nat → Option (List Nat × List Nat × List Nat × List Nat × List Nat)} (hD : okDt T S L Y O E G P)  (hOL : frm S.2.2.1 (rdS S) L = L) (A : Nat → Nat) (i0 : Int32) (i1 : Int32) (i2 : Int32) (i3 : Int32) (i4 : Int32) (i5 : Int32) (i6 : Int32) (i7 : Int32) (i8 : Int32) (i9 : Int32) (i10 : Int32) (i11 : Int32) (i12 : Int32) (i13 : Int32) (i14 : Int32) (i15 : Int32) (r0 : Nat → Int32) (r1 : Nat → Int32) (r2 : Nat → Int32) (r3 : Nat → Int32) (r4 : Nat → Int32) (r5 : Nat → Int32) (r6 : Nat → Int32) (r7 : Nat → Int32) (r8 : Nat → Int32) (r9 : Nat → Int32) (r10 : Nat → Int32) (r11 : Nat → Int32) (r12 : Nat → Int32) (r13 : Nat → Int32) (r14 : Nat → Int32) (r15 : Nat → Int32) (r16 : Nat → Int32) (r17 : Nat → Int32) (r18 : Nat → Int32) (r19 : Nat → Int32) (r20 : Nat → Int32) (r21 : Nat → Int32) (r22 : Nat → Int32) (r23 : Nat → Int32) (r24 : Nat → Int32) (r25 : Nat → Int32) (r26 : Nat → Int32) (r27 : Nat → Int32) (r28 : Nat → Int32) (r29 : Nat → Int32) (r30 : Nat → Int32) (r31 : Nat → Int32) (r32 : Nat → Int32) (r33 : Nat → Int32) (r34 : Nat → Int32) (r35 : Nat → Int32) (r36 : Nat → Int32) (l0 : Int64) (l1 : Int64) (q0 : Nat → Int64) (q1 : Nat → Int64) (q2 : Nat → Int64) (q3 : Nat → Int64) (q4 : Nat → Int64) (hR : RM T S L Y O E G P M i1 i11 r0 r1 r2 r3 r4 r5 r6 r19 r21 r22 r23 r24 r25 r26 r27 r28 r29 r30 r31 q0) : ∃ wx', vMet l D cy MX12_pull 6 0 0 [.ref (A 0)] (WM cy A i0 i1 i2 i3 i4 i5 i6 i7 i8 i9 i10 i11 i12 i13 i14 i15 r0 r1 r2 r3 r4 r5 r6 r7 r8 r9 r10 r11 r12 r13 r14 r15 r16 r17 r18 r19 r20 r21 r22 r23 r24 r25 r26 r27 r28 r29 r30 r31 r32 r33 r34 r35 r36 l0 l1 q0 q1 q2 q3 q4) (fun r0 w => r0 = some (.int (-1)) ∧ w.Perm wx') ∧ IM cy (A 0) T S L Y O E G P M wx' := by
  obtain ⟨hT, hS, hK0, hP⟩ := hD
  have hR0 := hR
  obtain ⟨rfl, htp, hN, hs, hsl, rfl, hp, hm⟩ := hR
  obtain ⟨hm0, hk0, hlw, n0, n1, n2, n3, hnm, hkn⟩ := S_M hS hN
  have hn := S_N hS
  have hr := S_R S
  have h24 := okS_24 hS hK0
  have hln := S_ln hS
  have hrp := S_rp hS
  have hot := otM_rL hsl.2.1
  have hP24 := row_le (fun p hp => Nat.le_trans (hP p hp).2 hln)
  have hK1 := hK0
  obtain ⟨k1, k2, k3, k4, k5, k6, k7, k8, k9, k10⟩ := hK0
  obtain ⟨b', tm', fmn', fo', co', ti', fm', e⟩ := pull_M0 (F := F) hn hr hm0 (by omega) k6 hs h24 (frm_FM S.2.2.1 (rdS S) L) hOL i0 (ii P.length) i12 i13 i14 r22 r29 r32 r33 r34 r35
  exact ⟨_, LX12_pull A i0 (ii T.length) i2 i3 i4 i5 i6 i7 i8 i9 i10 (ii P.length) i12 i13 i14 i15 r0 r1 r2 r3 r4 r5 r6 r7 r8 r9 r10 r11 r12 r13 r14 r15 r16 r17 r18 r19 r20 r21 r22 r23 r24 r25 r26 r27 r28 r29 r30 r31 r32 r33 r34 r35 r36 l0 l1 q0 q1 q2 q3 q4 F  _ e, A, (fun k => ([_, _, _, _, _, _, _, _, _, _, _, _, _, _, _, _] : List Int32).getD k 0), (fun k => ([_, _, _, _, _, _, _, _, _, _, _, _, _, _, _, _, _, _, _, _, _, _, _, _, _, _, _, _, _, _, _, _, _, _, _, _, _] : List (Nat → Int32)).getD k (fun _ => 0)), (fun k => ([_, _] : List Int64).getD k 0), (fun k => ([_, _, _, _, _] : List (Nat → Int64)).getD k (fun _ => 0)), rfl, rfl, hR0⟩
theorem uM_undo1 {F : Nat} (hF : 20000 ≤ F) {l : Launch} {D : va_G} {cy : Nat → ClassId} {T : List Nat} {S : NSt} {L Y O E G : List Nat} {P0 : List (List Nat)} {M0 : List Nat} {M : Nat → Option (List Nat × List Nat × List Nat × List Nat × List Nat)} (hD : okDt T S L Y O E G (P0 ++ [M0]))   (A : Nat → Nat) (i0 : Int32) (i1 : Int32) (i2 : Int32) (i3 : Int32) (i4 : Int32) (i5 : Int32) (i6 : Int32) (i7 : Int32) (i8 : Int32) (i9 : Int32) (i10 : Int32) (i11 : Int32) (i12 : Int32) (i13 : Int32) (i14 : Int32) (i15 : Int32) (r0 : Nat → Int32) (r1 : Nat → Int32) (r2 : Nat → Int32) (r3 : Nat → Int32) (r4 : Nat → Int32) (r5 : Nat → Int32) (r6 : Nat → Int32) (r7 : Nat → Int32) (r8 : Nat → Int32) (r9 : Nat → Int32) (r10 : Nat → Int32) (r11 : Nat → Int32) (r12 : Nat → Int32) (r13 : Nat → Int32) (r14 : Nat → Int32) (r15 : Nat → Int32) (r16 : Nat → Int32) (r17 : Nat → Int32) (r18 : Nat → Int32) (r19 : Nat → Int32) (r20 : Nat → Int32) (r21 : Nat → Int32) (r22 : Nat → Int32) (r23 : Nat → Int32) (r24 : Nat → Int32) (r25 : Nat → Int32) (r26 : Nat → Int32) (r27 : Nat → Int32) (r28 : Nat → Int32) (r29 : Nat → Int32) (r30 : Nat → Int32) (r31 : Nat → Int32) (r32 : Nat → Int32) (r33 : Nat → Int32) (r34 : Nat → Int32) (r35 : Nat → Int32) (r36 : Nat → Int32) (l0 : Int64) (l1 : Int64) (q0 : Nat → Int64) (q1 : Nat → Int64) (q2 : Nat → Int64) (q3 : Nat → Int64) (q4 : Nat → Int64) (hR : RM T S L Y O E G (P0 ++ [M0]) M i1 i11 r0 r1 r2 r3 r4 r5 r6 r19 r21 r22 r23 r24 r25 r26 r27 r28 r29 r30 r31 q0) : ∃ wx', vMet l D cy MX12_undo 1 0 0 [.ref (A 0)] (WM cy A i0 i1 i2 i3 i4 i5 i6 i7 i8 i9 i10 i11 i12 i13 i14 i15 r0 r1 r2 r3 r4 r5 r6 r7 r8 r9 r10 r11 r12 r13 r14 r15 r16 r17 r18 r19 r20 r21 r22 r23 r24 r25 r26 r27 r28 r29 r30 r31 r32 r33 r34 r35 r36 l0 l1 q0 q1 q2 q3 q4) (fun r0 w => r0 = some (.int (1)) ∧ w.Perm wx') ∧ IM cy (A 0) T S M0 Y O [] [] P0 M wx' := by
  obtain ⟨hT, hS, hK0, hP⟩ := hD
  have hR0 := hR
  obtain ⟨rfl, htp, hN, hs, hsl, rfl, hp, hm⟩ := hR
  obtain ⟨hm0, hk0, hlw, n0, n1, n2, n3, hnm, hkn⟩ := S_M hS hN
  have hn := S_N hS
  have hr := S_R S
  have h24 := okS_24 hS hK0
  have hln := S_ln hS
  have hrp := S_rp hS
  have hot := otM_rL hsl.2.1
  have hP24 := row_le (fun p hp => Nat.le_trans (hP p hp).2 hln)
  have hK1 := hK0
  obtain ⟨k1, k2, k3, k4, k5, k6, k7, k8, k9, k10⟩ := hK0
  have hM24 : M0.length ≤ 24 := Nat.le_trans (hP M0 (by simp)).2 hln
  obtain ⟨s', e, g1, g2⟩ := undo_M1 (F := F) (by omega) hp hM24 i0 r19 r29
  exact ⟨_, LX12_undo A i0 (ii T.length) i2 i3 i4 i5 i6 i7 i8 i9 i10 (ii (P0 ++ [M0]).length) i12 i13 i14 i15 r0 r1 r2 r3 r4 r5 r6 r7 r8 r9 r10 r11 r12 r13 r14 r15 r16 r17 r18 r19 r20 r21 r22 r23 r24 r25 r26 r27 r28 r29 r30 r31 r32 r33 r34 r35 r36 l0 l1 q0 q1 q2 q3 q4 F  _ e, A, (fun k => ([_, _, _, _, _, _, _, _, _, _, _, _, _, _, _, _] : List Int32).getD k 0), (fun k => ([_, _, _, _, _, _, _, _, _, _, _, _, _, _, _, _, _, _, _, _, _, _, _, _, _, _, _, _, _, _, _, _, _, _, _, _, _] : List (Nat → Int32)).getD k (fun _ => 0)), (fun k => ([_, _] : List Int64).getD k 0), (fun k => ([_, _, _, _, _] : List (Nat → Int64)).getD k (fun _ => 0)), rfl, rfl, ⟨rfl, htp, hN, g1, ⟨hsl.1, hsl.2.1, ahM_nil _ _ _⟩, rfl, g2, (mkM_map hm (fun m hm4 L' Y' O' E' G' hk hq => ⟨hq.1, hq.2.1, ahM_0 (by omega) hq.2.2⟩))⟩⟩
theorem uM_undo0 {F : Nat} (hF : 20000 ≤ F) {l : Launch} {D : va_G} {cy : Nat → ClassId} {T : List Nat} {S : NSt} {L Y O E G : List Nat} {M : Nat → Option (List Nat × List Nat × List Nat × List Nat × List Nat)} (hD : okDt T S L Y O E G [])   (A : Nat → Nat) (i0 : Int32) (i1 : Int32) (i2 : Int32) (i3 : Int32) (i4 : Int32) (i5 : Int32) (i6 : Int32) (i7 : Int32) (i8 : Int32) (i9 : Int32) (i10 : Int32) (i11 : Int32) (i12 : Int32) (i13 : Int32) (i14 : Int32) (i15 : Int32) (r0 : Nat → Int32) (r1 : Nat → Int32) (r2 : Nat → Int32) (r3 : Nat → Int32) (r4 : Nat → Int32) (r5 : Nat → Int32) (r6 : Nat → Int32) (r7 : Nat → Int32) (r8 : Nat → Int32) (r9 : Nat → Int32) (r10 : Nat → Int32) (r11 : Nat → Int32) (r12 : Nat → Int32) (r13 : Nat → Int32) (r14 : Nat → Int32) (r15 : Nat → Int32) (r16 : Nat → Int32) (r17 : Nat → Int32) (r18 : Nat → Int32) (r19 : Nat → Int32) (r20 : Nat → Int32) (r21 : Nat → Int32) (r22 : Nat → Int32) (r23 : Nat → Int32) (r24 : Nat → Int32) (r25 : Nat → Int32) (r26 : Nat → Int32) (r27 : Nat → Int32) (r28 : Nat → Int32) (r29 : Nat → Int32) (r30 : Nat → Int32) (r31 : Nat → Int32) (r32 : Nat → Int32) (r33 : Nat → Int32) (r34 : Nat → Int32) (r35 : Nat → Int32) (r36 : Nat → Int32) (l0 : Int64) (l1 : Int64) (q0 : Nat → Int64) (q1 : Nat → Int64) (q2 : Nat → Int64) (q3 : Nat → Int64) (q4 : Nat → Int64) (hR : RM T S L Y O E G [] M i1 i11 r0 r1 r2 r3 r4 r5 r6 r19 r21 r22 r23 r24 r25 r26 r27 r28 r29 r30 r31 q0) : ∃ wx', vMet l D cy MX12_undo 1 0 0 [.ref (A 0)] (WM cy A i0 i1 i2 i3 i4 i5 i6 i7 i8 i9 i10 i11 i12 i13 i14 i15 r0 r1 r2 r3 r4 r5 r6 r7 r8 r9 r10 r11 r12 r13 r14 r15 r16 r17 r18 r19 r20 r21 r22 r23 r24 r25 r26 r27 r28 r29 r30 r31 r32 r33 r34 r35 r36 l0 l1 q0 q1 q2 q3 q4) (fun r0 w => r0 = some (.int (0)) ∧ w.Perm wx') ∧ IM cy (A 0) T S L Y O E G [] M wx' := by
  obtain ⟨hT, hS, hK0, hP⟩ := hD
  have hR0 := hR
  obtain ⟨rfl, htp, hN, hs, hsl, rfl, hp, hm⟩ := hR
  obtain ⟨hm0, hk0, hlw, n0, n1, n2, n3, hnm, hkn⟩ := S_M hS hN
  have hn := S_N hS
  have hr := S_R S
  have h24 := okS_24 hS hK0
  have hln := S_ln hS
  have hrp := S_rp hS
  have hot := otM_rL hsl.2.1
  have hP24 := row_le (fun p hp => Nat.le_trans (hP p hp).2 hln)
  have hK1 := hK0
  obtain ⟨k1, k2, k3, k4, k5, k6, k7, k8, k9, k10⟩ := hK0
  have e := undo_M0 (F := F) (th := i0) (un := r22) (s := r19) (ah := r29)
  exact ⟨_, LX12_undo A i0 (ii T.length) i2 i3 i4 i5 i6 i7 i8 i9 i10 (ii ([] : List (List Nat)).length) i12 i13 i14 i15 r0 r1 r2 r3 r4 r5 r6 r7 r8 r9 r10 r11 r12 r13 r14 r15 r16 r17 r18 r19 r20 r21 r22 r23 r24 r25 r26 r27 r28 r29 r30 r31 r32 r33 r34 r35 r36 l0 l1 q0 q1 q2 q3 q4 F  _ e, A, (fun k => ([_, _, _, _, _, _, _, _, _, _, _, _, _, _, _, _] : List Int32).getD k 0), (fun k => ([_, _, _, _, _, _, _, _, _, _, _, _, _, _, _, _, _, _, _, _, _, _, _, _, _, _, _, _, _, _, _, _, _, _, _, _, _] : List (Nat → Int32)).getD k (fun _ => 0)), (fun k => ([_, _] : List Int64).getD k 0), (fun k => ([_, _, _, _, _] : List (Nat → Int64)).getD k (fun _ => 0)), rfl, rfl, hR0⟩
theorem uM_ahead1 {F : Nat} (hF : 20000 ≤ F) {l : Launch} {D : va_G} {cy : Nat → ClassId} {T : List Nat} {S : NSt} {L Y O E G : List Nat} {P : List (List Nat)} {M : Nat → Option (List Nat × List Nat × List Nat × List Nat × List Nat)} (hD : okDt T S L Y O E G P) (a1 : Int32) (a2 : Int32) (hok : ahOk L.length a1 a2) (h8 : E.length < 8) (A : Nat → Nat) (i0 : Int32) (i1 : Int32) (i2 : Int32) (i3 : Int32) (i4 : Int32) (i5 : Int32) (i6 : Int32) (i7 : Int32) (i8 : Int32) (i9 : Int32) (i10 : Int32) (i11 : Int32) (i12 : Int32) (i13 : Int32) (i14 : Int32) (i15 : Int32) (r0 : Nat → Int32) (r1 : Nat → Int32) (r2 : Nat → Int32) (r3 : Nat → Int32) (r4 : Nat → Int32) (r5 : Nat → Int32) (r6 : Nat → Int32) (r7 : Nat → Int32) (r8 : Nat → Int32) (r9 : Nat → Int32) (r10 : Nat → Int32) (r11 : Nat → Int32) (r12 : Nat → Int32) (r13 : Nat → Int32) (r14 : Nat → Int32) (r15 : Nat → Int32) (r16 : Nat → Int32) (r17 : Nat → Int32) (r18 : Nat → Int32) (r19 : Nat → Int32) (r20 : Nat → Int32) (r21 : Nat → Int32) (r22 : Nat → Int32) (r23 : Nat → Int32) (r24 : Nat → Int32) (r25 : Nat → Int32) (r26 : Nat → Int32) (r27 : Nat → Int32) (r28 : Nat → Int32) (r29 : Nat → Int32) (r30 : Nat → Int32) (r31 : Nat → Int32) (r32 : Nat → Int32) (r33 : Nat → Int32) (r34 : Nat → Int32) (r35 : Nat → Int32) (r36 : Nat → Int32) (l0 : Int64) (l1 : Int64) (q0 : Nat → Int64) (q1 : Nat → Int64) (q2 : Nat → Int64) (q3 : Nat → Int64) (q4 : Nat → Int64) (hR : RM T S L Y O E G P M i1 i11 r0 r1 r2 r3 r4 r5 r6 r19 r21 r22 r23 r24 r25 r26 r27 r28 r29 r30 r31 q0) : ∃ wx', vMet l D cy MX12_ahead 0 0 0 [.ref (A 0), .int a1, .int a2] (WM cy A i0 i1 i2 i3 i4 i5 i6 i7 i8 i9 i10 i11 i12 i13 i14 i15 r0 r1 r2 r3 r4 r5 r6 r7 r8 r9 r10 r11 r12 r13 r14 r15 r16 r17 r18 r19 r20 r21 r22 r23 r24 r25 r26 r27 r28 r29 r30 r31 r32 r33 r34 r35 r36 l0 l1 q0 q1 q2 q3 q4) (fun r0 w => r0 = some (.int (1)) ∧ w.Perm wx') ∧ IM cy (A 0) T S L Y O (E ++ [a1.toNatClampNeg]) (G ++ [a2.toNatClampNeg]) P M wx' := by
  obtain ⟨hT, hS, hK0, hP⟩ := hD
  have hR0 := hR
  obtain ⟨rfl, htp, hN, hs, hsl, rfl, hp, hm⟩ := hR
  obtain ⟨hm0, hk0, hlw, n0, n1, n2, n3, hnm, hkn⟩ := S_M hS hN
  have hn := S_N hS
  have hr := S_R S
  have h24 := okS_24 hS hK0
  have hln := S_ln hS
  have hrp := S_rp hS
  have hot := otM_rL hsl.2.1
  have hP24 := row_le (fun p hp => Nat.le_trans (hP p hp).2 hln)
  have hK1 := hK0
  obtain ⟨k1, k2, k3, k4, k5, k6, k7, k8, k9, k10⟩ := hK0
  have hq1 := ahM_sn (a := a1.toNatClampNeg) (b := a2.toNatClampNeg) k5 hsl.2.2
  rw [← (i_nat hok.1).1, ← (i_nat hok.2.2.1).1] at hq1
  have e := ahead_M1 (F := F) (th := i0) hs hok h8 hsl.2.2.1 r30 r31
  exact ⟨_, LX12_ahead A i0 (ii T.length) i2 i3 i4 i5 i6 i7 i8 i9 i10 (ii P.length) i12 i13 i14 i15 r0 r1 r2 r3 r4 r5 r6 r7 r8 r9 r10 r11 r12 r13 r14 r15 r16 r17 r18 r19 r20 r21 r22 r23 r24 r25 r26 r27 r28 r29 r30 r31 r32 r33 r34 r35 r36 l0 l1 q0 q1 q2 q3 q4 F a1 a2 _ e, A, (fun k => ([_, _, _, _, _, _, _, _, _, _, _, _, _, _, _, _] : List Int32).getD k 0), (fun k => ([_, _, _, _, _, _, _, _, _, _, _, _, _, _, _, _, _, _, _, _, _, _, _, _, _, _, _, _, _, _, _, _, _, _, _, _, _] : List (Nat → Int32)).getD k (fun _ => 0)), (fun k => ([_, _] : List Int64).getD k 0), (fun k => ([_, _, _, _, _] : List (Nat → Int64)).getD k (fun _ => 0)), rfl, rfl, ⟨rfl, htp, hN, hs, ⟨hsl.1, hsl.2.1, hq1⟩, rfl, hp, (mkM_map hm (fun m hm4 L' Y' O' E' G' hk hq => ⟨hq.1, hq.2.1, ahM_s1 (by omega) h8 hq.2.2⟩))⟩⟩
theorem uM_ahead0 {F : Nat} (hF : 20000 ≤ F) {l : Launch} {D : va_G} {cy : Nat → ClassId} {T : List Nat} {S : NSt} {L Y O E G : List Nat} {P : List (List Nat)} {M : Nat → Option (List Nat × List Nat × List Nat × List Nat × List Nat)} (hD : okDt T S L Y O E G P) (a1 : Int32) (a2 : Int32) (hno : ¬ ahOk L.length a1 a2 ∨ E.length = 8) (A : Nat → Nat) (i0 : Int32) (i1 : Int32) (i2 : Int32) (i3 : Int32) (i4 : Int32) (i5 : Int32) (i6 : Int32) (i7 : Int32) (i8 : Int32) (i9 : Int32) (i10 : Int32) (i11 : Int32) (i12 : Int32) (i13 : Int32) (i14 : Int32) (i15 : Int32) (r0 : Nat → Int32) (r1 : Nat → Int32) (r2 : Nat → Int32) (r3 : Nat → Int32) (r4 : Nat → Int32) (r5 : Nat → Int32) (r6 : Nat → Int32) (r7 : Nat → Int32) (r8 : Nat → Int32) (r9 : Nat → Int32) (r10 : Nat → Int32) (r11 : Nat → Int32) (r12 : Nat → Int32) (r13 : Nat → Int32) (r14 : Nat → Int32) (r15 : Nat → Int32) (r16 : Nat → Int32) (r17 : Nat → Int32) (r18 : Nat → Int32) (r19 : Nat → Int32) (r20 : Nat → Int32) (r21 : Nat → Int32) (r22 : Nat → Int32) (r23 : Nat → Int32) (r24 : Nat → Int32) (r25 : Nat → Int32) (r26 : Nat → Int32) (r27 : Nat → Int32) (r28 : Nat → Int32) (r29 : Nat → Int32) (r30 : Nat → Int32) (r31 : Nat → Int32) (r32 : Nat → Int32) (r33 : Nat → Int32) (r34 : Nat → Int32) (r35 : Nat → Int32) (r36 : Nat → Int32) (l0 : Int64) (l1 : Int64) (q0 : Nat → Int64) (q1 : Nat → Int64) (q2 : Nat → Int64) (q3 : Nat → Int64) (q4 : Nat → Int64) (hR : RM T S L Y O E G P M i1 i11 r0 r1 r2 r3 r4 r5 r6 r19 r21 r22 r23 r24 r25 r26 r27 r28 r29 r30 r31 q0) : ∃ wx', vMet l D cy MX12_ahead 0 0 0 [.ref (A 0), .int a1, .int a2] (WM cy A i0 i1 i2 i3 i4 i5 i6 i7 i8 i9 i10 i11 i12 i13 i14 i15 r0 r1 r2 r3 r4 r5 r6 r7 r8 r9 r10 r11 r12 r13 r14 r15 r16 r17 r18 r19 r20 r21 r22 r23 r24 r25 r26 r27 r28 r29 r30 r31 r32 r33 r34 r35 r36 l0 l1 q0 q1 q2 q3 q4) (fun r0 w => r0 = some (.int (0)) ∧ w.Perm wx') ∧ IM cy (A 0) T S L Y O E G P M wx' := by
  obtain ⟨hT, hS, hK0, hP⟩ := hD
  have hR0 := hR
  obtain ⟨rfl, htp, hN, hs, hsl, rfl, hp, hm⟩ := hR
  obtain ⟨hm0, hk0, hlw, n0, n1, n2, n3, hnm, hkn⟩ := S_M hS hN
  have hn := S_N hS
  have hr := S_R S
  have h24 := okS_24 hS hK0
  have hln := S_ln hS
  have hrp := S_rp hS
  have hot := otM_rL hsl.2.1
  have hP24 := row_le (fun p hp => Nat.le_trans (hP p hp).2 hln)
  have hK1 := hK0
  obtain ⟨k1, k2, k3, k4, k5, k6, k7, k8, k9, k10⟩ := hK0
  have e := ahead_M0 (F := F) (th := i0) hs hno hsl.2.2.1 r30 r31
  exact ⟨_, LX12_ahead A i0 (ii T.length) i2 i3 i4 i5 i6 i7 i8 i9 i10 (ii P.length) i12 i13 i14 i15 r0 r1 r2 r3 r4 r5 r6 r7 r8 r9 r10 r11 r12 r13 r14 r15 r16 r17 r18 r19 r20 r21 r22 r23 r24 r25 r26 r27 r28 r29 r30 r31 r32 r33 r34 r35 r36 l0 l1 q0 q1 q2 q3 q4 F a1 a2 _ e, A, (fun k => ([_, _, _, _, _, _, _, _, _, _, _, _, _, _, _, _] : List Int32).getD k 0), (fun k => ([_, _, _, _, _, _, _, _, _, _, _, _, _, _, _, _, _, _, _, _, _, _, _, _, _, _, _, _, _, _, _, _, _, _, _, _, _] : List (Nat → Int32)).getD k (fun _ => 0)), (fun k => ([_, _] : List Int64).getD k 0), (fun k => ([_, _, _, _, _] : List (Nat → Int64)).getD k (fun _ => 0)), rfl, rfl, hR0⟩
theorem uM_mark0 {F : Nat} (hF : 20000 ≤ F) {l : Launch} {D : va_G} {cy : Nat → ClassId} {T : List Nat} {S : NSt} {L Y O E G : List Nat} {P : List (List Nat)} {M : Nat → Option (List Nat × List Nat × List Nat × List Nat × List Nat)} (hD : okDt T S L Y O E G P) (a1 : Int32) (a2 : Int32) (hc : a1 < 0 ∨ ¬ a1 < (4 : Int32)) (A : Nat → Nat) (i0 : Int32) (i1 : Int32) (i2 : Int32) (i3 : Int32) (i4 : Int32) (i5 : Int32) (i6 : Int32) (i7 : Int32) (i8 : Int32) (i9 : Int32) (i10 : Int32) (i11 : Int32) (i12 : Int32) (i13 : Int32) (i14 : Int32) (i15 : Int32) (r0 : Nat → Int32) (r1 : Nat → Int32) (r2 : Nat → Int32) (r3 : Nat → Int32) (r4 : Nat → Int32) (r5 : Nat → Int32) (r6 : Nat → Int32) (r7 : Nat → Int32) (r8 : Nat → Int32) (r9 : Nat → Int32) (r10 : Nat → Int32) (r11 : Nat → Int32) (r12 : Nat → Int32) (r13 : Nat → Int32) (r14 : Nat → Int32) (r15 : Nat → Int32) (r16 : Nat → Int32) (r17 : Nat → Int32) (r18 : Nat → Int32) (r19 : Nat → Int32) (r20 : Nat → Int32) (r21 : Nat → Int32) (r22 : Nat → Int32) (r23 : Nat → Int32) (r24 : Nat → Int32) (r25 : Nat → Int32) (r26 : Nat → Int32) (r27 : Nat → Int32) (r28 : Nat → Int32) (r29 : Nat → Int32) (r30 : Nat → Int32) (r31 : Nat → Int32) (r32 : Nat → Int32) (r33 : Nat → Int32) (r34 : Nat → Int32) (r35 : Nat → Int32) (r36 : Nat → Int32) (l0 : Int64) (l1 : Int64) (q0 : Nat → Int64) (q1 : Nat → Int64) (q2 : Nat → Int64) (q3 : Nat → Int64) (q4 : Nat → Int64) (hR : RM T S L Y O E G P M i1 i11 r0 r1 r2 r3 r4 r5 r6 r19 r21 r22 r23 r24 r25 r26 r27 r28 r29 r30 r31 q0) : ∃ wx', vMet l D cy MX12_mark 1 0 0 [.ref (A 0), .int a1, .int a2] (WM cy A i0 i1 i2 i3 i4 i5 i6 i7 i8 i9 i10 i11 i12 i13 i14 i15 r0 r1 r2 r3 r4 r5 r6 r7 r8 r9 r10 r11 r12 r13 r14 r15 r16 r17 r18 r19 r20 r21 r22 r23 r24 r25 r26 r27 r28 r29 r30 r31 r32 r33 r34 r35 r36 l0 l1 q0 q1 q2 q3 q4) (fun r0 w => r0 = some (.int (0)) ∧ w.Perm wx') ∧ IM cy (A 0) T S L Y O E G P M wx' := by
  obtain ⟨hT, hS, hK0, hP⟩ := hD
  have hR0 := hR
  obtain ⟨rfl, htp, hN, hs, hsl, rfl, hp, hm⟩ := hR
  obtain ⟨hm0, hk0, hlw, n0, n1, n2, n3, hnm, hkn⟩ := S_M hS hN
  have hn := S_N hS
  have hr := S_R S
  have h24 := okS_24 hS hK0
  have hln := S_ln hS
  have hrp := S_rp hS
  have hot := otM_rL hsl.2.1
  have hP24 := row_le (fun p hp => Nat.le_trans (hP p hp).2 hln)
  have hK1 := hK0
  obtain ⟨k1, k2, k3, k4, k5, k6, k7, k8, k9, k10⟩ := hK0
  have e := mark_M0 (F := F) (b := a2) (th := i0) hc (ii P.length) r19 r21 r23 r24 r25 r26 r27 r28 r29 r30 r31
  exact ⟨_, LX12_mark A i0 (ii T.length) i2 i3 i4 i5 i6 i7 i8 i9 i10 (ii P.length) i12 i13 i14 i15 r0 r1 r2 r3 r4 r5 r6 r7 r8 r9 r10 r11 r12 r13 r14 r15 r16 r17 r18 r19 r20 r21 r22 r23 r24 r25 r26 r27 r28 r29 r30 r31 r32 r33 r34 r35 r36 l0 l1 q0 q1 q2 q3 q4 F a1 a2 _ e, A, (fun k => ([_, _, _, _, _, _, _, _, _, _, _, _, _, _, _, _] : List Int32).getD k 0), (fun k => ([_, _, _, _, _, _, _, _, _, _, _, _, _, _, _, _, _, _, _, _, _, _, _, _, _, _, _, _, _, _, _, _, _, _, _, _, _] : List (Nat → Int32)).getD k (fun _ => 0)), (fun k => ([_, _] : List Int64).getD k 0), (fun k => ([_, _, _, _, _] : List (Nat → Int64)).getD k (fun _ => 0)), rfl, rfl, hR0⟩
theorem uM_mark1 {F : Nat} (hF : 20000 ≤ F) {l : Launch} {D : va_G} {cy : Nat → ClassId} {T : List Nat} {S : NSt} {L Y O E G : List Nat} {P : List (List Nat)} {M : Nat → Option (List Nat × List Nat × List Nat × List Nat × List Nat)} (hD : okDt T S L Y O E G P) (a1 : Int32) (h1 : ¬ a1 < 0) (h2 : a1 < (4 : Int32)) (A : Nat → Nat) (i0 : Int32) (i1 : Int32) (i2 : Int32) (i3 : Int32) (i4 : Int32) (i5 : Int32) (i6 : Int32) (i7 : Int32) (i8 : Int32) (i9 : Int32) (i10 : Int32) (i11 : Int32) (i12 : Int32) (i13 : Int32) (i14 : Int32) (i15 : Int32) (r0 : Nat → Int32) (r1 : Nat → Int32) (r2 : Nat → Int32) (r3 : Nat → Int32) (r4 : Nat → Int32) (r5 : Nat → Int32) (r6 : Nat → Int32) (r7 : Nat → Int32) (r8 : Nat → Int32) (r9 : Nat → Int32) (r10 : Nat → Int32) (r11 : Nat → Int32) (r12 : Nat → Int32) (r13 : Nat → Int32) (r14 : Nat → Int32) (r15 : Nat → Int32) (r16 : Nat → Int32) (r17 : Nat → Int32) (r18 : Nat → Int32) (r19 : Nat → Int32) (r20 : Nat → Int32) (r21 : Nat → Int32) (r22 : Nat → Int32) (r23 : Nat → Int32) (r24 : Nat → Int32) (r25 : Nat → Int32) (r26 : Nat → Int32) (r27 : Nat → Int32) (r28 : Nat → Int32) (r29 : Nat → Int32) (r30 : Nat → Int32) (r31 : Nat → Int32) (r32 : Nat → Int32) (r33 : Nat → Int32) (r34 : Nat → Int32) (r35 : Nat → Int32) (r36 : Nat → Int32) (l0 : Int64) (l1 : Int64) (q0 : Nat → Int64) (q1 : Nat → Int64) (q2 : Nat → Int64) (q3 : Nat → Int64) (q4 : Nat → Int64) (hR : RM T S L Y O E G P M i1 i11 r0 r1 r2 r3 r4 r5 r6 r19 r21 r22 r23 r24 r25 r26 r27 r28 r29 r30 r31 q0) : ∃ wx', vMet l D cy MX12_mark 1 0 0 [.ref (A 0), .int a1, .int (0 : Int32)] (WM cy A i0 i1 i2 i3 i4 i5 i6 i7 i8 i9 i10 i11 i12 i13 i14 i15 r0 r1 r2 r3 r4 r5 r6 r7 r8 r9 r10 r11 r12 r13 r14 r15 r16 r17 r18 r19 r20 r21 r22 r23 r24 r25 r26 r27 r28 r29 r30 r31 r32 r33 r34 r35 r36 l0 l1 q0 q1 q2 q3 q4) (fun r0 w => r0 = some (.int (1)) ∧ w.Perm wx') ∧ IM cy (A 0) T S L Y O E G P (va_up M a1.toNatClampNeg (some (L, Y, O, E, G))) wx' := by
  obtain ⟨hT, hS, hK0, hP⟩ := hD
  have hR0 := hR
  obtain ⟨rfl, htp, hN, hs, hsl, rfl, hp, hm⟩ := hR
  obtain ⟨hm0, hk0, hlw, n0, n1, n2, n3, hnm, hkn⟩ := S_M hS hN
  have hn := S_N hS
  have hr := S_R S
  have h24 := okS_24 hS hK0
  have hln := S_ln hS
  have hrp := S_rp hS
  have hot := otM_rL hsl.2.1
  have hP24 := row_le (fun p hp => Nat.le_trans (hP p hp).2 hln)
  have hK1 := hK0
  obtain ⟨k1, k2, k3, k4, k5, k6, k7, k8, k9, k10⟩ := hK0
  obtain ⟨md', laid', li', lw', ln', os', ot', ah', on', tw', e, g1, g2⟩ := mark_M1 (F := F) (th := i0) (by omega) hln h1 h2 hs hsl hK1 (ii P.length) hm
  exact ⟨_, LX12_mark A i0 (ii T.length) i2 i3 i4 i5 i6 i7 i8 i9 i10 (ii P.length) i12 i13 i14 i15 r0 r1 r2 r3 r4 r5 r6 r7 r8 r9 r10 r11 r12 r13 r14 r15 r16 r17 r18 r19 r20 r21 r22 r23 r24 r25 r26 r27 r28 r29 r30 r31 r32 r33 r34 r35 r36 l0 l1 q0 q1 q2 q3 q4 F a1 ((0 : Int32)) _ e, A, (fun k => ([_, _, _, _, _, _, _, _, _, _, _, _, _, _, _, _] : List Int32).getD k 0), (fun k => ([_, _, _, _, _, _, _, _, _, _, _, _, _, _, _, _, _, _, _, _, _, _, _, _, _, _, _, _, _, _, _, _, _, _, _, _, _] : List (Nat → Int32)).getD k (fun _ => 0)), (fun k => ([_, _] : List Int64).getD k 0), (fun k => ([_, _, _, _, _] : List (Nat → Int64)).getD k (fun _ => 0)), rfl, rfl, ⟨rfl, htp, hN, hs, g1, rfl, hp, g2⟩⟩
theorem uM_mark2 {F : Nat} (hF : 20000 ≤ F) {l : Launch} {D : va_G} {cy : Nat → ClassId} {T : List Nat} {S : NSt} {L Y O E G : List Nat} {P : List (List Nat)} {M : Nat → Option (List Nat × List Nat × List Nat × List Nat × List Nat)} (hD : okDt T S L Y O E G P) (a1 : Int32) (h1 : ¬ a1 < 0) (h2 : a1 < (4 : Int32)) (hM : M a1.toNatClampNeg = none) (A : Nat → Nat) (i0 : Int32) (i1 : Int32) (i2 : Int32) (i3 : Int32) (i4 : Int32) (i5 : Int32) (i6 : Int32) (i7 : Int32) (i8 : Int32) (i9 : Int32) (i10 : Int32) (i11 : Int32) (i12 : Int32) (i13 : Int32) (i14 : Int32) (i15 : Int32) (r0 : Nat → Int32) (r1 : Nat → Int32) (r2 : Nat → Int32) (r3 : Nat → Int32) (r4 : Nat → Int32) (r5 : Nat → Int32) (r6 : Nat → Int32) (r7 : Nat → Int32) (r8 : Nat → Int32) (r9 : Nat → Int32) (r10 : Nat → Int32) (r11 : Nat → Int32) (r12 : Nat → Int32) (r13 : Nat → Int32) (r14 : Nat → Int32) (r15 : Nat → Int32) (r16 : Nat → Int32) (r17 : Nat → Int32) (r18 : Nat → Int32) (r19 : Nat → Int32) (r20 : Nat → Int32) (r21 : Nat → Int32) (r22 : Nat → Int32) (r23 : Nat → Int32) (r24 : Nat → Int32) (r25 : Nat → Int32) (r26 : Nat → Int32) (r27 : Nat → Int32) (r28 : Nat → Int32) (r29 : Nat → Int32) (r30 : Nat → Int32) (r31 : Nat → Int32) (r32 : Nat → Int32) (r33 : Nat → Int32) (r34 : Nat → Int32) (r35 : Nat → Int32) (r36 : Nat → Int32) (l0 : Int64) (l1 : Int64) (q0 : Nat → Int64) (q1 : Nat → Int64) (q2 : Nat → Int64) (q3 : Nat → Int64) (q4 : Nat → Int64) (hR : RM T S L Y O E G P M i1 i11 r0 r1 r2 r3 r4 r5 r6 r19 r21 r22 r23 r24 r25 r26 r27 r28 r29 r30 r31 q0) : ∃ wx', vMet l D cy MX12_mark 1 0 0 [.ref (A 0), .int a1, .int (1 : Int32)] (WM cy A i0 i1 i2 i3 i4 i5 i6 i7 i8 i9 i10 i11 i12 i13 i14 i15 r0 r1 r2 r3 r4 r5 r6 r7 r8 r9 r10 r11 r12 r13 r14 r15 r16 r17 r18 r19 r20 r21 r22 r23 r24 r25 r26 r27 r28 r29 r30 r31 r32 r33 r34 r35 r36 l0 l1 q0 q1 q2 q3 q4) (fun r0 w => r0 = some (.int (0)) ∧ w.Perm wx') ∧ IM cy (A 0) T S L Y O E G P M wx' := by
  obtain ⟨hT, hS, hK0, hP⟩ := hD
  have hR0 := hR
  obtain ⟨rfl, htp, hN, hs, hsl, rfl, hp, hm⟩ := hR
  obtain ⟨hm0, hk0, hlw, n0, n1, n2, n3, hnm, hkn⟩ := S_M hS hN
  have hn := S_N hS
  have hr := S_R S
  have h24 := okS_24 hS hK0
  have hln := S_ln hS
  have hrp := S_rp hS
  have hot := otM_rL hsl.2.1
  have hP24 := row_le (fun p hp => Nat.le_trans (hP p hp).2 hln)
  have hK1 := hK0
  obtain ⟨k1, k2, k3, k4, k5, k6, k7, k8, k9, k10⟩ := hK0
  have hl0 : r23 a1.toNatClampNeg = 0 := by
    rcases hm _ (i4_nat h1 h2) with ⟨_, q⟩ | ⟨L', Y', O', E', G', q, _⟩
    · exact q
    · rw [hM] at q; cases q
  have e := mark_M2 (F := F) (b := 1) (th := i0) h1 h2 (by decide) (ii P.length) r19 r21 r23 r24 r25 r26 r27 r28 r29 r30 r31 hl0
  exact ⟨_, LX12_mark A i0 (ii T.length) i2 i3 i4 i5 i6 i7 i8 i9 i10 (ii P.length) i12 i13 i14 i15 r0 r1 r2 r3 r4 r5 r6 r7 r8 r9 r10 r11 r12 r13 r14 r15 r16 r17 r18 r19 r20 r21 r22 r23 r24 r25 r26 r27 r28 r29 r30 r31 r32 r33 r34 r35 r36 l0 l1 q0 q1 q2 q3 q4 F a1 ((1 : Int32)) _ e, A, (fun k => ([_, _, _, _, _, _, _, _, _, _, _, _, _, _, _, _] : List Int32).getD k 0), (fun k => ([_, _, _, _, _, _, _, _, _, _, _, _, _, _, _, _, _, _, _, _, _, _, _, _, _, _, _, _, _, _, _, _, _, _, _, _, _] : List (Nat → Int32)).getD k (fun _ => 0)), (fun k => ([_, _] : List Int64).getD k 0), (fun k => ([_, _, _, _, _] : List (Nat → Int64)).getD k (fun _ => 0)), rfl, rfl, hR0⟩
theorem uM_mark3 {F : Nat} (hF : 20000 ≤ F) {l : Launch} {D : va_G} {cy : Nat → ClassId} {T : List Nat} {S : NSt} {L Y O E G : List Nat} {P : List (List Nat)} {M : Nat → Option (List Nat × List Nat × List Nat × List Nat × List Nat)} (hD : okDt T S L Y O E G P) (a1 : Int32) (h1 : ¬ a1 < 0) (h2 : a1 < (4 : Int32)) {L1 Y1 O1 E1 G1 : List Nat} (hM : M a1.toNatClampNeg = some (L1, Y1, O1, E1, G1)) (A : Nat → Nat) (i0 : Int32) (i1 : Int32) (i2 : Int32) (i3 : Int32) (i4 : Int32) (i5 : Int32) (i6 : Int32) (i7 : Int32) (i8 : Int32) (i9 : Int32) (i10 : Int32) (i11 : Int32) (i12 : Int32) (i13 : Int32) (i14 : Int32) (i15 : Int32) (r0 : Nat → Int32) (r1 : Nat → Int32) (r2 : Nat → Int32) (r3 : Nat → Int32) (r4 : Nat → Int32) (r5 : Nat → Int32) (r6 : Nat → Int32) (r7 : Nat → Int32) (r8 : Nat → Int32) (r9 : Nat → Int32) (r10 : Nat → Int32) (r11 : Nat → Int32) (r12 : Nat → Int32) (r13 : Nat → Int32) (r14 : Nat → Int32) (r15 : Nat → Int32) (r16 : Nat → Int32) (r17 : Nat → Int32) (r18 : Nat → Int32) (r19 : Nat → Int32) (r20 : Nat → Int32) (r21 : Nat → Int32) (r22 : Nat → Int32) (r23 : Nat → Int32) (r24 : Nat → Int32) (r25 : Nat → Int32) (r26 : Nat → Int32) (r27 : Nat → Int32) (r28 : Nat → Int32) (r29 : Nat → Int32) (r30 : Nat → Int32) (r31 : Nat → Int32) (r32 : Nat → Int32) (r33 : Nat → Int32) (r34 : Nat → Int32) (r35 : Nat → Int32) (r36 : Nat → Int32) (l0 : Int64) (l1 : Int64) (q0 : Nat → Int64) (q1 : Nat → Int64) (q2 : Nat → Int64) (q3 : Nat → Int64) (q4 : Nat → Int64) (hR : RM T S L Y O E G P M i1 i11 r0 r1 r2 r3 r4 r5 r6 r19 r21 r22 r23 r24 r25 r26 r27 r28 r29 r30 r31 q0) : ∃ wx', vMet l D cy MX12_mark 1 0 0 [.ref (A 0), .int a1, .int (1 : Int32)] (WM cy A i0 i1 i2 i3 i4 i5 i6 i7 i8 i9 i10 i11 i12 i13 i14 i15 r0 r1 r2 r3 r4 r5 r6 r7 r8 r9 r10 r11 r12 r13 r14 r15 r16 r17 r18 r19 r20 r21 r22 r23 r24 r25 r26 r27 r28 r29 r30 r31 r32 r33 r34 r35 r36 l0 l1 q0 q1 q2 q3 q4) (fun r0 w => r0 = some (.int (1)) ∧ w.Perm wx') ∧ IM cy (A 0) T S L1 Y1 O1 E1 G1 [] M wx' := by
  obtain ⟨hT, hS, hK0, hP⟩ := hD
  have hR0 := hR
  obtain ⟨rfl, htp, hN, hs, hsl, rfl, hp, hm⟩ := hR
  obtain ⟨hm0, hk0, hlw, n0, n1, n2, n3, hnm, hkn⟩ := S_M hS hN
  have hn := S_N hS
  have hr := S_R S
  have h24 := okS_24 hS hK0
  have hln := S_ln hS
  have hrp := S_rp hS
  have hot := otM_rL hsl.2.1
  have hP24 := row_le (fun p hp => Nat.le_trans (hP p hp).2 hln)
  have hK1 := hK0
  obtain ⟨k1, k2, k3, k4, k5, k6, k7, k8, k9, k10⟩ := hK0
  have hk1 : okS S.1.length (lnS S) L1 Y1 O1 E1 G1 := by
    rcases hm _ (i4_nat h1 h2) with ⟨q, _⟩ | ⟨L', Y', O', E', G', q, q2, q3, q4⟩
    · rw [hM] at q; cases q
    · rw [hM] at q
      cases q
      exact q3
  obtain ⟨s', laid', li', lw', ln', os', ot', ah', on', tw', e, g1, g2, g3⟩ := mark_M3 (F := F) (th := i0) (s := r19) (by omega) hln h1 h2 hk1 (ii P.length) hm hM
  exact ⟨_, LX12_mark A i0 (ii T.length) i2 i3 i4 i5 i6 i7 i8 i9 i10 (ii P.length) i12 i13 i14 i15 r0 r1 r2 r3 r4 r5 r6 r7 r8 r9 r10 r11 r12 r13 r14 r15 r16 r17 r18 r19 r20 r21 r22 r23 r24 r25 r26 r27 r28 r29 r30 r31 r32 r33 r34 r35 r36 l0 l1 q0 q1 q2 q3 q4 F a1 ((1 : Int32)) _ e, A, (fun k => ([_, _, _, _, _, _, _, _, _, _, _, _, _, _, _, _] : List Int32).getD k 0), (fun k => ([_, _, _, _, _, _, _, _, _, _, _, _, _, _, _, _, _, _, _, _, _, _, _, _, _, _, _, _, _, _, _, _, _, _, _, _, _] : List (Nat → Int32)).getD k (fun _ => 0)), (fun k => ([_, _] : List Int64).getD k 0), (fun k => ([_, _, _, _, _] : List (Nat → Int64)).getD k (fun _ => 0)), rfl, rfl, ⟨rfl, htp, hN, g1, g2, rfl, ⟨Nat.zero_le _, fun k hk => absurd hk (Nat.not_lt_zero k)⟩, g3⟩⟩
theorem uM_year1 {F : Nat} (hF : 20000 ≤ F) {l : Launch} {D : va_G} {cy : Nat → ClassId} {T : List Nat} {S : NSt} {L Y O E G : List Nat} {P : List (List Nat)} {M : Nat → Option (List Nat × List Nat × List Nat × List Nat × List Nat)} (hD : okDt T S L Y O E G P)  {Y1 : List Nat} (hY1 : ysS S.1 40 1 41 [] (tlT T 0) = .inr Y1) (A : Nat → Nat) (i0 : Int32) (i1 : Int32) (i2 : Int32) (i3 : Int32) (i4 : Int32) (i5 : Int32) (i6 : Int32) (i7 : Int32) (i8 : Int32) (i9 : Int32) (i10 : Int32) (i11 : Int32) (i12 : Int32) (i13 : Int32) (i14 : Int32) (i15 : Int32) (r0 : Nat → Int32) (r1 : Nat → Int32) (r2 : Nat → Int32) (r3 : Nat → Int32) (r4 : Nat → Int32) (r5 : Nat → Int32) (r6 : Nat → Int32) (r7 : Nat → Int32) (r8 : Nat → Int32) (r9 : Nat → Int32) (r10 : Nat → Int32) (r11 : Nat → Int32) (r12 : Nat → Int32) (r13 : Nat → Int32) (r14 : Nat → Int32) (r15 : Nat → Int32) (r16 : Nat → Int32) (r17 : Nat → Int32) (r18 : Nat → Int32) (r19 : Nat → Int32) (r20 : Nat → Int32) (r21 : Nat → Int32) (r22 : Nat → Int32) (r23 : Nat → Int32) (r24 : Nat → Int32) (r25 : Nat → Int32) (r26 : Nat → Int32) (r27 : Nat → Int32) (r28 : Nat → Int32) (r29 : Nat → Int32) (r30 : Nat → Int32) (r31 : Nat → Int32) (r32 : Nat → Int32) (r33 : Nat → Int32) (r34 : Nat → Int32) (r35 : Nat → Int32) (r36 : Nat → Int32) (l0 : Int64) (l1 : Int64) (q0 : Nat → Int64) (q1 : Nat → Int64) (q2 : Nat → Int64) (q3 : Nat → Int64) (q4 : Nat → Int64) (hR : RM T S L Y O E G P M i1 i11 r0 r1 r2 r3 r4 r5 r6 r19 r21 r22 r23 r24 r25 r26 r27 r28 r29 r30 r31 q0) : ∃ wx', vMet l D cy MX12_year 4 0 0 [.ref (A 0)] (WM cy A i0 i1 i2 i3 i4 i5 i6 i7 i8 i9 i10 i11 i12 i13 i14 i15 r0 r1 r2 r3 r4 r5 r6 r7 r8 r9 r10 r11 r12 r13 r14 r15 r16 r17 r18 r19 r20 r21 r22 r23 r24 r25 r26 r27 r28 r29 r30 r31 r32 r33 r34 r35 r36 l0 l1 q0 q1 q2 q3 q4) (fun r0 w => r0 = some (.int (0)) ∧ w.Perm wx') ∧ IM cy (A 0) [] S L Y1 O E G P M wx' := by
  obtain ⟨hT, hS, hK0, hP⟩ := hD
  have hR0 := hR
  obtain ⟨rfl, htp, hN, hs, hsl, rfl, hp, hm⟩ := hR
  obtain ⟨hm0, hk0, hlw, n0, n1, n2, n3, hnm, hkn⟩ := S_M hS hN
  have hn := S_N hS
  have hr := S_R S
  have h24 := okS_24 hS hK0
  have hln := S_ln hS
  have hrp := S_rp hS
  have hot := otM_rL hsl.2.1
  have hP24 := row_le (fun p hp => Nat.le_trans (hP p hp).2 hln)
  have hK1 := hK0
  obtain ⟨k1, k2, k3, k4, k5, k6, k7, k8, k9, k10⟩ := hK0
  obtain ⟨sz', pl', bg', tkn', wd', td', wr', gv', li', lw', lN', e, g1, g2, g3, g4⟩ := (year_M (F := F) (by omega) hS.1 hS.2.1 n0 hnm hT htp i0 i2 i3 i4 i5 l0 i6 i7 i10 r24 r25 r26).2 _ hY1
  exact ⟨_, LX12_year A i0 (ii T.length) i2 i3 i4 i5 i6 i7 i8 i9 i10 (ii P.length) i12 i13 i14 i15 r0 r1 r2 r3 r4 r5 r6 r7 r8 r9 r10 r11 r12 r13 r14 r15 r16 r17 r18 r19 r20 r21 r22 r23 r24 r25 r26 r27 r28 r29 r30 r31 r32 r33 r34 r35 r36 l0 l1 q0 q1 q2 q3 q4 F  _ e, A, (fun k => ([_, _, _, _, _, _, _, _, _, _, _, _, _, _, _, _] : List Int32).getD k 0), (fun k => ([_, _, _, _, _, _, _, _, _, _, _, _, _, _, _, _, _, _, _, _, _, _, _, _, _, _, _, _, _, _, _, _, _, _, _, _, _] : List (Nat → Int32)).getD k (fun _ => 0)), (fun k => ([_, _] : List Int64).getD k 0), (fun k => ([_, _, _, _, _] : List (Nat → Int64)).getD k (fun _ => 0)), rfl, rfl, ⟨rfl, (fun k hk => absurd hk (Nat.not_lt_zero k)), hN, hs, ⟨g1, hsl.2⟩, rfl, hp, (mkM_map hm (fun m hm4 L' Y' O' E' G' hk hq => ⟨yrM_f4 g3 g4 (by omega) (by omega) hk.2.1 hq.1, hq.2⟩))⟩⟩
theorem uM_year0 {F : Nat} (hF : 20000 ≤ F) {l : Launch} {D : va_G} {cy : Nat → ClassId} {T : List Nat} {S : NSt} {L Y O E G : List Nat} {P : List (List Nat)} {M : Nat → Option (List Nat × List Nat × List Nat × List Nat × List Nat)} (hD : okDt T S L Y O E G P)  {e0 : Nat} (hY1 : ysS S.1 40 1 41 [] (tlT T 0) = .inl e0) (A : Nat → Nat) (i0 : Int32) (i1 : Int32) (i2 : Int32) (i3 : Int32) (i4 : Int32) (i5 : Int32) (i6 : Int32) (i7 : Int32) (i8 : Int32) (i9 : Int32) (i10 : Int32) (i11 : Int32) (i12 : Int32) (i13 : Int32) (i14 : Int32) (i15 : Int32) (r0 : Nat → Int32) (r1 : Nat → Int32) (r2 : Nat → Int32) (r3 : Nat → Int32) (r4 : Nat → Int32) (r5 : Nat → Int32) (r6 : Nat → Int32) (r7 : Nat → Int32) (r8 : Nat → Int32) (r9 : Nat → Int32) (r10 : Nat → Int32) (r11 : Nat → Int32) (r12 : Nat → Int32) (r13 : Nat → Int32) (r14 : Nat → Int32) (r15 : Nat → Int32) (r16 : Nat → Int32) (r17 : Nat → Int32) (r18 : Nat → Int32) (r19 : Nat → Int32) (r20 : Nat → Int32) (r21 : Nat → Int32) (r22 : Nat → Int32) (r23 : Nat → Int32) (r24 : Nat → Int32) (r25 : Nat → Int32) (r26 : Nat → Int32) (r27 : Nat → Int32) (r28 : Nat → Int32) (r29 : Nat → Int32) (r30 : Nat → Int32) (r31 : Nat → Int32) (r32 : Nat → Int32) (r33 : Nat → Int32) (r34 : Nat → Int32) (r35 : Nat → Int32) (r36 : Nat → Int32) (l0 : Int64) (l1 : Int64) (q0 : Nat → Int64) (q1 : Nat → Int64) (q2 : Nat → Int64) (q3 : Nat → Int64) (q4 : Nat → Int64) (hR : RM T S L Y O E G P M i1 i11 r0 r1 r2 r3 r4 r5 r6 r19 r21 r22 r23 r24 r25 r26 r27 r28 r29 r30 r31 q0) : ∃ wx', vMet l D cy MX12_year 4 0 0 [.ref (A 0)] (WM cy A i0 i1 i2 i3 i4 i5 i6 i7 i8 i9 i10 i11 i12 i13 i14 i15 r0 r1 r2 r3 r4 r5 r6 r7 r8 r9 r10 r11 r12 r13 r14 r15 r16 r17 r18 r19 r20 r21 r22 r23 r24 r25 r26 r27 r28 r29 r30 r31 r32 r33 r34 r35 r36 l0 l1 q0 q1 q2 q3 q4) (fun r0 w => r0 = some (.int (ii e0)) ∧ w.Perm wx') ∧ IM cy (A 0) [] S L Y O E G P M wx' := by
  obtain ⟨hT, hS, hK0, hP⟩ := hD
  have hR0 := hR
  obtain ⟨rfl, htp, hN, hs, hsl, rfl, hp, hm⟩ := hR
  obtain ⟨hm0, hk0, hlw, n0, n1, n2, n3, hnm, hkn⟩ := S_M hS hN
  have hn := S_N hS
  have hr := S_R S
  have h24 := okS_24 hS hK0
  have hln := S_ln hS
  have hrp := S_rp hS
  have hot := otM_rL hsl.2.1
  have hP24 := row_le (fun p hp => Nat.le_trans (hP p hp).2 hln)
  have hK1 := hK0
  obtain ⟨k1, k2, k3, k4, k5, k6, k7, k8, k9, k10⟩ := hK0
  obtain ⟨sz', pl', bg', tkn', wd', td', wr', gv', li', lw', lN', e, g1⟩ := (year_M (F := F) (by omega) hS.1 hS.2.1 n0 hnm hT htp i0 i2 i3 i4 i5 l0 i6 i7 i10 r24 r25 r26).1 _ hY1
  exact ⟨_, LX12_year A i0 (ii T.length) i2 i3 i4 i5 i6 i7 i8 i9 i10 (ii P.length) i12 i13 i14 i15 r0 r1 r2 r3 r4 r5 r6 r7 r8 r9 r10 r11 r12 r13 r14 r15 r16 r17 r18 r19 r20 r21 r22 r23 r24 r25 r26 r27 r28 r29 r30 r31 r32 r33 r34 r35 r36 l0 l1 q0 q1 q2 q3 q4 F  _ e, A, (fun k => ([_, _, _, _, _, _, _, _, _, _, _, _, _, _, _, _] : List Int32).getD k 0), (fun k => ([_, _, _, _, _, _, _, _, _, _, _, _, _, _, _, _, _, _, _, _, _, _, _, _, _, _, _, _, _, _, _, _, _, _, _, _, _] : List (Nat → Int32)).getD k (fun _ => 0)), (fun k => ([_, _] : List Int64).getD k 0), (fun k => ([_, _, _, _, _] : List (Nat → Int64)).getD k (fun _ => 0)), rfl, rfl, ⟨rfl, (fun k hk => absurd hk (Nat.not_lt_zero k)), hN, hs, ⟨yrM_fr g1 (by omega) k2 hsl.1, hsl.2⟩, rfl, hp, (mkM_map hm (fun m hm4 L' Y' O' E' G' hk hq => ⟨yrM_fr g1 (by omega) hk.2.1 hq.1, hq.2⟩))⟩⟩
theorem uM_other1 {F : Nat} (hF : 20000 ≤ F) {l : Launch} {D : va_G} {cy : Nat → ClassId} {T : List Nat} {S : NSt} {L Y O E G : List Nat} {P : List (List Nat)} {M : Nat → Option (List Nat × List Nat × List Nat × List Nat × List Nat)} (hD : okDt T S L Y O E G P)  {O1 : List Nat} (hY1 : ysS S.1 24 0 25 [] (tlT T 0) = .inr O1) (A : Nat → Nat) (i0 : Int32) (i1 : Int32) (i2 : Int32) (i3 : Int32) (i4 : Int32) (i5 : Int32) (i6 : Int32) (i7 : Int32) (i8 : Int32) (i9 : Int32) (i10 : Int32) (i11 : Int32) (i12 : Int32) (i13 : Int32) (i14 : Int32) (i15 : Int32) (r0 : Nat → Int32) (r1 : Nat → Int32) (r2 : Nat → Int32) (r3 : Nat → Int32) (r4 : Nat → Int32) (r5 : Nat → Int32) (r6 : Nat → Int32) (r7 : Nat → Int32) (r8 : Nat → Int32) (r9 : Nat → Int32) (r10 : Nat → Int32) (r11 : Nat → Int32) (r12 : Nat → Int32) (r13 : Nat → Int32) (r14 : Nat → Int32) (r15 : Nat → Int32) (r16 : Nat → Int32) (r17 : Nat → Int32) (r18 : Nat → Int32) (r19 : Nat → Int32) (r20 : Nat → Int32) (r21 : Nat → Int32) (r22 : Nat → Int32) (r23 : Nat → Int32) (r24 : Nat → Int32) (r25 : Nat → Int32) (r26 : Nat → Int32) (r27 : Nat → Int32) (r28 : Nat → Int32) (r29 : Nat → Int32) (r30 : Nat → Int32) (r31 : Nat → Int32) (r32 : Nat → Int32) (r33 : Nat → Int32) (r34 : Nat → Int32) (r35 : Nat → Int32) (r36 : Nat → Int32) (l0 : Int64) (l1 : Int64) (q0 : Nat → Int64) (q1 : Nat → Int64) (q2 : Nat → Int64) (q3 : Nat → Int64) (q4 : Nat → Int64) (hR : RM T S L Y O E G P M i1 i11 r0 r1 r2 r3 r4 r5 r6 r19 r21 r22 r23 r24 r25 r26 r27 r28 r29 r30 r31 q0) : ∃ wx', vMet l D cy MX12_other 4 0 0 [.ref (A 0)] (WM cy A i0 i1 i2 i3 i4 i5 i6 i7 i8 i9 i10 i11 i12 i13 i14 i15 r0 r1 r2 r3 r4 r5 r6 r7 r8 r9 r10 r11 r12 r13 r14 r15 r16 r17 r18 r19 r20 r21 r22 r23 r24 r25 r26 r27 r28 r29 r30 r31 r32 r33 r34 r35 r36 l0 l1 q0 q1 q2 q3 q4) (fun r0 w => r0 = some (.int (0)) ∧ w.Perm wx') ∧ IM cy (A 0) [] S L Y O1 E G P M wx' := by
  obtain ⟨hT, hS, hK0, hP⟩ := hD
  have hR0 := hR
  obtain ⟨rfl, htp, hN, hs, hsl, rfl, hp, hm⟩ := hR
  obtain ⟨hm0, hk0, hlw, n0, n1, n2, n3, hnm, hkn⟩ := S_M hS hN
  have hn := S_N hS
  have hr := S_R S
  have h24 := okS_24 hS hK0
  have hln := S_ln hS
  have hrp := S_rp hS
  have hot := otM_rL hsl.2.1
  have hP24 := row_le (fun p hp => Nat.le_trans (hP p hp).2 hln)
  have hK1 := hK0
  obtain ⟨k1, k2, k3, k4, k5, k6, k7, k8, k9, k10⟩ := hK0
  obtain ⟨sz', pl', bg', tkn', wd', td', wr', gv', os', ot', e, g1, g2, g3⟩ := (other_M (F := F) (by omega) hS.1 hS.2.1 n0 hnm hT htp i0 i2 i3 i4 i5 l0 i6 i7 i10 r27 r28).2 _ hY1
  exact ⟨_, LX12_other A i0 (ii T.length) i2 i3 i4 i5 i6 i7 i8 i9 i10 (ii P.length) i12 i13 i14 i15 r0 r1 r2 r3 r4 r5 r6 r7 r8 r9 r10 r11 r12 r13 r14 r15 r16 r17 r18 r19 r20 r21 r22 r23 r24 r25 r26 r27 r28 r29 r30 r31 r32 r33 r34 r35 r36 l0 l1 q0 q1 q2 q3 q4 F  _ e, A, (fun k => ([_, _, _, _, _, _, _, _, _, _, _, _, _, _, _, _] : List Int32).getD k 0), (fun k => ([_, _, _, _, _, _, _, _, _, _, _, _, _, _, _, _, _, _, _, _, _, _, _, _, _, _, _, _, _, _, _, _, _, _, _, _, _] : List (Nat → Int32)).getD k (fun _ => 0)), (fun k => ([_, _] : List Int64).getD k 0), (fun k => ([_, _, _, _, _] : List (Nat → Int64)).getD k (fun _ => 0)), rfl, rfl, ⟨rfl, (fun k hk => absurd hk (Nat.not_lt_zero k)), hN, hs, ⟨hsl.1, g1, hsl.2.2⟩, rfl, hp, (mkM_map hm (fun m hm4 L' Y' O' E' G' hk hq => ⟨hq.1, otM_f4 g3 (by omega) (by omega) hk.2.2.1 hq.2.1, hq.2.2⟩))⟩⟩
theorem uM_other0 {F : Nat} (hF : 20000 ≤ F) {l : Launch} {D : va_G} {cy : Nat → ClassId} {T : List Nat} {S : NSt} {L Y O E G : List Nat} {P : List (List Nat)} {M : Nat → Option (List Nat × List Nat × List Nat × List Nat × List Nat)} (hD : okDt T S L Y O E G P)  {e0 : Nat} (hY1 : ysS S.1 24 0 25 [] (tlT T 0) = .inl e0) (A : Nat → Nat) (i0 : Int32) (i1 : Int32) (i2 : Int32) (i3 : Int32) (i4 : Int32) (i5 : Int32) (i6 : Int32) (i7 : Int32) (i8 : Int32) (i9 : Int32) (i10 : Int32) (i11 : Int32) (i12 : Int32) (i13 : Int32) (i14 : Int32) (i15 : Int32) (r0 : Nat → Int32) (r1 : Nat → Int32) (r2 : Nat → Int32) (r3 : Nat → Int32) (r4 : Nat → Int32) (r5 : Nat → Int32) (r6 : Nat → Int32) (r7 : Nat → Int32) (r8 : Nat → Int32) (r9 : Nat → Int32) (r10 : Nat → Int32) (r11 : Nat → Int32) (r12 : Nat → Int32) (r13 : Nat → Int32) (r14 : Nat → Int32) (r15 : Nat → Int32) (r16 : Nat → Int32) (r17 : Nat → Int32) (r18 : Nat → Int32) (r19 : Nat → Int32) (r20 : Nat → Int32) (r21 : Nat → Int32) (r22 : Nat → Int32) (r23 : Nat → Int32) (r24 : Nat → Int32) (r25 : Nat → Int32) (r26 : Nat → Int32) (r27 : Nat → Int32) (r28 : Nat → Int32) (r29 : Nat → Int32) (r30 : Nat → Int32) (r31 : Nat → Int32) (r32 : Nat → Int32) (r33 : Nat → Int32) (r34 : Nat → Int32) (r35 : Nat → Int32) (r36 : Nat → Int32) (l0 : Int64) (l1 : Int64) (q0 : Nat → Int64) (q1 : Nat → Int64) (q2 : Nat → Int64) (q3 : Nat → Int64) (q4 : Nat → Int64) (hR : RM T S L Y O E G P M i1 i11 r0 r1 r2 r3 r4 r5 r6 r19 r21 r22 r23 r24 r25 r26 r27 r28 r29 r30 r31 q0) : ∃ wx', vMet l D cy MX12_other 4 0 0 [.ref (A 0)] (WM cy A i0 i1 i2 i3 i4 i5 i6 i7 i8 i9 i10 i11 i12 i13 i14 i15 r0 r1 r2 r3 r4 r5 r6 r7 r8 r9 r10 r11 r12 r13 r14 r15 r16 r17 r18 r19 r20 r21 r22 r23 r24 r25 r26 r27 r28 r29 r30 r31 r32 r33 r34 r35 r36 l0 l1 q0 q1 q2 q3 q4) (fun r0 w => r0 = some (.int (ii e0)) ∧ w.Perm wx') ∧ IM cy (A 0) [] S L Y O E G P M wx' := by
  obtain ⟨hT, hS, hK0, hP⟩ := hD
  have hR0 := hR
  obtain ⟨rfl, htp, hN, hs, hsl, rfl, hp, hm⟩ := hR
  obtain ⟨hm0, hk0, hlw, n0, n1, n2, n3, hnm, hkn⟩ := S_M hS hN
  have hn := S_N hS
  have hr := S_R S
  have h24 := okS_24 hS hK0
  have hln := S_ln hS
  have hrp := S_rp hS
  have hot := otM_rL hsl.2.1
  have hP24 := row_le (fun p hp => Nat.le_trans (hP p hp).2 hln)
  have hK1 := hK0
  obtain ⟨k1, k2, k3, k4, k5, k6, k7, k8, k9, k10⟩ := hK0
  obtain ⟨sz', pl', bg', tkn', wd', td', wr', gv', os', ot', e, g1⟩ := (other_M (F := F) (by omega) hS.1 hS.2.1 n0 hnm hT htp i0 i2 i3 i4 i5 l0 i6 i7 i10 r27 r28).1 _ hY1
  exact ⟨_, LX12_other A i0 (ii T.length) i2 i3 i4 i5 i6 i7 i8 i9 i10 (ii P.length) i12 i13 i14 i15 r0 r1 r2 r3 r4 r5 r6 r7 r8 r9 r10 r11 r12 r13 r14 r15 r16 r17 r18 r19 r20 r21 r22 r23 r24 r25 r26 r27 r28 r29 r30 r31 r32 r33 r34 r35 r36 l0 l1 q0 q1 q2 q3 q4 F  _ e, A, (fun k => ([_, _, _, _, _, _, _, _, _, _, _, _, _, _, _, _] : List Int32).getD k 0), (fun k => ([_, _, _, _, _, _, _, _, _, _, _, _, _, _, _, _, _, _, _, _, _, _, _, _, _, _, _, _, _, _, _, _, _, _, _, _, _] : List (Nat → Int32)).getD k (fun _ => 0)), (fun k => ([_, _] : List Int64).getD k 0), (fun k => ([_, _, _, _, _] : List (Nat → Int64)).getD k (fun _ => 0)), rfl, rfl, ⟨rfl, (fun k hk => absurd hk (Nat.not_lt_zero k)), hN, hs, ⟨hsl.1, otM_fr g1 (by omega) k3 hsl.2.1, hsl.2.2⟩, rfl, hp, (mkM_map hm (fun m hm4 L' Y' O' E' G' hk hq => ⟨hq.1, otM_fr g1 (by omega) hk.2.2.1 hq.2.1, hq.2.2⟩))⟩⟩
theorem uM_net1 {F : Nat} (hF : 20000 ≤ F) {l : Launch} {D : va_G} {cy : Nat → ClassId} {T : List Nat} {S : NSt} {L Y O E G : List Nat} {P : List (List Nat)} {M : Nat → Option (List Nat × List Nat × List Nat × List Nat × List Nat)} (hD : okDt T S L Y O E G P)  {S1 : NSt} (hS1 : naT T = .inr S1) (A : Nat → Nat) (i0 : Int32) (i1 : Int32) (i2 : Int32) (i3 : Int32) (i4 : Int32) (i5 : Int32) (i6 : Int32) (i7 : Int32) (i8 : Int32) (i9 : Int32) (i10 : Int32) (i11 : Int32) (i12 : Int32) (i13 : Int32) (i14 : Int32) (i15 : Int32) (r0 : Nat → Int32) (r1 : Nat → Int32) (r2 : Nat → Int32) (r3 : Nat → Int32) (r4 : Nat → Int32) (r5 : Nat → Int32) (r6 : Nat → Int32) (r7 : Nat → Int32) (r8 : Nat → Int32) (r9 : Nat → Int32) (r10 : Nat → Int32) (r11 : Nat → Int32) (r12 : Nat → Int32) (r13 : Nat → Int32) (r14 : Nat → Int32) (r15 : Nat → Int32) (r16 : Nat → Int32) (r17 : Nat → Int32) (r18 : Nat → Int32) (r19 : Nat → Int32) (r20 : Nat → Int32) (r21 : Nat → Int32) (r22 : Nat → Int32) (r23 : Nat → Int32) (r24 : Nat → Int32) (r25 : Nat → Int32) (r26 : Nat → Int32) (r27 : Nat → Int32) (r28 : Nat → Int32) (r29 : Nat → Int32) (r30 : Nat → Int32) (r31 : Nat → Int32) (r32 : Nat → Int32) (r33 : Nat → Int32) (r34 : Nat → Int32) (r35 : Nat → Int32) (r36 : Nat → Int32) (l0 : Int64) (l1 : Int64) (q0 : Nat → Int64) (q1 : Nat → Int64) (q2 : Nat → Int64) (q3 : Nat → Int64) (q4 : Nat → Int64) (hR : RM T S L Y O E G P M i1 i11 r0 r1 r2 r3 r4 r5 r6 r19 r21 r22 r23 r24 r25 r26 r27 r28 r29 r30 r31 q0) : ∃ wx', vMet l D cy MX12_net 5 0 0 [.ref (A 0)] (WM cy A i0 i1 i2 i3 i4 i5 i6 i7 i8 i9 i10 i11 i12 i13 i14 i15 r0 r1 r2 r3 r4 r5 r6 r7 r8 r9 r10 r11 r12 r13 r14 r15 r16 r17 r18 r19 r20 r21 r22 r23 r24 r25 r26 r27 r28 r29 r30 r31 r32 r33 r34 r35 r36 l0 l1 q0 q1 q2 q3 q4) (fun r0 w => r0 = some (.int (0)) ∧ w.Perm wx') ∧ IM cy (A 0) [] S1 [] [] [] [] [] [] (fun _ => none) wx' := by
  obtain ⟨hT, hS, hK0, hP⟩ := hD
  have hR0 := hR
  obtain ⟨rfl, htp, hN, hs, hsl, rfl, hp, hm⟩ := hR
  obtain ⟨hm0, hk0, hlw, n0, n1, n2, n3, hnm, hkn⟩ := S_M hS hN
  have hn := S_N hS
  have hr := S_R S
  have h24 := okS_24 hS hK0
  have hln := S_ln hS
  have hrp := S_rp hS
  have hot := otM_rL hsl.2.1
  have hP24 := row_le (fun p hp => Nat.le_trans (hP p hp).2 hln)
  have hK1 := hK0
  obtain ⟨k1, k2, k3, k4, k5, k6, k7, k8, k9, k10⟩ := hK0
  obtain ⟨sz', pl', bg', tkn', wd', td', wr', cd', tz', gv', nt', fn', ki', kn', lf', lt', cs', op', cm', laid', e, g1, g2, g3⟩ := (net_M (F := F) (by omega) hT htp i0 i2 i3 i4 i5 l0 i6 i7 i8 i9 i10 (ii P.length) r1 q0 r2 r3 r4 r5 r6 r7 r8 r19 r23 r24 r27 r29).2 _ hS1
  exact ⟨_, LX12_net A i0 (ii T.length) i2 i3 i4 i5 i6 i7 i8 i9 i10 (ii P.length) i12 i13 i14 i15 r0 r1 r2 r3 r4 r5 r6 r7 r8 r9 r10 r11 r12 r13 r14 r15 r16 r17 r18 r19 r20 r21 r22 r23 r24 r25 r26 r27 r28 r29 r30 r31 r32 r33 r34 r35 r36 l0 l1 q0 q1 q2 q3 q4 F  _ e, A, (fun k => ([_, _, _, _, _, _, _, _, _, _, _, _, _, _, _, _] : List Int32).getD k 0), (fun k => ([_, _, _, _, _, _, _, _, _, _, _, _, _, _, _, _, _, _, _, _, _, _, _, _, _, _, _, _, _, _, _, _, _, _, _, _, _] : List (Nat → Int32)).getD k (fun _ => 0)), (fun k => ([_, _] : List Int64).getD k 0), (fun k => ([_, _, _, _, _] : List (Nat → Int64)).getD k (fun _ => 0)), rfl, rfl, ⟨rfl, (fun k hk => absurd hk (Nat.not_lt_zero k)), g1, rS_nil _, ⟨yrM_nil _ _ _, otM_nil _ _, ahM_nil _ _ _⟩, rfl, ⟨Nat.zero_le _, fun k hk => absurd hk (Nat.not_lt_zero k)⟩, fun m hm4 => Or.inl ⟨rfl, g3 m hm4⟩⟩⟩
theorem uM_net0 {F : Nat} (hF : 20000 ≤ F) {l : Launch} {D : va_G} {cy : Nat → ClassId} {T : List Nat} {S : NSt} {L Y O E G : List Nat} {P : List (List Nat)} {M : Nat → Option (List Nat × List Nat × List Nat × List Nat × List Nat)} (hD : okDt T S L Y O E G P)  {e0 : Nat} (hS1 : naT T = .inl e0) (A : Nat → Nat) (i0 : Int32) (i1 : Int32) (i2 : Int32) (i3 : Int32) (i4 : Int32) (i5 : Int32) (i6 : Int32) (i7 : Int32) (i8 : Int32) (i9 : Int32) (i10 : Int32) (i11 : Int32) (i12 : Int32) (i13 : Int32) (i14 : Int32) (i15 : Int32) (r0 : Nat → Int32) (r1 : Nat → Int32) (r2 : Nat → Int32) (r3 : Nat → Int32) (r4 : Nat → Int32) (r5 : Nat → Int32) (r6 : Nat → Int32) (r7 : Nat → Int32) (r8 : Nat → Int32) (r9 : Nat → Int32) (r10 : Nat → Int32) (r11 : Nat → Int32) (r12 : Nat → Int32) (r13 : Nat → Int32) (r14 : Nat → Int32) (r15 : Nat → Int32) (r16 : Nat → Int32) (r17 : Nat → Int32) (r18 : Nat → Int32) (r19 : Nat → Int32) (r20 : Nat → Int32) (r21 : Nat → Int32) (r22 : Nat → Int32) (r23 : Nat → Int32) (r24 : Nat → Int32) (r25 : Nat → Int32) (r26 : Nat → Int32) (r27 : Nat → Int32) (r28 : Nat → Int32) (r29 : Nat → Int32) (r30 : Nat → Int32) (r31 : Nat → Int32) (r32 : Nat → Int32) (r33 : Nat → Int32) (r34 : Nat → Int32) (r35 : Nat → Int32) (r36 : Nat → Int32) (l0 : Int64) (l1 : Int64) (q0 : Nat → Int64) (q1 : Nat → Int64) (q2 : Nat → Int64) (q3 : Nat → Int64) (q4 : Nat → Int64) (hR : RM T S L Y O E G P M i1 i11 r0 r1 r2 r3 r4 r5 r6 r19 r21 r22 r23 r24 r25 r26 r27 r28 r29 r30 r31 q0) : ∃ wx', vMet l D cy MX12_net 5 0 0 [.ref (A 0)] (WM cy A i0 i1 i2 i3 i4 i5 i6 i7 i8 i9 i10 i11 i12 i13 i14 i15 r0 r1 r2 r3 r4 r5 r6 r7 r8 r9 r10 r11 r12 r13 r14 r15 r16 r17 r18 r19 r20 r21 r22 r23 r24 r25 r26 r27 r28 r29 r30 r31 r32 r33 r34 r35 r36 l0 l1 q0 q1 q2 q3 q4) (fun r0 w => r0 = some (.int (ii e0)) ∧ w.Perm wx') ∧ IM cy (A 0) [] S L Y O E G P M wx' := by
  obtain ⟨hT, hS, hK0, hP⟩ := hD
  have hR0 := hR
  obtain ⟨rfl, htp, hN, hs, hsl, rfl, hp, hm⟩ := hR
  obtain ⟨hm0, hk0, hlw, n0, n1, n2, n3, hnm, hkn⟩ := S_M hS hN
  have hn := S_N hS
  have hr := S_R S
  have h24 := okS_24 hS hK0
  have hln := S_ln hS
  have hrp := S_rp hS
  have hot := otM_rL hsl.2.1
  have hP24 := row_le (fun p hp => Nat.le_trans (hP p hp).2 hln)
  have hK1 := hK0
  obtain ⟨k1, k2, k3, k4, k5, k6, k7, k8, k9, k10⟩ := hK0
  obtain ⟨sz', pl', bg', tkn', wd', td', wr', cd', tz', gv', nt', fn', ki', kn', lf', lt', cs', op', cm', e, g1⟩ := (net_M (F := F) (by omega) hT htp i0 i2 i3 i4 i5 l0 i6 i7 i8 i9 i10 (ii P.length) r1 q0 r2 r3 r4 r5 r6 r7 r8 r19 r23 r24 r27 r29).1 _ hS1
  exact ⟨_, LX12_net A i0 (ii T.length) i2 i3 i4 i5 i6 i7 i8 i9 i10 (ii P.length) i12 i13 i14 i15 r0 r1 r2 r3 r4 r5 r6 r7 r8 r9 r10 r11 r12 r13 r14 r15 r16 r17 r18 r19 r20 r21 r22 r23 r24 r25 r26 r27 r28 r29 r30 r31 r32 r33 r34 r35 r36 l0 l1 q0 q1 q2 q3 q4 F  _ e, A, (fun k => ([_, _, _, _, _, _, _, _, _, _, _, _, _, _, _, _] : List Int32).getD k 0), (fun k => ([_, _, _, _, _, _, _, _, _, _, _, _, _, _, _, _, _, _, _, _, _, _, _, _, _, _, _, _, _, _, _, _, _, _, _, _, _] : List (Nat → Int32)).getD k (fun _ => 0)), (fun k => ([_, _] : List Int64).getD k 0), (fun k => ([_, _, _, _, _] : List (Nat → Int64)).getD k (fun _ => 0)), rfl, rfl, ⟨rfl, (fun k hk => absurd hk (Nat.not_lt_zero k)), (ntM_fr hS.1 hN g1), hs, hsl, rfl, hp, hm⟩⟩
theorem uM_sum {F : Nat} (hF : 20000 ≤ F) {l : Launch} {D : va_G} {cy : Nat → ClassId} {T : List Nat} {S : NSt} {L Y O E G : List Nat} {P : List (List Nat)} {M : Nat → Option (List Nat × List Nat × List Nat × List Nat × List Nat)} (hD : okDt T S L Y O E G P) (a1 : Int32) (A : Nat → Nat) (i0 : Int32) (i1 : Int32) (i2 : Int32) (i3 : Int32) (i4 : Int32) (i5 : Int32) (i6 : Int32) (i7 : Int32) (i8 : Int32) (i9 : Int32) (i10 : Int32) (i11 : Int32) (i12 : Int32) (i13 : Int32) (i14 : Int32) (i15 : Int32) (r0 : Nat → Int32) (r1 : Nat → Int32) (r2 : Nat → Int32) (r3 : Nat → Int32) (r4 : Nat → Int32) (r5 : Nat → Int32) (r6 : Nat → Int32) (r7 : Nat → Int32) (r8 : Nat → Int32) (r9 : Nat → Int32) (r10 : Nat → Int32) (r11 : Nat → Int32) (r12 : Nat → Int32) (r13 : Nat → Int32) (r14 : Nat → Int32) (r15 : Nat → Int32) (r16 : Nat → Int32) (r17 : Nat → Int32) (r18 : Nat → Int32) (r19 : Nat → Int32) (r20 : Nat → Int32) (r21 : Nat → Int32) (r22 : Nat → Int32) (r23 : Nat → Int32) (r24 : Nat → Int32) (r25 : Nat → Int32) (r26 : Nat → Int32) (r27 : Nat → Int32) (r28 : Nat → Int32) (r29 : Nat → Int32) (r30 : Nat → Int32) (r31 : Nat → Int32) (r32 : Nat → Int32) (r33 : Nat → Int32) (r34 : Nat → Int32) (r35 : Nat → Int32) (r36 : Nat → Int32) (l0 : Int64) (l1 : Int64) (q0 : Nat → Int64) (q1 : Nat → Int64) (q2 : Nat → Int64) (q3 : Nat → Int64) (q4 : Nat → Int64) (hR : RM T S L Y O E G P M i1 i11 r0 r1 r2 r3 r4 r5 r6 r19 r21 r22 r23 r24 r25 r26 r27 r28 r29 r30 r31 q0) : ∃ wx', vMet l D cy MX12_sum 2 0 0 [.ref (A 0), .int a1] (WM cy A i0 i1 i2 i3 i4 i5 i6 i7 i8 i9 i10 i11 i12 i13 i14 i15 r0 r1 r2 r3 r4 r5 r6 r7 r8 r9 r10 r11 r12 r13 r14 r15 r16 r17 r18 r19 r20 r21 r22 r23 r24 r25 r26 r27 r28 r29 r30 r31 r32 r33 r34 r35 r36 l0 l1 q0 q1 q2 q3 q4) (fun r0 w => r0 = some (.int ((smA S.1.length (rdS S) L a1).getD 0)) ∧ w.Perm wx') ∧ vMet l D cy MX12_thrown 0 0 0 [.ref (A 0)] wx' (fun r0 w => r0 = some (.int (if smA S.1.length (rdS S) L a1 = none then 1 else 0)) ∧ w.Perm wx') ∧ IM cy (A 0) T S L Y O E G P M wx' := by
  obtain ⟨hT, hS, hK0, hP⟩ := hD
  have hR0 := hR
  obtain ⟨rfl, htp, hN, hs, hsl, rfl, hp, hm⟩ := hR
  obtain ⟨hm0, hk0, hlw, n0, n1, n2, n3, hnm, hkn⟩ := S_M hS hN
  have hn := S_N hS
  have hr := S_R S
  have h24 := okS_24 hS hK0
  have hln := S_ln hS
  have hrp := S_rp hS
  have hot := otM_rL hsl.2.1
  have hP24 := row_le (fun p hp => Nat.le_trans (hP p hp).2 hln)
  have hK1 := hK0
  obtain ⟨k1, k2, k3, k4, k5, k6, k7, k8, k9, k10⟩ := hK0
  have e := sum_M (F := F) hn hm0 n0 (by omega) k6 hs h24 a1 i0
  exact ⟨_, LX12_sum A i0 (ii T.length) i2 i3 i4 i5 i6 i7 i8 i9 i10 (ii P.length) i12 i13 i14 i15 r0 r1 r2 r3 r4 r5 r6 r7 r8 r9 r10 r11 r12 r13 r14 r15 r16 r17 r18 r19 r20 r21 r22 r23 r24 r25 r26 r27 r28 r29 r30 r31 r32 r33 r34 r35 r36 l0 l1 q0 q1 q2 q3 q4 F a1 _ e, LX12_thrown A (if smA S.1.length (rdS S) L a1 = none then 1 else 0) (ii T.length) i2 i3 i4 i5 i6 i7 i8 i9 i10 (ii P.length) i12 i13 i14 i15 r0 r1 r2 r3 r4 r5 r6 r7 r8 r9 r10 r11 r12 r13 r14 r15 r16 r17 r18 r19 r20 r21 r22 r23 r24 r25 r26 r27 r28 r29 r30 r31 r32 r33 r34 r35 r36 l0 l1 q0 q1 q2 q3 q4 F _ rfl, A, (fun k => ([_, _, _, _, _, _, _, _, _, _, _, _, _, _, _, _] : List Int32).getD k 0), (fun k => ([_, _, _, _, _, _, _, _, _, _, _, _, _, _, _, _, _, _, _, _, _, _, _, _, _, _, _, _, _, _, _, _, _, _, _, _, _] : List (Nat → Int32)).getD k (fun _ => 0)), (fun k => ([_, _] : List Int64).getD k 0), (fun k => ([_, _, _, _, _] : List (Nat → Int64)).getD k (fun _ => 0)), rfl, rfl, hR0⟩
theorem uM_rests {F : Nat} (hF : 20000 ≤ F) {l : Launch} {D : va_G} {cy : Nat → ClassId} {T : List Nat} {S : NSt} {L Y O E G : List Nat} {P : List (List Nat)} {M : Nat → Option (List Nat × List Nat × List Nat × List Nat × List Nat)} (hD : okDt T S L Y O E G P) (a1 : Int32) (a2 : Int32) (a3 : Int32) (a4 : Int32) (A : Nat → Nat) (i0 : Int32) (i1 : Int32) (i2 : Int32) (i3 : Int32) (i4 : Int32) (i5 : Int32) (i6 : Int32) (i7 : Int32) (i8 : Int32) (i9 : Int32) (i10 : Int32) (i11 : Int32) (i12 : Int32) (i13 : Int32) (i14 : Int32) (i15 : Int32) (r0 : Nat → Int32) (r1 : Nat → Int32) (r2 : Nat → Int32) (r3 : Nat → Int32) (r4 : Nat → Int32) (r5 : Nat → Int32) (r6 : Nat → Int32) (r7 : Nat → Int32) (r8 : Nat → Int32) (r9 : Nat → Int32) (r10 : Nat → Int32) (r11 : Nat → Int32) (r12 : Nat → Int32) (r13 : Nat → Int32) (r14 : Nat → Int32) (r15 : Nat → Int32) (r16 : Nat → Int32) (r17 : Nat → Int32) (r18 : Nat → Int32) (r19 : Nat → Int32) (r20 : Nat → Int32) (r21 : Nat → Int32) (r22 : Nat → Int32) (r23 : Nat → Int32) (r24 : Nat → Int32) (r25 : Nat → Int32) (r26 : Nat → Int32) (r27 : Nat → Int32) (r28 : Nat → Int32) (r29 : Nat → Int32) (r30 : Nat → Int32) (r31 : Nat → Int32) (r32 : Nat → Int32) (r33 : Nat → Int32) (r34 : Nat → Int32) (r35 : Nat → Int32) (r36 : Nat → Int32) (l0 : Int64) (l1 : Int64) (q0 : Nat → Int64) (q1 : Nat → Int64) (q2 : Nat → Int64) (q3 : Nat → Int64) (q4 : Nat → Int64) (hR : RM T S L Y O E G P M i1 i11 r0 r1 r2 r3 r4 r5 r6 r19 r21 r22 r23 r24 r25 r26 r27 r28 r29 r30 r31 q0) : ∃ wx', vMet l D cy MX12_rests 2 0 0 [.ref (A 0), .int a1, .int a2, .int a3, .int a4] (WM cy A i0 i1 i2 i3 i4 i5 i6 i7 i8 i9 i10 i11 i12 i13 i14 i15 r0 r1 r2 r3 r4 r5 r6 r7 r8 r9 r10 r11 r12 r13 r14 r15 r16 r17 r18 r19 r20 r21 r22 r23 r24 r25 r26 r27 r28 r29 r30 r31 r32 r33 r34 r35 r36 l0 l1 q0 q1 q2 q3 q4) (fun r0 w => r0 = some (.int ((rsA a1 a2 a3 a4).getD 0)) ∧ w.Perm wx') ∧ vMet l D cy MX12_thrown 0 0 0 [.ref (A 0)] wx' (fun r0 w => r0 = some (.int (if rsA a1 a2 a3 a4 = none then 1 else 0)) ∧ w.Perm wx') ∧ IM cy (A 0) T S L Y O E G P M wx' := by
  obtain ⟨hT, hS, hK0, hP⟩ := hD
  have hR0 := hR
  obtain ⟨rfl, htp, hN, hs, hsl, rfl, hp, hm⟩ := hR
  obtain ⟨hm0, hk0, hlw, n0, n1, n2, n3, hnm, hkn⟩ := S_M hS hN
  have hn := S_N hS
  have hr := S_R S
  have h24 := okS_24 hS hK0
  have hln := S_ln hS
  have hrp := S_rp hS
  have hot := otM_rL hsl.2.1
  have hP24 := row_le (fun p hp => Nat.le_trans (hP p hp).2 hln)
  have hK1 := hK0
  obtain ⟨k1, k2, k3, k4, k5, k6, k7, k8, k9, k10⟩ := hK0
  have e := rests_M (F := F) (by omega) a1 a2 a3 a4 i0
  exact ⟨_, LX12_rests A i0 (ii T.length) i2 i3 i4 i5 i6 i7 i8 i9 i10 (ii P.length) i12 i13 i14 i15 r0 r1 r2 r3 r4 r5 r6 r7 r8 r9 r10 r11 r12 r13 r14 r15 r16 r17 r18 r19 r20 r21 r22 r23 r24 r25 r26 r27 r28 r29 r30 r31 r32 r33 r34 r35 r36 l0 l1 q0 q1 q2 q3 q4 F a1 a2 a3 a4 _ e, LX12_thrown A (if rsA a1 a2 a3 a4 = none then 1 else 0) (ii T.length) i2 i3 i4 i5 i6 i7 i8 i9 i10 (ii P.length) i12 i13 i14 i15 r0 r1 r2 r3 r4 r5 r6 r7 r8 r9 r10 r11 r12 r13 r14 r15 r16 r17 r18 r19 r20 r21 r22 r23 r24 r25 r26 r27 r28 r29 r30 r31 r32 r33 r34 r35 r36 l0 l1 q0 q1 q2 q3 q4 F _ rfl, A, (fun k => ([_, _, _, _, _, _, _, _, _, _, _, _, _, _, _, _] : List Int32).getD k 0), (fun k => ([_, _, _, _, _, _, _, _, _, _, _, _, _, _, _, _, _, _, _, _, _, _, _, _, _, _, _, _, _, _, _, _, _, _, _, _, _] : List (Nat → Int32)).getD k (fun _ => 0)), (fun k => ([_, _] : List Int64).getD k 0), (fun k => ([_, _, _, _, _] : List (Nat → Int64)).getD k (fun _ => 0)), rfl, rfl, hR0⟩
