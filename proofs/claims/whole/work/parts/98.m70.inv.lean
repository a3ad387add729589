/-! THE INVARIANT -/
def rdS (S : NSt) : Nat → Nat := fun f => rdk (kdS S f)
def okDt (T : List Nat) (S : NSt) (L Y O E G : List Nat) (P : List (List Nat)) : Prop := okT T ∧ okNS S ∧ okS S.1.length (lnS S) L Y O E G ∧ ∀ p ∈ P, okL S.1.length p ∧ p.length ≤ lnS S
def RX (T : List Nat) (S : NSt) (L Y O E G : List Nat) (P : List (List Nat)) (M : Nat → Option (List Nat × List Nat × List Nat × List Nat × List Nat)) (i0 : Int32) (i4 : Int32) (i5 : Int32) (i6 : Int32) (i7 : Int32) (i8 : Int32) (i9 : Int32) (i10 : Int32) (i27 : Int32) (i28 : Int32) (i29 : Int32) (i30 : Int32) (i32 : Int32) (i33 : Int32) (r0 : Nat → Int32) (r3 : Nat → Int32) (r4 : Nat → Int32) (r5 : Nat → Int32) (r6 : Nat → Int32) (r7 : Nat → Int32) (r10 : Nat → Int32) (r20 : Nat → Int32) (r21 : Nat → Int32) (r22 : Nat → Int32) (r23 : Nat → Int32) (r24 : Nat → Int32) (r25 : Nat → Int32) (r26 : Nat → Int32) (r27 : Nat → Int32) (r28 : Nat → Int32) (r29 : Nat → Int32) (r30 : Nat → Int32) (t0 : Nat → Nat → Int32) (t1 : Nat → Nat → Int32) (t2 : Nat → Nat → Int32) (t3 : Nat → Nat → Int32) (t4 : Nat → Nat → Int32) (t5 : Nat → Nat → Int32) (q1 : Nat → Int64) : Prop := i0 = ii T.length ∧ rL r0 T ∧ ntX S i4 i5 i6 i7 i8 i9 q1 r3 r4 r5 r6 i10 r7 r10 ∧ shX i30 i27 i28 i29 r20 r21 r22 r23 r24 L Y O E G ∧ (∃ o, i32 = ii o ∧ i33 = ii P.length ∧ rPX o r30 t5 P) ∧ mkX r28 r29 r25 r26 r27 t0 t1 t2 t3 t4 S.1.length (lnS S) M
def RM (T : List Nat) (S : NSt) (L Y O E G : List Nat) (P : List (List Nat)) (M : Nat → Option (List Nat × List Nat × List Nat × List Nat × List Nat)) (i1 : Int32) (i11 : Int32) (r0 : Nat → Int32) (r1 : Nat → Int32) (r2 : Nat → Int32) (r3 : Nat → Int32) (r4 : Nat → Int32) (r5 : Nat → Int32) (r6 : Nat → Int32) (r19 : Nat → Int32) (r21 : Nat → Int32) (r22 : Nat → Int32) (r23 : Nat → Int32) (r24 : Nat → Int32) (r25 : Nat → Int32) (r26 : Nat → Int32) (r27 : Nat → Int32) (r28 : Nat → Int32) (r29 : Nat → Int32) (r30 : Nat → Int32) (r31 : Nat → Int32) (q0 : Nat → Int64) : Prop := i1 = ii T.length ∧ rL r0 T ∧ ntM S r1 q0 r2 r3 r4 r5 r6 ∧ rS r19 L ∧ slM r24 r25 r26 r27 r28 r29 r30 r31 0 Y O E G ∧ i11 = ii P.length ∧ rPM r22 P ∧ mkM r23 r21 r24 r25 r26 r27 r28 r29 r30 r31 S.1.length (lnS S) M
def IX (cy : Nat → ClassId) (ax : Nat) (T : List Nat) (S : NSt) (L Y O E G : List Nat) (P : List (List Nat)) (M : Nat → Option (List Nat × List Nat × List Nat × List Nat × List Nat)) (wx : va_W) : Prop := ∃ (A : Nat → Nat) (B : Nat → Nat → Nat) (iv : Nat → Int32) (rv : Nat → Nat → Int32) (tv : Nat → Nat → Nat → Int32) (qv : Nat → Nat → Int64) (dr : Int64), wx = WX cy A B (iv 0) (iv 1) (iv 2) (iv 3) (iv 4) (iv 5) (iv 6) (iv 7) (iv 8) (iv 9) (iv 10) (iv 11) (iv 12) (iv 13) (iv 14) (iv 15) (iv 16) (iv 17) (iv 18) (iv 19) (iv 20) (iv 21) (iv 22) (iv 23) (iv 24) (iv 25) (iv 26) (iv 27) (iv 28) (iv 29) (iv 30) (iv 31) (iv 32) (iv 33) (iv 34) (iv 35) (iv 36) (iv 37) (iv 38) (iv 39) (iv 40) (iv 41) (iv 42) (iv 43) (iv 44) (iv 45) (iv 46) (iv 47) (iv 48) (iv 49) (rv 0) (rv 1) (rv 2) (rv 3) (rv 4) (rv 5) (rv 6) (rv 7) (rv 8) (rv 9) (rv 10) (rv 11) (rv 12) (rv 13) (rv 14) (rv 15) (rv 16) (rv 17) (rv 18) (rv 19) (rv 20) (rv 21) (rv 22) (rv 23) (rv 24) (rv 25) (rv 26) (rv 27) (rv 28) (rv 29) (rv 30) (rv 31) (rv 32) (rv 33) (rv 34) (rv 35) (rv 36) (rv 37) (rv 38) (rv 39) (rv 40) (rv 41) (rv 42) (rv 43) (rv 44) (rv 45) (rv 46) (rv 47) (rv 48) (rv 49) (rv 50) (rv 51) (rv 52) (rv 53) (rv 54) (rv 55) (rv 56) (rv 57) (rv 58) (rv 59) (rv 60) (rv 61) (rv 62) (rv 63) (rv 64) (rv 65) (rv 66) (rv 67) (tv 0) (tv 1) (tv 2) (tv 3) (tv 4) (tv 5) (tv 6) (tv 7) (tv 8) (qv 0) (qv 1) (qv 2) (qv 3) (qv 4) (qv 5) dr ∧ A 0 = ax ∧ RX T S L Y O E G P M (iv 0) (iv 4) (iv 5) (iv 6) (iv 7) (iv 8) (iv 9) (iv 10) (iv 27) (iv 28) (iv 29) (iv 30) (iv 32) (iv 33) (rv 0) (rv 3) (rv 4) (rv 5) (rv 6) (rv 7) (rv 10) (rv 20) (rv 21) (rv 22) (rv 23) (rv 24) (rv 25) (rv 26) (rv 27) (rv 28) (rv 29) (rv 30) (tv 0) (tv 1) (tv 2) (tv 3) (tv 4) (tv 5) (qv 1)
def IM (cy : Nat → ClassId) (am : Nat) (T : List Nat) (S : NSt) (L Y O E G : List Nat) (P : List (List Nat)) (M : Nat → Option (List Nat × List Nat × List Nat × List Nat × List Nat)) (wm : va_W) : Prop := ∃ (A : Nat → Nat) (iv : Nat → Int32) (rv : Nat → Nat → Int32) (lv : Nat → Int64) (qv : Nat → Nat → Int64), wm = WM cy A (iv 0) (iv 1) (iv 2) (iv 3) (iv 4) (iv 5) (iv 6) (iv 7) (iv 8) (iv 9) (iv 10) (iv 11) (iv 12) (iv 13) (iv 14) (iv 15) (rv 0) (rv 1) (rv 2) (rv 3) (rv 4) (rv 5) (rv 6) (rv 7) (rv 8) (rv 9) (rv 10) (rv 11) (rv 12) (rv 13) (rv 14) (rv 15) (rv 16) (rv 17) (rv 18) (rv 19) (rv 20) (rv 21) (rv 22) (rv 23) (rv 24) (rv 25) (rv 26) (rv 27) (rv 28) (rv 29) (rv 30) (rv 31) (rv 32) (rv 33) (rv 34) (rv 35) (rv 36) (lv 0) (lv 1) (qv 0) (qv 1) (qv 2) (qv 3) (qv 4) ∧ A 0 = am ∧ RM T S L Y O E G P M (iv 1) (iv 11) (rv 0) (rv 1) (rv 2) (rv 3) (rv 4) (rv 5) (rv 6) (rv 19) (rv 21) (rv 22) (rv 23) (rv 24) (rv 25) (rv 26) (rv 27) (rv 28) (rv 29) (rv 30) (rv 31) (qv 0)
def INV (cy : Nat → ClassId) (ax am : Nat) (wx wm : va_W) : Prop := ∃ (T : List Nat) (S : NSt) (L Y O E G : List Nat) (P : List (List Nat)) (M : Nat → Option (List Nat × List Nat × List Nat × List Nat × List Nat)), okDt T S L Y O E G P ∧ IX cy ax T S L Y O E G P M wx ∧ IM cy am T S L Y O E G P M wm
theorem S_R (S : NSt) : okR (rdS S) := by
  intro f
  unfold rdS rdk
  split
  · exact Or.inr (Or.inl rfl)
  · split
    · exact Or.inr (Or.inr (Or.inl rfl))
    · split
      · exact Or.inr (Or.inr (Or.inr rfl))
      · exact Or.inl rfl
theorem S_N {S : NSt} (h : okNS S) : okN S.1.length S.2.2.1 (rdS S) := by
  obtain ⟨h1, _, _, _, h5, _⟩ := h
  exact ⟨h1, fun f _ => ⟨(h5 f).1, S_R S f, (h5 f).2.1⟩, fun f g => (h5 f).2.2.2 g⟩
theorem S_ln {S : NSt} (h : okNS S) : lnS S ≤ 24 := by
  unfold lnS
  cases e : S.2.2.2.2.1 with
  | none => exact Nat.le_refl _
  | some l => exact (h.2.2.2.2.2.1 l e).2
theorem S_rp {S : NSt} (h : okNS S) : rpS S ≤ 999 := by
  unfold rpS
  cases e : S.2.2.2.2.2.1 with
  | none => show 200 ≤ 999; decide
  | some r => exact h.2.2.2.2.2.2.1 r e
theorem S_kd {S : NSt} (h : okNS S) (f : Nat) (hf : f < S.1.length) : kdS S f < 4 := by
  unfold kdS
  have hl := h.2.2.1
  have hf2 : f < S.2.1.length := by omega
  have : S.2.1.getD f 0 ∈ S.2.1 := by
    rw [List.getD_eq_getElem?_getD, List.getElem?_eq_getElem hf2]
    simp
  exact h.2.2.2.1 _ this
theorem S_X {S : NSt} {fo pr ln rp lt rt : Int32} {nm : Nat → Int64} {kx kn sx rx : Nat → Int32} {lz : Int32} {lc tkn : Nat → Int32} (h : ntX S fo pr ln rp lt rt nm kx kn sx rx lz lc tkn) : netX S.1.length S.2.2.1 (rdS S) sx rx ∧ (∀ f, f < S.1.length → kn f = ii (S.2.2.1 f)) ∧ (∀ f, f < S.1.length → kx f = ii (kdS S f)) ∧ tkX S.1.length (lnS S) (tauS S) tkn ∧ nmX S.1 nm ∧ fo = ii S.1.length ∧ pr = ii S.2.2.2.1 ∧ ln = ii (lnS S) ∧ rp = ii (rpS S) := by
  obtain ⟨⟨e1, e2, e3, e4, e5, e6, e7, e8, e9⟩, h2, h3⟩ := h
  exact ⟨fun f hf => ⟨(e8 f hf).2.2.1, (e8 f hf).2.2.2⟩, fun f hf => (e8 f hf).2.1, fun f hf => (e8 f hf).1, h3, e7, e1, e2, e3, e4⟩
theorem S_M {S : NSt} (hS : okNS S) {nt : Nat → Int32} {fn : Nat → Int64} {ki kn lf lt cs : Nat → Int32} (h : ntM S nt fn ki kn lf lt cs) : netM S.1.length S.2.2.1 (rdS S) ki kn ∧ kdM S.1.length (kdS S) ki ∧ lwM S.2.2.2.2.2.2 lf lt cs ∧ nt 0 = ii S.1.length ∧ nt 1 = ii S.2.2.2.1 ∧ nt 2 = ii (lnS S) ∧ nt 3 = ii (rpS S) ∧ nmM 0 S.1 fn ∧ ∀ f, f < S.1.length → kn f = ii (S.2.2.1 f) := by
  obtain ⟨e1, e2, e3, e4, e5, e6, e7, e8, e9, e10⟩ := h
  exact ⟨fun f hf => ⟨(e6 f hf).2, kdS S f, S_kd hS f hf, (e6 f hf).1, rfl⟩, fun f hf => ⟨S_kd hS f hf, (e6 f hf).1⟩, ⟨e7, e8, e9, e10, hS.2.2.2.2.2.2.2⟩, e1, e2, e3, e4, e5, fun f hf => (e6 f hf).2⟩
theorem otM_rL {os ot : Nat → Int32} {O : List Nat} (h : otM os ot 0 O) : rL ot O := fun k hk => by
  have := h.2 k hk
  rw [Nat.mul_zero, Nat.zero_add] at this
  exact this
theorem fd_okT {T : List Nat} {c : Nat} (h : okT T) : okT (fd T c) := by
  unfold fd
  split
  · rename_i hc
    refine ⟨by rw [List.length_append, List.length_singleton]; omega, fun x hx => ?_⟩
    rcases List.mem_append.mp hx with hx | hx
    · exact h.2 x hx
    · rw [List.mem_singleton.mp hx]; omega
  · exact h
theorem fdX_okT {x : Int64} : ∀ {r k : Nat} {T : List Nat}, okT T → okT (fdX x r k T)
  | 0, _, _, h => h
  | r + 1, k, T, h => fdX_okT (r := r) (k := k + 1) (fd_okT h)
theorem okS_24 {S : NSt} (hS : okNS S) {L Y O E G : List Nat} (h : okS S.1.length (lnS S) L Y O E G) : L.length ≤ 24 := Nat.le_trans h.1 (S_ln hS)
theorem mem_kp {P : List (List Nat)} {L p : List Nat} (h : p ∈ kp P L) : p ∈ P ∨ p = L := by
  unfold kp at h
  split at h
  · rcases List.mem_append.mp h with h | h
    · exact Or.inl (List.mem_of_mem_tail h)
    · exact Or.inr (List.mem_singleton.mp h)
  · rcases List.mem_append.mp h with h | h
    · exact Or.inl h
    · exact Or.inr (List.mem_singleton.mp h)
theorem row_le {P : List (List Nat)} {m : Nat} (h : ∀ p ∈ P, p.length ≤ m) : ∀ k, k < P.length → (P.getD k []).length ≤ m := by
  intro k hk
  refine h _ ?_
  rw [List.getD_eq_getElem?_getD, List.getElem?_eq_getElem hk]
  simp
