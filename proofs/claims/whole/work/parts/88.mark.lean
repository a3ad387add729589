/-! PURE: what is laid (line, year, other, who was ahead) and mark of both sides -/
/-- the class's shelf holds: line, year (as the class codes it), other, earlier, later -/
def shX (ah ls ys os : Int32) (lt yt ot ea la : Nat → Int32) (L Y O E G : List Nat) : Prop := ls = ii L.length ∧ rL lt L ∧ ys = ii Y.length ∧ rL yt Y ∧ os = ii O.length ∧ rL ot O ∧ ah = ii E.length ∧ rL ea E ∧ rL la G
/-- a line of a year: a tie, a cut, a pull -/
def okY (n y : Nat) : Prop := y < 2 * n ∨ (100 ≤ y ∧ y < 124) ∨ y = 200
def okS (n ln : Nat) (L Y O E G : List Nat) : Prop := L.length ≤ ln ∧ Y.length ≤ 40 ∧ O.length ≤ 24 ∧ E.length ≤ 8 ∧ G.length = E.length ∧ okL n L ∧ okL n O ∧ (∀ y ∈ Y, okY n y) ∧ (∀ e ∈ E, e < L.length) ∧ (∀ g ∈ G, g < L.length)
theorem cpA_rL2 {f g : Nat → Int32} {L : List Nat} {c : Nat} (h : rL f L) (hc : L.length ≤ c) : rL (cpA f g c) L := by
  intro k hk
  unfold cpA
  rw [if_pos (by omega)]
  exact h k hk
theorem cpy8 (f g : Nat → Int32) : va_cpy f g (0 : Int32).toNatClampNeg (0 : Int32).toNatClampNeg (8 : Int32).toNatClampNeg = cpA f g 8 := by
  have e1 : (0 : Int32).toNatClampNeg = 0 := by decide
  have e2 : (8 : Int32).toNatClampNeg = 8 := by decide
  rw [e1, e2]
  funext k
  unfold va_cpy cpA
  simp
theorem shelf_copy {F n ln : Nat} (hln : ln ≤ 24) {ah ls ys os : Int32} {lt yt ot ea la : Nat → Int32} {L Y O E G : List Nat} (h : shX ah ls ys os lt yt ot ea la L Y O E G) (hk : okS n ln L Y O E G) (ah2 ls2 ys2 os2 : Int32) (lt2 yt2 ot2 ea2 la2 : Nat → Int32) :
    ∃ lt' yt' ot' ea' la', fX8_copyFrom F 24 40 24 8 8 ah ls 24 lt ys 40 yt os 24 ot 8 ea 8 la ah2 ls2 lt2 ys2 yt2 os2 ot2 ea2 la2 = some (ah, ls, lt', ys, yt', os, ot', ea', la') ∧ shX ah ls ys os lt' yt' ot' ea' la' L Y O E G := by
  obtain ⟨h1, h2, h3, h4, h5, h6, h7, h8, h9⟩ := h
  obtain ⟨k1, k2, k3, k4, k5, k6⟩ := hk
  unfold fX8_copyFrom
  rw [h1, h3, h5, row_copy2 (by omega) (by omega) (by omega) (by omega), row_copy2 (by omega) (by omega) (by omega) (by omega), row_copy2 (by omega) (by omega) (by omega) (by omega)]
  simp only [Option.bind_some]
  rw [if_neg (by decide), if_neg (by decide), cpy8, cpy8]
  exact ⟨_, _, _, _, _, rfl, rfl, cpA_rL h2, rfl, cpA_rL h4, rfl, cpA_rL h6, h7, cpA_rL2 h8 (by omega), cpA_rL2 h9 (by omega)⟩
/-- the class's marks -/
def mkX (mah mlaid mls mys mos : Nat → Int32) (mlt myt mot mea mla : Nat → Nat → Int32) (n ln : Nat) (M : Nat → Option (List Nat × List Nat × List Nat × List Nat × List Nat)) : Prop := ∀ m, m < 4 → (M m = none ∧ mlaid m = 0) ∨ (∃ L Y O E G, M m = some (L, Y, O, E, G) ∧ mlaid m = 1 ∧ okS n ln L Y O E G ∧ shX (mah m) (mls m) (mys m) (mos m) (mlt m) (myt m) (mot m) (mea m) (mla m) L Y O E G)
theorem mark_X0 {F : Nat} {a b : Int32} (h : a < 0 ∨ ¬ a < (4 : Int32)) (ah ls : Int32) (lt : Nat → Int32) (ys : Int32) (yt : Nat → Int32) (os : Int32) (ot ea la : Nat → Int32) (pz : Int32) (mah mlaid mls : Nat → Int32) (mlt : Nat → Nat → Int32) (mys : Nat → Int32) (myt : Nat → Nat → Int32) (mos : Nat → Int32) (mot mea mla : Nat → Nat → Int32) : fX11_mark F 24 40 24 8 8 4 24 40 24 8 8 a b ah ls lt ys yt os ot ea la pz mah mlaid mls mlt mys myt mos mot mea mla = some (0, ah, ls, lt, ys, yt, os, ot, ea, la, pz, mah, mlaid, mls, mlt, mys, myt, mos, mot, mea, mla) := by
  unfold fX11_mark bX11_mark_L9
  by_cases h1 : a < 0
  · rw [if_pos h1]
  · rw [if_neg h1, if_neg (h.resolve_left h1)]
theorem i4_nat {a : Int32} (h1 : ¬ a < 0) (h2 : a < (4 : Int32)) : a.toNatClampNeg < 4 := by
  obtain ⟨e6, e7⟩ := i_nat h1
  rw [e6, k_4, ii_lt (by omega) (by omega)] at h2
  exact h2
/-- now is laid under the mark -/
theorem mark_X1 {F n ln : Nat} (hln : ln ≤ 24) {a : Int32} (h1 : ¬ a < 0) (h2 : a < (4 : Int32)) {ah ls ys os : Int32} {lt yt ot ea la : Nat → Int32} {L Y O E G : List Nat} (h : shX ah ls ys os lt yt ot ea la L Y O E G) (hk : okS n ln L Y O E G) (pz : Int32) {mah mlaid mls mys mos : Nat → Int32} {mlt myt mot mea mla : Nat → Nat → Int32} {M : Nat → Option (List Nat × List Nat × List Nat × List Nat × List Nat)} (hm : mkX mah mlaid mls mys mos mlt myt mot mea mla n ln M) :
    ∃ mah' mlaid' mls' mlt' mys' myt' mos' mot' mea' mla', fX11_mark F 24 40 24 8 8 4 24 40 24 8 8 a 0 ah ls lt ys yt os ot ea la pz mah mlaid mls mlt mys myt mos mot mea mla = some (1, ah, ls, lt, ys, yt, os, ot, ea, la, pz, mah', mlaid', mls', mlt', mys', myt', mos', mot', mea', mla') ∧ mkX mah' mlaid' mls' mys' mos' mlt' myt' mot' mea' mla' n ln (va_up M a.toNatClampNeg (some (L, Y, O, E, G))) := by
  have h3 := i4_nat h1 h2
  obtain ⟨lt', yt', ot', ea', la', e, hs⟩ := shelf_copy (F := F) hln h hk (mah a.toNatClampNeg) (mls a.toNatClampNeg) (mys a.toNatClampNeg) (mos a.toNatClampNeg) (mlt a.toNatClampNeg) (myt a.toNatClampNeg) (mot a.toNatClampNeg) (mea a.toNatClampNeg) (mla a.toNatClampNeg)
  unfold fX11_mark
  rw [if_neg h1, if_pos h2, if_neg (by
    intro h
    rcases h with h | h
    · exact h1 h
    · omega), if_pos rfl, e]
  simp only [Option.bind_some]
  refine ⟨_, _, _, _, _, _, _, _, _, _, rfl, ?_⟩
  intro m hm4
  by_cases hma : m = a.toNatClampNeg
  · subst hma
    right
    refine ⟨L, Y, O, E, G, ?_, ?_, hk, ?_⟩
    · rw [vu_same]
    · rw [vu_same]
    · simp only [vu_same]
      exact hs
  · simp only [vu_ne _ _ hma]
    exact hm m hm4
theorem mark_X2 {F : Nat} {a b : Int32} (h1 : ¬ a < 0) (h2 : a < (4 : Int32)) (hb : b ≠ 0) (ah ls : Int32) (lt : Nat → Int32) (ys : Int32) (yt : Nat → Int32) (os : Int32) (ot ea la : Nat → Int32) (pz : Int32) (mah mlaid mls : Nat → Int32) (mlt : Nat → Nat → Int32) (mys : Nat → Int32) (myt : Nat → Nat → Int32) (mos : Nat → Int32) (mot mea mla : Nat → Nat → Int32) (hl : mlaid a.toNatClampNeg = 0) : fX11_mark F 24 40 24 8 8 4 24 40 24 8 8 a b ah ls lt ys yt os ot ea la pz mah mlaid mls mlt mys myt mos mot mea mla = some (0, ah, ls, lt, ys, yt, os, ot, ea, la, pz, mah, mlaid, mls, mlt, mys, myt, mos, mot, mea, mla) := by
  have h3 := i4_nat h1 h2
  unfold fX11_mark
  rw [if_neg h1, if_pos h2, if_neg (by
    intro h
    rcases h with h | h
    · exact h1 h
    · omega), if_neg hb, if_pos hl]
theorem mark_X3 {F n ln : Nat} (hln : ln ≤ 24) {a b : Int32} (h1 : ¬ a < 0) (h2 : a < (4 : Int32)) (hb : b ≠ 0) (ah ls ys os : Int32) (lt yt ot ea la : Nat → Int32) (pz : Int32) {mah mlaid mls mys mos : Nat → Int32} {mlt myt mot mea mla : Nat → Nat → Int32} {L Y O E G : List Nat} (hl : mlaid a.toNatClampNeg = 1) (hk : okS n ln L Y O E G) (hm : shX (mah a.toNatClampNeg) (mls a.toNatClampNeg) (mys a.toNatClampNeg) (mos a.toNatClampNeg) (mlt a.toNatClampNeg) (myt a.toNatClampNeg) (mot a.toNatClampNeg) (mea a.toNatClampNeg) (mla a.toNatClampNeg) L Y O E G) :
    ∃ ah' ls' lt' ys' yt' os' ot' ea' la', fX11_mark F 24 40 24 8 8 4 24 40 24 8 8 a b ah ls lt ys yt os ot ea la pz mah mlaid mls mlt mys myt mos mot mea mla = some (1, ah', ls', lt', ys', yt', os', ot', ea', la', 0, mah, mlaid, mls, mlt, mys, myt, mos, mot, mea, mla) ∧ shX ah' ls' ys' os' lt' yt' ot' ea' la' L Y O E G := by
  have h3 := i4_nat h1 h2
  obtain ⟨lt', yt', ot', ea', la', e, hs⟩ := shelf_copy (F := F) hln hm hk ah ls ys os lt yt ot ea la
  unfold fX11_mark
  rw [if_neg h1, if_pos h2, if_neg (by
    intro h
    rcases h with h | h
    · exact h1 h
    · omega), if_neg hb, if_neg (by rw [hl]; decide), e]
  simp only [Option.bind_some, fX4_clear]
  exact ⟨_, _, _, _, _, _, _, _, _, rfl, hs⟩
/-- the reference's rows of slots -/
def yw (y : Nat) : Nat := if y < 100 then y else if y < 200 then 24 else 25
def yn (y : Nat) : Nat := if y < 100 then 0 else if y < 200 then y - 100 else 0
def yrM (li lw ln : Nat → Int32) (c : Nat) (Y : List Nat) : Prop := li c = ii Y.length ∧ ∀ k, k < Y.length → lw (40 * c + k) = ii (yw (Y.getD k 0)) ∧ ln (40 * c + k) = ii (yn (Y.getD k 0))
def otM (os ot : Nat → Int32) (c : Nat) (O : List Nat) : Prop := os c = ii O.length ∧ ∀ k, k < O.length → ot (24 * c + k) = ii (O.getD k 0)
def ahM (ah on tw : Nat → Int32) (c : Nat) (E G : List Nat) : Prop := ah c = ii E.length ∧ (∀ k, k < E.length → on (8 * c + k) = ii (E.getD k 0)) ∧ ∀ k, k < G.length → tw (8 * c + k) = ii (G.getD k 0)
theorem yrM_cp {li lw ln : Nat → Int32} {a b : Nat} {Y : List Nat} (h : yrM li lw ln a Y) (h40 : Y.length ≤ 40) : yrM (upd li b (li a)) (cpQ (40 * a) (40 * b) 40 lw) (cpQ (40 * a) (40 * b) 40 ln) b Y := by
  refine ⟨?_, ?_⟩
  · rw [upd_same]
    exact h.1
  · intro k hk
    unfold cpQ
    rw [if_pos (by omega), if_pos (by omega), show 40 * b + k - 40 * b = k from by omega]
    exact h.2 k hk
theorem yrM_ne {li lw ln : Nat → Int32} {a b c : Nat} {Y : List Nat} (h : yrM li lw ln c Y) (h40 : Y.length ≤ 40) (hc : c ≠ b) : yrM (upd li b (li a)) (cpQ (40 * a) (40 * b) 40 lw) (cpQ (40 * a) (40 * b) 40 ln) c Y := by
  refine ⟨?_, ?_⟩
  · rw [upd_ne _ _ hc]
    exact h.1
  · intro k hk
    unfold cpQ
    rw [if_neg (by omega), if_neg (by omega)]
    exact h.2 k hk
theorem otM_cp {os ot : Nat → Int32} {a b : Nat} {O : List Nat} (h : otM os ot a O) (h24 : O.length ≤ 24) : otM (upd os b (os a)) (cpQ (24 * a) (24 * b) 24 ot) b O := by
  refine ⟨?_, ?_⟩
  · rw [upd_same]
    exact h.1
  · intro k hk
    unfold cpQ
    rw [if_pos (by omega), show 24 * b + k - 24 * b = k from by omega]
    exact h.2 k hk
theorem otM_ne {os ot : Nat → Int32} {a b c : Nat} {O : List Nat} (h : otM os ot c O) (h24 : O.length ≤ 24) (hc : c ≠ b) : otM (upd os b (os a)) (cpQ (24 * a) (24 * b) 24 ot) c O := by
  refine ⟨?_, ?_⟩
  · rw [upd_ne _ _ hc]
    exact h.1
  · intro k hk
    unfold cpQ
    rw [if_neg (by omega)]
    exact h.2 k hk
theorem ahM_cp {ah on tw : Nat → Int32} {a b : Nat} {E G : List Nat} (h : ahM ah on tw a E G) (h8 : E.length ≤ 8) (hG : G.length = E.length) : ahM (upd ah b (ah a)) (cpQ (8 * a) (8 * b) 8 on) (cpQ (8 * a) (8 * b) 8 tw) b E G := by
  refine ⟨?_, ?_, ?_⟩
  · rw [upd_same]
    exact h.1
  · intro k hk
    unfold cpQ
    rw [if_pos (by omega), show 8 * b + k - 8 * b = k from by omega]
    exact h.2.1 k hk
  · intro k hk
    unfold cpQ
    rw [if_pos (by omega), show 8 * b + k - 8 * b = k from by omega]
    exact h.2.2 k hk
theorem ahM_ne {ah on tw : Nat → Int32} {a b c : Nat} {E G : List Nat} (h : ahM ah on tw c E G) (h8 : E.length ≤ 8) (hG : G.length = E.length) (hc : c ≠ b) : ahM (upd ah b (ah a)) (cpQ (8 * a) (8 * b) 8 on) (cpQ (8 * a) (8 * b) 8 tw) c E G := by
  refine ⟨?_, ?_, ?_⟩
  · rw [upd_ne _ _ hc]
    exact h.1
  · intro k hk
    unfold cpQ
    rw [if_neg (by omega)]
    exact h.2.1 k hk
  · intro k hk
    unfold cpQ
    rw [if_neg (by omega)]
    exact h.2.2 k hk
/-- what the reference has laid in slot c (year, other, ahead) -/
def slM (li lw ln os ot ah on tw : Nat → Int32) (c : Nat) (Y O E G : List Nat) : Prop := yrM li lw ln c Y ∧ otM os ot c O ∧ ahM ah on tw c E G
/-- the reference's marks -/
def mkM (laid md li lw lN os ot ah on tw : Nat → Int32) (n ln : Nat) (M : Nat → Option (List Nat × List Nat × List Nat × List Nat × List Nat)) : Prop := ∀ m, m < 4 → (M m = none ∧ laid m = 0) ∨ (∃ L Y O E G, M m = some (L, Y, O, E, G) ∧ laid m = 1 ∧ okS n ln L Y O E G ∧ rS (fun j => md (25 * m + j)) L ∧ slM li lw lN os ot ah on tw (m + 1) Y O E G)
theorem mark_M0 {F : Nat} {a b th : Int32} (h : a < 0 ∨ ¬ a < (4 : Int32)) (d : Int32) (s md laid li lw ln os ot ah on tw : Nat → Int32) : fX12_mark F 25 100 4 6 240 240 6 144 5 40 40 a b th d s md laid li lw ln os ot ah on tw = some (0, 0, d, s, md, laid, li, lw, ln, os, ot, ah, on, tw) := by
  unfold fX12_mark bX12_mark_L27
  rw [within_eq, if_pos (by
    rcases h with h | h
    · exact Or.inl h
    · right
      rw [Int32.lt_iff_toInt_lt] at h ⊢
      have e4 : (4 : Int32).toInt = 4 := by decide
      have e3 : (3 : Int32).toInt = 3 := by decide
      rw [e4] at h
      rw [e3]
      omega)]
  rfl
theorem w03 {a : Int32} (h1 : ¬ a < 0) (h2 : a < (4 : Int32)) : ¬ (a < 0 ∨ (3 : Int32) < a) := by
  intro h
  rcases h with h | h
  · exact h1 h
  · rw [Int32.lt_iff_toInt_lt] at h h2
    have e4 : (4 : Int32).toInt = 4 := by decide
    have e3 : (3 : Int32).toInt = 3 := by decide
    rw [e4] at h2
    rw [e3] at h
    omega
theorem mark_M2 {F : Nat} {a b th : Int32} (h1 : ¬ a < 0) (h2 : a < (4 : Int32)) (hb : b ≠ 0) (d : Int32) (s md laid li lw ln os ot ah on tw : Nat → Int32) (hl : laid a.toNatClampNeg = 0) : fX12_mark F 25 100 4 6 240 240 6 144 5 40 40 a b th d s md laid li lw ln os ot ah on tw = some (0, 0, d, s, md, laid, li, lw, ln, os, ot, ah, on, tw) := by
  have h3 := i4_nat h1 h2
  unfold fX12_mark bX12_mark_L27
  rw [within_eq, if_neg (w03 h1 h2)]
  simp only [Option.bind_some]
  rw [if_neg (by decide), if_neg hb, if_neg (by
    intro h
    rcases h with h | h
    · exact h1 h
    · omega), if_pos hl]
theorem rS_cpB {f g : Nat → Int32} {p q : Nat} {L : List Nat} (h : rS (fun j => f (p + j)) L) (h24 : L.length ≤ 24) : rS (fun j => cpB f g p q 0 (q + j)) L := by
  refine ⟨?_, ?_⟩
  · show cpB f g p q 0 (q + 0) = _
    unfold cpB
    rw [if_pos (by omega), show q + 0 - q = 0 from by omega]
    exact h.1
  · intro k hk
    show cpB f g p q 0 (q + (k + 1)) = _
    unfold cpB
    rw [if_pos (by omega), show q + (k + 1) - q = k + 1 from by omega]
    exact h.2 k hk
theorem rS_cpBn {f g : Nat → Int32} {p q r : Nat} {L : List Nat} (h : rS (fun j => g (r + j)) L) (h24 : L.length ≤ 24) (hr : r + 25 ≤ q ∨ q + 25 ≤ r) : rS (fun j => cpB f g p q 0 (r + j)) L := by
  refine ⟨?_, ?_⟩
  · show cpB f g p q 0 (r + 0) = _
    unfold cpB
    rw [if_neg (by omega)]
    exact h.1
  · intro k hk
    show cpB f g p q 0 (r + (k + 1)) = _
    unfold cpB
    rw [if_neg (by omega)]
    exact h.2 k hk
theorem mark_M1 {F n lN : Nat} (hF : 1000 ≤ F) (hln : lN ≤ 24) {a th : Int32} (h1 : ¬ a < 0) (h2 : a < (4 : Int32)) {L Y O E G : List Nat} {s li lw ln os ot ah on tw : Nat → Int32} (hs : rS s L) (h : slM li lw ln os ot ah on tw 0 Y O E G) (hk : okS n lN L Y O E G) (d : Int32) {md laid : Nat → Int32} {M : Nat → Option (List Nat × List Nat × List Nat × List Nat × List Nat)} (hm : mkM laid md li lw ln os ot ah on tw n lN M) :
    ∃ md' laid' li' lw' ln' os' ot' ah' on' tw', fX12_mark F 25 100 4 6 240 240 6 144 5 40 40 a 0 th d s md laid li lw ln os ot ah on tw = some (1, 0, d, s, md', laid', li', lw', ln', os', ot', ah', on', tw') ∧ slM li' lw' ln' os' ot' ah' on' tw' 0 Y O E G ∧ mkM laid' md' li' lw' ln' os' ot' ah' on' tw' n lN (va_up M a.toNatClampNeg (some (L, Y, O, E, G))) := by
  have h3 := i4_nat h1 h2
  obtain ⟨e6, e7⟩ := i_nat h1
  generalize a.toNatClampNeg = q at h3 e6 e7
  subst e6
  unfold fX12_mark bX12_mark_L29 bX12_mark_L47 bX12_mark_L59 bX12_mark_L126
  rw [within_eq, if_neg (w03 h1 h2)]
  simp only [Option.bind_some]
  rw [if_neg (by decide), if_pos trivial, if_neg (by
    intro h
    rcases h with h | h
    · exact h1 h
    · rw [ii_nat (by omega)] at h
      omega), if_pos trivial, if_pos trivial, k_1, ii_add, k_0, laysLines_eq hF (by omega) (by omega) (by omega), laysOther_eq hF (by omega) (by omega) (by omega), laysAhead_eq hF (by omega) (by omega) (by omega)]
  simp only [Option.bind_some]
  rw [k_25, ii_mul, if_pos trivial, copies_eq (by omega) (by omega) (by omega) (by omega) (by omega)]
  simp only [Option.bind_some]
  obtain ⟨k1, k2, k3, k4, k5, k6⟩ := hk
  refine ⟨_, _, _, _, _, _, _, _, _, _, rfl, ⟨yrM_ne h.1 k2 (by omega), otM_ne h.2.1 k3 (by omega), ahM_ne h.2.2 k4 k5 (by omega)⟩, ?_⟩
  intro m hm4
  rw [ii_nat (by omega)]
  by_cases hma : m = q
  · subst hma
    right
    refine ⟨L, Y, O, E, G, ?_, ?_, ⟨k1, k2, k3, k4, k5, k6⟩, ?_, ?_⟩
    · rw [vu_same]
    · rw [upd_same]
      rfl
    · exact rS_cpB (f := s) (p := 0) (by simpa using hs) (by omega)
    · rw [show m + 1 = 1 + m from by omega]
      exact ⟨yrM_cp h.1 k2, otM_cp h.2.1 k3, ahM_cp h.2.2 k4 k5⟩
  · rw [vu_ne _ _ hma, upd_ne _ _ hma]
    rcases hm m hm4 with hm | ⟨L2, Y2, O2, E2, G2, hm, g1, g2, g3, g4⟩
    · exact Or.inl hm
    · right
      obtain ⟨j1, j2, j3, j4, j5, j6⟩ := g2
      exact ⟨L2, Y2, O2, E2, G2, hm, g1, ⟨j1, j2, j3, j4, j5, j6⟩, rS_cpBn g3 (by omega) (by omega), yrM_ne g4.1 j2 (by omega), otM_ne g4.2.1 j3 (by omega), ahM_ne g4.2.2 j4 j5 (by omega)⟩
theorem mark_M3 {F n lN : Nat} (hF : 1000 ≤ F) (hln : lN ≤ 24) {a th : Int32} (h1 : ¬ a < 0) (h2 : a < (4 : Int32)) {L Y O E G : List Nat} {s li lw ln os ot ah on tw : Nat → Int32} (hk : okS n lN L Y O E G) (d : Int32) {md laid : Nat → Int32} {M : Nat → Option (List Nat × List Nat × List Nat × List Nat × List Nat)} (hm : mkM laid md li lw ln os ot ah on tw n lN M) (hM : M a.toNatClampNeg = some (L, Y, O, E, G)) :
    ∃ s' laid' li' lw' ln' os' ot' ah' on' tw', fX12_mark F 25 100 4 6 240 240 6 144 5 40 40 a 1 th d s md laid li lw ln os ot ah on tw = some (1, 0, 0, s', md, laid', li', lw', ln', os', ot', ah', on', tw') ∧ rS s' L ∧ slM li' lw' ln' os' ot' ah' on' tw' 0 Y O E G ∧ mkM laid' md li' lw' ln' os' ot' ah' on' tw' n lN M := by
  have h3 := i4_nat h1 h2
  obtain ⟨e6, e7⟩ := i_nat h1
  generalize a.toNatClampNeg = q at h3 e6 e7 hM
  subst e6
  rcases hm q h3 with hm9 | ⟨L9, Y9, O9, E9, G9, hm9, hl, -, g3, g4⟩
  · rw [hM] at hm9
    cases hm9.1
  · rw [hM] at hm9
    cases hm9
    unfold fX12_mark bX12_mark_L29 bX12_mark_L47 bX12_mark_L59 bX12_mark_L126
    have eq : ¬ (ii q < 0 ∨ 4 ≤ (ii q).toNatClampNeg) := by
      intro h
      rcases h with h | h
      · exact h1 h
      · rw [ii_nat (by omega)] at h
        omega
    rw [within_eq, if_neg (w03 h1 h2)]
    simp only [Option.bind_some]
    rw [if_neg (by decide), if_neg (by decide), if_neg eq, ii_nat (by omega), if_neg (by rw [hl]; decide), if_neg (by rw [ii_nat (by omega)] at eq; exact eq), if_neg (by decide), if_neg (by decide), k_1, ii_add, k_0, laysLines_eq hF (by omega) (by omega) (by omega), laysOther_eq hF (by omega) (by omega) (by omega), laysAhead_eq hF (by omega) (by omega) (by omega)]
    simp only [Option.bind_some]
    rw [k_25, ii_mul, if_neg (by decide), copies_eq (by omega) (by omega) (by omega) (by omega) (by omega)]
    simp only [Option.bind_some]
    obtain ⟨k1, k2, k3, k4, k5, k6⟩ := hk
    refine ⟨_, _, _, _, _, _, _, _, _, _, rfl, ?_, ?_, ?_⟩
    · have := rS_cpB (g := s) (q := 0) g3 (by omega)
      simpa using this
    · rw [show q + 1 = 1 + q from by omega] at g4
      exact ⟨yrM_cp g4.1 k2, otM_cp g4.2.1 k3, ahM_cp g4.2.2 k4 k5⟩
    · intro m hm4
      rcases hm m hm4 with hm | ⟨L2, Y2, O2, E2, G2, hm, g1, g2, g3, g4⟩
      · left
        refine ⟨hm.1, ?_⟩
        rw [upd_ne]
        · exact hm.2
        · rintro rfl
          rw [hM] at hm
          cases hm.1
      · right
        obtain ⟨j1, j2, j3, j4, j5, j6⟩ := g2
        refine ⟨L2, Y2, O2, E2, G2, hm, ?_, ⟨j1, j2, j3, j4, j5, j6⟩, g3, yrM_ne g4.1 j2 (by omega), otM_ne g4.2.1 j3 (by omega), ahM_ne g4.2.2 j4 j5 (by omega)⟩
        by_cases hma : m = q
        · subst hma
          rw [upd_same]
          rfl
        · rw [upd_ne _ _ hma]
          exact g1
