/-! PURE: the class reads a net -/
def kdS (S : NSt) : Nat → Nat := fun f => S.2.1.getD f 0
def lnS (S : NSt) : Nat := S.2.2.2.2.1.getD 24
def rpS (S : NSt) : Nat := S.2.2.2.2.2.1.getD 200
def tauS (S : NSt) : Nat → Nat → Nat := tau S.2.2.2.2.2.2 (kdS S) S.2.2.1
theorem kdS_lt {S : NSt} (h : okNS S) (f : Nat) : kdS S f < 4 := by
  unfold kdS
  by_cases hf : f < S.2.1.length
  · have : S.2.1.getD f 0 = S.2.1[f] := by
      rw [List.getD_eq_getElem?_getD, List.getElem?_eq_getElem hf]
      rfl
    rw [this]
    exact h.2.2.2.1 _ (List.getElem_mem hf)
  · rw [List.getD_eq_getElem?_getD, List.getElem?_eq_none (by omega)]
    exact (by decide : 0 < 4)
theorem lnS_le {S : NSt} (h : okNS S) : 1 ≤ lnS S ∧ lnS S ≤ 24 := by
  unfold lnS
  cases ho : S.2.2.2.2.1 with
  | none => exact ⟨by decide, by decide⟩
  | some l => exact h.2.2.2.2.2.1 l ho
theorem rpS_le {S : NSt} (h : okNS S) : rpS S ≤ 999 := by
  unfold rpS
  cases ho : S.2.2.2.2.2.1 with
  | none => show 200 ≤ 999; decide
  | some l => exact h.2.2.2.2.2.2.1 l ho
theorem readNet_L {F : Nat} (hF : 2000 ≤ F) {T : List Nat} {TK : List Tk} {psz cn : Int32} {tk sta : Nat → Int32} {vl : Nat → Int64} :
    ∀ (f t x2 : Nat) (S : NSt) (R : List Tk) (fo pr ln rp lt rt : Int32) (nm : Nat → Int64) (kx kn sx rx : Nat → Int32) (lz wa wi br pd : Int32) (lc wt sk tkn : Nat → Int32) (he fa : Int32), R.length ≤ f → f < t → x2 + R.length ≤ 1001 → okNS S → endsE R → tpX T TK R psz cn he tk sta vl → nsX S fo pr ln rp lt rt nm kx kn sx rx lz lc →
    (∀ e, naS f S R = .inl e → ∃ fo' pr' ln' rp' lt' rt' nm' kx' kn' sx' rx' lz' wa' wi' br' pd' lc' wt' sk' tkn' he', fX2_readNet_L6 F 6 6 6 6 6 1000 64 64 288 psz cn 1001 tk 1001 sta 1001 vl t (ii x2) fo pr ln rp lt rt nm kx kn sx rx lz wa wi br pd lc wt sk tkn he fa = some (0, fo', pr', ln', rp', lt', rt', nm', kx', kn', sx', rx', lz', wa', wi', br', pd', lc', wt', sk', tkn', he', ii e)) ∧ (∀ S', naS f S R = .inr S' → ∃ fo' pr' ln' rp' lt' rt' nm' kx' kn' sx' rx' lz' wa' wi' br' pd' lc' wt' sk' tkn' he', fX2_readNet_L6 F 6 6 6 6 6 1000 64 64 288 psz cn 1001 tk 1001 sta 1001 vl t (ii x2) fo pr ln rp lt rt nm kx kn sx rx lz wa wi br pd lc wt sk tkn he fa = some (1, fo', pr', ln', rp', lt', rt', nm', kx', kn', sx', rx', lz', wa', wi', br', pd', lc', wt', sk', tkn', he', fa) ∧ nsX S' fo' pr' ln' rp' lt' rt' nm' kx' kn' sx' rx' lz' lc' ∧ okNS S' ∧ tkX S'.1.length (lnS S') (tauS S') tkn') := by
  have e1k : ∀ a : Nat, ii a + (1 : Int32) = ii (a + 1) := fun a => (ii_add a 1)
  intro f
  induction f with
  | zero =>
    intro t x2 S R fo pr ln rp lt rt nm kx kn sx rx lz wa wi br pd lc wt sk tkn he fa h1 h2 h3 hS hend h hx
    exfalso
    obtain ⟨A, z, rfl⟩ := hend
    simp at h1
  | succ f ih =>
    intro t x2 S R fo pr ln rp lt rt nm kx kn sx rx lz wa wi br pd lc wt sk tkn he fa h1 h2 h3 hS hend h hx
    obtain ⟨t, rfl⟩ : ∃ t', t = t' + 1 := ⟨t - 1, by omega⟩
    have hR0 : 1 ≤ R.length := by
      obtain ⟨A, z, rfl⟩ := hend
      simp
    obtain ⟨t1, t2, t3⟩ := tpX_k h
    rw [sX2_readNet_L6, naS_s]
    unfold bX2_readNet_L6
    rw [if_neg (show ¬ (1000 : Int32) < ii x2 by
      show ¬ ii 1000 < ii x2
      rw [ii_lt (by omega) (by omega)]
      omega), tokX h, Option.bind_some]
    by_cases c22 : kR R = 22
    · rw [if_pos c22, if_pos (show ii (kR R) = (22 : Int32) by rw [c22]; rfl)]
      refine ⟨fun e he => (by cases he), fun S' hp => ?_⟩
      cases hp
      unfold bX2_readNet_L38
      have hx' := hx
      obtain ⟨x1, -, x3, -, -, -, -, x8, -, x10, x11⟩ := hx'
      obtain ⟨sk', tkn', e5, hk⟩ := layTaken_X (F := F) (n := S.1.length) (ln := lnS S) (C := S.2.2.2.2.2.2) (kd := kdS S) (mk := S.2.2.1) (kx := kx) (kn := kn) (lc := lc) (lz := lz) hF hS.1 (lnS_le hS).2 (fun f hf => ⟨(x8 f hf).1, (x8 f hf).2.1, kdS_lt hS f, (hS.2.2.2.2.1 f).1⟩) x10 x11 sk tkn
      have x3' : ln = ii (lnS S) := x3
      rw [x1, x3', e5, Option.bind_some]
      exact ⟨_, _, _, _, _, _, _, _, _, _, _, _, _, _, _, _, _, _, _, _, _, rfl, ⟨rfl, hx.2.1, rfl, hx.2.2.2⟩, hS, hk⟩
    · rw [if_neg c22, if_neg (show ¬ ii (kR R) = (22 : Int32) by
        show ¬ ii (kR R) = ii 22
        rw [ii_inj (by omega) (by omega)]
        exact c22)]
      obtain ⟨q1, q2⟩ := readClause_X (F := F) hF hS h hend c22 (by omega) hx wa wi br pd wt fa
      cases hn : ncS S R with
      | inl e9 =>
        obtain ⟨fo', pr', ln', rp', lt', rt', nm', kx', kn', sx', rx', lz', wa', wi', br', pd', lc', wt', he', e5⟩ := q1 e9 hn
        rw [e5, Option.bind_some]
        refine ⟨fun e he9 => ?_, fun S' hp => (by cases hp)⟩
        cases he9
        dsimp only
        rw [if_pos rfl]
        exact ⟨_, _, _, _, _, _, _, _, _, _, _, _, _, _, _, _, _, _, _, _, _, rfl⟩
      | inr p =>
        obtain ⟨S9, R9⟩ := p
        obtain ⟨fo', pr', ln', rp', lt', rt', nm', kx', kn', sx', rx', lz', wa', wi', br', pd', lc', wt', he', e5, g1, g2, g3, g4, g5⟩ := q2 S9 R9 hn
        rw [e5, Option.bind_some]
        dsimp only
        rw [if_neg (show ¬ (1 : Int32) = 0 by decide), e1k]
        exact ih t (x2 + 1) S9 R9 _ _ _ _ _ _ _ _ _ _ _ _ _ _ _ _ _ _ _ _ _ _ (by omega) (by omega) (by omega) g2 g4 g3 g1
theorem fill_L {F N : Nat} (hN : N < 10000) : ∀ (d t k : Nat) (a : Nat → Int32), k + d = N → d < t → ∃ a', fJ7_fill_53178_L5 F N t 0 (ii k) (ii N) a = some a' ∧ (∀ j, k ≤ j → j < N → a' j = 0) ∧ ∀ j, j < k → a' j = a j := by
  have e1k : ∀ a : Nat, ii a + (1 : Int32) = ii (a + 1) := fun a => (ii_add a 1)
  intro d
  induction d with
  | zero =>
    intro t k a hk ht
    obtain ⟨t, rfl⟩ : ∃ t', t = t' + 1 := ⟨t - 1, by omega⟩
    rw [sJ7_fill_53178_L5]
    unfold bJ7_fill_53178_L5
    rw [if_pos (show ii N ≤ ii k by rw [ii_le (by omega) (by omega)]; omega)]
    exact ⟨_, rfl, fun j h1 h2 => absurd h1 (by omega), fun j _ => rfl⟩
  | succ d ih =>
    intro t k a hk ht
    obtain ⟨t, rfl⟩ : ∃ t', t = t' + 1 := ⟨t - 1, by omega⟩
    rw [sJ7_fill_53178_L5]
    unfold bJ7_fill_53178_L5
    rw [if_neg (show ¬ ii N ≤ ii k by rw [ii_le (by omega) (by omega)]; omega), if_neg (nidx (by omega) (by omega)), ii_nat (by omega), e1k]
    obtain ⟨a', e, g1, g2⟩ := ih t (k + 1) (upd a k 0) (by omega) (by omega)
    refine ⟨a', e, fun j h1 h2 => ?_, fun j h1 => ?_⟩
    · by_cases hj : j = k
      · rw [hj, g2 _ (by omega), upd_same]
      · exact g1 j (by omega) h2
    · rw [g2 j (by omega), upd_ne _ _ (by omega)]
theorem fill_X {F N : Nat} (hN : N < 10000) (hF : N < F) (a : Nat → Int32) : ∃ a', fJ7_fill_53178 F N 0 a = some a' ∧ ∀ j, j < N → a' j = 0 := by
  obtain ⟨a', e, g1, -⟩ := fill_L (F := F) hN N F 0 a (by omega) (by omega)
  exact ⟨a', e, fun j hj => g1 j (Nat.zero_le _) hj⟩
def S0 : NSt := ([], [], fun _ => 0, 0, none, none, [])
theorem S0_ok : okNS S0 := by
  refine ⟨by decide, fun w hw => absurd hw (by simp [S0]), rfl, fun k hk => absurd hk (by simp [S0]), fun f => ⟨(by show 0 < 64; decide), Nat.zero_testBit f, fun _ => rfl, fun g => ?_⟩, fun l hl => (by cases hl), fun l hl => (by cases hl), Or.inl rfl⟩
  show (0 : Nat).testBit g = (0 : Nat).testBit f
  rw [Nat.zero_testBit, Nat.zero_testBit]
/-- the class's net is S, and what each tie takes is laid -/
def ntX (S : NSt) (fo pr ln rp lt rt : Int32) (nm : Nat → Int64) (kx kn sx rx : Nat → Int32) (lz : Int32) (lc tkn : Nat → Int32) : Prop := nsX S fo pr ln rp lt rt nm kx kn sx rx lz lc ∧ okNS S ∧ tkX S.1.length (lnS S) (tauS S) tkn
def naT (T : List Nat) : Nat ⊕ NSt := naS 1001 S0 (tlT T 0)
theorem readNet_X {F : Nat} (hF : 2000 ≤ F) {T : List Nat} {psz cn he : Int32} {tk sta : Nat → Int32} {vl : Nat → Int64} (h : tpX T (tlT T 0) (tlT T 0) psz cn he tk sta vl) (hend : endsE (tlT T 0)) (fo pr ln rp lt rt : Int32) (nm : Nat → Int64) (kx kn sx rx : Nat → Int32) (lz wa wi br pd : Int32) (lc wt sk tkn : Nat → Int32) (fa : Int32) :
    (∀ e, naT T = .inl e → ∃ fo' pr' ln' rp' lt' rt' nm' kx' kn' sx' rx' lz' wa' wi' br' pd' lc' wt' sk' tkn' he', fX2_readNet F 6 6 6 6 6 1000 64 64 288 psz cn 1001 tk 1001 sta 1001 vl fo pr ln rp lt rt nm kx kn sx rx lz wa wi br pd lc wt sk tkn he fa = some (0, fo', pr', ln', rp', lt', rt', nm', kx', kn', sx', rx', lz', wa', wi', br', pd', lc', wt', sk', tkn', he', ii e)) ∧ (∀ S', naT T = .inr S' → ∃ fo' pr' ln' rp' lt' rt' nm' kx' kn' sx' rx' lz' wa' wi' br' pd' lc' wt' sk' tkn' he', fX2_readNet F 6 6 6 6 6 1000 64 64 288 psz cn 1001 tk 1001 sta 1001 vl fo pr ln rp lt rt nm kx kn sx rx lz wa wi br pd lc wt sk tkn he fa = some (1, fo', pr', ln', rp', lt', rt', nm', kx', kn', sx', rx', lz', wa', wi', br', pd', lc', wt', sk', tkn', he', fa) ∧ ntX S' fo' pr' ln' rp' lt' rt' nm' kx' kn' sx' rx' lz' lc' tkn') := by
  obtain ⟨kn', e1, g1⟩ := fill_X (F := F) (N := 6) (by omega) (by omega) kn
  obtain ⟨sx', e2, g2⟩ := fill_X (F := F) (N := 6) (by omega) (by omega) sx
  have hlen := h.2.2.2.2.2.1
  unfold fX2_readNet fX2_clear fX1_clear
  rw [e1, Option.bind_some, e2, Option.bind_some, Option.bind_some, Option.bind_some]
  dsimp only
  exact readNet_L hF 1001 F 0 S0 (tlT T 0) 0 0 24 200 0 0 nm kx kn' sx' rx 0 0 0 0 1 lc wt sk tkn he fa hlen (by omega) (by omega) S0_ok hend h ⟨rfl, rfl, rfl, rfl, rfl, rfl, fun k hk => absurd hk (by simp [S0]), fun f hf => absurd hf (by simp [S0]), fun f _ hf => g1 f hf, fun _ => rfl, fun hh => absurd rfl hh⟩
