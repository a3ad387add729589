/-! PURE: net, of both sides -/
theorem endsE_cons (x : Tk) {R : List Tk} (h : endsE R) : endsE (x :: R) := by
  obtain ⟨A, z, rfl⟩ := h
  exact ⟨x :: A, z, rfl⟩
theorem endsE_tl {T : List Nat} : ∀ (r p : Nat), T.length < p + r → endsE (tlT T p) := by
  intro r
  induction r using Nat.strongRecOn with
  | ind r ih =>
    intro p hp
    by_cases h : T.length ≤ p
    · rw [tlT_end h]
      exact ⟨[], _, rfl⟩
    · have hp2 : p < T.length := by omega
      by_cases hw : 97 ≤ T.getD p 0 ∧ T.getD p 0 ≤ 122
      · have e := twL_s hp2 hw
        have hl : 1 ≤ (twL T p).length := by rw [e]; simp
        rw [tlT_w hp2 hw]
        exact endsE_cons _ (ih (r - 1) (by omega) _ (by omega))
      · by_cases hd : 48 ≤ T.getD p 0 ∧ T.getD p 0 ≤ 57
        · have e := twD_s hp2 hd
          have hl : 1 ≤ (twD T p).length := by rw [e]; simp
          rw [tlT_d hp2 hd]
          exact endsE_cons _ (ih (r - 1) (by omega) _ (by omega))
        · by_cases hb : T.getD p 0 = 10 ∨ T.getD p 0 = 32
          · rw [tlT_b hp2 hb]
            exact ih (r - 1) (by omega) _ (by omega)
          · rw [tlT_s hp2 hw hd hb]
            exact endsE_cons _ (ih (r - 1) (by omega) _ (by omega))
theorem net_L57 {F nA sA : Nat} {sg9 : Nat → Int32} {ts cn he fa : Int32} {tk sta : Nat → Int32} {vl : Nat → Int64} {fo pr ln rp lt rt : Int32} {nm : Nat → Int64} {kx kn sx rx : Nat → Int32} {lz wa wi br pd : Int32} {lc wt sk tkn : Nat → Int32} {ah ls ys os pz : Int32} :
    ∀ (d t k : Nat) (laid : Nat → Int32), k + d = 4 → d < t → (∀ m, m < k → laid m = 0) → ∃ laid', fX11_net_L57 F 1000 sg9 1001 1001 1001 6 6 6 6 6 1000 64 64 288 4 t 1 (ii k) nA sA ts cn he fa tk sta vl fo pr ln rp lt rt nm kx kn sx rx lz wa wi br pd lc wt sk tkn ah ls ys os pz laid = some (0, nA, sA, 0, cn, he, fa, tk, sta, vl, fo, pr, ln, rp, lt, rt, nm, kx, kn, sx, rx, lz, wa, wi, br, pd, lc, wt, sk, tkn, ah, ls, ys, os, pz, laid') ∧ ∀ m, m < 4 → laid' m = 0 := by
  have e1k : ∀ a : Nat, ii a + (1 : Int32) = ii (a + 1) := fun a => (ii_add a 1)
  intro d
  induction d with
  | zero =>
    intro t k laid hk ht hl
    obtain ⟨t, rfl⟩ : ∃ t', t = t' + 1 := ⟨t - 1, by omega⟩
    rw [sX11_net_L57]
    unfold bX11_net_L57 bX11_net_L78 fX9_finish bX9_finish_L17
    rw [if_pos (show (4 : Int32) ≤ ii k by
      show ii 4 ≤ ii k
      rw [ii_le (by omega) (by omega)]
      omega), if_neg (by decide), Option.bind_some]
    exact ⟨_, rfl, fun m hm => hl m (by omega)⟩
  | succ d ih =>
    intro t k laid hk ht hl
    obtain ⟨t, rfl⟩ : ∃ t', t = t' + 1 := ⟨t - 1, by omega⟩
    rw [sX11_net_L57]
    unfold bX11_net_L57
    rw [if_neg (show ¬ (4 : Int32) ≤ ii k by
      show ¬ ii 4 ≤ ii k
      rw [ii_le (by omega) (by omega)]
      omega), if_neg (nidx (by omega) (by omega)), ii_nat (by omega), e1k]
    refine ih t (k + 1) _ (by omega) (by omega) ?_
    intro m hm
    unfold va_up
    by_cases hmk : m = k
    · rw [if_pos hmk]
    · rw [if_neg hmk]
      exact hl m (by omega)
theorem net_X {F : Nat} (hF : 2000 ≤ F) {T : List Nat} (hT : okT T) {sg9 : Nat → Int32} (hsg : rL sg9 T) (nA sA : Nat) (cn he fa : Int32) (tk sta : Nat → Int32) (vl : Nat → Int64) (fo pr ln rp lt rt : Int32) (nm : Nat → Int64) (kx kn sx rx : Nat → Int32) (lz wa wi br pd : Int32) (lc wt sk tkn : Nat → Int32) (ah ls ys os pz : Int32) (laid : Nat → Int32) :
    (∀ e, naT T = .inl e → ∃ cn' he' fa' tk' sta' vl' fo' pr' ln' rp' lt' rt' nm' kx' kn' sx' rx' lz' wa' wi' br' pd' lc' wt' sk' tkn', fX11_net F 1000 sg9 1001 1001 1001 6 6 6 6 6 1000 64 64 288 4 nA sA (ii T.length) cn he fa tk sta vl fo pr ln rp lt rt nm kx kn sx rx lz wa wi br pd lc wt sk tkn ah ls ys os pz laid = some (ii e, nA, sA, 0, cn', he', fa', tk', sta', vl', fo', pr', ln', rp', lt', rt', nm', kx', kn', sx', rx', lz', wa', wi', br', pd', lc', wt', sk', tkn', ah, ls, ys, os, pz, laid)) ∧ (∀ S', naT T = .inr S' → ∃ cn' he' fa' tk' sta' vl' fo' pr' ln' rp' lt' rt' nm' kx' kn' sx' rx' lz' wa' wi' br' pd' lc' wt' sk' tkn' laid', fX11_net F 1000 sg9 1001 1001 1001 6 6 6 6 6 1000 64 64 288 4 nA sA (ii T.length) cn he fa tk sta vl fo pr ln rp lt rt nm kx kn sx rx lz wa wi br pd lc wt sk tkn ah ls ys os pz laid = some (0, sA, nA, 0, cn', he', fa', tk', sta', vl', fo', pr', ln', rp', lt', rt', nm', kx', kn', sx', rx', lz', wa', wi', br', pd', lc', wt', sk', tkn', 0, 0, 0, 0, 0, laid') ∧ ntX S' fo' pr' ln' rp' lt' rt' nm' kx' kn' sx' rx' lz' lc' tkn' ∧ ∀ m, m < 4 → laid' m = 0) := by
  obtain ⟨tk', sta', vl', e1, h1⟩ := begin_X hF hT hsg cn he fa tk sta vl
  have htp := tpX_0 hT h1
  obtain ⟨r1, r2⟩ := readNet_X (F := F) hF htp (endsE_tl (T.length + 1) 0 (by omega)) fo pr ln rp lt rt nm kx kn sx rx lz wa wi br pd lc wt sk tkn 0
  unfold fX11_net
  rw [e1, Option.bind_some]
  dsimp only
  refine ⟨fun e he9 => ?_, fun S' hp => ?_⟩
  · obtain ⟨fo', pr', ln', rp', lt', rt', nm', kx', kn', sx', rx', lz', wa', wi', br', pd', lc', wt', sk', tkn', he', e2⟩ := r1 e he9
    rw [e2, Option.bind_some]
    dsimp only
    unfold bX11_net_L78 fX9_finish bX9_finish_L17
    rw [if_pos rfl, if_pos rfl, Option.bind_some]
    exact ⟨_, _, _, _, _, _, _, _, _, _, _, _, _, _, _, _, _, _, _, _, _, _, _, _, _, _, rfl⟩
  · obtain ⟨fo', pr', ln', rp', lt', rt', nm', kx', kn', sx', rx', lz', wa', wi', br', pd', lc', wt', sk', tkn', he', e2, g1⟩ := r2 S' hp
    rw [e2, Option.bind_some]
    dsimp only
    unfold fX8_clear fX7_clear fX4_clear
    rw [if_neg (show ¬ (1 : Int32) = 0 by decide), Option.bind_some, Option.bind_some, Option.bind_some, Option.bind_some, Option.bind_some]
    dsimp only
    obtain ⟨laid', e3, g3⟩ := net_L57 (F := F) (nA := sA) (sA := nA) (sg9 := sg9) (ts := ii T.length) (cn := ii (tlT T 0).length) (he := he') (fa := 0) (tk := tk') (sta := sta') (vl := vl') (fo := fo') (pr := pr') (ln := ln') (rp := rp') (lt := lt') (rt := rt') (nm := nm') (kx := kx') (kn := kn') (sx := sx') (rx := rx') (lz := lz') (wa := wa') (wi := wi') (br := br') (pd := pd') (lc := lc') (wt := wt') (sk := sk') (tkn := tkn') (ah := 0) (ls := 0) (ys := 0) (os := 0) (pz := 0) 4 F 0 laid (by omega) (by omega) (fun m hm => absurd hm (by omega))
    rw [show (0 : Int32) = ii 0 from rfl] at e3 ⊢
    exact ⟨_, _, _, _, _, _, _, _, _, _, _, _, _, _, _, _, _, _, _, _, _, _, _, _, _, _, _, e3, g1, g3⟩
theorem shifts_L {F N m : Nat} (hm : 2 * m ≤ N) (hN : N < 100000) : ∀ (d t k : Nat) (a : Nat → Int32), k + d = m → d < t → ∃ a', fX12_shifts_L2 F N t (ii m) (ii k) a = some a' ∧ (∀ j, k ≤ j → j < m → a' j = a (m + j)) ∧ ∀ j, (j < k ∨ m ≤ j) → a' j = a j := by
  have e1k : ∀ a : Nat, ii a + (1 : Int32) = ii (a + 1) := fun a => (ii_add a 1)
  intro d
  induction d with
  | zero =>
    intro t k a hk ht
    obtain ⟨t, rfl⟩ : ∃ t', t = t' + 1 := ⟨t - 1, by omega⟩
    rw [sX12_shifts_L2]
    unfold bX12_shifts_L2
    rw [if_pos (show ii m ≤ ii k by rw [ii_le (by omega) (by omega)]; omega)]
    exact ⟨_, rfl, fun j h1 h2 => absurd h1 (by omega), fun j _ => rfl⟩
  | succ d ih =>
    intro t k a hk ht
    obtain ⟨t, rfl⟩ : ∃ t', t = t' + 1 := ⟨t - 1, by omega⟩
    rw [sX12_shifts_L2]
    unfold bX12_shifts_L2
    rw [if_neg (show ¬ ii m ≤ ii k by rw [ii_le (by omega) (by omega)]; omega), ii_add, if_neg (nidx (by omega) (by omega)), if_neg (nidx (by omega) (by omega)), ii_nat (by omega), ii_nat (by omega), e1k]
    obtain ⟨a', e, g1, g2⟩ := ih t (k + 1) (upd a k (a (m + k))) (by omega) (by omega)
    refine ⟨a', e, fun j h1 h2 => ?_, fun j h1 => ?_⟩
    · by_cases hj : j = k
      · rw [hj, g2 _ (by omega), upd_same]
      · rw [g1 j (by omega) h2, upd_ne _ _ (by omega)]
    · rw [g2 j (by omega), upd_ne _ _ (by omega)]
theorem shifts_M {F N m : Nat} (hm : 2 * m ≤ N) (hN : N < 100000) (hF : m < F) (a : Nat → Int32) : ∃ a', fX12_shifts F N (ii m) a = some a' ∧ (∀ j, j < m → a' j = a (m + j)) ∧ ∀ j, m ≤ j → a' j = a j := by
  obtain ⟨a', e, g1, g2⟩ := shifts_L (F := F) hm hN m F 0 a (by omega) (by omega)
  exact ⟨a', e, fun j hj => g1 j (Nat.zero_le _) hj, fun j hj => g2 j (Or.inr hj)⟩
/-- the reference's net is S -/
def ntM (S : NSt) (nt : Nat → Int32) (fn : Nat → Int64) (ki kn lf lt cs : Nat → Int32) : Prop := nt 0 = ii S.1.length ∧ nt 1 = ii S.2.2.2.1 ∧ nt 2 = ii (lnS S) ∧ nt 3 = ii (rpS S) ∧ nmM 0 S.1 fn ∧ (∀ f, f < S.1.length → ki f = ii (kdS S f) ∧ kn f = ii (S.2.2.1 f)) ∧ lf 0 = ii 0 ∧ lt 0 = ii S.2.2.2.2.2.2.length ∧ S.2.2.2.2.2.2.length ≤ 1000 ∧ ∀ j, j < S.2.2.2.2.2.2.length → cs j = ii (S.2.2.2.2.2.2.getD j 0)
theorem ntM_fr {S : NSt} (h6 : S.1.length ≤ 6) {nt : Nat → Int32} {fn : Nat → Int64} {ki kn lf lt cs nt' : Nat → Int32} {fn' : Nat → Int64} {ki' kn' lf' lt' cs' : Nat → Int32} (h : ntM S nt fn ki kn lf lt cs) (g : frA nt fn ki kn lf lt cs nt' fn' ki' kn' lf' lt' cs') : ntM S nt' fn' ki' kn' lf' lt' cs' := by
  obtain ⟨h1, h2, h3, h4, h5, h7, h8, h9, h10, h11⟩ := h
  obtain ⟨⟨g1, g2, g3, g4⟩, g5, g6, g7⟩ := g
  refine ⟨(g1 0 (by omega)).trans h1, (g1 1 (by omega)).trans h2, (g1 2 (by omega)).trans h3, (g1 3 (by omega)).trans h4, fun k hk => ?_, fun f hf => ⟨(g2 f (by omega)).trans (h7 f hf).1, (g3 f (by omega)).trans (h7 f hf).2⟩, g5.trans h8, g6.trans h9, h10, fun j hj => (g7 j (by omega)).trans (h11 j hj)⟩
  rw [g4 _ (by omega)]
  exact h5 k hk
theorem lays_L {F : Nat} (hF : 2000 ≤ F) {S : NSt} (h6 : S.1.length ≤ 6) {cd tz : Int32} {nt : Nat → Int32} {ki kn lf lt cs : Nat → Int32} (hr : ∀ fn, nmM 1 S.1 fn → nsR S cd tz nt fn ki kn lf lt cs) (hnt : nt 0 = ii S.1.length ∧ nt 1 = ii S.2.2.2.1 ∧ nt 2 = ii (lnS S) ∧ nt 3 = ii (rpS S)) :
    ∀ (d t k : Nat) (fn : Nat → Int64), k + d = 6 → d < t → nmM 1 S.1 fn → (∀ j, j < k → j < S.1.length → fn j = il (bv 27 (S.1.getD j []))) → ∃ nt' fn' ki' kn' lf' lt' cs', fX12_lays_L10 F 8 12 12 12 2 2 2000 t (ii k) nt fn ki kn lf lt cs = some (nt', fn', ki', kn', lf', lt', cs') ∧ ntM S nt' fn' ki' kn' lf' lt' cs' := by
  have e1k : ∀ a : Nat, ii a + (1 : Int32) = ii (a + 1) := fun a => (ii_add a 1)
  intro d
  induction d with
  | zero =>
    intro t k fn hk ht hn hf
    obtain ⟨t, rfl⟩ : ∃ t', t = t' + 1 := ⟨t - 1, by omega⟩
    obtain ⟨r1, r2, r3, r4, r5, r6, r7, r8, r9, r10, r11, r12⟩ := hr fn hn
    obtain ⟨ki', e1, g1, -⟩ := shifts_M (F := F) (N := 12) (m := 6) (by omega) (by omega) (by omega) ki
    obtain ⟨kn', e2, g2, -⟩ := shifts_M (F := F) (N := 12) (m := 6) (by omega) (by omega) (by omega) kn
    obtain ⟨cs', e3, g3, -⟩ := shifts_M (F := F) (N := 2000) (m := 1000) (by omega) (by omega) (by omega) cs
    have i1 : (1 : Int32).toNatClampNeg = 1 := by decide
    have i0 : (0 : Int32).toNatClampNeg = 0 := by decide
    rw [sX12_lays_L10]
    unfold bX12_lays_L10
    rw [if_pos (show (6 : Int32) ≤ ii k by
      show ii 6 ≤ ii k
      rw [ii_le (by omega) (by omega)]
      omega), show fX12_shifts F 12 (6 : Int32) ki = _ from e1, Option.bind_some, show fX12_shifts F 12 (6 : Int32) kn = _ from e2, Option.bind_some, show fX12_shifts F 2000 (1000 : Int32) cs = _ from e3, Option.bind_some, if_neg (by decide), if_neg (by decide), if_neg (by decide), if_neg (by decide), i1, i0, r8, r9]
    refine ⟨_, _, _, _, _, _, _, rfl, hnt.1, hnt.2.1, hnt.2.2.1, hnt.2.2.2, fun j hj => ?_, fun f hf9 => ⟨?_, ?_⟩, ?_, ?_, r12, fun j hj => ?_⟩
    · rw [Nat.mul_zero, Nat.zero_add]
      exact hf j (by omega) hj
    · rw [g1 f (by omega)]
      exact (r6 f hf9).1
    · rw [g2 f (by omega)]
      exact (r6 f hf9).2
    · rw [upd_same]
      decide
    · rw [upd_same, show (1000 : Int32) = ii 1000 from rfl, ii_sub (by omega), Nat.add_sub_cancel_left]
    · rw [g3 j (by omega)]
      exact r11 j hj
  | succ d ih =>
    intro t k fn hk ht hn hf
    obtain ⟨t, rfl⟩ : ∃ t', t = t' + 1 := ⟨t - 1, by omega⟩
    rw [sX12_lays_L10]
    unfold bX12_lays_L10
    rw [if_neg (show ¬ (6 : Int32) ≤ ii k by
      show ¬ ii 6 ≤ ii k
      rw [ii_le (by omega) (by omega)]
      omega), show (6 : Int32) + ii k = ii (6 + k) from ii_add 6 k, if_neg (nidx (by omega) (by omega)), if_neg (nidx (by omega) (by omega)), ii_nat (by omega), ii_nat (by omega), e1k]
    refine ih t (k + 1) _ (by omega) (by omega) ?_ ?_
    · intro j hj
      rw [updL_ne _ _ (by omega)]
      exact hn j hj
    · intro j hj1 hj2
      by_cases hjk : j = k
      · rw [hjk, updL_same]
        have := hn k (by omega)
        rw [Nat.mul_one] at this
        exact this
      · rw [updL_ne _ _ hjk]
        exact hf j (by omega) hj2
theorem lays_M {F : Nat} (hF : 2000 ≤ F) {S : NSt} (h6 : S.1.length ≤ 6) {cd tz : Int32} {nt : Nat → Int32} {fn : Nat → Int64} {ki kn lf lt cs : Nat → Int32} (hr : nsR S cd tz nt fn ki kn lf lt cs) : ∃ nt' fn' ki' kn' lf' lt' cs', fX12_lays F 8 12 12 12 2 2 2000 nt fn ki kn lf lt cs = some (nt', fn', ki', kn', lf', lt', cs') ∧ ntM S nt' fn' ki' kn' lf' lt' cs' := by
  obtain ⟨nt', e1, g1, g2⟩ := shifts_M (F := F) (N := 8) (m := 4) (by omega) (by omega) (by omega) nt
  have hr' := hr
  obtain ⟨r1, r2, r3, r4, r5, r6, r7, r8, r9, r10, r11, r12⟩ := hr'
  unfold fX12_lays
  rw [show fX12_shifts F 8 (4 : Int32) nt = _ from e1, Option.bind_some]
  exact lays_L hF h6 (cd := cd) (tz := tz) (fun fn9 h9 => ⟨(g2 4 (by omega)).trans r1, (g2 5 (by omega)).trans r2, (g2 6 (by omega)).trans r3, (g2 7 (by omega)).trans r4, h9, r6, r7, r8, r9, r10, r11, r12⟩) ⟨(g1 0 (by omega)).trans r1, (g1 1 (by omega)).trans r2, (g1 2 (by omega)).trans r3, (g1 3 (by omega)).trans r4⟩ 6 F 0 fn (by omega) (by omega) r5 (fun j hj => absurd hj (by omega))
theorem net_L56 {F : Nat} {tp : Nat → Int32} {th tpd sz pl bg tkn : Int32} {wd : Int64} {td wr cd tz gv dn : Int32} {nt : Nat → Int32} {fn : Nat → Int64} {ki kn lf lt cs op cm s li os ah : Nat → Int32} :
    ∀ (d t k : Nat) (laid : Nat → Int32), k + d = 4 → d < t → (∀ m, m < k → laid m = 0) → ∃ laid', fX12_net_L56 F 1000 tp 8 12 12 12 2 2 2000 7 7 25 4 6 6 5 t (ii k) th tpd sz pl bg tkn wd td wr cd tz gv dn nt fn ki kn lf lt cs op cm s laid li os ah = some (0, th, tpd, sz, pl, bg, tkn, wd, td, wr, cd, tz, gv, dn, nt, fn, ki, kn, lf, lt, cs, op, cm, s, laid', li, os, ah) ∧ ∀ m, m < 4 → laid' m = 0 := by
  have e1k : ∀ a : Nat, ii a + (1 : Int32) = ii (a + 1) := fun a => (ii_add a 1)
  intro d
  induction d with
  | zero =>
    intro t k laid hk ht hl
    obtain ⟨t, rfl⟩ : ∃ t', t = t' + 1 := ⟨t - 1, by omega⟩
    rw [sX12_net_L56]
    unfold bX12_net_L56
    rw [if_pos (show (4 : Int32) ≤ ii k by
      show ii 4 ≤ ii k
      rw [ii_le (by omega) (by omega)]
      omega)]
    exact ⟨_, rfl, fun m hm => hl m (by omega)⟩
  | succ d ih =>
    intro t k laid hk ht hl
    obtain ⟨t, rfl⟩ : ∃ t', t = t' + 1 := ⟨t - 1, by omega⟩
    rw [sX12_net_L56]
    unfold bX12_net_L56
    rw [if_neg (show ¬ (4 : Int32) ≤ ii k by
      show ¬ ii 4 ≤ ii k
      rw [ii_le (by omega) (by omega)]
      omega), if_neg (nidx (by omega) (by omega)), ii_nat (by omega), e1k, show vp_nar .boolean (0 : Int32) = 0 from by decide]
    refine ih t (k + 1) _ (by omega) (by omega) ?_
    intro m hm
    by_cases hmk : m = k
    · rw [hmk, upd_same]
    · rw [upd_ne _ _ hmk]
      exact hl m (by omega)
theorem net_M {F : Nat} (hF : 2000 ≤ F) {T : List Nat} (hT : okT T) {tp : Nat → Int32} (ht : rL tp T) (th sz pl bg tkn : Int32) (wd : Int64) (td wr cd tz gv dn : Int32) (nt : Nat → Int32) (fn : Nat → Int64) (ki kn lf lt cs op cm s laid li os ah : Nat → Int32) :
    (∀ e, naT T = .inl e → ∃ sz' pl' bg' tkn' wd' td' wr' cd' tz' gv' nt' fn' ki' kn' lf' lt' cs' op' cm', fX12_net F 1000 tp 8 12 12 12 2 2 2000 7 7 25 4 6 6 5 th (ii T.length) sz pl bg tkn wd td wr cd tz gv dn nt fn ki kn lf lt cs op cm s laid li os ah = some (ii e, 0, 0, sz', pl', bg', tkn', wd', td', wr', cd', tz', gv', dn, nt', fn', ki', kn', lf', lt', cs', op', cm', s, laid, li, os, ah) ∧ frA nt fn ki kn lf lt cs nt' fn' ki' kn' lf' lt' cs') ∧ (∀ S', naT T = .inr S' → ∃ sz' pl' bg' tkn' wd' td' wr' cd' tz' gv' nt' fn' ki' kn' lf' lt' cs' op' cm' laid', fX12_net F 1000 tp 8 12 12 12 2 2 2000 7 7 25 4 6 6 5 th (ii T.length) sz pl bg tkn wd td wr cd tz gv dn nt fn ki kn lf lt cs op cm s laid li os ah = some (0, 0, 0, sz', pl', bg', tkn', wd', td', wr', cd', tz', gv', 0, nt', fn', ki', kn', lf', lt', cs', op', cm', upd s 0 0, laid', upd li 0 0, upd os 0 0, upd ah 0 0) ∧ ntM S' nt' fn' ki' kn' lf' lt' cs' ∧ okNS S' ∧ ∀ m, m < 4 → laid' m = 0) := by
  have hT1 := hT.1
  obtain ⟨p1, b1, t1, w1, d1, e1, h1⟩ := next_M hF hT ht F 0 bg tkn wd td (by omega) (by omega)
  have e1' : fX12_nextToken F (ii T.length) 1000 tp (0 : Int32) bg tkn wd td = some (p1, b1, t1, w1, d1) := e1
  obtain ⟨tk9, sta9, vl9, -, k1⟩ := begin_X (F := 2000) (Nat.le_refl _) hT ht 0 0 0 (fun _ => 0) (fun _ => 0) (fun _ => 0)
  have htp := tpX_0 hT k1
  have hend := endsE_tl (T := T) (T.length + 1) 0 (by omega)
  have hlen := htp.2.2.2.2.2.1
  have hA : okA T S0 (tlT T 0) := ⟨S0_ok, hend, hlen, tlT T 0, _, _, _, tk9, sta9, vl9, 0, 0, 24, 200, 0, 0, fun _ => 0, fun _ => 0, fun _ => 0, fun _ => 0, fun _ => 0, 0, fun _ => 0, htp, ⟨rfl, rfl, rfl, rfl, rfl, rfl, fun k hk => absurd hk (by simp [S0]), fun f hf => absurd hf (by simp [S0]), fun f _ hf => rfl, fun _ => rfl, fun hh => absurd rfl hh⟩⟩
  have i1 : (1 : Int32).toNatClampNeg = 1 := by decide
  have i4 : (4 : Int32).toNatClampNeg = 4 := by decide
  have i5 : (5 : Int32).toNatClampNeg = 5 := by decide
  have i6 : (6 : Int32).toNatClampNeg = 6 := by decide
  have i7 : (7 : Int32).toNatClampNeg = 7 := by decide
  have i0 : (0 : Int32).toNatClampNeg = 0 := by decide
  obtain ⟨q1, q2⟩ := readsAll_L (F := F) (tpd := 0) (nt0 := nt) (fn0 := fn) (ki0 := ki) (kn0 := kn) (lf0 := lf) (lt0 := lt) (cs0 := cs) hF hT ht 1001 F S0 (tlT T 0) p1 b1 t1 w1 d1 wr (1000 : Int32) (0 : Int32) gv (upd (upd (upd (upd nt 4 0) 5 0) 6 24) 7 200) fn ki kn (upd lf 1 (1000 : Int32)) (upd lt 1 (1000 : Int32)) cs op cm hlen (by omega) hA h1 ⟨by rw [upd_ne _ _ (by decide), upd_ne _ _ (by decide), upd_ne _ _ (by decide), upd_same]; rfl, by rw [upd_ne _ _ (by decide), upd_ne _ _ (by decide), upd_same]; rfl, by rw [upd_ne _ _ (by decide), upd_same]; rfl, by rw [upd_same]; rfl, fun k hk => absurd hk (by simp [S0]), fun f hf => absurd hf (by simp [S0]), by decide, upd_same _ _ _, upd_same _ _ _, fun _ => rfl, fun j hj => absurd hj (by simp [S0]), by simp [S0]⟩ ⟨⟨fun j hj => by rw [upd_ne _ _ (by omega), upd_ne _ _ (by omega), upd_ne _ _ (by omega), upd_ne _ _ (by omega)], fun _ _ => rfl, fun _ _ => rfl, fun _ _ => rfl⟩, upd_ne _ _ (by decide), upd_ne _ _ (by decide), fun _ _ => rfl⟩
  unfold fX12_net fX12_readsAll fX12_begins
  rw [if_neg (by decide), if_neg (by decide), if_neg (by decide), if_neg (by decide), if_neg (by decide), if_neg (by decide), e1', Option.bind_some, Option.bind_some, i1, i4, i5, i6, i7]
  dsimp only
  refine ⟨fun e he9 => ?_, fun S' hp => ?_⟩
  · obtain ⟨pl', bg', tkn', wd', td', cd', tz', gv', nt', fn', ki', kn', lf', lt', cs', op', cm', e2, hfr⟩ := q1 e he9
    rw [e2, Option.bind_some]
    dsimp only
    rw [if_pos rfl]
    exact ⟨_, _, _, _, _, _, _, _, _, _, _, _, _, _, _, _, _, _, _, rfl, hfr⟩
  · obtain ⟨pl', bg', tkn', wd', td', wr', cd', tz', gv', nt', fn', ki', kn', lf', lt', cs', op', cm', e2, hr, hfr⟩ := q2 S' hp
    obtain ⟨-, r2⟩ := readNet_X (F := 2000) (Nat.le_refl _) htp hend 0 0 0 0 0 0 (fun _ => 0) (fun _ => 0) (fun _ => 0) (fun _ => 0) (fun _ => 0) 0 0 0 0 0 (fun _ => 0) (fun _ => 0) (fun _ => 0) (fun _ => 0) 0
    obtain ⟨_, _, _, _, _, _, _, _, _, _, _, _, _, _, _, _, _, _, _, _, _, -, -, hok, -⟩ := r2 S' hp
    obtain ⟨nt2, fn2, ki2, kn2, lf2, lt2, cs2, e3, g3⟩ := lays_M (F := F) hF hok.1 hr
    rw [e2, Option.bind_some]
    dsimp only
    rw [if_neg (by decide), e3, Option.bind_some, if_neg (by decide), if_neg (by decide), if_neg (by decide), if_neg (by decide), i0]
    dsimp only
    obtain ⟨laid', e4, g4⟩ := net_L56 (F := F) (tp := tp) (th := 0) (tpd := 0) (sz := ii T.length) (pl := pl') (bg := bg') (tkn := tkn') (wd := wd') (td := td') (wr := wr') (cd := cd') (tz := tz') (gv := gv') (dn := 0) (nt := nt2) (fn := fn2) (ki := ki2) (kn := kn2) (lf := lf2) (lt := lt2) (cs := cs2) (op := op') (cm := cm') (s := upd s 0 0) (li := upd li 0 0) (os := upd os 0 0) (ah := upd ah 0 0) 4 F 0 laid (by omega) (by omega) (fun m hm => absurd hm (by omega))
    exact ⟨_, _, _, _, _, _, _, _, _, _, _, _, _, _, _, _, _, _, _, _, e4, g3, hok, g4⟩
