/-! PURE: the reference works the law out, code by code -/
theorem worked_L {F ln e : Nat} (hF : 1000 ≤ F) (hln : ln < 2) {lf lt cs x : Nat → Int32} (hlt : lt ln = ii e) (he : e ≤ 2000) {f : Fm} {v : VV} :
    ∀ (D : List Nat) (t k : Nat) (st : List Fm × Option VV) (a1 a2 a3 a4 a5 a6 a7 a8 a9 : Nat → Int32), (∀ j, j < D.length → cs (k + j) = ii (D.getD j 0)) → k + D.length = e → D.length < t → okSt st → lgF st D → rgT x a1 a2 a3 a4 a5 a6 a7 a8 a9 st → D.foldl sy st = ([f], some v) →
    ∃ r1 r2 r3 r4 r5 r6 r7 r8 r9, fX12_worked_L14 F 2 lf 2 lt 2000 cs 7 7 7 7 7 7 7 7 7 20 x t (ii ln) (ii (st.1.length - 1)) (ii k) a1 a2 a3 a4 a5 a6 a7 a8 a9 = some (fvV f v x, r1, r2, r3, r4, r5, r6, r7, r8, r9) := by
  intro D
  induction D with
  | nil =>
    intro t k st a1 a2 a3 a4 a5 a6 a7 a8 a9 hcs hk ht hok hlg hrg hend
    obtain ⟨t, rfl⟩ : ∃ t', t = t' + 1 := ⟨t - 1, by simp at ht; omega⟩
    rw [sX12_worked_L14]
    unfold bX12_worked_L14
    have hst : st = ([f], some v) := hend
    subst hst
    simp at hk
    subst hk
    rw [if_neg (nidx (by omega) (by omega)), ii_nat (show ln < 2147483648 by omega), hlt, if_pos (by rw [ii_le (by omega) (by omega)]; omega)]
    obtain ⟨⟨c1, c2, c3, c4, c5, c6, c7⟩, c8, -⟩ := hrg
    have e1 := tests_eq (F := F) (d := 0) (termBy := a8) (by omega) (okFs_head hok.1) c1 c2 c3 c4 c5 c6 c8
    rw [k_0, e1]
    simp only [Option.bind_some]
    rw [if_neg (by decide)]
    rw [ii_nat (by omega), upd_same]
    exact ⟨_, _, _, _, _, _, _, _, _, rfl⟩
  | cons c D ih =>
    intro t k st a1 a2 a3 a4 a5 a6 a7 a8 a9 hcs hk ht hok hlg hrg hend
    obtain ⟨t, rfl⟩ : ∃ t', t = t' + 1 := ⟨t - 1, by simp at ht; omega⟩
    simp only [List.length_cons] at hk ht
    obtain ⟨hw, hlg2⟩ := hlg
    have hok2 := sy_ok hok hw
    have hc : cs k = ii c := by
      have := hcs 0 (by simp)
      simpa using this
    have hcs2 : ∀ j, j < D.length → cs (k + 1 + j) = ii (D.getD j 0) := by
      intro j hj
      have := hcs (j + 1) (by simp; omega)
      rw [show k + 1 + j = k + (j + 1) from by omega, this]
      rfl
    have hend2 : D.foldl sy (sy st c) = ([f], some v) := hend
    obtain ⟨fs, cur⟩ := st
    cases fs with
    | nil => exact absurd hw id
    | cons g gs =>
      have hg6 : gs.length ≤ 5 := by have := hok.2.1; simp at this; omega
      have hlen : (g :: gs).length - 1 = gs.length := by simp
      have hog := okFs_head hok.1
      have eD : ¬ (ii gs.length < 0 ∨ 7 ≤ (ii gs.length).toNatClampNeg) := nidx (by omega) (by omega)
      have hcb : c ≤ 10099 := by
        cases cur with
        | none =>
          have hw' : ((c = 28 ∨ c = 30) ∧ gs.length ≤ 4) ∨ (1 ≤ c ∧ c ≤ 4) ∨ (100 ≤ c ∧ c ≤ 10099) := hw
          omega
        | some v9 =>
          have hw' : c = 20 ∨ c = 21 ∨ c = 22 ∨ ((c = 24 ∨ c = 25) ∧ g.2.2.1 = none) ∨ c = 26 ∨ c = 27 ∨ (c = 29 ∧ gs ≠ []) := hw
          omega
      rw [sX12_worked_L14]
      unfold bX12_worked_L14
      show ∃ r1 r2 r3 r4 r5 r6 r7 r8 r9, _ = _
      rw [if_neg (nidx (by omega) (by omega)), ii_nat (show ln < 2147483648 by omega), hlt, if_neg (by rw [ii_le (by omega) (by omega)]; omega), if_neg (nidx (by omega) (by omega)), ii_nat (show k < 2147483648 by omega), hc, hlen]
      have E : ∀ j, j < 200 → (ii c = ii j) = (c = j) := fun j hj => ii_inj (by omega) (by omega)
      have N28 : (ii c = (28 : Int32)) = (c = 28) := E 28 (by omega)
      have N30 : (ii c = (30 : Int32)) = (c = 30) := E 30 (by omega)
      have N20 : (ii c = (20 : Int32)) = (c = 20) := E 20 (by omega)
      have N21 : (ii c = (21 : Int32)) = (c = 21) := E 21 (by omega)
      have N22 : (ii c = (22 : Int32)) = (c = 22) := E 22 (by omega)
      have N24 : (ii c = (24 : Int32)) = (c = 24) := E 24 (by omega)
      have N25 : (ii c = (25 : Int32)) = (c = 25) := E 25 (by omega)
      have N26 : (ii c = (26 : Int32)) = (c = 26) := E 26 (by omega)
      have N27 : (ii c = (27 : Int32)) = (c = 27) := E 27 (by omega)
      have N29 : (ii c = (29 : Int32)) = (c = 29) := E 29 (by omega)
      have NL : (ii c < (100 : Int32)) = (c < 100) := by rw [k_100, ii_lt (by omega) (by omega)]
      have NG : ((20 : Int32) ≤ ii c) = (20 ≤ c) := by rw [k_20, ii_le (by omega) (by omega)]
      have hup : ∀ (a : Nat → Int32) (z : Int32) (j : Nat), j < gs.length → upd a gs.length z j = a j := fun a z j hj => upd_ne _ _ (by omega)
      have hup1 : ∀ (a : Nat → Int32) (z : Int32) (j : Nat), j < gs.length + 1 → upd a (gs.length + 1) z j = a j := fun a z j hj => upd_ne _ _ (by omega)
      cases cur with
      | none =>
        have hw' : ((c = 28 ∨ c = 30) ∧ gs.length ≤ 4) ∨ (1 ≤ c ∧ c ≤ 4) ∨ (100 ≤ c ∧ c ≤ 10099) := hw
        have hrg' : rgR x a1 a2 a3 a4 a5 a6 a7 a8 a9 (g :: gs) := hrg
        have hopen : ∀ (b : Bool), sy (g :: gs, none) c = ((b, none, none, none, none) :: g :: gs, none) → gs.length ≤ 4 → ∃ r1 r2 r3 r4 r5 r6 r7 r8 r9, fX12_worked_L14 F 2 lf 2 lt 2000 cs 7 7 7 7 7 7 7 7 7 20 x t (ii ln) (ii (gs.length + 1)) (ii (k + 1)) a1 (upd a2 (gs.length + 1) 0) a3 (upd a4 (gs.length + 1) 0) (upd a5 (gs.length + 1) 0) (upd a6 (gs.length + 1) 20) a7 (upd a8 (gs.length + 1) 0) (upd a9 (gs.length + 1) (bI b)) = some (fvV f v x, r1, r2, r3, r4, r5, r6, r7, r8, r9) := by
          intro b hsy h4
          rw [hsy] at hok2 hlg2 hend2
          have := ih t (k + 1) _ a1 (upd a2 (gs.length + 1) 0) a3 (upd a4 (gs.length + 1) 0) (upd a5 (gs.length + 1) 0) (upd a6 (gs.length + 1) 20) a7 (upd a8 (gs.length + 1) 0) (upd a9 (gs.length + 1) (bI b)) hcs2 (by omega) (by omega) hok2 hlg2 ?_ hend2
          · exact this
          · refine ⟨⟨?_, fun p hp => (by cases hp), ?_, fun p hp => (by cases hp), ?_, ?_, ?_⟩, fun a ha => (by cases ha), fun _ => ?_, ?_⟩
            · exact upd_same _ _ _
            · exact upd_same _ _ _
            · exact upd_same _ _ _
            · exact upd_same _ _ _
            · exact upd_same _ _ _
            · exact upd_same _ _ _
            · exact rgR_congr (fun j hj => ⟨rfl, hup1 _ _ _ hj, rfl, hup1 _ _ _ hj, hup1 _ _ _ hj, hup1 _ _ _ hj, rfl, hup1 _ _ _ hj, hup1 _ _ _ hj⟩) hrg'
        have eD1 : gs.length ≤ 4 → ¬ (ii (gs.length + 1) < 0 ∨ 7 ≤ (ii (gs.length + 1)).toNatClampNeg) := fun h4 => nidx (by omega) (by omega)
        have hval : ∀ (y : Int32), y = vcV c x → c ≠ 28 → c ≠ 30 → c ≠ 29 → ∃ r1 r2 r3 r4 r5 r6 r7 r8 r9, fX12_worked_L268 F 2 lf 2 lt 2000 cs 7 7 7 7 7 7 7 7 7 20 x (fX12_worked_L14 F 2 lf 2 lt 2000 cs 7 7 7 7 7 7 7 7 7 20 x t) F (ii ln) (ii gs.length) (ii k) y a1 a2 a3 a4 a5 a6 a7 a8 a9 = some (fvV f v x, r1, r2, r3, r4, r5, r6, r7, r8, r9) := by
          intro y hy n1 n2 n3
          have hsy : sy (g :: gs, none) c = ((clN (g :: gs) (vcV c)).1, some (clN (g :: gs) (vcV c)).2) := by
            show (if c = 28 then _ else if c = 30 then _ else _) = _
            rw [if_neg n1, if_neg n2]
          obtain ⟨q1, q2, g2, gs2, q3, q4⟩ := clN_ok (v := vcV c) hok.1
          have e1 := close_L (F := F) (lf := lf) (lt := lt) (cs := cs) (k14 := fX12_worked_L14 F 2 lf 2 lt 2000 cs 7 7 7 7 7 7 7 7 7 20 x t) (x1 := ii ln) (x3 := ii k) (g :: gs) F (vcV c) y hy hok.1 hok.2.1 (by simp; omega) hrg' g2 gs2 q3
          rw [hlen] at e1
          rw [e1, k_1, ii_add]
          rw [hsy, q3] at hok2 hlg2 hend2
          have hsuf := clN_rg (v := vcV c) hrg' q3
          have := ih t (k + 1) _ a1 a2 a3 a4 a5 a6 (upd a7 gs2.length (tmV g2.2.2.2.2 (clN (g :: gs) (vcV c)).2 x)) a8 a9 hcs2 (by omega) (by omega) hok2 hlg2 ?_ hend2
          · exact this
          · refine ⟨hsuf.1, upd_same _ _ _, hsuf.2.2.1, ?_⟩
            exact rgR_congr (fun j hj => ⟨rfl, rfl, rfl, rfl, rfl, rfl, upd_ne _ _ (by omega), rfl, rfl⟩) hsuf.2.2.2
        rcases hw' with ⟨h28 | h30, h4⟩ | h1 | h1
        · subst h28
          rw [if_pos (by decide)]
          unfold bX12_worked_L46 bX12_worked_L66 bX12_worked_L329
          rw [if_neg (by decide), k_1, ii_add, if_neg (eD1 h4), opens_eq (by omega), ii_nat (by omega)]
          simp only [Option.bind_some, ii_add]
          exact hopen false rfl h4
        · subst h30
          rw [if_neg (by decide), if_pos (by decide)]
          unfold bX12_worked_L46 bX12_worked_L66 bX12_worked_L329
          rw [if_pos (by decide), k_1, ii_add, if_neg (eD1 h4), opens_eq (by omega), ii_nat (by omega)]
          simp only [Option.bind_some, ii_add]
          exact hopen true rfl h4
        · rw [if_neg (by rw [N28]; omega), if_neg (by rw [N30]; omega), if_neg (by rw [N20]; omega), if_neg (by rw [N21]; omega), if_neg (by rw [N22]; omega), if_neg (by rw [N24]; omega), if_neg (by rw [N25]; omega), if_neg (by rw [N26]; omega), if_neg (by rw [N27]; omega), if_pos (by rw [NL]; omega), if_neg (by rw [NG]; omega), if_neg (nidx (by omega) (by omega))]
          unfold bX12_worked_L243
          rw [if_neg (by rw [N29]; omega)]
          exact hval _ (by
            rw [ii_nat (by omega)]
            unfold vcV
            rw [if_neg (by omega)]) (by omega) (by omega) (by omega)
        · rw [if_neg (by rw [N28]; omega), if_neg (by rw [N30]; omega), if_neg (by rw [N20]; omega), if_neg (by rw [N21]; omega), if_neg (by rw [N22]; omega), if_neg (by rw [N24]; omega), if_neg (by rw [N25]; omega), if_neg (by rw [N26]; omega), if_neg (by rw [N27]; omega), if_neg (by rw [NL]; omega)]
          unfold bX12_worked_L243
          rw [if_neg (by rw [N29]; omega)]
          exact hval _ (by
            rw [k_100, ii_sub (by omega)]
            unfold vcV
            rw [if_pos (by omega)]) (by omega) (by omega) (by omega)
      | some v9 =>
        have hw' : c = 20 ∨ c = 21 ∨ c = 22 ∨ ((c = 24 ∨ c = 25) ∧ g.2.2.1 = none) ∨ c = 26 ∨ c = 27 ∨ (c = 29 ∧ gs ≠ []) := hw
        obtain ⟨⟨c1, c2, c3, c4, c5, c6, c7⟩, c8, c9, c10⟩ := hrg
        have es := sums_eq (F := F) (d := gs.length) (termBy := a8) (by omega) hog.2.2.1 c5 c6 c8
        have et := tests_eq (F := F) (d := gs.length) (termBy := a8) (by omega) hog c1 c2 c3 c4 c5 c6 c8
        have hsum : ∀ z, (z = 20 ∨ z = 21) → c = z → ∃ r1 r2 r3 r4 r5 r6 r7 r8 r9, fX12_worked_L14 F 2 lf 2 lt 2000 cs 7 7 7 7 7 7 7 7 7 20 x t (ii ln) (ii gs.length) (ii (k + 1)) a1 a2 a3 a4 (upd a5 gs.length (smV g.2.2.2.1 (tmV g.2.2.2.2 v9) x)) (upd a6 gs.length (ii z)) a7 (upd a8 gs.length 0) a9 = some (fvV f v x, r1, r2, r3, r4, r5, r6, r7, r8, r9) := by
          intro z hz hcz
          subst hcz
          have hsy : sy (g :: gs, some v9) c = ((g.1, g.2.1, g.2.2.1, some (c, smV g.2.2.2.1 (tmV g.2.2.2.2 v9)), none) :: gs, none) := by
            show (if c = 20 ∨ c = 21 then _ else _) = _
            rw [if_pos hz]
          rw [hsy] at hok2 hlg2 hend2
          have := ih t (k + 1) _ a1 a2 a3 a4 (upd a5 gs.length (smV g.2.2.2.1 (tmV g.2.2.2.2 v9) x)) (upd a6 gs.length (ii c)) a7 (upd a8 gs.length 0) a9 hcs2 (by omega) (by omega) hok2 hlg2 ?_ hend2
          · rw [List.length_cons, Nat.add_sub_cancel] at this
            exact this
          · refine ⟨⟨c1, c2, c3, c4, upd_same _ _ _, upd_same _ _ _, upd_same _ _ _⟩, fun a ha => (by cases ha), c9, ?_⟩
            exact rgR_congr (fun j hj => ⟨rfl, rfl, rfl, rfl, hup _ _ _ hj, hup _ _ _ hj, rfl, hup _ _ _ hj, rfl⟩) c10
        have hcmp : ∀ z, (z = 24 ∨ z = 25) → c = z → ∃ r1 r2 r3 r4 r5 r6 r7 r8 r9, fX12_worked_L14 F 2 lf 2 lt 2000 cs 7 7 7 7 7 7 7 7 7 20 x t (ii ln) (ii gs.length) (ii (k + 1)) a1 a2 (upd a3 gs.length (smV g.2.2.2.1 (tmV g.2.2.2.2 v9) x)) (upd a4 gs.length (ii z)) (upd a5 gs.length 0) (upd a6 gs.length 20) a7 (upd a8 gs.length 0) a9 = some (fvV f v x, r1, r2, r3, r4, r5, r6, r7, r8, r9) := by
          intro z hz hcz
          subst hcz
          have hsy : sy (g :: gs, some v9) c = ((g.1, g.2.1, some (c, smV g.2.2.2.1 (tmV g.2.2.2.2 v9)), none, none) :: gs, none) := by
            show (if c = 20 ∨ c = 21 then _ else if c = 22 then _ else if c = 24 ∨ c = 25 then _ else _) = _
            rw [if_neg (by omega), if_neg (by omega), if_pos hz]
          rw [hsy] at hok2 hlg2 hend2
          have := ih t (k + 1) _ a1 a2 (upd a3 gs.length (smV g.2.2.2.1 (tmV g.2.2.2.2 v9) x)) (upd a4 gs.length (ii c)) (upd a5 gs.length 0) (upd a6 gs.length 20) a7 (upd a8 gs.length 0) a9 hcs2 (by omega) (by omega) hok2 hlg2 ?_ hend2
          · rw [List.length_cons, Nat.add_sub_cancel] at this
            exact this
          · refine ⟨⟨c1, c2, upd_same _ _ _, fun p hp => (by cases hp; exact upd_same _ _ _), upd_same _ _ _, upd_same _ _ _, upd_same _ _ _⟩, fun a ha => (by cases ha), c9, ?_⟩
            exact rgR_congr (fun j hj => ⟨rfl, rfl, hup _ _ _ hj, hup _ _ _ hj, hup _ _ _ hj, hup _ _ _ hj, rfl, hup _ _ _ hj, rfl⟩) c10
        have hkep : ∀ z, (z = 26 ∨ z = 27) → c = z → ∃ r1 r2 r3 r4 r5 r6 r7 r8 r9, fX12_worked_L14 F 2 lf 2 lt 2000 cs 7 7 7 7 7 7 7 7 7 20 x t (ii ln) (ii gs.length) (ii (k + 1)) (upd a1 gs.length (fvV g v9 x)) (upd a2 gs.length (ii z)) a3 (upd a4 gs.length 0) (upd a5 gs.length 0) (upd a6 gs.length 20) a7 (upd a8 gs.length 0) a9 = some (fvV f v x, r1, r2, r3, r4, r5, r6, r7, r8, r9) := by
          intro z hz hcz
          subst hcz
          have hsy : sy (g :: gs, some v9) c = ((g.1, some (c, fvV g v9), none, none, none) :: gs, none) := by
            show (if c = 20 ∨ c = 21 then _ else if c = 22 then _ else if c = 24 ∨ c = 25 then _ else if c = 26 ∨ c = 27 then _ else _) = _
            rw [if_neg (by omega), if_neg (by omega), if_neg (by omega), if_pos hz]
          rw [hsy] at hok2 hlg2 hend2
          have := ih t (k + 1) _ (upd a1 gs.length (fvV g v9 x)) (upd a2 gs.length (ii c)) a3 (upd a4 gs.length 0) (upd a5 gs.length 0) (upd a6 gs.length 20) a7 (upd a8 gs.length 0) a9 hcs2 (by omega) (by omega) hok2 hlg2 ?_ hend2
          · rw [List.length_cons, Nat.add_sub_cancel] at this
            exact this
          · refine ⟨⟨upd_same _ _ _, fun p hp => (by cases hp; exact upd_same _ _ _), upd_same _ _ _, fun p hp => (by cases hp), upd_same _ _ _, upd_same _ _ _, upd_same _ _ _⟩, fun a ha => (by cases ha), c9, ?_⟩
            exact rgR_congr (fun j hj => ⟨hup _ _ _ hj, hup _ _ _ hj, rfl, hup _ _ _ hj, hup _ _ _ hj, hup _ _ _ hj, rfl, hup _ _ _ hj, rfl⟩) c10
        rw [if_neg (by rw [N28]; omega), if_neg (by rw [N30]; omega)]
        unfold bX12_worked_L89 bX12_worked_L137 bX12_worked_L194 bX12_worked_L243 bX12_worked_L329
        rw [es, et]
        simp only [Option.bind_some, if_neg eD]
        simp only [ii_nat (show gs.length < 2147483648 by omega), k_1, ii_add, upd_same, upd_upd]
        rcases hw' with h | h | h | ⟨h | h, h0⟩ | h | h | ⟨h, h0⟩
        · rw [if_pos (by rw [N20]; exact h), show ii c = ii 20 from by rw [h]]
          exact hsum 20 (Or.inl rfl) h
        · rw [if_neg (by rw [N20]; omega), if_pos (by rw [N21]; exact h), show ii c = ii 21 from by rw [h]]
          exact hsum 21 (Or.inr rfl) h
        · rw [if_neg (by rw [N20]; omega), if_neg (by rw [N21]; omega), if_pos (by rw [N22]; exact h)]
          have hsy : sy (g :: gs, some v9) c = ((g.1, g.2.1, g.2.2.1, g.2.2.2.1, some (tmV g.2.2.2.2 v9)) :: gs, none) := by
            show (if c = 20 ∨ c = 21 then _ else if c = 22 then _ else _) = _
            rw [if_neg (by omega), if_pos h]
          rw [hsy] at hok2 hlg2 hend2
          have := ih t (k + 1) _ a1 a2 a3 a4 a5 a6 a7 (upd a8 gs.length (ii c)) a9 hcs2 (by omega) (by omega) hok2 hlg2 ?_ hend2
          · rw [List.length_cons, Nat.add_sub_cancel] at this
            exact this
          · refine ⟨⟨c1, c2, c3, c4, c5, c6, ?_⟩, fun a ha => (by cases ha; exact c8), c9, ?_⟩
            · rw [upd_same, h]
              rfl
            · exact rgR_congr (fun j hj => ⟨rfl, rfl, rfl, rfl, rfl, rfl, rfl, hup _ _ _ hj, rfl⟩) c10
        · rw [if_neg (by rw [N20]; omega), if_neg (by rw [N21]; omega), if_neg (by rw [N22]; omega), if_pos (by rw [N24]; exact h), show ii c = ii 24 from by rw [h]]
          exact hcmp 24 (Or.inl rfl) h
        · rw [if_neg (by rw [N20]; omega), if_neg (by rw [N21]; omega), if_neg (by rw [N22]; omega), if_neg (by rw [N24]; omega), if_pos (by rw [N25]; exact h), show ii c = ii 25 from by rw [h]]
          exact hcmp 25 (Or.inr rfl) h
        · rw [if_neg (by rw [N20]; omega), if_neg (by rw [N21]; omega), if_neg (by rw [N22]; omega), if_neg (by rw [N24]; omega), if_neg (by rw [N25]; omega), if_pos (by rw [N26]; exact h), show ii c = ii 26 from by rw [h]]
          exact hkep 26 (Or.inl rfl) h
        · rw [if_neg (by rw [N20]; omega), if_neg (by rw [N21]; omega), if_neg (by rw [N22]; omega), if_neg (by rw [N24]; omega), if_neg (by rw [N25]; omega), if_neg (by rw [N26]; omega), if_pos (by rw [N27]; exact h), show ii c = ii 27 from by rw [h]]
          exact hkep 27 (Or.inr rfl) h
        · rw [if_neg (by rw [N20]; omega), if_neg (by rw [N21]; omega), if_neg (by rw [N22]; omega), if_neg (by rw [N24]; omega), if_neg (by rw [N25]; omega), if_neg (by rw [N26]; omega), if_neg (by rw [N27]; omega), if_pos (by rw [NL]; omega), if_pos (by rw [NG]; omega), if_pos (by rw [N29]; exact h)]
          have hsy : sy (g :: gs, some v9) c = ((clN gs (fvV g v9)).1, some (clN gs (fvV g v9)).2) := by
            show (if c = 20 ∨ c = 21 then _ else if c = 22 then _ else if c = 24 ∨ c = 25 then _ else if c = 26 ∨ c = 27 then _ else _) = _
            rw [if_neg (by omega), if_neg (by omega), if_neg (by omega), if_neg (by omega)]
          have hok3 : okFs gs := by
            cases gs with
            | nil => exact absurd rfl h0
            | cons g3 gs3 => exact hok.1.2
          have hpos : 1 ≤ gs.length := by
            cases gs with
            | nil => exact absurd rfl h0
            | cons g3 gs3 => simp
          have hrg3 : rgR x (upd a1 gs.length (fvV g v9 x)) a2 a3 (upd a4 gs.length 0) (upd a5 gs.length 0) (upd a6 gs.length 20) a7 (upd a8 gs.length 0) a9 gs := rgR_congr (fun j hj => ⟨hup _ _ _ hj, rfl, rfl, hup _ _ _ hj, hup _ _ _ hj, hup _ _ _ hj, rfl, hup _ _ _ hj, rfl⟩) c10
          obtain ⟨q1, q2, g2, gs2, q3, q4⟩ := clN_ok (v := fvV g v9) hok3
          have e1 := close_L (F := F) (lf := lf) (lt := lt) (cs := cs) (k14 := fX12_worked_L14 F 2 lf 2 lt 2000 cs 7 7 7 7 7 7 7 7 7 20 x t) (x1 := ii ln) (x3 := ii k) gs F (fvV g v9) (fvV g v9 x) rfl hok3 (by omega) (by omega) hrg3 g2 gs2 q3
          have e11 : ii gs.length + -ii 1 = ii (gs.length - 1) := ii_m1 hpos
          rw [e11, e1, k_1, ii_add]
          rw [hsy, q3] at hok2 hlg2 hend2
          have hsuf := clN_rg (v := fvV g v9) hrg3 q3
          have := ih t (k + 1) _ (upd a1 gs.length (fvV g v9 x)) a2 a3 (upd a4 gs.length 0) (upd a5 gs.length 0) (upd a6 gs.length 20) (upd a7 gs2.length (tmV g2.2.2.2.2 (clN gs (fvV g v9)).2 x)) (upd a8 gs.length 0) a9 hcs2 (by omega) (by omega) hok2 hlg2 ?_ hend2
          · rw [List.length_cons, Nat.add_sub_cancel] at this
            exact this
          · refine ⟨hsuf.1, upd_same _ _ _, hsuf.2.2.1, ?_⟩
            exact rgR_congr (fun j hj => ⟨rfl, rfl, rfl, rfl, rfl, rfl, upd_ne _ _ (by omega), rfl, rfl⟩) hsuf.2.2.2
