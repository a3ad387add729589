/-! PURE: what the class's search looks at -/
theorem pile_copy {F N len : Nat} (h1 : len ≤ N) (hb : N < 1000000) (f c f2 c2 : Nat → Int32) (z : Int32) : fX5_copyFrom F N N (ii len) N f N c z f2 c2 = some (ii len, cpA f f2 len, cpA c c2 len) := by
  unfold fX5_copyFrom
  simp (disch := omega) only [ofNat_ii, k_0, ii_lt, ii_nat, Nat.not_lt_zero, false_or]
  rw [if_neg (show ¬ N < len by omega)]
  simp (disch := omega) only [ii_lt, ii_nat, Nat.not_lt_zero, false_or]
  rw [if_neg (by omega), if_neg (by omega)]
  refine congrArg some (Prod.ext rfl (Prod.ext ?_ ?_))
  · funext k
    unfold va_cpy cpA
    simp
  · funext k
    unfold va_cpy cpA
    simp
theorem rP_copy {f c f2 c2 : Nat → Int32} {Q : List (Nat × Int)} (h : rP f c Q) : rP (cpA f f2 Q.length) (cpA c c2 Q.length) Q := rP_congr (fun k hk => by
  unfold cpA
  rw [if_pos hk, if_pos hk]
  exact ⟨rfl, rfl⟩) h
theorem comeBy_X {F t : Nat} (ht : t < 12) (z : Int32) (un : Nat → Int32) : fX0_comeBy F 12 (ii t) z un = some (upd un t (un t + z)) := by
  unfold fX0_comeBy bX0_comeBy_L23
  rw [if_neg (by rw [ii_nneg (by omega)]; simp), ofNat_ii, if_neg (by rw [ii_le (by omega) (by omega)]; omega), if_neg (nidx (by omega) (by omega)), if_neg (nidx (by omega) (by omega)), ii_nat (by omega)]
theorem countIn_X {F t : Nat} (ht : t < 12) (z : Int32) (to : Nat → Int32) : fX0_countIn F 6 (ii t) z to = some (upd to (t / 2) (to (t / 2) + z * iz (sg t))) := by
  unfold fX0_countIn bX0_countIn_L30
  rw [folkOf_eq ht, Option.bind_some, if_neg (by rw [ii_nneg (by omega)]; simp), if_neg (by rw [k_6, ii_le (by omega) (by omega)]; omega), if_neg (nidx (by omega) (by omega)), countOf_eq ht, Option.bind_some, if_neg (nidx (by omega) (by omega)), ii_nat (by omega)]
theorem cnT_F {L : List Nat} {f l : Nat} : cnT L (2 * f) l + cnT L (2 * f + 1) l = cnF L f l := by
  unfold cnT cnF
  rw [← sN_add]
  apply sN_c
  intro z _
  by_cases h : L.getD z 0 / 2 = f
  · rw [ind_t (p := fkA L z = f) h]
    by_cases h2 : L.getD z 0 % 2 = 0
    · rw [ind_t (by omega), ind_f (by omega)]
    · rw [ind_f (by omega), ind_t (by omega)]
  · rw [ind_f (p := fkA L z = f) h, ind_f (by omega), ind_f (by omega)]
theorem cnT_le {L : List Nat} {t l : Nat} : cnT L t l ≤ l := by
  have : cnT L t l ≤ l * 1 := sN_count (fun k _ => by unfold ind; split <;> omega)
  omega
theorem iz_nat {z : Int} (h : 0 ≤ z) : iz z = ii z.toNat := by
  rw [ii_iz]
  congr 1
  omega
theorem iz_k0 : (0 : Int32) = iz 0 := rfl
theorem msO_le {t : Int} {u : Nat} (hu : u ≤ 1000) : msO t u ≤ 1000 := by
  unfold msO
  split <;> omega
theorem miss_L82 {F : Nat} {to un ro : Nat → Int32} {nn : Int32} {f uu : Nat} {u : Int} (hf : f < 6) (hu : un (2 * f + 1) = ii uu) (huu : uu ≤ 14) (h1 : -200 ≤ u) (h2 : u ≤ 200) (k4 : Int32 → Int32 → Option Int32) (x2 x6 : Int32) :
    bX0_missing_L82 F 6 to 12 un nn 6 ro k4 x2 (ii f) x6 (iz u) = k4 (x2 + (if ii (msO u uu) < x6 then ii (msO u uu) else x6)) (ii (f + 1)) := by
  have e2 : (2 : Int32) * ii f + (1 : Int32) = ii (2 * f + 1) := by rw [k_2, ii_mul, k_1, ii_add]
  unfold bX0_missing_L82 bX0_missing_L109 bX0_missing_L112 bX0_missing_L124
  rw [e1k, e2]
  by_cases hu0 : u ≤ 0
  · rw [if_pos (by rw [iz_k0, iz_le (by omega) (by omega) (by omega) (by omega)]; exact hu0)]
    have e : msO u uu = 1000 := by unfold msO; rw [if_neg (by omega)]
    rw [e]
    rfl
  · rw [if_neg (by rw [iz_k0, iz_le (by omega) (by omega) (by omega) (by omega)]; exact hu0), if_neg (nidx (by omega) (by omega)), ii_nat (by omega), hu, ii_iz uu]
    by_cases hlt : (uu : Int) < u
    · rw [if_pos (by rw [iz_lt (by omega) (by omega) (by omega) (by omega)]; exact hlt)]
      have e : msO u uu = 1000 := by unfold msO; rw [if_neg (by omega)]
      rw [e]
      rfl
    · rw [if_neg (by rw [iz_lt (by omega) (by omega) (by omega) (by omega)]; exact hlt)]
      have e : msO u uu = u.toNat := by unfold msO; rw [if_pos (by omega)]
      rw [e, iz_nat (by omega)]
theorem miss_L4 {F n l : Nat} {mk rd : Nat → Nat} {st ro to un : Nat → Int32} (hn : okN n mk rd) (hx : netX n mk rd st ro) {L : List Nat} {T : Nat → Int} (hl : l ≤ 14) (hto : ∀ f, f < 6 → to f = iz (T f)) (hT : ∀ f, f < 6 → -100 ≤ T f ∧ T f ≤ 100) (hun : ∀ t, t < 12 → un t = ii (cnT L t l)) :
    ∀ (t f : Nat), n < f + t → f ≤ n → fX0_missing_L4 F 6 to 12 un (ii n) 6 ro t (ii (sN f (fun f => msF (rd f) (nrm (rd f) (T f)) (cnT L (2 * f) l) (cnT L (2 * f + 1) l)))) (ii f) = some (ii (sN n (fun f => msF (rd f) (nrm (rd f) (T f)) (cnT L (2 * f) l) (cnT L (2 * f + 1) l)))) := by
  have h6 := hn.1
  intro t
  induction t with
  | zero => intro f h1 h2; omega
  | succ t ih =>
    intro f h1 h2
    rw [sX0_missing_L4]
    unfold bX0_missing_L4 bX0_missing_L61 bX0_missing_L64
    by_cases h : n ≤ f
    · have : f = n := by omega
      subst this
      rw [if_pos (by rw [ii_le (by omega) (by omega)]; exact h)]
    · have hrd := (hn.2.1 f (by omega)).2.1
      have hTf := hT f (by omega)
      have hnb := nrm_bound (z := T f) (B := 100) hrd (by omega) (by omega) (by omega)
      have hu1 := cnT_le (L := L) (t := 2 * f) (l := l)
      have hu2 := cnT_le (L := L) (t := 2 * f + 1) (l := l)
      rw [if_neg (by rw [ii_le (by omega) (by omega)]; exact h), if_neg (nidx (by omega) (by omega)), ii_nat (by omega), hto f (by omega), rounded_eq hn hx (show f < n by omega) (by omega) (by omega), Option.bind_some]
      have ih2 := ih (f + 1) (by omega) (by omega)
      rw [sN_s] at ih2
      by_cases h0 : nrm (rd f) (T f) = 0
      · rw [if_pos (by rw [h0]; rfl)]
        unfold bX0_missing_L124
        rw [e1k]
        have e : msF (rd f) (nrm (rd f) (T f)) (cnT L (2 * f) l) (cnT L (2 * f + 1) l) = 0 := by unfold msF; rw [if_pos h0]
        rw [e, Nat.add_zero] at ih2
        exact ih2
      · have e2 : (2 : Int32) * ii f = ii (2 * f) := by rw [k_2, ii_mul]
        have hro := (hx f (by omega)).2
        have em : msF (rd f) (nrm (rd f) (T f)) (cnT L (2 * f) l) (cnT L (2 * f + 1) l) = (if msO (msU (rd f) (nrm (rd f) (T f))) (cnT L (2 * f + 1) l) < msO (nrm (rd f) (T f)) (cnT L (2 * f) l) then msO (msU (rd f) (nrm (rd f) (T f))) (cnT L (2 * f + 1) l) else msO (nrm (rd f) (T f)) (cnT L (2 * f) l)) := by unfold msF; rw [if_neg h0]
        have q1 := msO_le (t := nrm (rd f) (T f)) (u := cnT L (2 * f) l) (by omega)
        have q2 := msO_le (t := msU (rd f) (nrm (rd f) (T f))) (u := cnT L (2 * f + 1) l) (by omega)
        have hU : -200 ≤ msU (rd f) (nrm (rd f) (T f)) ∧ msU (rd f) (nrm (rd f) (T f)) ≤ 200 := by
          unfold msU
          split <;> omega
        have go : ∀ x6 : Int32, x6 = ii (msO (nrm (rd f) (T f)) (cnT L (2 * f) l)) → (if ii (rd f) ≤ (0 : Int32) then bX0_missing_L82 F 6 to 12 un (ii n) 6 ro (fX0_missing_L4 F 6 to 12 un (ii n) 6 ro t) (ii (sN f (fun f => msF (rd f) (nrm (rd f) (T f)) (cnT L (2 * f) l) (cnT L (2 * f + 1) l)))) (ii f) x6 (-iz (nrm (rd f) (T f))) else bX0_missing_L82 F 6 to 12 un (ii n) 6 ro (fX0_missing_L4 F 6 to 12 un (ii n) 6 ro t) (ii (sN f (fun f => msF (rd f) (nrm (rd f) (T f)) (cnT L (2 * f) l) (cnT L (2 * f + 1) l)))) (ii f) x6 (ii (rd f) - iz (nrm (rd f) (T f)))) = some (ii (sN n (fun f => msF (rd f) (nrm (rd f) (T f)) (cnT L (2 * f) l) (cnT L (2 * f + 1) l)))) := by
          intro x6 hx6
          have e82 := miss_L82 (F := F) (to := to) (un := un) (ro := ro) (nn := ii n) (u := msU (rd f) (nrm (rd f) (T f))) (show f < 6 by omega) (hun (2 * f + 1) (by omega)) (by omega) hU.1 hU.2 (fX0_missing_L4 F 6 to 12 un (ii n) 6 ro t) (ii (sN f (fun f => msF (rd f) (nrm (rd f) (T f)) (cnT L (2 * f) l) (cnT L (2 * f + 1) l)))) x6
          have e9 : (if ii (msO (msU (rd f) (nrm (rd f) (T f))) (cnT L (2 * f + 1) l)) < x6 then ii (msO (msU (rd f) (nrm (rd f) (T f))) (cnT L (2 * f + 1) l)) else x6) = ii (msF (rd f) (nrm (rd f) (T f)) (cnT L (2 * f) l) (cnT L (2 * f + 1) l)) := by
            rw [em, hx6]
            by_cases hc : msO (msU (rd f) (nrm (rd f) (T f))) (cnT L (2 * f + 1) l) < msO (nrm (rd f) (T f)) (cnT L (2 * f) l)
            · rw [if_pos (by rw [ii_lt (by omega) (by omega)]; exact hc), if_pos hc]
            · rw [if_neg (by rw [ii_lt (by omega) (by omega)]; exact hc), if_neg hc]
          rw [e9, ii_add, ih2] at e82
          by_cases hm0 : rd f = 0
          · rw [if_pos (by rw [hm0]; decide), iz_neg]
            have eU : msU (rd f) (nrm (rd f) (T f)) = -nrm (rd f) (T f) := by unfold msU; rw [if_pos hm0]
            rw [eU] at e82
            exact e82
          · rw [if_neg (by rw [k_0, ii_le (by omega) (by omega)]; omega), ii_iz (rd f), iz_sub]
            have eU : msU (rd f) (nrm (rd f) (T f)) = (rd f : Int) - nrm (rd f) (T f) := by unfold msU; rw [if_neg hm0]
            rw [eU] at e82
            exact e82
        rw [if_neg (by rw [iz_k0, iz_inj (by omega) (by omega) (by omega) (by omega)]; exact h0), if_neg (nidn (by omega) (by omega)), hro, e2]
        by_cases hp : nrm (rd f) (T f) ≤ 0
        · rw [if_pos (by rw [iz_k0, iz_le (by omega) (by omega) (by omega) (by omega)]; exact hp)]
          exact go _ (by
            have e : msO (nrm (rd f) (T f)) (cnT L (2 * f) l) = 1000 := by unfold msO; rw [if_neg (by omega)]
            rw [e]; rfl)
        · rw [if_neg (by rw [iz_k0, iz_le (by omega) (by omega) (by omega) (by omega)]; exact hp), if_neg (nidx (by omega) (by omega)), ii_nat (by omega), hun (2 * f) (by omega), ii_iz (cnT L (2 * f) l)]
          by_cases hlt : (cnT L (2 * f) l : Int) < nrm (rd f) (T f)
          · rw [if_pos (by rw [iz_lt (by omega) (by omega) (by omega) (by omega)]; exact hlt)]
            exact go _ (by
              have e : msO (nrm (rd f) (T f)) (cnT L (2 * f) l) = 1000 := by unfold msO; rw [if_neg (by omega)]
              rw [e]; rfl)
          · rw [if_neg (by rw [iz_lt (by omega) (by omega) (by omega) (by omega)]; exact hlt)]
            exact go _ (by
              have e : msO (nrm (rd f) (T f)) (cnT L (2 * f) l) = (nrm (rd f) (T f)).toNat := by unfold msO; rw [if_pos (by omega)]
              rw [e, iz_nat (by omega)])
theorem miss_X {F n l : Nat} {mk rd : Nat → Nat} {st ro to un : Nat → Int32} (hn : okN n mk rd) (hx : netX n mk rd st ro) (hF : 100 ≤ F) {L : List Nat} {T : Nat → Int} (hl : l ≤ 14) (hto : ∀ f, f < 6 → to f = iz (T f)) (hT : ∀ f, f < 6 → -100 ≤ T f ∧ T f ≤ 100) (hun : ∀ t, t < 12 → un t = ii (cnT L t l)) : fX0_missing F 6 to 12 un (ii n) 6 ro = some (ii (sN n (fun f => msF (rd f) (nrm (rd f) (T f)) (cnT L (2 * f) l) (cnT L (2 * f + 1) l)))) := by
  have h6 := hn.1
  unfold fX0_missing
  exact miss_L4 hn hx hl hto hT hun F 0 (by omega) (by omega)
theorem abs_iz {z : Int} (h1 : -1000 ≤ z) (h2 : z ≤ 1000) : (if (0 : Int32) ≤ iz z then iz z else 0 - iz z) = ii z.natAbs := by
  by_cases h : 0 ≤ z
  · rw [if_pos (by rw [iz_k0, iz_le (by omega) (by omega) (by omega) (by omega)]; exact h), iz_nat h]
    congr 1
    omega
  · rw [if_neg (by rw [iz_k0, iz_le (by omega) (by omega) (by omega) (by omega)]; exact h), iz_k0, iz_sub, iz_nat (by omega)]
    congr 1
    omega
theorem tv_b {m : Nat} (hm : m = 0 ∨ m = 2 ∨ m = 3 ∨ m = 4) {c : Int} (h1 : -100 ≤ c) (h2 : c ≤ 100) : -104 ≤ tv m c ∧ tv m c ≤ 104 := by
  rcases hm with rfl | rfl | rfl | rfl
  · rw [tvm0]; omega
  · rw [tvm2]; split <;> omega
  · rw [tvm3]; split <;> omega
  · rw [tvm4]; split <;> omega
theorem phi_le {n : Nat} {rd : Nat → Nat} (hr : okR rd) {f : Nat} : ∀ {Q : List (Nat × Int)}, okP n 100 Q → phi rd f Q ≤ 104 * Q.length
  | [], _ => Nat.zero_le _
  | x :: Q, h => by
    have ih := phi_le (n := n) hr (f := f) (Q := Q) (fun y hy => h y (List.mem_cons_of_mem _ hy))
    have hx := h x (List.mem_cons_self ..)
    have := tv_b (hr f) hx.2.1 hx.2.2
    rw [phi_cons, List.length_cons]
    split <;> omega
theorem past_L10 {F n l N : Nat} {mk rd : Nat → Nat} {st ro un fo co : Nat → Int32} (hn : okN n mk rd) (hx : netX n mk rd st ro) (hr : okR rd) {L : List Nat} (hl : l ≤ 14) (hun : ∀ t, t < 12 → un t = ii (cnT L t l)) (hN : N < 1000000) :
    ∀ (t : Nat) (A P : List (Nat × Int)) (ne : Nat → Int32), A.length < t → okP n 100 (A ++ P) → (A ++ P).length ≤ N → (A ++ P).length ≤ 1000 → rP fo co (A ++ P) → (∀ f, f < 6 → ne f = ii (phi rd f P)) → (∀ f, f < 6 → phi rd f P ≤ cnF L f l) → ∃ ne', (fX0_isPast_L10 F 12 un 6 6 ro (ii (A ++ P).length) N fo N co t (ii P.length) ne = some (0, ne') ∧ ∀ f, f < 6 → phi rd f (A ++ P) ≤ cnF L f l) ∨ (fX0_isPast_L10 F 12 un 6 6 ro (ii (A ++ P).length) N fo N co t (ii P.length) ne = some (1, ne') ∧ ∃ f, cnF L f l < phi rd f (A ++ P)) := by
  have h6 := hn.1
  intro t
  induction t with
  | zero => intro A P ne h; omega
  | succ t ih =>
    intro A P ne hA hok hlN hl1 hrp hne hle
    rw [sX0_isPast_L10]
    unfold bX0_isPast_L10
    rw [e1k]
    rcases List.eq_nil_or_concat A with rfl | ⟨A', x, rfl⟩
    · refine ⟨ne, Or.inl ⟨?_, hle⟩⟩
      rw [List.nil_append, if_pos (by exact Int32.le_refl _)]
    · rw [List.concat_eq_append, List.append_assoc] at *
      simp only [List.cons_append, List.nil_append] at *
      have hrx : rP fo co (x :: P) := rP_tail (A := A') hrp
      have hxk := hok x (by simp)
      have hlen : (A' ++ x :: P).length = A'.length + (P.length + 1) := by rw [List.length_append, List.length_cons]
      have htv := tv_b (hr x.1) hxk.2.1 hxk.2.2
      have hphi := phi_le (n := n) hr (f := x.1) (Q := P) (fun y hy => hok y (by simp [hy]))
      have e2 : (2 : Int32) * ii x.1 = ii (2 * x.1) := by rw [k_2, ii_mul]
      have hF1 := cnF_le L x.1 l
      have eT := cnT_F (L := L) (f := x.1) (l := l)
      rw [if_neg (by rw [ii_le (by omega) (by omega)]; omega), if_neg (nidx (by omega) (by omega)), ii_nat (by omega), hrx.1.1, if_neg (nidx (by omega) (by omega)), tiesIn_eq (F := F) (len := (A' ++ x :: P).length) hn hx (show n ≤ 6 by omega) (by omega) hlN hlN (by omega) hrx.1.1 hrx.1.2 hxk.1 hxk.2.1 hxk.2.2, Option.bind_some, abs_iz (by omega) (by omega), if_neg (nidx (by omega) (by omega)), if_neg (nidx (by omega) (by omega)), e2, e1k, if_neg (nidx (by omega) (by omega)), if_neg (nidx (by omega) (by omega)), ii_nat (by omega), ii_nat (by omega), ii_nat (by omega), upd_same, hne x.1 (by omega), hun (2 * x.1) (by omega), hun (2 * x.1 + 1) (by omega), ii_add, ii_add, eT]
      have ephi : phi rd x.1 (x :: P) = (tv (rd x.1) x.2).natAbs + phi rd x.1 P := by rw [phi_cons, if_pos rfl]
      by_cases hc : phi rd x.1 P + (tv (rd x.1) x.2).natAbs ≤ cnF L x.1 l
      · rw [if_pos (by rw [ii_le (by omega) (by omega)]; exact hc)]
        have := ih A' (x :: P) (upd ne x.1 (ii (phi rd x.1 P + (tv (rd x.1) x.2).natAbs))) (by simp at hA; omega) hok hlN hl1 hrp (by
          intro f hf
          by_cases hfx : f = x.1
          · rw [hfx, upd_same, ephi]
            congr 1
            omega
          · rw [upd_ne _ _ hfx, hne f hf, phi_cons, if_neg (fun h9 => hfx h9.symm), Nat.zero_add]) (by
          intro f hf
          by_cases hfx : f = x.1
          · rw [hfx, ephi]; omega
          · rw [phi_cons, if_neg (fun h9 => hfx h9.symm), Nat.zero_add]; exact hle f hf)
        rw [List.length_cons] at this
        exact this
      · rw [if_neg (by rw [ii_le (by omega) (by omega)]; exact hc)]
        refine ⟨_, Or.inr ⟨rfl, x.1, ?_⟩⟩
        rw [phi_app, ephi]
        omega
theorem past_X {F n l N : Nat} {mk rd : Nat → Nat} {st ro un fo co : Nat → Int32} (hn : okN n mk rd) (hx : netX n mk rd st ro) (hr : okR rd) (hF : 1001 < F) {L : List Nat} (hl : l ≤ 14) (hun : ∀ t, t < 12 → un t = ii (cnT L t l)) (hN : N ≤ 1000) {Q : List (Nat × Int)} (hok : okP n 100 Q) (hlN : Q.length ≤ N) (hrp : rP fo co Q) (ne : Nat → Int32) : ∃ ne', (fX0_isPast F 12 un 6 6 ro (ii Q.length) N fo N co ne = some (0, ne') ∧ ∀ f, f < 6 → phi rd f Q ≤ cnF L f l) ∨ (fX0_isPast F 12 un 6 6 ro (ii Q.length) N fo N co ne = some (1, ne') ∧ ∃ f, cnF L f l < phi rd f Q) := by
  obtain ⟨n1, e, g⟩ := fill_X (F := F) (N := 6) (by omega) (by omega) ne
  have := past_L10 (F := F) (N := N) hn hx hr hl hun (by omega) F Q [] n1 (by omega) (by rw [List.append_nil]; exact hok) (by rw [List.append_nil]; exact hlN) (by rw [List.append_nil]; omega) (by rw [List.append_nil]; exact hrp) (fun f hf => by rw [g f hf]; rfl) (fun f hf => Nat.zero_le _)
  rw [List.append_nil] at this
  unfold fX0_isPast
  rw [e, Option.bind_some]
  exact this
