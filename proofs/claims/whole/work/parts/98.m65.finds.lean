/-! PURE: the reference's search -/
/-- a form of the ring of V -/
def rF (n : Nat) (mk rd : Nat → Nat) (V O : List Nat) : Prop := okL n O ∧ frm mk rd O = O ∧ O.length ≤ V.length ∧ JN mk rd (psL mk rd [] V) (psL mk rd [] O)
/-- all that comes of O in one step -/
def c1 (n : Nat) (mk rd : Nat → Nat) (m i : Nat) (L : List (List Nat)) (O : List Nat) : Prop := ∀ t, t < i → t < 2 * n → m ≤ (frm mk rd (tkW t O)).length ∧ ((frm mk rd (tkW t O)).length = m → frm mk rd (tkW t O) ∈ L)
def dnF (n : Nat) (mk rd : Nat → Nat) (V : List Nat) (L : List (List Nat)) : Prop := L.length ≤ 2000 ∧ V ∈ L ∧ (∀ O ∈ L, rF n mk rd V O) ∧ ((∃ O ∈ L, O.length < V.length) ∨ ∀ O ∈ L, O.length = V.length ∧ c1 n mk rd V.length (2 * n) L O)
def resF (n : Nat) (mk rd : Nat → Nat) (V : List Nat) (r : Option (Int32 × Int32 × Int32 × Int32 × (Nat → Int32) × (Nat → Int32) × (Nat → Int32) × (Nat → Int32) × (Nat → Int64))) : Prop := ∃ b tm fmn L fo co ti fm rg, r = some (b, tm, fmn, ii L.length, fo, co, ti, fm, rg) ∧ rR rg L ∧ dnF n mk rd V L
/-- before the k-th is looked at -/
def i20 (n : Nat) (mk rd : Nat → Nat) (V : List Nat) (k : Nat) (L : List (List Nat)) : Prop := k ≤ L.length ∧ L.Nodup ∧ V ∈ L ∧ (∀ O ∈ L, rF n mk rd V O ∧ O.length = V.length) ∧ (∀ j, j < k → c1 n mk rd V.length (2 * n) L (L.getD j [])) ∧ (k = 0 → L = [V]) ∧ (1 ≤ k → ∀ O ∈ L, ∃ ν, HV mk rd V ν (O.map tw))
theorem rF_tt {n : Nat} {mk rd : Nat → Nat} {V O : List Nat} (h : rF n mk rd V O) : tt rd (psL mk rd [] O) = O.length := by
  have := frm_len mk rd O
  rw [h.2.1] at this
  exact this.symm
theorem folk_lt {n : Nat} {mk rd : Nat → Nat} (hn : okN n mk rd) {O : List Nat} (hO : okL n O) : ∀ x ∈ psL mk rd [] O, x.1 < n := by
  have := psL_ok (mk := mk) hn hO (Q := []) (B := 3) (by decide) okP_nil
  exact fun x hx => (this x hx).1
theorem rF_tk {n : Nat} {mk rd : Nat → Nat} (hn : okN n mk rd) (hr : okR rd) {V O : List Nat} (h : rF n mk rd V O) (hV : V.length ≤ 10) {t : Nat} (ht : t < 2 * n) : okO n (frm mk rd (tkW t O)) ∧ ((frm mk rd (tkW t O)).length ≤ V.length → rF n mk rd V (frm mk rd (tkW t O))) := by
  obtain ⟨h1, h2, h3, h4⟩ := h
  have hl := tk_len t O
  obtain ⟨g1, g2⟩ := frm_ok (mk := mk) hn hr (tk_okL ht h1) (by omega)
  refine ⟨⟨g1, by omega⟩, fun hle => ⟨g1, ?_, hle, ?_⟩⟩
  · exact frm_gq hn.2.2 (frm_back hn.2.2 hr (tkW t O))
  · refine JN_tr hn.2.2 h4 (JN_tr hn.2.2 (JN_tk hn.2.2 hr t O) (JN_EQ (frm_back hn.2.2 hr (tkW t O)).symm9))
theorem i20_len {n : Nat} {mk rd : Nat → Nat} (hn : okN n mk rd) {V : List Nat} (hV : rF n mk rd V V) (hV10 : V.length ≤ 10) {k : Nat} {L : List (List Nat)} (h : i20 n mk rd V k L) : L.length ≤ 1024 := by
  obtain ⟨h1, h2, h3, h4, h5, h6, h7⟩ := h
  by_cases hk : k = 0
  · rw [h6 hk]
    show 1 ≤ 1024
    decide
  · have h8 := h7 (by omega)
    have h9 := folk_lt (mk := mk) hn hV.1
    have := hn.1
    exact cap_L hn.2.2 (V := V) (fun x hx => by have := h9 x hx; omega) (by rw [rF_tt hV]; exact hV10) h2 (fun O hO => ⟨(h4 O hO).1.2.1, h8 O hO⟩)
theorem c1_up {n : Nat} {mk rd : Nat → Nat} {m i : Nat} {L N : List (List Nat)} {O : List Nat} (h : c1 n mk rd m i L O) : c1 n mk rd m i (L ++ N) O := fun t h1 h2 => ⟨(h t h1 h2).1, fun e => List.mem_append_left _ ((h t h1 h2).2 e)⟩
theorem frm_tw {mk rd : Nat → Nat} (hs : symK mk) {O : List Nat} (h : frm mk rd O = O) : EQ mk (O.map tw) (ex rd (psL mk rd [] O)) := by
  have := frm_ex (mk := mk) (rd := rd) hs O
  rw [h] at this
  exact this
/-- one round of single ties done -/
theorem i20_next {n : Nat} {mk rd : Nat → Nat} (hn : okN n mk rd) (hr : okR rd) {V : List Nat} {k : Nat} {L N : List (List Nat)} (h : i20 n mk rd V k L) (hV : rF n mk rd V V) (hk : k < L.length) (hnd : (L ++ N).Nodup) (hN : ∀ O ∈ N, (rF n mk rd V O ∧ O.length = V.length) ∧ ∃ t, t < 2 * n ∧ O = frm mk rd (tkW t (L.getD k []))) (hc : c1 n mk rd V.length (2 * n) (L ++ N) (L.getD k [])) : i20 n mk rd V (k + 1) (L ++ N) := by
  obtain ⟨h1, h2, h3, h4, h5, h6, h7⟩ := h
  have hO := getD_in hk
  have hirr : ∀ f, f < n → (mk f).testBit f = false := fun f hf => (hn.2.1 f hf).2.2
  have tight : ∀ t, t < 2 * n → tt rd (psL mk rd [] (L.getD k [])) ≤ tt rd (psL mk rd [] (tkW t (L.getD k []))) := by
    intro t ht
    rw [rF_tt (h4 _ hO).1, (h4 _ hO).2, ← frm_len mk rd (tkW t _)]
    exact (hc t ht ht).1
  have hHV : ∃ ν, HV mk rd V ν (ex rd (psL mk rd [] (L.getD k []))) := by
    by_cases hk0 : k = 0
    · have e : L.getD k [] = V := by rw [h6 hk0, hk0]; rfl
      rw [e] at tight ⊢
      exact ⟨_, HV_0 hn.2.2 hr (folk_lt hn hV.1) hirr tight⟩
    · obtain ⟨ν, hν⟩ := h7 (by omega) _ hO
      exact ⟨ν, HT_EQ hn.2.2 (frm_tw hn.2.2 (h4 _ hO).1.2.1) hν⟩
  have hLHV : ∀ O ∈ L, ∃ ν, HV mk rd V ν (O.map tw) := by
    intro O hO2
    by_cases hk0 : k = 0
    · have e : L.getD k [] = V := by rw [h6 hk0, hk0]; rfl
      rw [e] at hHV
      rw [h6 hk0] at hO2
      rw [List.mem_singleton.mp hO2]
      obtain ⟨ν, hν⟩ := hHV
      exact ⟨ν, HT_EQ hn.2.2 (frm_tw hn.2.2 hV.2.1).symm9 hν⟩
    · exact h7 (by omega) O hO2
  refine ⟨by rw [List.length_append]; omega, hnd, List.mem_append_left _ h3, ?_, ?_, fun h9 => by omega, fun _ => ?_⟩
  · intro O hO2
    rcases List.mem_append.mp hO2 with h9 | h9
    · exact h4 O h9
    · exact (hN O h9).1
  · intro j hj
    have e : (L ++ N).getD j [] = L.getD j [] := by
      rw [List.getD_eq_getElem?_getD, List.getD_eq_getElem?_getD, List.getElem?_append_left (by omega)]
    rw [e]
    by_cases hjk : j = k
    · rw [hjk]; exact hc
    · exact c1_up (h5 j (by omega))
  · intro O hO2
    rcases List.mem_append.mp hO2 with h9 | h9
    · exact hLHV O h9
    · obtain ⟨⟨_, hlen⟩, t, ht, e⟩ := hN O h9
      obtain ⟨ν, hν⟩ := hHV
      have hft : t / 2 < n := by omega
      have hl : tt rd (psL mk rd [] (tkW t (L.getD k []))) = tt rd (psL mk rd [] (L.getD k [])) := by
        rw [rF_tt (h4 _ hO).1, (h4 _ hO).2, ← frm_len mk rd (tkW t _), ← e, hlen]
      obtain ⟨ν', hν'⟩ := HV_s hn.2.2 hr (hirr _ hft) (fun s hs2 => tight s (by omega)) hl hν
      refine ⟨ν', ?_⟩
      rw [e]
      exact HT_EQ hn.2.2 (frm_ex hn.2.2 _).symm9 hν'
theorem finds_L32 {F n : Nat} {mk rd : Nat → Nat} {ki kn nt : Nat → Int32} (hn : okN n mk rd) (hr : okR rd) (hm : netM n mk rd ki kn) (hnt : nt 0 = ii n) (hF : 20000 ≤ F) {V : List Nat} (hV : rF n mk rd V V) (hV10 : V.length ≤ 10) {k : Nat} {L : List (List Nat)} (h0 : i20 n mk rd V k L) (hk : k < L.length)
    (k20 : Int32 → Int32 → Int32 → Int32 → Int32 → Int32 → (Nat → Int32) → (Nat → Int32) → (Nat → Int32) → (Nat → Int32) → (Nat → Int64) → Option (Int32 × Int32 × Int32 × Int32 × (Nat → Int32) × (Nat → Int32) × (Nat → Int32) × (Nat → Int32) × (Nat → Int64)))
    (hk20 : ∀ L b tm fmn fo co ti fm rg, i20 n mk rd V (k + 1) L → rR rg L → resF n mk rd V (k20 (ii V.length) (ii (k + 1)) b tm fmn (ii L.length) fo co ti fm rg)) :
    ∀ (u i : Nat) (N : List (List Nat)) (b tm fmn : Int32) (fo co ti fm : Nat → Int32) (rg : Nat → Int64), i ≤ 2 * n → 2 * n < i + u → N.length ≤ i → (L ++ N).Nodup → (∀ O ∈ N, (rF n mk rd V O ∧ O.length = V.length) ∧ ∃ t, t < 2 * n ∧ O = frm mk rd (tkW t (L.getD k []))) → c1 n mk rd V.length i (L ++ N) (L.getD k []) → rR rg (L ++ N) →
      resF n mk rd V (fX12_finds_L32 F 8 nt 12 ki 12 kn 96 96 96 96 2000 k20 u (ii V.length) (ii k) (ii i) b tm fmn (ii (L ++ N).length) fo co ti fm rg) := by
  have hlen := i20_len hn hV hV10 h0
  have h6 := hn.1
  intro u
  induction u with
  | zero => intro i N b tm fmn fo co ti fm rg h1 h2; omega
  | succ u ih =>
    intro i N b tm fmn fo co ti fm rg h1 h2 h3 h4 h5 hc hrg
    have hlN : (L ++ N).length ≤ 1036 := by rw [List.length_append]; omega
    rw [sX12_finds_L32]
    unfold bX12_finds_L32
    rw [if_neg (by decide)]
    have e0 : (2 : Int32) * nt (0 : Int32).toNatClampNeg = ii (2 * n) := by
      show (2 : Int32) * nt 0 = _
      rw [hnt, k_2, ii_mul]
    rw [e0]
    by_cases hi : 2 * n ≤ i
    · rw [if_pos (by rw [ii_le (by omega) (by omega)]; exact hi), e1k]
      have ei : i = 2 * n := by omega
      rw [ei] at hc
      exact hk20 (L ++ N) b tm fmn fo co ti fm rg (i20_next hn hr h0 hV hk h4 h5 hc) hrg
    · rw [if_neg (by rw [ii_le (by omega) (by omega)]; exact hi), if_neg (nidx (by omega) (by omega)), ii_nat (by omega)]
      have hOL := getD_in hk
      have hO := (h0.2.2.2.1 _ hOL).1
      have eO : (L ++ N).getD k [] = L.getD k [] := by
        rw [List.getD_eq_getElem?_getD, List.getD_eq_getElem?_getD, List.getElem?_append_left hk]
      have er : rg k = il (pkN (L.getD k [])) := by
        have := hrg k (by rw [List.length_append]; omega)
        rw [eO] at this
        exact this
      rw [er]
      have hOlen : (L.getD k []).length ≤ 12 := by have := hO.2.2.1; omega
      obtain ⟨b', tm', fmn', fo', co', ti', fm', e1⟩ := taken_eq (F := F) hn hr hm (by omega) hO.1 hOlen (t0 := i) (by omega) b tm fmn fo co ti fm
      obtain ⟨hP, hPr⟩ := rF_tk hn hr hO hV10 (t := i) (by omega)
      rw [e1, Option.bind_some, longOf_eq (by omega) hP.2 (okL12 hn hP.1), Option.bind_some]
      have hP12 := hP.2
      have step : ∀ (N' : List (List Nat)) (rg' : Nat → Int64), N'.length ≤ i + 1 → (L ++ N').Nodup → (∀ O ∈ N', (rF n mk rd V O ∧ O.length = V.length) ∧ ∃ t, t < 2 * n ∧ O = frm mk rd (tkW t (L.getD k []))) → c1 n mk rd V.length (i + 1) (L ++ N') (L.getD k []) → rR rg' (L ++ N') → resF n mk rd V (bX12_finds_L122 F 8 nt 12 ki 12 kn 96 96 96 96 2000 (fX12_finds_L32 F 8 nt 12 ki 12 kn 96 96 96 96 2000 k20 u) (ii V.length) (ii k) (ii i) b' tm' fmn' (ii (L ++ N').length) fo' co' ti' fm' rg') := by
        intro N' rg' a1 a2 a3 a4 a5
        unfold bX12_finds_L122
        rw [e1k]
        exact ih (i + 1) N' b' tm' fmn' fo' co' ti' fm' rg' (by omega) (by omega) a1 a2 a3 a4 a5
      have cs1 : ∀ L', (∀ t, t < i → t < 2 * n → V.length ≤ (frm mk rd (tkW t (L.getD k []))).length ∧ ((frm mk rd (tkW t (L.getD k []))).length = V.length → frm mk rd (tkW t (L.getD k [])) ∈ L')) → V.length ≤ (frm mk rd (tkW i (L.getD k []))).length → ((frm mk rd (tkW i (L.getD k []))).length = V.length → frm mk rd (tkW i (L.getD k [])) ∈ L') → c1 n mk rd V.length (i + 1) L' (L.getD k []) := by
        intro L' a1 a2 a3 t ht1 ht2
        by_cases hti : t = i
        · rw [hti]; exact ⟨a2, a3⟩
        · exact a1 t (by omega) ht2
      show resF n mk rd V (if ii V.length < ii (frm mk rd (tkW i (L.getD k []))).length then _ else _)
      by_cases hlt : V.length < (frm mk rd (tkW i (L.getD k []))).length
      · rw [if_pos (by rw [ii_lt (by omega) (by omega)]; exact hlt)]
        exact step N rg (by omega) h4 h5 (cs1 _ hc (by omega) (fun h9 => by omega)) hrg
      · rw [if_neg (by rw [ii_lt (by omega) (by omega)]; exact hlt)]
        have hPF := hPr (by omega)
        have hall : ∀ P ∈ L ++ N, okO n P := by
          intro P hPm
          rcases List.mem_append.mp hPm with h9 | h9
          · have := (h0.2.2.2.1 P h9).1
            exact ⟨this.1, by have := this.2.2.1; omega⟩
          · have := (h5 P h9).1.1
            exact ⟨this.1, by have := this.2.2.1; omega⟩
        have hfd := found_eq (F := F) hn (by omega) hall (by omega) hrg hP
        by_cases hmem : frm mk rd (tkW i (L.getD k [])) ∈ L ++ N
        · rw [hfd.1 hmem, Option.bind_some]
          show resF n mk rd V (if (1 : Int32) = 0 then _ else _)
          rw [if_neg (by decide)]
          refine step N rg (by omega) h4 h5 (cs1 _ hc ?_ (fun _ => hmem)) hrg
          rcases List.mem_append.mp hmem with h9 | h9
          · rw [(h0.2.2.2.1 _ h9).2]; exact Nat.le_refl _
          · rw [(h5 _ h9).1.2]; exact Nat.le_refl _
        · rw [hfd.2 hmem, Option.bind_some]
          show resF n mk rd V (if (0 : Int32) = 0 then _ else _)
          rw [if_pos rfl, if_neg (by rw [k_2000, ii_inj (by omega) (by omega)]; omega), if_neg (nidx (by omega) (by omega)), Option.bind_some, ii_nat (by omega), e1k]
          have hsn := rR_snoc (O := frm mk rd (tkW i (L.getD k []))) hrg
          have hln : (L ++ N).length + 1 = (L ++ (N ++ [frm mk rd (tkW i (L.getD k []))])).length := by simp; omega
          have hassoc : (L ++ N) ++ [frm mk rd (tkW i (L.getD k []))] = L ++ (N ++ [frm mk rd (tkW i (L.getD k []))]) := List.append_assoc ..
          rw [hassoc] at hsn
          by_cases hge : V.length ≤ (frm mk rd (tkW i (L.getD k []))).length
          · rw [if_pos (by rw [ii_le (by omega) (by omega)]; exact hge), hln]
            refine step (N ++ [frm mk rd (tkW i (L.getD k []))]) _ (by simp; omega) ?_ ?_ ?_ hsn
            · rw [← hassoc]
              exact List.nodup_append.mpr ⟨h4, by simp, fun a ha b hb => by rw [List.mem_singleton.mp hb]; exact fun e => hmem (e ▸ ha)⟩
            · intro O hO2
              rcases List.mem_append.mp hO2 with h9 | h9
              · exact h5 O h9
              · rw [List.mem_singleton.mp h9]
                exact ⟨⟨hPF, by omega⟩, i, by omega, rfl⟩
            · refine cs1 _ (fun t ht1 ht2 => ⟨(hc t ht1 ht2).1, fun e => ?_⟩) hge (fun _ => by simp)
              rw [← hassoc]
              exact List.mem_append_left _ ((hc t ht1 ht2).2 e)
          · rw [if_neg (by rw [ii_le (by omega) (by omega)]; exact hge), hln]
            refine ⟨_, _, _, L ++ (N ++ [frm mk rd (tkW i (L.getD k []))]), _, _, _, _, _, rfl, hsn, ?_, ?_, ?_, ?_⟩
            · rw [← hln]; omega
            · exact List.mem_append_left _ h0.2.2.1
            · intro O hO2
              rw [← hassoc] at hO2
              rcases List.mem_append.mp hO2 with h9 | h9
              · rcases List.mem_append.mp h9 with h9 | h9
                · exact (h0.2.2.2.1 O h9).1
                · exact (h5 O h9).1.1
              · rw [List.mem_singleton.mp h9]; exact hPF
            · exact Or.inl ⟨frm mk rd (tkW i (L.getD k [])), by simp, by omega⟩
theorem finds_L20 {F n : Nat} {mk rd : Nat → Nat} {ki kn nt : Nat → Int32} (hn : okN n mk rd) (hr : okR rd) (hm : netM n mk rd ki kn) (hnt : nt 0 = ii n) (hF : 20000 ≤ F) {V : List Nat} (hV : rF n mk rd V V) (hV10 : V.length ≤ 10) :
    ∀ (u k : Nat) (L : List (List Nat)) (b tm fmn : Int32) (fo co ti fm : Nat → Int32) (rg : Nat → Int64), 1100 < k + u → i20 n mk rd V k L → rR rg L → resF n mk rd V (fX12_finds_L20 F 8 nt 12 ki 12 kn 96 96 96 96 2000 u (ii V.length) (ii k) b tm fmn (ii L.length) fo co ti fm rg) := by
  intro u
  induction u with
  | zero =>
    intro k L b tm fmn fo co ti fm rg hku h0 hrg
    have := i20_len hn hV hV10 h0
    have := h0.1
    omega
  | succ u ih =>
    intro k L b tm fmn fo co ti fm rg hku h0 hrg
    have hlen := i20_len hn hV hV10 h0
    rw [sX12_finds_L20]
    unfold bX12_finds_L20
    have hk0 := h0.1
    by_cases hk : L.length ≤ k
    · rw [if_pos (by rw [ii_le (by omega) (by omega)]; exact hk)]
      obtain ⟨h1, h2, h3, h4, h5, h6, h7⟩ := h0
      refine ⟨_, _, _, L, _, _, _, _, _, rfl, hrg, by omega, h3, fun O hO => (h4 O hO).1, Or.inr (fun O hO => ⟨(h4 O hO).2, ?_⟩)⟩
      obtain ⟨j, hj, e⟩ := List.getElem_of_mem hO
      have := h5 j (by omega)
      rw [List.getD_eq_getElem?_getD, List.getElem?_eq_getElem hj] at this
      rw [← e]
      exact this
    · rw [if_neg (by rw [ii_le (by omega) (by omega)]; exact hk)]
      have := finds_L32 (F := F) hn hr hm hnt hF hV hV10 h0 (by omega) _ (fun L b tm fmn fo co ti fm rg a1 a2 => ih (k + 1) L b tm fmn fo co ti fm rg (by omega) a1 a2) F 0 [] b tm fmn fo co ti fm rg (Nat.zero_le _) (by have := hn.1; omega) (Nat.le_refl _) (by rw [List.append_nil]; exact h0.2.1) (fun O hO => by cases hO) (fun t ht => by omega) (by rw [List.append_nil]; exact hrg)
      rw [List.append_nil] at this
      exact this
theorem finds_eq {F n : Nat} {mk rd : Nat → Nat} {ki kn nt : Nat → Int32} (hn : okN n mk rd) (hr : okR rd) (hm : netM n mk rd ki kn) (hnt : nt 0 = ii n) (hF : 20000 ≤ F) {V : List Nat} (hV : rF n mk rd V V) (hV10 : V.length ≤ 10) (b tm fmn rm : Int32) (fo co ti fm : Nat → Int32) (rg : Nat → Int64) : resF n mk rd V (fX12_finds F 8 nt 12 ki 12 kn 96 96 96 96 2000 (il (pkN V)) b tm fmn rm fo co ti fm rg) := by
  unfold fX12_finds
  rw [longOf_eq (by omega) (by omega) (okL12 hn hV.1), Option.bind_some, if_neg (by decide)]
  refine finds_L20 hn hr hm hnt hF hV hV10 F 0 [V] b tm fmn fo co ti fm _ (by omega) ⟨Nat.zero_le _, by simp, by simp, ?_, fun j hj => by omega, fun _ => rfl, fun h9 => by omega⟩ ?_
  · intro O hO
    rw [List.mem_singleton.mp hO]
    exact ⟨hV, rfl⟩
  · exact rR_snoc (rg := rg) (L := []) (O := V) (fun k hk => by cases hk)
