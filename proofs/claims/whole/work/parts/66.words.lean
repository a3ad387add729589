/-! PURE: a row comes out if it does so read from its end -/
theorem nrm_neg (m : Nat) (a : Int) : nrm m (-nrm m a) = nrm m (-a) := by
  unfold nrm
  by_cases hm : m = 0
  · rw [if_pos hm, if_pos hm, if_pos hm]
  · rw [if_neg hm, if_neg hm, if_neg hm]
    have h3 : a = (m : Int) * (a / (m : Int)) + a % (m : Int) := (Int.mul_ediv_add_emod a m).symm
    have h4 : -(a % (m : Int)) = -a + (m : Int) * (a / (m : Int)) := by omega
    rw [h4, Int.add_mul_emod_self_left]
theorem psT_back {mk rd : Nat → Nat} (hs : ∀ f g, (mk f).testBit g = (mk g).testBit f) {t : Nat} {Q : List (Nat × Int)} (hQ : Red mk Q) (hC : okC rd Q) : EQ mk (psT mk rd (psT mk rd Q t) (tn t)) Q := by
  unfold psT
  rw [tn_half, tn_sg]
  exact ps_back hs hQ hC
theorem psL_EQ {mk rd : Nat → Nat} (hs : ∀ f g, (mk f).testBit g = (mk g).testBit f) : ∀ {L : List Nat} {Q P : List (Nat × Int)}, EQ mk Q P → EQ mk (psL mk rd Q L) (psL mk rd P L)
  | [], _, _, h => h
  | t :: L, Q, P, h => psL_EQ hs (L := L) (Q := psT mk rd Q t) (P := psT mk rd P t) (ps_EQ hs h)
theorem psL_app {mk rd : Nat → Nat} {Q : List (Nat × Int)} {L M : List Nat} : psL mk rd Q (L ++ M) = psL mk rd (psL mk rd Q L) M := List.foldl_append
theorem psL_red {mk rd : Nat → Nat} (hs : ∀ f g, (mk f).testBit g = (mk g).testBit f) : ∀ {L : List Nat} {Q : List (Nat × Int)}, Red mk Q → Red mk (psL mk rd Q L)
  | [], _, h => h
  | t :: L, Q, h => psL_red hs (L := L) (Q := psT mk rd Q t) (ps_red hs h)
/-- rounds are as they may be -/
def okR (rd : Nat → Nat) : Prop := ∀ f, rd f = 0 ∨ rd f = 2 ∨ rd f = 3 ∨ rd f = 4
theorem psL_okC {mk rd : Nat → Nat} (hr : okR rd) : ∀ {L : List Nat} {Q : List (Nat × Int)}, okC rd Q → okC rd (psL mk rd Q L)
  | [], _, h => h
  | t :: L, Q, h => psL_okC hr (L := L) (Q := psT mk rd Q t) (ps_okC (nrm_sg (hr _) t) h)
theorem bk_cons (t : Nat) (L : List Nat) : bk (t :: L) = bk L ++ [tn t] := by
  unfold bk
  simp
theorem psL_bk {mk rd : Nat → Nat} (hs : ∀ f g, (mk f).testBit g = (mk g).testBit f) (hr : okR rd) : ∀ {L : List Nat} {Q : List (Nat × Int)}, Red mk Q → okC rd Q → EQ mk (psL mk rd Q (L ++ bk L)) Q
  | [], _, _, _ => EQ.rfl9
  | t :: L, Q, hQ, hC => by
    have h1 := psL_bk hs hr (L := L) (Q := psT mk rd Q t) (ps_red hs hQ) (ps_okC (nrm_sg (hr _) t) hC)
    rw [bk_cons, List.cons_append, ← List.append_assoc]
    have e : psL mk rd Q (t :: ((L ++ bk L) ++ [tn t])) = psT mk rd (psL mk rd (psT mk rd Q t) (L ++ bk L)) (tn t) := by
      show psL mk rd (psT mk rd Q t) ((L ++ bk L) ++ [tn t]) = _
      rw [psL_app]
      rfl
    rw [e]
    exact (ps_EQ hs h1).trans9 (psT_back hs hQ hC)
theorem bk_bk (L : List Nat) : bk (bk L) = L := by
  unfold bk
  rw [← List.map_reverse, List.reverse_reverse, List.map_map]
  have : tn ∘ tn = id := by
    funext t
    exact tn_tn t
  rw [this, List.map_id]
theorem out_bk {mk rd : Nat → Nat} (hs : ∀ f g, (mk f).testBit g = (mk g).testBit f) (hr : okR rd) {L : List Nat} (h : psL mk rd [] L = []) : psL mk rd [] (bk L) = [] := by
  have h1 := psL_bk (mk := mk) (rd := rd) hs hr (L := L) (Q := []) trivial (fun _ h => absurd h List.not_mem_nil)
  rw [psL_app, h] at h1
  exact h1.nil9
/-- all counts the other way -/
def ng (rd : Nat → Nat) (Q : List (Nat × Int)) : List (Nat × Int) := Q.map (fun x => (x.1, nrm (rd x.1) (-x.2)))
theorem nrm_ng0 {m : Nat} {a : Int} (h : nrm m a = a) : (nrm m (-a) = 0) = (a = 0) := by
  refine propext ⟨fun h1 => ?_, fun h1 => ?_⟩
  · have h2 := nrm_neg m (-a)
    rw [h1, show - -a = a by omega, h] at h2
    rw [← h2]
    unfold nrm
    split <;> simp
  · rw [h1]
    unfold nrm
    split <;> simp
theorem jn_ng {mk rd : Nat → Nat} {f : Nat} {c : Int} : ∀ {Q : List (Nat × Int)}, jn mk rd f (-c) (ng rd Q) = (jn mk rd f c Q).map (ng rd)
  | [] => rfl
  | x :: Q => by
    show jn mk rd f (-c) ((x.1, nrm (rd x.1) (-x.2)) :: ng rd Q) = _
    rw [jn_cons, jn_cons]
    by_cases hx : x.1 = f
    · rw [if_pos hx, if_pos hx]
      have e1 : nrm (rd f) (nrm (rd x.1) (-x.2) + -c) = nrm (rd f) (-nrm (rd f) (x.2 + c)) := by
        rw [hx, nrm_add, nrm_neg]
        congr 1
        omega
      show some (if nrm (rd f) (nrm (rd x.1) (-x.2) + -c) = 0 then ng rd Q else (f, nrm (rd f) (nrm (rd x.1) (-x.2) + -c)) :: ng rd Q) = _
      rw [e1]
      have e2 := nrm_ng0 (nrm_idem (rd f) (x.2 + c))
      by_cases hz : nrm (rd f) (x.2 + c) = 0
      · rw [if_pos (by rw [e2]; exact hz), if_pos hz]
        rfl
      · rw [if_neg (by rw [e2]; exact hz), if_neg hz]
        rfl
    · rw [if_neg hx, if_neg hx]
      by_cases hk : (mk f).testBit x.1 = true
      · rw [if_pos hk, if_pos hk]
        rfl
      · rw [if_neg hk, if_neg hk, jn_ng (Q := Q)]
        cases jn mk rd f c Q <;> rfl
theorem ps_ng {mk rd : Nat → Nat} {f : Nat} {c : Int} {Q : List (Nat × Int)} : ps mk rd f (-c) (ng rd Q) = ng rd (ps mk rd f c Q) := by
  unfold ps
  rw [jn_ng]
  cases jn mk rd f c Q with
  | some P => rfl
  | none =>
    show (f, nrm (rd f) (-c)) :: ng rd Q = (f, nrm (rd f) (-nrm (rd f) c)) :: ng rd Q
    rw [nrm_neg]
theorem psL_ng {mk rd : Nat → Nat} : ∀ {L : List Nat} {Q : List (Nat × Int)}, psL mk rd (ng rd Q) (L.map tn) = ng rd (psL mk rd Q L)
  | [], _ => rfl
  | t :: L, Q => by
    have e : psT mk rd (ng rd Q) (tn t) = ng rd (psT mk rd Q t) := by
      unfold psT
      rw [tn_half, tn_sg]
      exact ps_ng
    show psL mk rd (psT mk rd (ng rd Q) (tn t)) (L.map tn) = _
    rw [e]
    exact psL_ng (L := L)
theorem out_tn {mk rd : Nat → Nat} {L : List Nat} : (psL mk rd [] (L.map tn) = []) = (psL mk rd [] L = []) := by
  have h := psL_ng (mk := mk) (rd := rd) (L := L) (Q := [])
  have e : ng rd [] = [] := rfl
  rw [e] at h
  rw [h]
  unfold ng
  exact propext List.map_eq_nil_iff
/-- from its end -/
theorem out_rev {mk rd : Nat → Nat} (hs : ∀ f g, (mk f).testBit g = (mk g).testBit f) (hr : okR rd) {L : List Nat} : (psL mk rd [] L.reverse = []) ↔ (psL mk rd [] L = []) := by
  have key : ∀ M : List Nat, psL mk rd [] M = [] → psL mk rd [] M.reverse = [] := by
    intro M hM
    have h1 : psL mk rd [] (M.map tn) = [] := by rw [out_tn]; exact hM
    have h2 := out_bk hs hr h1
    have e : bk (M.map tn) = M.reverse := by
      unfold bk
      rw [← List.map_reverse, List.map_map]
      have : tn ∘ tn = id := by
        funext t
        exact tn_tn t
      rw [this, List.map_id]
    rw [e] at h2
    exact h2
  constructor
  · intro h
    have h1 := key _ h
    rw [List.reverse_reverse] at h1
    exact h1
  · exact key L
