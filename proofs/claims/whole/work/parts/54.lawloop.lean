/-! what the pure part owes, call by call; the law's loop -/
def LS_feed (l : Launch) (D : va_G) (cy : Nat → ClassId) (ax am : Nat) (Inv : va_W → va_W → Prop) (wx wm : va_W) : Prop := ∀ a b c : Int64, ∃ (r : Int32) (wx' wm' : va_W), vMet l D cy MX11_feed 1 0 0 [.ref ax, .long a, .long b, .long c] wx (fun r0 w => r0 = some (.int r) ∧ w.Perm wx') ∧ vMet l D cy MX12_feed 0 0 0 [.ref am, .long a, .long b, .long c] wm (fun r0 w => r0 = some (.int r) ∧ w.Perm wm') ∧ Inv wx' wm'
def LS_net (l : Launch) (D : va_G) (cy : Nat → ClassId) (ax am : Nat) (Inv : va_W → va_W → Prop) (wx wm : va_W) : Prop := ∃ (r : Int32) (wx' wm' : va_W), vMet l D cy MX11_net 8 0 0 [.ref ax] wx (fun r0 w => r0 = some (.int r) ∧ w.Perm wx') ∧ vMet l D cy MX12_net 5 0 0 [.ref am] wm (fun r0 w => r0 = some (.int r) ∧ w.Perm wm') ∧ Inv wx' wm'
def LS_year (l : Launch) (D : va_G) (cy : Nat → ClassId) (ax am : Nat) (Inv : va_W → va_W → Prop) (wx wm : va_W) : Prop := ∃ (r : Int32) (wx' wm' : va_W), vMet l D cy MX11_year 8 0 0 [.ref ax] wx (fun r0 w => r0 = some (.int r) ∧ w.Perm wx') ∧ vMet l D cy MX12_year 4 0 0 [.ref am] wm (fun r0 w => r0 = some (.int r) ∧ w.Perm wm') ∧ Inv wx' wm'
def LS_other (l : Launch) (D : va_G) (cy : Nat → ClassId) (ax am : Nat) (Inv : va_W → va_W → Prop) (wx wm : va_W) : Prop := ∃ (r : Int32) (wx' wm' : va_W), vMet l D cy MX11_other 8 0 0 [.ref ax] wx (fun r0 w => r0 = some (.int r) ∧ w.Perm wx') ∧ vMet l D cy MX12_other 4 0 0 [.ref am] wm (fun r0 w => r0 = some (.int r) ∧ w.Perm wm') ∧ Inv wx' wm'
def LS_folk (l : Launch) (D : va_G) (cy : Nat → ClassId) (ax am : Nat) (Inv : va_W → va_W → Prop) (wx wm : va_W) : Prop := ∀ a b : Int32, ∃ (r : Int32) (wx' wm' : va_W), vMet l D cy MX11_folk 1 0 0 [.ref ax, .int a, .int b] wx (fun r0 w => r0 = some (.int r) ∧ w.Perm wx') ∧ vMet l D cy MX12_folk 1 0 0 [.ref am, .int a, .int b] wm (fun r0 w => r0 = some (.int r) ∧ w.Perm wm') ∧ Inv wx' wm'
def LS_tie (l : Launch) (D : va_G) (cy : Nat → ClassId) (ax am : Nat) (Inv : va_W → va_W → Prop) (wx wm : va_W) : Prop := ∀ a b : Int32, (b = 0 ∨ b = 1) → ∃ (r : Int32) (wx' wm' : va_W), vMet l D cy MX11_tie 3 0 0 [.ref ax, .int a, .int b] wx (fun r0 w => r0 = some (.int r) ∧ w.Perm wx') ∧ vMet l D cy MX12_tie 6 0 0 [.ref am, .int a, .int b] wm (fun r0 w => r0 = some (.int r) ∧ w.Perm wm') ∧ Inv wx' wm'
def LS_cut (l : Launch) (D : va_G) (cy : Nat → ClassId) (ax am : Nat) (Inv : va_W → va_W → Prop) (wx wm : va_W) : Prop := ∀ a : Int32, ∃ (r : Int32) (wx' wm' : va_W), vMet l D cy MX11_cut 2 0 0 [.ref ax, .int a] wx (fun r0 w => r0 = some (.int r) ∧ w.Perm wx') ∧ vMet l D cy MX12_cut 2 0 0 [.ref am, .int a] wm (fun r0 w => r0 = some (.int r) ∧ w.Perm wm') ∧ Inv wx' wm'
def LS_pull (l : Launch) (D : va_G) (cy : Nat → ClassId) (ax am : Nat) (Inv : va_W → va_W → Prop) (wx wm : va_W) : Prop := ∃ (r : Int32) (wx' wm' : va_W), vMet l D cy MX11_pull 4 0 0 [.ref ax] wx (fun r0 w => r0 = some (.int r) ∧ w.Perm wx') ∧ vMet l D cy MX12_pull 6 0 0 [.ref am] wm (fun r0 w => r0 = some (.int r) ∧ w.Perm wm') ∧ Inv wx' wm'
def LS_undo (l : Launch) (D : va_G) (cy : Nat → ClassId) (ax am : Nat) (Inv : va_W → va_W → Prop) (wx wm : va_W) : Prop := ∃ (r : Int32) (wx' wm' : va_W), vMet l D cy MX11_undo 2 0 0 [.ref ax] wx (fun r0 w => r0 = some (.int r) ∧ w.Perm wx') ∧ vMet l D cy MX12_undo 1 0 0 [.ref am] wm (fun r0 w => r0 = some (.int r) ∧ w.Perm wm') ∧ Inv wx' wm'
def LS_judged (l : Launch) (D : va_G) (cy : Nat → ClassId) (ax am : Nat) (Inv : va_W → va_W → Prop) (wx wm : va_W) : Prop := ∀ a : Int32, ∃ (r : Int32) (wx' wm' : va_W), vMet l D cy MX11_judged 6 0 0 [.ref ax, .int a] wx (fun r0 w => r0 = some (.int r) ∧ w.Perm wx') ∧ vMet l D cy MX12_judged 7 0 0 [.ref am, .int a] wm (fun r0 w => r0 = some (.int r) ∧ w.Perm wm') ∧ Inv wx' wm'
def LS_at (l : Launch) (D : va_G) (cy : Nat → ClassId) (ax am : Nat) (Inv : va_W → va_W → Prop) (wx wm : va_W) : Prop := ∀ a : Int32, ∃ (r : Int32) (wx' wm' : va_W), vMet l D cy MX11_at 1 0 0 [.ref ax, .int a] wx (fun r0 w => r0 = some (.int r) ∧ w.Perm wx') ∧ vMet l D cy MX12_at 0 0 0 [.ref am, .int a] wm (fun r0 w => r0 = some (.int r) ∧ w.Perm wm') ∧ Inv wx' wm'
def LS_form (l : Launch) (D : va_G) (cy : Nat → ClassId) (ax am : Nat) (Inv : va_W → va_W → Prop) (wx wm : va_W) : Prop := ∀ a : Int32, ∃ (r : Int32) (wx' wm' : va_W), vMet l D cy MX11_form 4 0 0 [.ref ax, .int a] wx (fun r0 w => r0 = some (.int r) ∧ w.Perm wx') ∧ vMet l D cy MX12_form 5 0 0 [.ref am, .int a] wm (fun r0 w => r0 = some (.int r) ∧ w.Perm wm') ∧ Inv wx' wm'
def LS_out (l : Launch) (D : va_G) (cy : Nat → ClassId) (ax am : Nat) (Inv : va_W → va_W → Prop) (wx wm : va_W) : Prop := ∃ (r : Int32) (wx' wm' : va_W), vMet l D cy MX11_out 4 0 0 [.ref ax] wx (fun r0 w => r0 = some (.int r) ∧ w.Perm wx') ∧ vMet l D cy MX12_out 5 0 0 [.ref am] wm (fun r0 w => r0 = some (.int r) ∧ w.Perm wm') ∧ Inv wx' wm'
def LS_held (l : Launch) (D : va_G) (cy : Nat → ClassId) (ax am : Nat) (Inv : va_W → va_W → Prop) (wx wm : va_W) : Prop := ∃ (r : Int32) (wx' wm' : va_W), vMet l D cy MX11_held 4 0 0 [.ref ax] wx (fun r0 w => r0 = some (.int r) ∧ w.Perm wx') ∧ vMet l D cy MX12_held 5 0 0 [.ref am] wm (fun r0 w => r0 = some (.int r) ∧ w.Perm wm') ∧ Inv wx' wm'
def LS_fault (l : Launch) (D : va_G) (cy : Nat → ClassId) (ax am : Nat) (Inv : va_W → va_W → Prop) (wx wm : va_W) : Prop := ∃ (r : Int32) (wx' wm' : va_W), vMet l D cy MX11_fault 4 0 0 [.ref ax] wx (fun r0 w => r0 = some (.int r) ∧ w.Perm wx') ∧ vMet l D cy MX12_fault 4 0 0 [.ref am] wm (fun r0 w => r0 = some (.int r) ∧ w.Perm wm') ∧ Inv wx' wm'
def LS_sum (l : Launch) (D : va_G) (cy : Nat → ClassId) (ax am : Nat) (Inv : va_W → va_W → Prop) (wx wm : va_W) : Prop := ∀ a : Int32, ∃ (Z : Option Int32) (r k9 : Int32) (wx' wm' : va_W), vxMet l D cy MX11_sum 6 1 6 [.ref ax, .int a] wx (fun r0 w => ∃ v0 : Int32, Z = some v0 ∧ r0 = some (.int v0) ∧ w.Perm wx') (fun w => Z = none ∧ w.Perm wx') ∧ vMet l D cy MX12_sum 2 0 0 [.ref am, .int a] wm (fun r0 w => r0 = some (.int r) ∧ w.Perm wm') ∧ vMet l D cy MX12_thrown 0 0 0 [.ref am] wm' (fun r0 w => r0 = some (.int k9) ∧ w.Perm wm') ∧ ((∃ v, Z = some v ∧ k9 = 0 ∧ v = r) ∨ (Z = none ∧ k9 = 1)) ∧ Inv wx' wm'
def LS_shown (l : Launch) (D : va_G) (cy : Nat → ClassId) (ax am : Nat) (Inv : va_W → va_W → Prop) (wx wm : va_W) : Prop := ∃ (r : Int32) (wx' wm' : va_W), vMet l D cy MX11_shown 4 0 0 [.ref ax] wx (fun r0 w => r0 = some (.int r) ∧ w.Perm wx') ∧ vMet l D cy MX12_shown 4 0 0 [.ref am] wm (fun r0 w => r0 = some (.int r) ∧ w.Perm wm') ∧ Inv wx' wm'
def LS_loose (l : Launch) (D : va_G) (cy : Nat → ClassId) (ax am : Nat) (Inv : va_W → va_W → Prop) (wx wm : va_W) : Prop := ∀ a : Int32, ∃ (r : Int32) (wx' wm' : va_W), vMet l D cy MX11_loose 4 0 0 [.ref ax, .int a] wx (fun r0 w => r0 = some (.int r) ∧ w.Perm wx') ∧ vMet l D cy MX12_loose 3 0 0 [.ref am, .int a] wm (fun r0 w => r0 = some (.int r) ∧ w.Perm wm') ∧ Inv wx' wm'
def LS_yet (l : Launch) (D : va_G) (cy : Nat → ClassId) (ax am : Nat) (Inv : va_W → va_W → Prop) (wx wm : va_W) : Prop := ∀ a : Int32, ∃ (r : Int32) (wx' wm' : va_W), vMet l D cy MX11_yet 3 0 0 [.ref ax, .int a] wx (fun r0 w => r0 = some (.int r) ∧ w.Perm wx') ∧ vMet l D cy MX12_yet 4 0 0 [.ref am, .int a] wm (fun r0 w => r0 = some (.int r) ∧ w.Perm wm') ∧ Inv wx' wm'
def LS_cuts (l : Launch) (D : va_G) (cy : Nat → ClassId) (ax am : Nat) (Inv : va_W → va_W → Prop) (wx wm : va_W) : Prop := ∃ (r : Int32) (wx' wm' : va_W), vMet l D cy MX11_cuts 42 0 0 [.ref ax] wx (fun r0 w => r0 = some (.int r) ∧ w.Perm wx') ∧ vMet l D cy MX12_cuts 4 0 0 [.ref am] wm (fun r0 w => r0 = some (.int r) ∧ w.Perm wm') ∧ Inv wx' wm'
def LS_ahead (l : Launch) (D : va_G) (cy : Nat → ClassId) (ax am : Nat) (Inv : va_W → va_W → Prop) (wx wm : va_W) : Prop := ∀ a b : Int32, ∃ (r : Int32) (wx' wm' : va_W), vMet l D cy MX11_ahead 1 0 0 [.ref ax, .int a, .int b] wx (fun r0 w => r0 = some (.int r) ∧ w.Perm wx') ∧ vMet l D cy MX12_ahead 0 0 0 [.ref am, .int a, .int b] wm (fun r0 w => r0 = some (.int r) ∧ w.Perm wm') ∧ Inv wx' wm'
def LS_orders (l : Launch) (D : va_G) (cy : Nat → ClassId) (ax am : Nat) (Inv : va_W → va_W → Prop) (wx wm : va_W) : Prop := ∃ (r : Int64) (wx' wm' : va_W), vMet l D cy MX11_orders 4 0 0 [.ref ax] wx (fun r0 w => r0 = some (.long r) ∧ w.Perm wx') ∧ vMet l D cy MX12_orders 3 0 0 [.ref am] wm (fun r0 w => r0 = some (.long r) ∧ w.Perm wm') ∧ Inv wx' wm'
def LS_ask (l : Launch) (D : va_G) (cy : Nat → ClassId) (ax am : Nat) (Inv : va_W → va_W → Prop) (wx wm : va_W) : Prop := ∃ (r : Int32) (wx' wm' : va_W), vMet l D cy MX11_ask 4 0 0 [.ref ax] wx (fun r0 w => r0 = some (.int r) ∧ w.Perm wx') ∧ vMet l D cy MX12_ask 3 0 0 [.ref am] wm (fun r0 w => r0 = some (.int r) ∧ w.Perm wm') ∧ Inv wx' wm'
def LS_same (l : Launch) (D : va_G) (cy : Nat → ClassId) (ax am : Nat) (Inv : va_W → va_W → Prop) (wx wm : va_W) : Prop := ∃ (r : Int32) (wx' wm' : va_W), vMet l D cy MX11_same 4 0 0 [.ref ax] wx (fun r0 w => r0 = some (.int r) ∧ w.Perm wx') ∧ vMet l D cy MX12_same 4 0 0 [.ref am] wm (fun r0 w => r0 = some (.int r) ∧ w.Perm wm') ∧ Inv wx' wm'
def LS_pass (l : Launch) (D : va_G) (cy : Nat → ClassId) (ax am : Nat) (Inv : va_W → va_W → Prop) (wx wm : va_W) : Prop := ∃ (r : Int32) (wx' wm' : va_W), vMet l D cy MX11_pass 4 0 0 [.ref ax] wx (fun r0 w => r0 = some (.int r) ∧ w.Perm wx') ∧ vMet l D cy MX12_pass 4 0 0 [.ref am] wm (fun r0 w => r0 = some (.int r) ∧ w.Perm wm') ∧ Inv wx' wm'
def LS_ring (l : Launch) (D : va_G) (cy : Nat → ClassId) (ax am : Nat) (Inv : va_W → va_W → Prop) (wx wm : va_W) : Prop := ∃ (r : Int32) (wx' wm' : va_W), vMet l D cy MX11_ring 6 0 0 [.ref ax] wx (fun r0 w => r0 = some (.int r) ∧ w.Perm wx') ∧ vMet l D cy MX12_ring 6 0 0 [.ref am] wm (fun r0 w => r0 = some (.int r) ∧ w.Perm wm') ∧ Inv wx' wm'
def LS_rests (l : Launch) (D : va_G) (cy : Nat → ClassId) (ax am : Nat) (Inv : va_W → va_W → Prop) (wx wm : va_W) : Prop := ∀ a b c d : Int32, ∃ (Z : Option Int32) (r k9 : Int32) (wx' wm' : va_W), vxMet l D cy MX11_rests 6 1 6 [.ref ax, .int a, .int b, .int c, .int d] wx (fun r0 w => ∃ v0 : Int32, Z = some v0 ∧ r0 = some (.int v0) ∧ w.Perm wx') (fun w => Z = none ∧ w.Perm wx') ∧ vMet l D cy MX12_rests 2 0 0 [.ref am, .int a, .int b, .int c, .int d] wm (fun r0 w => r0 = some (.int r) ∧ w.Perm wm') ∧ vMet l D cy MX12_thrown 0 0 0 [.ref am] wm' (fun r0 w => r0 = some (.int k9) ∧ w.Perm wm') ∧ ((∃ v, Z = some v ∧ k9 = 0 ∧ v = r) ∨ (Z = none ∧ k9 = 1)) ∧ Inv wx' wm'
def LS_centuries (l : Launch) (D : va_G) (cy : Nat → ClassId) (ax am : Nat) (Inv : va_W → va_W → Prop) (wx wm : va_W) : Prop := ∀ a b c : Int32, ∃ (r : Int32) (wx' wm' : va_W), vMet l D cy MX11_centuries 6 0 0 [.ref ax, .int a, .int b, .int c] wx (fun r0 w => r0 = some (.int r) ∧ w.Perm wx') ∧ vMet l D cy MX12_centuries 6 0 0 [.ref am, .int a, .int b, .int c] wm (fun r0 w => r0 = some (.int r) ∧ w.Perm wm') ∧ Inv wx' wm'
def LS_mark (l : Launch) (D : va_G) (cy : Nat → ClassId) (ax am : Nat) (Inv : va_W → va_W → Prop) (wx wm : va_W) : Prop := ∀ a b : Int32, (b = 0 ∨ b = 1) → ∃ (r : Int32) (wx' wm' : va_W), vMet l D cy MX11_mark 2 0 0 [.ref ax, .int a, .int b] wx (fun r0 w => r0 = some (.int r) ∧ w.Perm wx') ∧ vMet l D cy MX12_mark 1 0 0 [.ref am, .int a, .int b] wm (fun r0 w => r0 = some (.int r) ∧ w.Perm wm') ∧ Inv wx' wm'
def LS_count (l : Launch) (D : va_G) (cy : Nat → ClassId) (ax am : Nat) (Inv : va_W → va_W → Prop) (wx wm : va_W) : Prop := ∀ a : Int32, ∃ (r : Int32) (wx' wm' : va_W), vMet l D cy MX11_count 4 0 0 [.ref ax, .int a] wx (fun r0 w => r0 = some (.int r) ∧ w.Perm wx') ∧ vMet l D cy MX12_count 6 0 0 [.ref am, .int a] wm (fun r0 w => r0 = some (.int r) ∧ w.Perm wm') ∧ Inv wx' wm'
def LStep (l : Launch) (D : va_G) (cy : Nat → ClassId) (ax am : Nat) (Inv : va_W → va_W → Prop) : Prop := ∀ wx wm : va_W, Inv wx wm → (∃ fs : List Value, wx[0]? = some (ax, .inr (11, fs))) ∧ (∃ gs : List Value, wm[0]? = some (am, .inr (12, gs))) ∧ LS_feed l D cy ax am Inv wx wm ∧ LS_net l D cy ax am Inv wx wm ∧ LS_year l D cy ax am Inv wx wm ∧ LS_other l D cy ax am Inv wx wm ∧ LS_folk l D cy ax am Inv wx wm ∧ LS_tie l D cy ax am Inv wx wm ∧ LS_cut l D cy ax am Inv wx wm ∧ LS_pull l D cy ax am Inv wx wm ∧ LS_undo l D cy ax am Inv wx wm ∧ LS_judged l D cy ax am Inv wx wm ∧ LS_at l D cy ax am Inv wx wm ∧ LS_form l D cy ax am Inv wx wm ∧ LS_out l D cy ax am Inv wx wm ∧ LS_held l D cy ax am Inv wx wm ∧ LS_fault l D cy ax am Inv wx wm ∧ LS_sum l D cy ax am Inv wx wm ∧ LS_shown l D cy ax am Inv wx wm ∧ LS_loose l D cy ax am Inv wx wm ∧ LS_yet l D cy ax am Inv wx wm ∧ LS_cuts l D cy ax am Inv wx wm ∧ LS_ahead l D cy ax am Inv wx wm ∧ LS_orders l D cy ax am Inv wx wm ∧ LS_ask l D cy ax am Inv wx wm ∧ LS_same l D cy ax am Inv wx wm ∧ LS_pass l D cy ax am Inv wx wm ∧ LS_ring l D cy ax am Inv wx wm ∧ LS_rests l D cy ax am Inv wx wm ∧ LS_centuries l D cy ax am Inv wx wm ∧ LS_mark l D cy ax am Inv wx wm ∧ LS_count l D cy ax am Inv wx wm
theorem i32_and31 (y : Int32) : ∃ q : Nat, q < 32 ∧ (y &&& 31) = Int32.ofNat q := by
  refine ⟨y.toBitVec.toNat % 32, Nat.mod_lt _ (by decide), ?_⟩
  refine Int32.toBitVec.inj ?_
  show y.toBitVec &&& 31#32 = BitVec.ofNat 32 (y.toBitVec.toNat % 32)
  apply BitVec.eq_of_toNat_eq
  rw [BitVec.toNat_and, BitVec.toNat_ofNat, BitVec.toNat_ofNat]
  have h1 : 31 % 2 ^ 32 = 2 ^ 5 - 1 := rfl
  rw [h1, Nat.and_two_pow_sub_one_eq_mod]
  omega
theorem i32_in {q L : Nat} (hq : q < L) (hL : L ≤ 3584) : vp_in (Int32.ofNat q) L := by
  have h1 : (Int32.ofNat q).toInt = q := Int32.toInt_ofNat_of_lt (by omega)
  have h2 : (Int32.ofNat q).toNatClampNeg = q := Int32.toNatClampNeg_ofNat_of_lt (by omega)
  show ¬ (Int32.ofNat q < 0 ∨ L ≤ (Int32.ofNat q).toNatClampNeg)
  rw [Int32.lt_iff_toInt_lt, h1, h2]
  have h3 : (0 : Int32).toInt = 0 := rfl
  omega
theorem i32_plus {q c : Nat} : Int32.ofNat q + Int32.ofNat c = Int32.ofNat (q + c) := (Int32.ofNat_add q c).symm
theorem i32_end {q L : Nat} (hL : L ≤ 3584) (hq : q ≤ 4000) : Int32.ofNat L - 7 < Int32.ofNat q ↔ L < q + 7 := by
  have h1 : (Int32.ofNat q).toInt = q := Int32.toInt_ofNat_of_lt (by omega)
  have h2 : (Int32.ofNat L).toInt = L := Int32.toInt_ofNat_of_lt (by omega)
  have h3 : (7 : Int32).toInt = 7 := rfl
  have h4 : (Int32.ofNat L - 7).toInt = (L : Int) - 7 := by
    rw [Int32.toInt_sub, h2, h3]
    exact Int.bmod_eq_of_le (by omega) (by omega)
  rw [Int32.lt_iff_toInt_lt, h4, h1]
  omega
section LLOOP
variable {D : va_G} {cy : Nat → ClassId} {w0 : Cond} {l : Launch} {A : Nat → Prop} {Φ : State → Prop} {p : Program} {e : Env} {s : State} {m : MethodId} {args : Array Value} {below : List Frame} {meth : Method} {c : Code}
theorem law_loop {b L ax am ao : Nat} {xs : Nat → Int32} {Inv : va_W → va_W → Prop} (X : UX D cy ML w0 args A p s m meth c) (hA : ∀ q : Nat, s.heap.size ≤ q → A q) (hX : va_X b L xs s s.heap) (hbl : b < s.heap.size) (hbA : ¬ A b) (hxs : vxS A s s.heap) (hL : L ≤ 3584) (hS : LStep l D cy ax am Inv)
    (hend : ∀ (w : va_W) (lv : List (Nat × Value)) (k n : Nat), k ≤ 601024 → n ≤ 7293034 → U D cy ML l room_1 A Φ p e s m args below meth c 1077 lv [] w k n) :
    ∀ (t j : Nat) (wx wm : va_W) (f : Nat → Int64), 7 * j ≤ L → L < 7 * (j + t) → Inv wx wm → U D cy ML l room_1 A Φ p e s m args below meth c 23 [(0, .ref b), (1, .ref ax), (2, .ref am), (3, .ref ao), (4, .int (Int32.ofNat (7 * j)))] [] (wx ++ (wm ++ vOut cy ao f)) (271 + j) (53725 + 6 * j) := by
  intro t
  induction t with
  | zero => intro j wx wm f h1 h2; omega
  | succ t ih =>
    intro j wx wm f hj1 hj2 hI
    obtain ⟨⟨fs, hx⟩, ⟨gs, hm⟩, s0, s1, s2, s3, s4, s5, s6, s7, s8, s9, s10, s11, s12, s13, s14, s15, s16, s17, s18, s19, s20, s21, s22, s23, s24, s25, s26, s27, s28, s29⟩ := hS wx wm hI
    refine U.iload X dL_23 4 rfl ?_
    refine U.aload_n X dL_25 rfl 0 rfl ?_
    refine U.slen X hX hbl hbA dL_26 ?_
    refine U.bipush X (v := (7 : Int32)) dL_27 (by decide) ?_
    refine U.isub X dL_29 ?_
    refine U.icmp_gt X (tgt := 1077) dL_30 (by decide) (fun _ => hend _ _ _ _ (by omega) (by omega)) (fun hg => ?_)
    rw [i32_end hL (by omega)] at hg
    have hin : ∀ d : Nat, d < 7 → vp_in (Int32.ofNat (7 * j) + Int32.ofNat d) L := fun d hd => by rw [i32_plus]; exact i32_in (by omega) hL
    have h1 := hin 1 (by decide)
    have h2 := hin 2 (by decide)
    have h3 := hin 3 (by decide)
    have h4 := hin 4 (by decide)
    have h5 := hin 5 (by decide)
    have h6 := hin 6 (by decide)
    have hk0 : 271 + j + 0 ≤ room_1.cells := by show _ ≤ 601024; omega
    have hn0 : 53725 + 6 * j + 0 ≤ room_1.slots := by show _ ≤ 7293034; omega
    have hnext : ∀ (wx' wm' : va_W) (f' : Nat → Int64), Inv wx' wm' → U D cy ML l room_1 A Φ p e s m args below meth c 1071 [(0, .ref b), (1, .ref ax), (2, .ref am), (3, .ref ao), (4, .int (Int32.ofNat (7 * j)))] [] (wx' ++ (wm' ++ vOut cy ao f')) (271 + j + 1) (53725 + 6 * j + 6) := by
      intro wx' wm' f' hI'
      refine U.iinc X (v := Int32.ofNat (7 * (j + 1))) (lv' := [(4, .int (Int32.ofNat (7 * (j + 1)))), (0, .ref b), (1, .ref ax), (2, .ref am), (3, .ref ao)]) dL_1071 4 rfl ?_ (by decide) rfl ?_
      · show Int32.ofNat (7 * j) + Int32.ofNat 7 = _
        rw [i32_plus, Nat.mul_add]
      refine U.goto X (tgt := 23) dL_1074 (by decide) ?_
      refine U.lvs [1, 2, 3, 4, 0] rfl ?_
      exact ih (j + 1) wx' wm' f' (by omega) (by omega) hI'
    refine U.aload_n X dL_33 rfl 0 rfl ?_
    refine U.iload X dL_34 4 rfl ?_
    refine U.sld X hX hbl hbA (i32_in (by omega) hL) rfl dL_36 ?_
    refine U.bipush X (v := (31 : Int32)) dL_37 (by decide) ?_
    refine U.iand X dL_39 ?_
    obtain ⟨q, hq, e0⟩ := i32_and31 (xs (Int32.ofNat (7 * j)).toNatClampNeg)
    rw [e0]
    rcases (show q = 0 ∨ q = 1 ∨ q = 2 ∨ q = 3 ∨ q = 4 ∨ q = 5 ∨ q = 6 ∨ q = 7 ∨ q = 8 ∨ q = 9 ∨ q = 10 ∨ q = 11 ∨ q = 12 ∨ q = 13 ∨ q = 14 ∨ q = 15 ∨ q = 16 ∨ q = 17 ∨ q = 18 ∨ q = 19 ∨ q = 20 ∨ q = 21 ∨ q = 22 ∨ q = 23 ∨ q = 24 ∨ q = 25 ∨ q = 26 ∨ q = 27 ∨ q = 28 ∨ q = 29 ∨ q = 30 ∨ q = 31 by omega) with rfl | rfl | rfl | rfl | rfl | rfl | rfl | rfl | rfl | rfl | rfl | rfl | rfl | rfl | rfl | rfl | rfl | rfl | rfl | rfl | rfl | rfl | rfl | rfl | rfl | rfl | rfl | rfl | rfl | rfl | rfl | rfl
    · refine U.tswIn X (off := 136) (tgt := 176) dL_40 (by decide) (by decide) (by decide +kernel) (by decide) ?_
      obtain ⟨r, wx', wm', hMX, hMM, hI'⟩ := s0 (lw2 (xs (Int32.ofNat (7 * j) + (1 : Int32)).toNatClampNeg) (xs (Int32.ofNat (7 * j) + (2 : Int32)).toNatClampNeg)) (lw2 (xs (Int32.ofNat (7 * j) + (3 : Int32)).toNatClampNeg) (xs (Int32.ofNat (7 * j) + (4 : Int32)).toNatClampNeg)) (lw2 (xs (Int32.ofNat (7 * j) + (5 : Int32)).toNatClampNeg) (xs (Int32.ofNat (7 * j) + (6 : Int32)).toNatClampNeg))
      exact law_feed X hA hX hbl hbA h1 rfl h2 rfl h3 rfl h4 rfl h5 rfl h6 rfl hk0 hn0 hx hm hMX hMM (U.widen (by omega) (by omega) (hnext wx' wm' f hI'))
    · refine U.tswIn X (off := 283) (tgt := 323) dL_40 (by decide) (by decide) (by decide +kernel) (by decide) ?_
      obtain ⟨r, wx', wm', hMX, hMM, hI'⟩ := s1
      exact law_net X hA hX hbl hbA hk0 hn0 hx hm hMX hMM (U.widen (by omega) (by omega) (hnext wx' wm' f hI'))
    · refine U.tswIn X (off := 296) (tgt := 336) dL_40 (by decide) (by decide) (by decide +kernel) (by decide) ?_
      obtain ⟨r, wx', wm', hMX, hMM, hI'⟩ := s2
      exact law_year X hA hX hbl hbA hk0 hn0 hx hm hMX hMM (U.widen (by omega) (by omega) (hnext wx' wm' f hI'))
    · refine U.tswIn X (off := 309) (tgt := 349) dL_40 (by decide) (by decide) (by decide +kernel) (by decide) ?_
      obtain ⟨r, wx', wm', hMX, hMM, hI'⟩ := s3
      exact law_other X hA hX hbl hbA hk0 hn0 hx hm hMX hMM (U.widen (by omega) (by omega) (hnext wx' wm' f hI'))
    · refine U.tswIn X (off := 322) (tgt := 362) dL_40 (by decide) (by decide) (by decide +kernel) (by decide) ?_
      obtain ⟨r, wx', wm', hMX, hMM, hI'⟩ := s4 (xs (Int32.ofNat (7 * j) + (1 : Int32)).toNatClampNeg) (xs (Int32.ofNat (7 * j) + (2 : Int32)).toNatClampNeg)
      exact law_folk X hA hX hbl hbA h1 rfl h2 rfl hk0 hn0 hx hm hMX hMM (U.widen (by omega) (by omega) (hnext wx' wm' f hI'))
    · refine U.tswIn X (off := 359) (tgt := 399) dL_40 (by decide) (by decide) (by decide +kernel) (by decide) ?_
      by_cases hz : (xs (Int32.ofNat (7 * j) + (2 : Int32)).toNatClampNeg) = 0
      · obtain ⟨r, wx', wm', hMX, hMM, hI'⟩ := s5 (xs (Int32.ofNat (7 * j) + (1 : Int32)).toNatClampNeg) 0 (Or.inl rfl)
        exact law_tie0 X hA hX hbl hbA h1 rfl h2 rfl hz hk0 hn0 hx hm hMX hMM (U.widen (by omega) (by omega) (hnext wx' wm' f hI'))
      · obtain ⟨r, wx', wm', hMX, hMM, hI'⟩ := s5 (xs (Int32.ofNat (7 * j) + (1 : Int32)).toNatClampNeg) 1 (Or.inr rfl)
        exact law_tie1 X hA hX hbl hbA h1 rfl h2 rfl hz hk0 hn0 hx hm hMX hMM (U.widen (by omega) (by omega) (hnext wx' wm' f hI'))
    · refine U.tswIn X (off := 412) (tgt := 452) dL_40 (by decide) (by decide) (by decide +kernel) (by decide) ?_
      obtain ⟨r, wx', wm', hMX, hMM, hI'⟩ := s6 (xs (Int32.ofNat (7 * j) + (1 : Int32)).toNatClampNeg)
      exact law_cut X hA hX hbl hbA h1 rfl hk0 hn0 hx hm hMX hMM (U.widen (by omega) (by omega) (hnext wx' wm' f hI'))
    · refine U.tswIn X (off := 437) (tgt := 477) dL_40 (by decide) (by decide) (by decide +kernel) (by decide) ?_
      obtain ⟨r, wx', wm', hMX, hMM, hI'⟩ := s7
      exact law_pull X hA hX hbl hbA hk0 hn0 hx hm hMX hMM (U.widen (by omega) (by omega) (hnext wx' wm' f hI'))
    · refine U.tswIn X (off := 450) (tgt := 490) dL_40 (by decide) (by decide) (by decide +kernel) (by decide) ?_
      obtain ⟨r, wx', wm', hMX, hMM, hI'⟩ := s8
      exact law_undo X hA hX hbl hbA hk0 hn0 hx hm hMX hMM (U.widen (by omega) (by omega) (hnext wx' wm' f hI'))
    · refine U.tswIn X (off := 463) (tgt := 503) dL_40 (by decide) (by decide) (by decide +kernel) (by decide) ?_
      obtain ⟨r, wx', wm', hMX, hMM, hI'⟩ := s9 (xs (Int32.ofNat (7 * j) + (1 : Int32)).toNatClampNeg)
      exact law_judged X hA hX hbl hbA h1 rfl hk0 hn0 hx hm hMX hMM (U.widen (by omega) (by omega) (hnext wx' wm' f hI'))
    · refine U.tswIn X (off := 488) (tgt := 528) dL_40 (by decide) (by decide) (by decide +kernel) (by decide) ?_
      obtain ⟨r, wx', wm', hMX, hMM, hI'⟩ := s10 (xs (Int32.ofNat (7 * j) + (1 : Int32)).toNatClampNeg)
      exact law_at X hA hX hbl hbA h1 rfl hk0 hn0 hx hm hMX hMM (U.widen (by omega) (by omega) (hnext wx' wm' f hI'))
    · refine U.tswIn X (off := 513) (tgt := 553) dL_40 (by decide) (by decide) (by decide +kernel) (by decide) ?_
      obtain ⟨r, wx', wm', hMX, hMM, hI'⟩ := s11 (xs (Int32.ofNat (7 * j) + (1 : Int32)).toNatClampNeg)
      exact law_form X hA hX hbl hbA h1 rfl hk0 hn0 hx hm hMX hMM (U.widen (by omega) (by omega) (hnext wx' wm' f hI'))
    · refine U.tswIn X (off := 538) (tgt := 578) dL_40 (by decide) (by decide) (by decide +kernel) (by decide) ?_
      obtain ⟨r, wx', wm', hMX, hMM, hI'⟩ := s12
      exact law_out X hA hX hbl hbA hk0 hn0 hx hm hMX hMM (U.widen (by omega) (by omega) (hnext wx' wm' f hI'))
    · refine U.tswIn X (off := 551) (tgt := 591) dL_40 (by decide) (by decide) (by decide +kernel) (by decide) ?_
      obtain ⟨r, wx', wm', hMX, hMM, hI'⟩ := s13
      exact law_held X hA hX hbl hbA hk0 hn0 hx hm hMX hMM (U.widen (by omega) (by omega) (hnext wx' wm' f hI'))
    · refine U.tswIn X (off := 564) (tgt := 604) dL_40 (by decide) (by decide) (by decide +kernel) (by decide) ?_
      obtain ⟨r, wx', wm', hMX, hMM, hI'⟩ := s14
      exact law_fault X hA hX hbl hbA hk0 hn0 hx hm hMX hMM (U.widen (by omega) (by omega) (hnext wx' wm' f hI'))
    · refine U.tswIn X (off := 577) (tgt := 617) dL_40 (by decide) (by decide) (by decide +kernel) (by decide) ?_
      obtain ⟨Z, r, k9, wx', wm', hMX, hMM, hMT, hZ9, hI'⟩ := s15 (xs (Int32.ofNat (7 * j) + (1 : Int32)).toNatClampNeg)
      obtain ⟨-, ⟨gs', hm'⟩, -⟩ := hS wx' wm' hI'
      rcases hZ9 with ⟨v, rfl, rfl, hr⟩ | ⟨rfl, rfl⟩
      · exact law_sum1 X hA hX hbl hbA h1 rfl hxs (by show _ ≤ 601024; omega) (by show _ ≤ 7293034; omega) (by show _ ≤ 601024; omega) (by show _ ≤ 7293034; omega) hm hm' (CL_sum (fun r0 w h9 => by obtain ⟨v0, -, h8, -⟩ := h9; exact ⟨v0, h8⟩) hMX hx) hMM hMT hr (hnext wx' wm' _ hI')
      · exact law_sum0 X hA hX hbl hbA h1 rfl hxs (by show _ ≤ 601024; omega) (by show _ ≤ 7293034; omega) (by show _ ≤ 601024; omega) (by show _ ≤ 7293034; omega) hm hm' (CL_sum (fun r0 w h9 => by obtain ⟨v0, -, h8, -⟩ := h9; exact ⟨v0, h8⟩) hMX hx) hMM hMT (hnext wx' wm' _ hI')
    · refine U.tswIn X (off := 633) (tgt := 673) dL_40 (by decide) (by decide) (by decide +kernel) (by decide) ?_
      obtain ⟨r, wx', wm', hMX, hMM, hI'⟩ := s16
      exact law_shown X hA hX hbl hbA hk0 hn0 hx hm hMX hMM (U.widen (by omega) (by omega) (hnext wx' wm' f hI'))
    · refine U.tswIn X (off := 646) (tgt := 686) dL_40 (by decide) (by decide) (by decide +kernel) (by decide) ?_
      obtain ⟨r, wx', wm', hMX, hMM, hI'⟩ := s17 (xs (Int32.ofNat (7 * j) + (1 : Int32)).toNatClampNeg)
      exact law_loose X hA hX hbl hbA h1 rfl hk0 hn0 hx hm hMX hMM (U.widen (by omega) (by omega) (hnext wx' wm' f hI'))
    · refine U.tswIn X (off := 671) (tgt := 711) dL_40 (by decide) (by decide) (by decide +kernel) (by decide) ?_
      obtain ⟨r, wx', wm', hMX, hMM, hI'⟩ := s18 (xs (Int32.ofNat (7 * j) + (1 : Int32)).toNatClampNeg)
      exact law_yet X hA hX hbl hbA h1 rfl hk0 hn0 hx hm hMX hMM (U.widen (by omega) (by omega) (hnext wx' wm' f hI'))
    · refine U.tswIn X (off := 696) (tgt := 736) dL_40 (by decide) (by decide) (by decide +kernel) (by decide) ?_
      obtain ⟨r, wx', wm', hMX, hMM, hI'⟩ := s19
      exact law_cuts X hA hX hbl hbA hk0 hn0 hx hm hMX hMM (U.widen (by omega) (by omega) (hnext wx' wm' f hI'))
    · refine U.tswIn X (off := 709) (tgt := 749) dL_40 (by decide) (by decide) (by decide +kernel) (by decide) ?_
      obtain ⟨r, wx', wm', hMX, hMM, hI'⟩ := s20 (xs (Int32.ofNat (7 * j) + (1 : Int32)).toNatClampNeg) (xs (Int32.ofNat (7 * j) + (2 : Int32)).toNatClampNeg)
      exact law_ahead X hA hX hbl hbA h1 rfl h2 rfl hk0 hn0 hx hm hMX hMM (U.widen (by omega) (by omega) (hnext wx' wm' f hI'))
    · refine U.tswIn X (off := 746) (tgt := 786) dL_40 (by decide) (by decide) (by decide +kernel) (by decide) ?_
      obtain ⟨r, wx', wm', hMX, hMM, hI'⟩ := s21
      exact law_orders X hA hX hbl hbA hk0 hn0 hx hm hMX hMM (U.widen (by omega) (by omega) (hnext wx' wm' f hI'))
    · refine U.tswIn X (off := 760) (tgt := 800) dL_40 (by decide) (by decide) (by decide +kernel) (by decide) ?_
      obtain ⟨r, wx', wm', hMX, hMM, hI'⟩ := s22
      exact law_ask X hA hX hbl hbA hk0 hn0 hx hm hMX hMM (U.widen (by omega) (by omega) (hnext wx' wm' f hI'))
    · refine U.tswIn X (off := 773) (tgt := 813) dL_40 (by decide) (by decide) (by decide +kernel) (by decide) ?_
      obtain ⟨r, wx', wm', hMX, hMM, hI'⟩ := s23
      exact law_same X hA hX hbl hbA hk0 hn0 hx hm hMX hMM (U.widen (by omega) (by omega) (hnext wx' wm' f hI'))
    · refine U.tswIn X (off := 786) (tgt := 826) dL_40 (by decide) (by decide) (by decide +kernel) (by decide) ?_
      obtain ⟨r, wx', wm', hMX, hMM, hI'⟩ := s24
      exact law_pass X hA hX hbl hbA hk0 hn0 hx hm hMX hMM (U.widen (by omega) (by omega) (hnext wx' wm' f hI'))
    · refine U.tswIn X (off := 799) (tgt := 839) dL_40 (by decide) (by decide) (by decide +kernel) (by decide) ?_
      obtain ⟨r, wx', wm', hMX, hMM, hI'⟩ := s25
      exact law_ring X hA hX hbl hbA hk0 hn0 hx hm hMX hMM (U.widen (by omega) (by omega) (hnext wx' wm' f hI'))
    · refine U.tswIn X (off := 812) (tgt := 852) dL_40 (by decide) (by decide) (by decide +kernel) (by decide) ?_
      obtain ⟨Z, r, k9, wx', wm', hMX, hMM, hMT, hZ9, hI'⟩ := s26 (xs (Int32.ofNat (7 * j) + (1 : Int32)).toNatClampNeg) (xs (Int32.ofNat (7 * j) + (2 : Int32)).toNatClampNeg) (xs (Int32.ofNat (7 * j) + (3 : Int32)).toNatClampNeg) (xs (Int32.ofNat (7 * j) + (4 : Int32)).toNatClampNeg)
      obtain ⟨-, ⟨gs', hm'⟩, -⟩ := hS wx' wm' hI'
      rcases hZ9 with ⟨v, rfl, rfl, hr⟩ | ⟨rfl, rfl⟩
      · exact law_rests1 X hA hX hbl hbA h1 rfl h2 rfl h3 rfl h4 rfl hxs (by show _ ≤ 601024; omega) (by show _ ≤ 7293034; omega) (by show _ ≤ 601024; omega) (by show _ ≤ 7293034; omega) hm hm' (CL_rests (fun r0 w h9 => by obtain ⟨v0, -, h8, -⟩ := h9; exact ⟨v0, h8⟩) hMX hx) hMM hMT hr (hnext wx' wm' _ hI')
      · exact law_rests0 X hA hX hbl hbA h1 rfl h2 rfl h3 rfl h4 rfl hxs (by show _ ≤ 601024; omega) (by show _ ≤ 7293034; omega) (by show _ ≤ 601024; omega) (by show _ ≤ 7293034; omega) hm hm' (CL_rests (fun r0 w h9 => by obtain ⟨v0, -, h8, -⟩ := h9; exact ⟨v0, h8⟩) hMX hx) hMM hMT (hnext wx' wm' _ hI')
    · refine U.tswIn X (off := 904) (tgt := 944) dL_40 (by decide) (by decide) (by decide +kernel) (by decide) ?_
      obtain ⟨r, wx', wm', hMX, hMM, hI'⟩ := s27 (xs (Int32.ofNat (7 * j) + (1 : Int32)).toNatClampNeg) (xs (Int32.ofNat (7 * j) + (2 : Int32)).toNatClampNeg) (xs (Int32.ofNat (7 * j) + (3 : Int32)).toNatClampNeg)
      exact law_centuries X hA hX hbl hbA h1 rfl h2 rfl h3 rfl hk0 hn0 hx hm hMX hMM (U.widen (by omega) (by omega) (hnext wx' wm' f hI'))
    · refine U.tswIn X (off := 953) (tgt := 993) dL_40 (by decide) (by decide) (by decide +kernel) (by decide) ?_
      by_cases hz : (xs (Int32.ofNat (7 * j) + (2 : Int32)).toNatClampNeg) = 0
      · obtain ⟨r, wx', wm', hMX, hMM, hI'⟩ := s28 (xs (Int32.ofNat (7 * j) + (1 : Int32)).toNatClampNeg) 0 (Or.inl rfl)
        exact law_mark0 X hA hX hbl hbA h1 rfl h2 rfl hz hk0 hn0 hx hm hMX hMM (U.widen (by omega) (by omega) (hnext wx' wm' f hI'))
      · obtain ⟨r, wx', wm', hMX, hMM, hI'⟩ := s28 (xs (Int32.ofNat (7 * j) + (1 : Int32)).toNatClampNeg) 1 (Or.inr rfl)
        exact law_mark1 X hA hX hbl hbA h1 rfl h2 rfl hz hk0 hn0 hx hm hMX hMM (U.widen (by omega) (by omega) (hnext wx' wm' f hI'))
    · refine U.tswIn X (off := 1006) (tgt := 1046) dL_40 (by decide) (by decide) (by decide +kernel) (by decide) ?_
      obtain ⟨r, wx', wm', hMX, hMM, hI'⟩ := s29 (xs (Int32.ofNat (7 * j) + (1 : Int32)).toNatClampNeg)
      exact law_count X hA hX hbl hbA h1 rfl hk0 hn0 hx hm hMX hMM (U.widen (by omega) (by omega) (hnext wx' wm' f hI'))
    · exact U.tswOut X (tgt := 1071) dL_40 (by decide) (by decide) (U.widen (by omega) (by omega) (hnext wx wm f hI))
    · exact U.tswOut X (tgt := 1071) dL_40 (by decide) (by decide) (U.widen (by omega) (by omega) (hnext wx wm f hI))
end LLOOP
