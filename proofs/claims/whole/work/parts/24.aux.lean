theorem vUpd0 (k : Nat) : upd (fun _ => (0 : Int32)) k 0 = fun _ => 0 := by funext j; simp [upd]
theorem vFill0 : fJ7_fill_53178 100 6 0 (fun _ => 0) = some (fun _ => 0) := by
  have h : fJ7_fill_53178 100 6 0 (fun _ => 0) = some (upd (upd (upd (upd (upd (upd (fun _ => 0) 0 0) 1 0) 2 0) 3 0) 4 0) 5 0) := by rfl
  rw [h]; simp only [vUpd0]
theorem vNetClear : fX2_clear 100 6 6 0 0 0 0 0 0 (fun _ => 0) (fun _ => 0) 0 0 0 0 0 = some (0, 0, 24, 200, 0, 0, (fun _ => 0), (fun _ => 0), 0, 0, 0, 0, 1) := by
  unfold fX2_clear
  rw [vFill0]
  rfl
