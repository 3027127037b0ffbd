/-! ===== one frame less ===== -/
theorem blt_d (d : Nat) : (d + 2).blt (d + 3) = true := Nat.ble_eq_true_of_le (Nat.le_refl _)
