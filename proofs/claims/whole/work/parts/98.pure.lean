/-- THE PURE LAYER: every run of the law ends with 1 -/
theorem pure_all (L : Nat) (hL : L ≤ 384) (xs : Nat → Int32) : ∃ M1, f_start L xs M0 = some (1, M1) := by
  rw [f_start_eq]
  have h := law_e hL xs 100 0 MI rfl (by omega) R_MI
  rw [show 6 * 0 = 0 from rfl, ← e0z] at h
  exact h
