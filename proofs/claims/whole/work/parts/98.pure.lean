/-- THE PURE LAYER: what is still owed -/
theorem pure_all (L : Nat) (hL : L ≤ 384) (xs : Nat → Int32) : ∃ M1, f_start L xs M0 = some (1, M1) := sorry
