/-! ===== the pure layer: numbers told twice ===== -/
theorem nm_neg (f : Nat → Nat) (s : Nat) : ∀ (m i : Nat) (x : Int32), 2 ≤ i - s → nmM f s (m + 1) i x = -1
  | 0, i, x, h => by
    rw [nmM, if_pos h]
    rfl
  | m + 1, i, x, h => by
    rw [nmM, if_pos h]
    exact nm_neg f s m (i + 1) (-1) (by omega)
theorem num_lo (f : Nat → Nat) (s : Nat) : ∀ (m i : Nat) (x : Int32), i + m ≤ s + 2 → nmM f s m i x = nmI f m i x
  | 0, i, x, h => rfl
  | m + 1, i, x, h => by
    rw [nmM, nmI, if_neg (by omega), Int32.mul_comm]
    exact num_lo f s m (i + 1) _ (by omega)
theorem num_hi (f : Nat → Nat) {s m : Nat} (h : 3 ≤ m) : nmM f s m s 0 = -1 := by
  obtain ⟨k, rfl⟩ : ∃ k, m = k + 3 := ⟨m - 3, by omega⟩
  rw [nmM, nmM]
  exact nm_neg f s k (s + 1 + 1) _ (by omega)
/-- the two values: the same, or 1000 and -1 -/
theorem num_two (f : Nat → Nat) {s e : Nat} : (wVal f s e = nmM f s (e - s) s 0) ∨ (wVal f s e = 1000 ∧ nmM f s (e - s) s 0 = -1) := by
  unfold wVal
  by_cases h : e - s ≤ 2
  · rw [if_pos h]
    exact .inl (num_lo f s _ _ _ (by omega)).symm
  · rw [if_neg h]
    exact .inr ⟨rfl, num_hi f (by omega)⟩
