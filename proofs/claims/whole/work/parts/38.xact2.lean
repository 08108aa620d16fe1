/-! ===== the pure layer: the class's act, whole ===== -/
section
variable {M : k_M} {w f : Nat} {r : k_r} {lw : Nat → Int32} {rn : Int32}
theorem eat_e (hW : WX w M lw rn) (hf : f ≤ 3) (d : Int32) : f_X10_eat w (Int32.ofNat f) d (stX M w r) = if eOK (eatR lw f d r) then some (1, stX M w (eatR lw f d r)) else some (0, stX M w r) := by
  have hl : ∀ i, i < 13 → (stX M w r).1 (w + 16) i = lw i := fun i hi => by rw [stX_c (by omega)]; exact hW.1 i hi
  unfold f_X10_eat eOK
  simp (disch := omega) only [rdI_l, rdI_o, o_addl, hl, stX_s, bN, wrI_l, stX_ws, stX_5, stX_w1, eatR_1, eatR_2, eatR_3, eatR_4]
  have e1 : ∀ a b c : Int32, k_up (k_up (k_up r (2 + 0) a) (2 + 1) b) (2 + 2) c 1 = r 1 := fun _ _ _ => rfl
  have e2 : k_up (k_up (k_up (k_up r (2 + 0) (r 2 - d * lw f)) (2 + 1) (r 3 - d * (lw (f + 1) + lw 7))) (2 + 2) (r 4 - d * lw (f + 2))) 1 (r 1 + d) = eatR lw f d r := by
    unfold eatR
    rw [k_up_cm _ _ _ (show 2 + 2 ≠ 1 by omega), k_up_cm _ _ _ (show 2 + 1 ≠ 1 by omega), k_up_cm _ _ _ (show 2 + 0 ≠ 1 by omega)]
  rw [e1]
  by_cases h2 : r 2 - d * lw f < 0
  · simp only [h2, if_true, not_true_eq_false, false_and, if_false]
  · by_cases h3 : r 3 - d * (lw (f + 1) + lw 7) < 0
    · simp only [h2, h3, if_true, not_true_eq_false, false_and, and_false, if_false]
    · by_cases h4 : r 4 - d * lw (f + 2) < 0
      · simp only [h2, h3, h4, if_true, not_true_eq_false, false_and, and_false, if_false]
      · by_cases h1 : r 1 + d ≤ 999
        · simp only [h2, h3, h4, h1, if_true, if_false, not_false_eq_true, and_self, e2]
        · simp only [h2, h3, h4, h1, if_false, and_false]
theorem spit_e (hW : WX w M lw rn) (hf : f ≤ 3) (d : Int32) : f_X10_spitOut w (Int32.ofNat f) d (stX M w (eatR lw f d r)) = some ((), stX M w r) := by
  have hl : ∀ (r : k_r) i, i < 13 → (stX M w r).1 (w + 16) i = lw i := fun r i hi => by rw [stX_c (by omega)]; exact hW.1 i hi
  unfold f_X10_spitOut
  simp (disch := omega) only [rdI_l, rdI_o, o_addl, hl, stX_s, bN, wrI_l, stX_ws, stX_5, stX_w1]
  congr 3
  funext j
  sorry
end
