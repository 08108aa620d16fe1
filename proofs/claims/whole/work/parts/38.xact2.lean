/-! ===== the pure layer: the class's act, whole ===== -/
section
variable {M : k_M} {w f : Nat} {r : k_r} {lw : Nat → Int32} {rn : Int32}
theorem eat_e (hW : WX w M lw rn) (hf : f ≤ 3) (d : Int32) : f_X10_eat w (Int32.ofNat f) d (stX M w r) = if eOK (eatR lw f d r) then some (1, stX M w (eatR lw f d r)) else some (0, stX M w r) := by
  have hl : ∀ i, i < 13 → (stX M w r).1 (w + 16) i = lw i := fun i hi => by rw [stX_c (by omega)]; exact hW.1 i hi
  unfold f_X10_eat eOK
  simp (disch := omega) only [rdI_l, rdI_o, o_addl, hl, stX_s, bN, wrI_l, stX_ws, stX_5, stX_w1, eatR_1, eatR_2, eatR_3, eatR_4]
  have e1 : ∀ a b c : Int32, k_up (k_up (k_up r (2 + 0) a) (2 + 1) b) (2 + 2) c 1 = r 1 := fun _ _ _ => rfl
  have e2 : k_up (k_up (k_up (k_up r (2 + 0) (r 2 - d * lw f)) (2 + 1) (r 3 - d * (lw (f + 1) + lw 7))) (2 + 2) (r 4 - d * lw (f + 2))) 1 (r 1 + d) = eatR lw f d r := by
    unfold eatR
    rw [k_up_cm _ _ _ (show 2 + 2 ≠ 1 by omega), k_up_cm _ _ _ (show 2 + 1 ≠ 1 by omega), k_up_cm _ _ _ (show 2 + 0 ≠ 1 by omega)]
  rw [e1]
  by_cases h2 : r 2 - d * lw f < 0
  · simp only [h2, if_true, not_true_eq_false, false_and, if_false]
  · by_cases h3 : r 3 - d * (lw (f + 1) + lw 7) < 0
    · simp only [h2, h3, if_true, not_true_eq_false, false_and, and_false, if_false]
    · by_cases h4 : r 4 - d * lw (f + 2) < 0
      · simp only [h2, h3, h4, if_true, not_true_eq_false, false_and, and_false, if_false]
      · by_cases h1 : r 1 + d ≤ 999
        · simp only [h2, h3, h4, h1, if_true, if_false, not_false_eq_true, and_self, e2]
        · simp only [h2, h3, h4, h1, if_false, and_false]
theorem spit_e (hW : WX w M lw rn) (hf : f ≤ 3) (d : Int32) : f_X10_spitOut w (Int32.ofNat f) d (stX M w (eatR lw f d r)) = some ((), stX M w r) := by
  have hl : ∀ (r : k_r) i, i < 13 → (stX M w r).1 (w + 16) i = lw i := fun r i hi => by rw [stX_c (by omega)]; exact hW.1 i hi
  unfold f_X10_spitOut
  simp (disch := omega) only [rdI_l, rdI_o, o_addl, hl, stX_s, bN, wrI_l, stX_ws, stX_5, stX_w1]
  refine congrArg (fun q => some ((), stX M w q)) (funext fun j => ?_)
  by_cases h1 : j = 1
  · subst h1; exact Int32.add_sub_cancel _ _
  · by_cases h2 : j = 2
    · subst h2; exact Int32.sub_add_cancel _ _
    · by_cases h3 : j = 3
      · subst h3; exact Int32.sub_add_cancel _ _
      · by_cases h4 : j = 4
        · subst h4; exact Int32.sub_add_cancel _ _
        · rw [k_up_ne _ _ (by omega), k_up_ne _ _ (by omega), k_up_ne _ _ (by omega), k_up_ne _ _ (by omega)]
          unfold eatR
          rw [k_up_ne _ _ (by omega), k_up_ne _ _ (by omega), k_up_ne _ _ (by omega), k_up_ne _ _ (by omega)]
end
def lbk (k : Int32) : Int32 := if k = 2 then 1 else if k = 3 then 1 else if k = 5 then 2 else 0
theorem rdT2_e {β : Type} {k : Nat} (hk : k ≤ 5) (q : Int32 → Option β) : rdT 2 (Int32.ofNat k) q = q (shk (Int32.ofNat k)) := by
  have hc : k = 0 ∨ k = 1 ∨ k = 2 ∨ k = 3 ∨ k = 4 ∨ k = 5 := by omega
  rcases hc with rfl | rfl | rfl | rfl | rfl | rfl <;> rfl
theorem rdT3_e {β : Type} {k : Nat} (hk : k ≤ 5) (q : Int32 → Option β) : rdT 3 (Int32.ofNat k) q = q (lbk (Int32.ofNat k)) := by
  have hc : k = 0 ∨ k = 1 ∨ k = 2 ∨ k = 3 ∨ k = 4 ∨ k = 5 := by omega
  rcases hc with rfl | rfl | rfl | rfl | rfl | rfl <;> rfl
theorem shk_c {k : Nat} (hk : k ≤ 5) : (k = 0 ∧ shk (Int32.ofNat k) = -1) ∨ (k ≠ 0 ∧ ∃ s : Nat, s < 3 ∧ shk (Int32.ofNat k) = Int32.ofNat s) := by
  have hc : k = 0 ∨ k = 1 ∨ k = 2 ∨ k = 3 ∨ k = 4 ∨ k = 5 := by omega
  rcases hc with rfl | rfl | rfl | rfl | rfl | rfl
  · exact .inl ⟨rfl, rfl⟩
  · exact .inr ⟨by omega, 1, by omega, rfl⟩
  · exact .inr ⟨by omega, 0, by omega, rfl⟩
  · exact .inr ⟨by omega, 2, by omega, rfl⟩
  · exact .inr ⟨by omega, 1, by omega, rfl⟩
  · exact .inr ⟨by omega, 0, by omega, rfl⟩
theorem usd_lbk {k : Nat} (hk : k ≤ 5) (h0 : k ≠ 0) (g : Int32) : g * lbk (Int32.ofNat k) = usd (Int32.ofNat k) g := by
  have hc : k = 1 ∨ k = 2 ∨ k = 3 ∨ k = 4 ∨ k = 5 := by omega
  rcases hc with rfl | rfl | rfl | rfl | rfl
  · exact Int32.mul_zero
  · exact Int32.mul_one _
  · exact Int32.mul_one _
  · exact Int32.mul_zero
  · exact Int32.mul_comm _ _
theorem amt_x {m rm : Int32} (hm : 0 ≤ m) : (if rm ≤ m then (if rm ≤ 0 then 0 else rm) else (if m ≤ 0 then 0 else m)) = amt m rm := by
  unfold amt
  by_cases h0 : 0 ≤ rm
  · rw [if_pos h0]
    by_cases h1 : rm ≤ m
    · rw [if_pos h1, if_pos h1]
      by_cases h2 : rm ≤ 0
      · rw [if_pos h2]; exact Int32.le_antisymm h0 h2
      · rw [if_neg h2]
    · rw [if_neg h1, if_neg h1]
      by_cases h2 : m ≤ 0
      · rw [if_pos h2]; exact Int32.le_antisymm hm h2
      · rw [if_neg h2]
  · have h3 : rm < 0 := Int32.not_le.mp h0
    rw [if_neg h0, if_pos (Int32.le_trans (Int32.le_of_lt h3) hm), if_pos (Int32.le_of_lt h3)]
theorem amt_nn {m rm : Int32} (hm : 0 ≤ m) : 0 ≤ amt m rm := by
  unfold amt
  by_cases h0 : 0 ≤ rm
  · rw [if_pos h0]
    by_cases h1 : rm ≤ m
    · rw [if_pos h1]; exact h0
    · rw [if_neg h1]; exact hm
  · rw [if_neg h0]; exact Int32.le_refl _
theorem mn2_nn {a b : Int32} (ha : 0 ≤ a) (hb : 0 ≤ b) : 0 ≤ mn2 a b := by
  unfold mn2
  split
  · exact ha
  · exact hb
theorem thr_nn {k l : Int32} {n : Nat} (hn : n < 1000) (h : Bn l n) : 0 ≤ thr k l := by
  obtain ⟨x, h1, rfl⟩ := h
  unfold thr
  split
  · rw [o_divl (by omega) (by omega)]; exact o_nn (by omega)
  · exact o_nn (by omega)
theorem offd_nn {k g d wt : Int32} (h : Bn g 9) : 0 ≤ offd k g d wt := by
  obtain ⟨x, h1, rfl⟩ := h
  unfold offd
  rw [o_lmul]
  split
  · split
    · exact Int32.le_refl _
    · exact o_nn (by omega)
  · split
    · split
      · exact o_nn (by omega)
      · exact o_nn (by omega)
    · exact o_nn (by omega)
section
variable {M : k_M} {w p k s np nw : Nat} {r : k_r} {lw pl wy : Nat → Int32} {rn : Int32}
theorem tk53_e (hW : WX w M lw rn) (hs : s < 3) (o t : Int32) (hm : 0 ≤ mn2 t o) : f_X10_taking_53 w o (Int32.ofNat s) t (stX M w r) = some (amt (mn2 t o) (lw 6 - r (2 + s)), stX M w r) := by
  have hl : ∀ (r : k_r) i, i < 13 → (stX M w r).1 (w + 16) i = lw i := fun r i hi => by rw [stX_c (by omega)]; exact hW.1 i hi
  rw [← amt_x hm]
  unfold f_X10_taking_53 f_X10_taking_84 f_X10_taking_100 mn2
  simp (disch := omega) only [rdI_l, rdI_o, hl, stX_s, bN]
  by_cases h1 : t ≤ o
  · simp only [h1, if_true]
    split <;> split <;> rfl
  · simp only [h1, if_false]
    split <;> split <;> rfl
theorem taking_e (hW : WX w M lw rn) (hL : LX w M np nw pl wy) (hp : p < np) (hnp : np ≤ 8) (hk5 : k ≤ 5) (hk : pl (3 * p) = Int32.ofNat k) (o : Int32) (hm : 0 ≤ mn2 (thr (Int32.ofNat k) (r (5 + p))) o) : f_X10_taking w (Int32.ofNat p) o (stX M w r) = some (if 0 ≤ shk (Int32.ofNat k) then amt (mn2 (thr (Int32.ofNat k) (r (5 + p))) o) (lw 6 - r (2 + (shk (Int32.ofNat k)).toNatClampNeg)) else 0, stX M w r) := by
  have hkd : (stX M w r).1 (w + 2) p = Int32.ofNat k := by rw [stX_c (by omega), (hL.2.2.1 p hp).1, hk]
  unfold f_X10_taking
  simp (disch := omega) only [rdI_o, hkd, rdT2_e hk5, stX_l]
  rcases shk_c hk5 with ⟨rfl, h⟩ | ⟨h0, s, hs, h⟩
  · rw [h]; rfl
  · have h1 : ¬ Int32.ofNat s = -1 := by
      have hc : s = 0 ∨ s = 1 ∨ s = 2 := by omega
      rcases hc with rfl | rfl | rfl <;> decide
    rw [h, if_neg h1, if_pos (o_nn (by omega)), o_nat (by omega)]
    unfold thr at hm ⊢
    by_cases h5 : Int32.ofNat k = 5
    · simp only [h5, if_true] at hm ⊢
      exact tk53_e hW hs _ _ hm
    · simp only [h5, if_false] at hm ⊢
      exact tk53_e hW hs _ _ hm
theorem stand92_e (hW : WX w M lw rn) (hp : p < 8) (hk5 : k ≤ 5) (h0 : r 0 = Int32.ofNat p) (g : Int32) (hs : 0 < g → s < 3 ∧ shk (Int32.ofNat k) = Int32.ofNat s) : f_X10_stand_92 w (Int32.ofNat k) g (stX M w r) = if eOK (eatR lw 0 1 r) then some (g, stX M w (k_up (eatR lw 0 1 r) (5 + p) (r (5 + p) - g * lbk (Int32.ofNat k)))) else some (-1, stX M w (if g ≤ 0 then r else k_up r (2 + s) (r (2 + s) - g))) := by
  have e : ∀ N, f_X10_eat w 0 1 N = f_X10_eat w (Int32.ofNat 0) 1 N := fun _ => rfl
  unfold f_X10_stand_92
  rw [e, eat_e hW (by omega)]
  by_cases he : eOK (eatR lw 0 1 r)
  · rw [if_pos he, if_pos he]
    have e0 : eatR lw 0 1 r 0 = Int32.ofNat p := by rw [eatR_o _ _ _ _ (by omega), h0]
    simp (disch := omega) only [bd_s, i1z, if_false, stX_4, e0, rdI_o, wrI_o, stX_l, rdT3_e hk5, stX_wl, eatR_o]
  · rw [if_neg he, if_neg he]
    simp only [bd_s, i0z, if_true]
    by_cases hg : g ≤ 0
    · simp only [hg, if_true]
    · obtain ⟨hs3, hs⟩ := hs (Int32.not_le.mp hg)
      simp (disch := omega) only [hg, if_false, rdT2_e hk5, hs, rdI_o, wrI_o, stX_s, stX_ws]
end
