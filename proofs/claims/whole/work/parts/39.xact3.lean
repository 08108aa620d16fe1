/-! ===== the pure layer: standing, going, taking back ===== -/
theorem eOK_up (lw : Nat → Int32) (f : Nat) (d : Int32) (r : k_r) {j : Nat} (v : Int32) (h : j = 0 ∨ 5 ≤ j) : eOK (eatR lw f d (k_up r j v)) = eOK (eatR lw f d r) := by
  unfold eOK
  rw [← eatR_up _ _ _ _ _ h, k_up_ne _ _ (by omega), k_up_ne _ _ (by omega), k_up_ne _ _ (by omega), k_up_ne _ _ (by omega)]
/-- what standing got -/
def gX (pl lw : Nat → Int32) (wt : Int32) (p : Nat) (r : k_r) : Int32 := if 0 ≤ shk (pl (3 * p)) then gotR pl lw wt p r else 0
/-- what is always so of a row: where the city is, what is left there -/
def At (np nw : Nat) (pl wy : Nat → Int32) (r : k_r) (p : Nat) : Prop := p < np ∧ r 0 = Int32.ofNat p ∧ WFl np nw pl wy ∧ WFr np nw wy r
section
variable {M : k_M} {w p np nw : Nat} {r : k_r} {lw pl wy : Nat → Int32} {rn : Int32}
theorem got_nn (hA : At np nw pl wy r p) (wt : Int32) : 0 ≤ mn2 (thr (pl (3 * p)) (r (5 + p))) (offd (pl (3 * p)) (pl (3 * p + 1)) (r 1) wt) := mn2_nn (thr_nn (n := 99) (by omega) (hA.2.2.2.2.2.1 p hA.1)) (offd_nn (hA.2.2.1.2.2.1 p hA.1).2.1)
theorem gX_nn (hA : At np nw pl wy r p) (wt : Int32) : 0 ≤ gX pl lw wt p r := by
  unfold gX gotR
  split
  · exact amt_nn (got_nn hA wt)
  · exact Int32.le_refl _
theorem getR_0 (hA : At np nw pl wy r p) (wt : Int32) (h : gX pl lw wt p r ≤ 0) : getR pl lw wt p r = r := by
  have h0 := Int32.le_antisymm h (gX_nn hA wt)
  unfold getR
  unfold gX at h0
  by_cases hs : 0 ≤ shk (pl (3 * p))
  · rw [if_pos hs] at h0 ⊢
    rw [h0, Int32.add_zero]
    have hu : usd (pl (3 * p)) 0 = 0 := by
      unfold usd
      repeat' split
      all_goals rfl
    rw [hu, Int32.sub_zero, k_up_id _ _ rfl]
    exact k_up_id _ _ rfl
  · rw [if_neg hs]
theorem stand61_e (hW : WX w M lw rn) (hL : LX w M np nw pl wy) (hA : At np nw pl wy r p) (wt : Int32) : f_X10_stand_61 w (pl (3 * p)) (offd (pl (3 * p)) (pl (3 * p + 1)) (r 1) wt) (stX M w r) = if eOK (eatR lw 0 1 (getR pl lw wt p r)) then some (gX pl lw wt p r, stX M w (eatR lw 0 1 (getR pl lw wt p r))) else some (-1, stX M w r) := by
  have hnn := got_nn hA wt
  have gnn := gX_nn (lw := lw) hA wt
  have g0 := getR_0 (lw := lw) hA wt
  obtain ⟨hp, h0, hF, hR⟩ := hA
  have np8 := hF.1
  obtain ⟨k, k5, hk⟩ := (hF.2.2.1 p hp).1
  unfold f_X10_stand_61
  rw [hk] at hnn
  rw [stX_4, h0, hk, taking_e hW hL hp np8 k5 hk _ hnn, bd_s]
  have hg : (if 0 ≤ shk (Int32.ofNat k) then amt (mn2 (thr (Int32.ofNat k) (r (5 + p))) (offd (Int32.ofNat k) (pl (3 * p + 1)) (r 1) wt)) (lw 6 - r (2 + (shk (Int32.ofNat k)).toNatClampNeg)) else 0) = gX pl lw wt p r := by
    unfold gX gotR
    rw [hk]
  rw [hg]
  by_cases hle : gX pl lw wt p r ≤ 0
  · have e0 := Int32.le_antisymm hle gnn
    rw [if_pos hle, stand92_e (s := 0) hW (by omega) k5 h0 _ (fun h => absurd h (Int32.not_lt.mpr hle)), g0 hle, if_pos hle, e0]
    have e1 : k_up (eatR lw 0 1 r) (5 + p) (r (5 + p) - 0 * lbk (Int32.ofNat k)) = eatR lw 0 1 r := by
      rw [Int32.zero_mul, Int32.sub_zero]
      exact k_up_id _ _ (eatR_o _ _ _ _ (by omega)).symm
    rw [e1]
  · rw [if_neg hle]
    rcases shk_c k5 with ⟨rfl, h⟩ | ⟨hk0, s, hs, h⟩
    · exfalso
      apply hle
      unfold gX
      rw [hk, h, if_neg (by decide)]
      exact Int32.le_refl _
    · have e2 : getR pl lw wt p r = k_up (k_up r (2 + s) (r (2 + s) + gX pl lw wt p r)) (5 + p) (r (5 + p) - usd (Int32.ofNat k) (gX pl lw wt p r)) := by
        have e : gX pl lw wt p r = gotR pl lw wt p r := by
          unfold gX
          rw [hk, h, if_pos (o_nn (by omega))]
        unfold getR
        rw [e, hk, h, if_pos (o_nn (by omega)), o_nat (by omega)]
      have e3 : k_up r (2 + s) (r (2 + s) + gX pl lw wt p r) 0 = Int32.ofNat p := by rw [k_up_ne _ _ (by omega), h0]
      simp (disch := omega) only [rdT2_e k5, h, rdI_o, wrI_o, stX_s, stX_ws]
      rw [stand92_e (s := s) hW (by omega) k5 e3 _ (fun _ => ⟨hs, h⟩), e2, if_neg hle]
      have hq := eOK_up lw 0 1 (k_up r (2 + s) (r (2 + s) + gX pl lw wt p r)) (j := 5 + p) (r (5 + p) - usd (Int32.ofNat k) (gX pl lw wt p r)) (by omega)
      by_cases he : eOK (eatR lw 0 1 (k_up r (2 + s) (r (2 + s) + gX pl lw wt p r)))
      · rw [if_pos he, if_pos (by rw [hq]; exact he), usd_lbk k5 hk0, k_up_ne _ _ (show 5 + p ≠ 2 + s by omega), eatR_up (j := 5 + p) _ _ _ _ _ (by omega)]
      · rw [if_neg he, if_neg (by rw [hq]; exact he), k_up_up, k_up_self, Int32.add_sub_cancel, k_up_id _ _ rfl]
theorem stand_e (hW : WX w M lw rn) (hL : LX w M np nw pl wy) (hA : At np nw pl wy r p) (wt : Int32) : f_X10_stand w wt (stX M w r) = if eOK (eatR lw 0 1 (getR pl lw wt p r)) then some (gX pl lw wt p r, stX M w (eatR lw 0 1 (getR pl lw wt p r))) else some (-1, stX M w r) := by
  rw [← stand61_e hW hL hA wt]
  obtain ⟨hp, h0, hF, hR⟩ := hA
  have np8 := hF.1
  have e1 : (stX M w r).1 (w + 2) p = pl (3 * p) := by rw [stX_c (by omega), (hL.2.2.1 p hp).1]
  have e2 : (stX M w r).1 (w + 3) p = pl (3 * p + 1) := by rw [stX_c (by omega), (hL.2.2.1 p hp).2.1]
  have em : ∀ N, f_X10_monthOf (r 1) N = some (mth (r 1), N) := fun _ => rfl
  unfold f_X10_stand f_X10_stand_40 offd
  simp (disch := omega) only [stX_4, stX_5, h0, rdI_o, e1, e2, em, bd_s, bN]
  by_cases h3 : pl (3 * p) = 3
  · have h34 : ¬ (3 : Int32) = 4 := by decide
    by_cases hw : wt = 0
    · simp only [h3, hw, if_true]
    · simp only [h3, hw, if_true, if_false, h34]
  · by_cases h4 : pl (3 * p) = 4
    · by_cases hm : mth (r 1) - mth (r 1) / 2 * 2 = 0
      · have h43 : ¬ (4 : Int32) = 3 := by decide
        simp only [h4, hm, if_true, h43, if_false, Int32.mul_comm 2]
      · have h43 : ¬ (4 : Int32) = 3 := by decide
        simp only [h4, hm, if_true, h43, if_false]
    · simp only [h3, h4, if_false]
theorem back0_e (hW : WX w M lw rn) (hL : LX w M np nw pl wy) (hA : At np nw pl wy r p) (wt : Int32) : f_X10_takeBack w 0 (gX pl lw wt p r) (stX M w (eatR lw 0 1 (getR pl lw wt p r))) = some ((), stX M w r) := by
  have g0 := getR_0 (lw := lw) hA wt
  obtain ⟨hp, h0, hF, hR⟩ := hA
  have np8 := hF.1
  obtain ⟨k, k5, hk⟩ := (hF.2.2.1 p hp).1
  have e : ∀ N, f_X10_spitOut w 0 1 N = f_X10_spitOut w (Int32.ofNat 0) 1 N := fun _ => rfl
  have e1 : ∀ r, (stX M w r).1 (w + 2) p = Int32.ofNat k := fun r => by rw [stX_c (by omega), (hL.2.2.1 p hp).1, hk]
  unfold f_X10_takeBack
  rw [if_pos rfl, e, spit_e hW (by omega), bd_s]
  by_cases hle : gX pl lw wt p r ≤ 0
  · rw [g0 hle, stX_4, h0]
    simp (disch := omega) only [rdI_o, hle, if_true]
  · rcases shk_c k5 with ⟨rfl, h⟩ | ⟨hk0, s, hs, h⟩
    · exfalso
      apply hle
      unfold gX
      rw [hk, h, if_neg (by decide)]
      exact Int32.le_refl _
    · have e2 : getR pl lw wt p r = k_up (k_up r (2 + s) (r (2 + s) + gX pl lw wt p r)) (5 + p) (r (5 + p) - usd (Int32.ofNat k) (gX pl lw wt p r)) := by
        have e : gX pl lw wt p r = gotR pl lw wt p r := by
          unfold gX
          rw [hk, h, if_pos (o_nn (by omega))]
        unfold getR
        rw [e, hk, h, if_pos (o_nn (by omega)), o_nat (by omega)]
      have e3 : ∀ a b c d, k_up (k_up (k_up r (2 + s) a) (5 + p) b) (2 + s) c = d → d 0 = Int32.ofNat p := fun a b c d hd => by rw [← hd, k_up_ne _ _ (by omega), k_up_ne _ _ (by omega), k_up_ne _ _ (by omega), h0]
      have e4 : ∀ a b, k_up (k_up r (2 + s) a) (5 + p) b 0 = Int32.ofNat p := fun a b => by rw [k_up_ne _ _ (by omega), k_up_ne _ _ (by omega), h0]
      rw [e2]
      simp (disch := omega) only [stX_4, e4, rdI_o, e1, hle, if_false, rdT2_e k5, rdT3_e k5, h, stX_s, wrI_o, stX_ws, e3 _ _ _ _ rfl, stX_l, stX_wl, k_up_self, k_up_ne, usd_lbk k5 hk0, Int32.add_sub_cancel, Int32.sub_add_cancel]
      refine congrArg (fun q => some ((), stX M w q)) ?_
      rw [k_up_cm _ _ _ (show 5 + p ≠ 2 + s by omega), k_up_up, k_up_up, k_up_id _ _ rfl, k_up_id _ _ rfl]
end
