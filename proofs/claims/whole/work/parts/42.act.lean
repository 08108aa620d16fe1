/-! ===== the pure layer: an act, in the class and in the reference ===== -/
/-- an act by the rain that is known -/
def stp (nw : Nat) (pl wy lw : Nat → Int32) (rn : Int32) (act : Nat) (r : k_r) : Option k_r := stW nw pl wy lw rn 2 act r
theorem stp_0 (nw : Nat) (pl wy lw : Nat → Int32) (rn : Int32) (r : k_r) : stp nw pl wy lw rn 0 r = stS pl lw (wtR rn (r 1)) r := rfl
theorem stp_s (nw : Nat) (pl wy lw : Nat → Int32) (rn : Int32) (v : Nat) (r : k_r) : stp nw pl wy lw rn (v + 1) r = stG nw wy lw v r := rfl
/-- what holds of all rows on the way -/
def Sd (np nw : Nat) (pl wy : Nat → Int32) (lw : Nat → Int32) (r : k_r) : Prop := WFl np nw pl wy ∧ WFw lw ∧ WFr np nw wy r ∧ ∃ p, p < np ∧ r 0 = Int32.ofNat p
section
variable {M : k_M} {w np nw act : Nat} {r r' : k_r} {lw pl wy : Nat → Int32} {rn wt wet : Int32}
theorem Sd_At (h : Sd np nw pl wy lw r) : ∃ p, At np nw pl wy r p := by
  obtain ⟨h1, h2, h3, p, h4, h5⟩ := h
  exact ⟨p, h4, h5, h1, h3⟩
theorem stS_Sd (h : Sd np nw pl wy lw r) (hs : stS pl lw wt r = some r') : Sd np nw pl wy lw r' ∧ r' 1 = r 1 + 1 ∧ r' 0 = r 0 := by
  obtain ⟨p, hA⟩ := Sd_At h
  obtain ⟨h1, h2, h3, -⟩ := h
  have hp := hA.1
  have np8 := h1.1
  unfold stS at hs
  rw [hA.2.1, o_nat (by omega)] at hs
  split at hs
  · rename_i he
    cases hs
    have e0 : getR pl lw wt p r 0 = r 0 := by
      unfold getR
      split
      · rw [k_up_ne _ _ (by omega), k_up_ne _ _ (by omega)]
      · rfl
    have e1 : getR pl lw wt p r 1 = r 1 := by
      unfold getR
      split
      · rw [k_up_ne _ _ (by omega), k_up_ne _ _ (by omega)]
      · rfl
    refine ⟨⟨h1, h2, WFr_eat h2 (WFr_get h2 hA wt) (by omega) ⟨1, by omega, rfl⟩ he, p, hp, ?_⟩, ?_, ?_⟩
    · rw [eatR_o _ _ _ _ (by omega), e0, hA.2.1]
    · rw [eatR_1, e1]
    · rw [eatR_o _ _ _ _ (by omega), e0]
  · cases hs
theorem stG_Sd {v : Nat} (h : Sd np nw pl wy lw r) (hs : stG nw wy lw v r = some r') : Sd np nw pl wy lw r' ∧ r' 1 = r 1 + wy (5 * v + 2) ∧ v < nw := by
  obtain ⟨h1, h2, h3, -⟩ := h
  unfold stG at hs
  split at hs
  · rename_i hg
    split at hs
    · rename_i he
      cases hs
      obtain ⟨g1, q, g2, g3⟩ := WFr_go h1 h3 hg
      obtain ⟨a, b, d, a1, a2, a3, a4, a5, a6, a7, a8⟩ := h1.2.2.2 v hg.1
      refine ⟨⟨h1, h2, WFr_eat h2 g1 (by omega) ⟨d, by omega, a7⟩ he, q, g2, ?_⟩, ?_, hg.1⟩
      · rw [eatR_o _ _ _ _ (by omega), g3]
      · rw [eatR_1]
        unfold goR
        rw [k_up_ne _ _ (by omega), k_up_ne _ _ (by omega)]
    · cases hs
  · cases hs
theorem stp_Sd (h : Sd np nw pl wy lw r) (hs : stp nw pl wy lw rn act r = some r') : Sd np nw pl wy lw r' ∧ r' 1 = r 1 + dys wy act ∧ act ≤ nw := by
  cases act with
  | zero =>
    rw [stp_0] at hs
    have g := stS_Sd h hs
    exact ⟨g.1, g.2.1, by omega⟩
  | succ v =>
    rw [stp_s] at hs
    have g := stG_Sd h hs
    exact ⟨g.1, g.2.1, g.2.2⟩
/-- the class stands, wet or dry -/
theorem standX (hW : WX w M lw rn) (hL : LX w M np nw pl wy) (h : Sd np nw pl wy lw r) (wt : Int32) : (∃ (g : Int32) (r' : k_r), stS pl lw wt r = some r' ∧ f_X10_stand w wt (stX M w r) = some (g, stX M w r') ∧ g ≠ -1 ∧ f_X10_takeBack w 0 g (stX M w r') = some ((), stX M w r)) ∨ (stS pl lw wt r = none ∧ f_X10_stand w wt (stX M w r) = some (-1, stX M w r)) := by
  obtain ⟨p, hA⟩ := Sd_At h
  have hp := hA.1
  have np8 := h.1.1
  have hs := stand_e hW hL hA wt
  have e : stS pl lw wt r = if eOK (eatR lw 0 1 (getR pl lw wt p r)) then some (eatR lw 0 1 (getR pl lw wt p r)) else none := by
    unfold stS
    rw [hA.2.1, o_nat (by omega)]
  by_cases he : eOK (eatR lw 0 1 (getR pl lw wt p r))
  · rw [if_pos he] at hs e
    refine .inl ⟨_, _, e, hs, ?_, back0_e hW hL hA wt⟩
    intro hx
    have := gX_nn (lw := lw) hA wt
    rw [hx] at this
    exact absurd this (by decide)
  · rw [if_neg he] at hs e
    exact .inr ⟨e, hs⟩
/-- the class's act -/
theorem attX (hW : WX w M lw rn) (hL : LX w M np nw pl wy) (h : Sd np nw pl wy lw r) (ha : act ≤ 100) : (∃ (g : Int32) (r' : k_r), stp nw pl wy lw rn act r = some r' ∧ f_X10_attempt w (Int32.ofNat act) (stX M w r) = some (g, stX M w r') ∧ g ≠ -1 ∧ f_X10_takeBack w (Int32.ofNat act) g (stX M w r') = some ((), stX M w r)) ∨ (stp nw pl wy lw rn act r = none ∧ f_X10_attempt w (Int32.ofNat act) (stX M w r) = some (-1, stX M w r)) := by
  have np8 := h.1.1
  have nw12 := h.1.2.1
  cases act with
  | zero =>
    obtain ⟨n, hn, hr1⟩ := h.2.2.1.1
    have e : f_X10_attempt w (Int32.ofNat 0) (stX M w r) = f_X10_stand w (wtR rn (r 1)) (stX M w r) := by
      have e1 : f_X10_attempt w (Int32.ofNat 0) (stX M w r) = bd (f_X10_rains w (stX M w r)) (fun r5 M6 => bd (f_X10_stand w r5 M6) (fun r7 M8 => some (r7, M8))) := rfl
      rw [e1, rains_e hr1 hn, bd_s, hW.2]
      cases f_X10_stand w (wtR rn (r 1)) (stX M w r) <;> rfl
    rw [e, stp_0]
    exact standX hW hL h _
  | succ v =>
    have hv0 : ¬ v + 1 = 0 := by omega
    have eh : (stX M w r).1 (w + 1) 7 = Int32.ofNat nw := by rw [stX_c (by omega)]; exact hL.2.1
    have e : f_X10_attempt w (Int32.ofNat (v + 1)) (stX M w r) = if v < nw then f_X10_go w (Int32.ofNat v) (stX M w r) else some (-1, stX M w r) := by
      unfold f_X10_attempt f_X3_hasWay
      simp (disch := omega) only [o_eql, hv0, if_false, o_subl, Nat.add_sub_cancel, eh, o_ltl, Nat.not_lt_zero, o_le]
      by_cases hv : v < nw
      · have hv2 : ¬ nw ≤ v := by omega
        simp only [hv, hv2, if_false, if_true, bd_s, i1z]
        cases f_X10_go w (Int32.ofNat v) (stX M w r) <;> rfl
      · have hv2 : nw ≤ v := by omega
        simp only [hv, hv2, if_false, if_true, bd_s, i0z]
    rw [e, stp_s]
    by_cases hv : v < nw
    · rw [if_pos hv, go_e hW hL h.1 h.2.2.1 hv]
      unfold stG
      by_cases hg : gOK nw wy v r
      · by_cases he : eOK (eatR lw 3 (wy (5 * v + 2)) (goR wy v r))
        · rw [if_pos hg, if_pos he, if_pos ⟨hg, he⟩]
          exact .inl ⟨0, _, rfl, rfl, by decide, backW_e hW hL h.1 h.2.2.1 hv hg 0⟩
        · rw [if_pos hg, if_neg he, if_neg (fun hx => he hx.2)]
          exact .inr ⟨rfl, rfl⟩
      · rw [if_neg hg, if_neg (fun hx => hg hx.1)]
        exact .inr ⟨rfl, rfl⟩
    · rw [if_neg hv]
      refine .inr ⟨?_, rfl⟩
      unfold stG
      rw [if_neg (fun hx => hv hx.1)]
/-- an act that is none -/
theorem attOut (hL : LX w M np nw pl wy) (hnw : nw ≤ 12) {x : Int32} (hx : ¬ (0 ≤ x ∧ x ≤ 12)) : f_X10_attempt w x (stX M w r) = some (-1, stX M w r) := by
  have eh : (stX M w r).1 (w + 1) 7 = Int32.ofNat nw := by rw [stX_c (by omega)]; exact hL.2.1
  have hx0 : ¬ x = 0 := fun hh => hx (by rw [hh]; decide)
  unfold f_X10_attempt f_X3_hasWay
  rw [if_neg hx0, eh]
  by_cases h1 : x - 1 < 0
  · rw [if_pos h1]; rfl
  · rw [if_neg h1, if_pos]
    · rfl
    · by_cases h2 : x < 0
      · rw [Int32.le_iff_toInt_le, o_int (by omega)]
        rw [Int32.not_lt, Int32.le_iff_toInt_le] at h1
        rw [Int32.lt_iff_toInt_lt] at h2
        have hb := Int32.le_toInt x
        rw [Int32.toInt_sub] at h1 ⊢
        have e1 : (1 : Int32).toInt = 1 := rfl
        have e0 : (0 : Int32).toInt = 0 := rfl
        rw [e1] at h1 ⊢
        rw [e0] at h1 h2
        by_cases hm : x.toInt = -2147483648
        · rw [hm]
          have : ((-2147483648 : Int) - 1).bmod (2 ^ 32) = 2147483647 := by decide
          rw [this]
          omega
        · have : (x.toInt - 1).bmod (2 ^ 32) = x.toInt - 1 := by
            rw [Int.bmod_eq_of_le] <;> omega
          rw [this] at h1
          omega
      · have h3 : ¬ x ≤ 12 := fun hh => hx ⟨Int32.not_lt.mp h2, hh⟩
        rw [Int32.le_iff_toInt_le] at h3
        rw [Int32.le_iff_toInt_le, o_int (by omega), Int32.toInt_sub]
        have hb := Int32.toInt_lt x
        have e1 : (1 : Int32).toInt = 1 := rfl
        have e12 : (12 : Int32).toInt = 12 := rfl
        rw [e12] at h3
        rw [e1]
        have : (x.toInt - 1).bmod (2 ^ 32) = x.toInt - 1 := by
          rw [Int.bmod_eq_of_le] <;> omega
        rw [this]
        omega
theorem canX (hW : WX w M lw rn) (hL : LX w M np nw pl wy) (h : Sd np nw pl wy lw r) (ha : act ≤ 100) : f_X10_can w (Int32.ofNat act) (stX M w r) = some (if (stp nw pl wy lw rn act r).isSome = true then 1 else 0, stX M w r) := by
  unfold f_X10_can
  rcases attX (act := act) hW hL h ha with ⟨g, r', h1, h2, h3, h4⟩ | ⟨h1, h2⟩
  · rw [h1, h2, bd_s, if_neg h3, h4]; rfl
  · rw [h1, h2, bd_s, if_pos rfl]; rfl
end
