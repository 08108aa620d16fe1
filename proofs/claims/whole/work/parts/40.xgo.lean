/-! ===== the pure layer: going, and the act ===== -/
section
variable {M : k_M} {w p v np nw : Nat} {r : k_r} {lw pl wy : Nat → Int32} {rn : Int32}
/-- the ends of a way, as the class holds them -/
theorem ends (hF : WFl np nw pl wy) (hL : LX w M np nw pl wy) (hv : v < nw) : ∃ a b : Nat, a < np ∧ b < np ∧ a ≠ b ∧ M.1 (w + 8) v = Int32.ofNat a ∧ M.1 (w + 9) v = Int32.ofNat b ∧ ((wy (5 * v) = Int32.ofNat a ∧ wy (5 * v + 1) = Int32.ofNat b) ∨ (wy (5 * v) = Int32.ofNat b ∧ wy (5 * v + 1) = Int32.ofNat a)) := by
  obtain ⟨a, b, d, h1, h2, h3, h4, h5, h6, h7, h8⟩ := hF.2.2.2 v hv
  rcases (hL.2.2.2 v hv).1 with ⟨g1, g2⟩ | ⟨g1, g2⟩
  · exact ⟨a, b, by omega, by omega, by omega, by rw [g1, h5], by rw [g2, h6], .inl ⟨h5, h6⟩⟩
  · exact ⟨b, a, by omega, by omega, by omega, by rw [g1, h6], by rw [g2, h5], .inr ⟨h5, h6⟩⟩
theorem farEnd_e (hv : v < 12) {a b : Int32} (ha : M.1 (w + 8) v = a) (hb : M.1 (w + 9) v = b) (x : Int32) : f_X3_farEnd w (Int32.ofNat v) x (stX M w r) = some (if a = x then b else a, stX M w r) := by
  have e1 : (stX M w r).1 (w + 8) v = a := by rw [stX_c (by omega), ha]
  have e2 : (stX M w r).1 (w + 9) v = b := by rw [stX_c (by omega), hb]
  unfold f_X3_farEnd
  simp (disch := omega) only [rdI_o, e1, e2]
  split <;> rfl
theorem go34_e (hW : WX w M lw rn) (hL : LX w M np nw pl wy) (hF : WFl np nw pl wy) (hR : WFr np nw wy r) (hv : v < nw) (hend : wy (5 * v) = r 0 ∨ wy (5 * v + 1) = r 0) : f_X10_go_34 w (Int32.ofNat v) (stX M w r) = if gOK nw wy v r ∧ eOK (eatR lw 3 (wy (5 * v + 2)) (goR wy v r)) then some (0, stX M w (eatR lw 3 (wy (5 * v + 2)) (goR wy v r))) else some (-1, stX M w r) := by
  have nw12 := hF.2.1
  have np8 := hF.1
  obtain ⟨a, b, a1, a2, a3, a4, a5, a6⟩ := ends hF hL hv
  obtain ⟨bb, b9, hb⟩ := (hR.2.2.2 v hv).1
  have h9 := (hR.2.2.2 v hv).2
  have e3 : ∀ d N, f_X10_eat w 3 d N = f_X10_eat w (Int32.ofNat 3) d N := fun _ _ => rfl
  have em : ∀ N, f_X10_monthOf (r 1) N = some (mth (r 1), N) := fun _ => rfl
  have ed : ∀ r, (stX M w r).1 (w + 10) v = wy (5 * v + 2) := fun r => by rw [stX_c (by omega), (hL.2.2.2 v hv).2.1]
  have eo : ∀ r, (stX M w r).1 (w + 13) v = wy (5 * v + 4) := fun r => by rw [stX_c (by omega), (hL.2.2.2 v hv).2.2.2]
  unfold f_X10_go_34 f_X3_isOpen
  simp (disch := omega) only [rdI_o, stX_b, stX_5, em, bd_s, eo, ed, e3, eat_e hW]
  by_cases h0 : r (13 + v) = 0
  · have : ¬ (0 : Int32) < 0 := by decide
    simp only [h0, if_true, gOK, this, false_and, and_false, if_false]
  · have hpos : 0 < r (13 + v) := by
      rw [hb, o_eql (by omega) (by omega)] at h0
      rw [hb, o_llt (by omega) (by omega)]
      omega
    simp only [h0, if_false]
    by_cases hm : (wy (5 * v + 4) >>> (mth (r 1) &&& 31)) &&& 1 = 1
    · have hg : gOK nw wy v r := ⟨hv, hpos, hm, hend⟩
      have hq : eOK (eatR lw 3 (wy (5 * v + 2)) (goR wy v r)) = eOK (eatR lw 3 (wy (5 * v + 2)) r) := by
        unfold goR
        rw [eOK_up _ _ _ _ _ (by omega), eOK_up _ _ _ _ _ (by omega)]
      have hfar : (if Int32.ofNat a = r 0 then Int32.ofNat b else Int32.ofNat a) = (if wy (5 * v) = r 0 then wy (5 * v + 1) else wy (5 * v)) := by
        rcases a6 with ⟨c1, c2⟩ | ⟨c1, c2⟩
        · rw [c1, c2]
        · rw [c1, c2]
          rw [c1, c2] at hend
          by_cases hh : Int32.ofNat a = r 0
          · rw [if_pos hh, if_neg]
            intro hx
            rw [← hx, o_eq (by omega) (by omega)] at hh
            omega
          · rw [if_neg hh]
            rcases hend with hx | hx
            · rw [if_pos hx]
            · exact absurd hx hh
      simp (disch := omega) only [hm, if_true, i1z, if_false, bd_s, ed, eat_e hW]
      by_cases he : eOK (eatR lw 3 (wy (5 * v + 2)) r)
      · have he2 : eOK (eatR lw 3 (wy (5 * v + 2)) (goR wy v r)) := by
          rw [hq]
          exact he
        rw [if_pos he, if_pos ⟨hg, he2⟩]
        simp (disch := omega) only [bd_s, i1z, if_false, stX_4, eatR_o, farEnd_e (show v < 12 by omega) a4 a5, hfar, bN, stX_w0, rdI_o, stX_b, k_up_ne, wrI_o, stX_wb]
        unfold goR
        by_cases h91 : r (13 + v) = 9
        · have h92 := h9.mp h91
          simp only [h91, h92, if_true, Int32.sub_zero]
          rw [eatR_up _ _ _ _ _ (by omega), k_up_id _ (13 + v)]
          rw [k_up_ne _ _ (by omega), h91]
        · have h92 : ¬ wy (5 * v + 3) = 9 := fun hh => h91 (h9.mpr hh)
          simp only [h91, h92, if_false]
          rw [eatR_up _ _ _ _ _ (by omega), eatR_up _ _ _ _ _ (by omega)]
      · have he2 : ¬ (gOK nw wy v r ∧ eOK (eatR lw 3 (wy (5 * v + 2)) (goR wy v r))) := by
          rintro ⟨-, hx⟩
          rw [hq] at hx
          exact he hx
        rw [if_neg he, if_neg he2]
        simp only [bd_s, i0z, if_true]
    · simp only [hm, if_false, gOK, false_and, and_false, bd_s, i0z, if_true]
theorem go_e (hW : WX w M lw rn) (hL : LX w M np nw pl wy) (hF : WFl np nw pl wy) (hR : WFr np nw wy r) (hv : v < nw) : f_X10_go w (Int32.ofNat v) (stX M w r) = if gOK nw wy v r ∧ eOK (eatR lw 3 (wy (5 * v + 2)) (goR wy v r)) then some (0, stX M w (eatR lw 3 (wy (5 * v + 2)) (goR wy v r))) else some (-1, stX M w r) := by
  have nw12 := hF.2.1
  have np8 := hF.1
  obtain ⟨a, b, a1, a2, a3, a4, a5, a6⟩ := ends hF hL hv
  have e1 : (stX M w r).1 (w + 8) v = Int32.ofNat a := by rw [stX_c (by omega), a4]
  have e2 : (stX M w r).1 (w + 9) v = Int32.ofNat b := by rw [stX_c (by omega), a5]
  unfold f_X10_go
  simp (disch := omega) only [rdI_o, e1, e2, stX_4]
  by_cases hend : wy (5 * v) = r 0 ∨ wy (5 * v + 1) = r 0
  · rw [← go34_e hW hL hF hR hv hend]
    rcases a6 with ⟨c1, c2⟩ | ⟨c1, c2⟩
    · rw [c1, c2] at hend
      by_cases hh : Int32.ofNat a = r 0
      · rw [if_pos hh]
      · rw [if_neg hh]
        rcases hend with hx | hx
        · exact absurd hx hh
        · rw [if_pos hx]
    · rw [c1, c2] at hend
      by_cases hh : Int32.ofNat a = r 0
      · rw [if_pos hh]
      · rw [if_neg hh]
        rcases hend with hx | hx
        · rw [if_pos hx]
        · exact absurd hx hh
  · rw [if_neg (show ¬ (gOK nw wy v r ∧ _) from fun hx => hend hx.1.2.2.2)]
    rcases a6 with ⟨c1, c2⟩ | ⟨c1, c2⟩
    · rw [c1, c2] at hend
      rw [if_neg (fun hx => hend (.inl hx)), if_neg (fun hx => hend (.inr hx))]
    · rw [c1, c2] at hend
      rw [if_neg (fun hx => hend (.inr hx)), if_neg (fun hx => hend (.inl hx))]
theorem backW_e (hW : WX w M lw rn) (hL : LX w M np nw pl wy) (hF : WFl np nw pl wy) (hR : WFr np nw wy r) (hv : v < nw) (hg : gOK nw wy v r) (g : Int32) : f_X10_takeBack w (Int32.ofNat (v + 1)) g (stX M w (eatR lw 3 (wy (5 * v + 2)) (goR wy v r))) = some ((), stX M w r) := by
  have nw12 := hF.2.1
  have np8 := hF.1
  obtain ⟨a, b, a1, a2, a3, a4, a5, a6⟩ := ends hF hL hv
  obtain ⟨bb, b9, hb⟩ := (hR.2.2.2 v hv).1
  have h9 := (hR.2.2.2 v hv).2
  have hv0 : ¬ v + 1 = 0 := by omega
  have e3 : ∀ d N, f_X10_spitOut w 3 d N = f_X10_spitOut w (Int32.ofNat 3) d N := fun _ _ => rfl
  have ed : ∀ r, (stX M w r).1 (w + 10) v = wy (5 * v + 2) := fun r => by rw [stX_c (by omega), (hL.2.2.2 v hv).2.1]
  have hfar : (if Int32.ofNat a = goR wy v r 0 then Int32.ofNat b else Int32.ofNat a) = r 0 := by
    have hend := hg.2.2.2
    have e0 : goR wy v r 0 = (if wy (5 * v) = r 0 then wy (5 * v + 1) else wy (5 * v)) := by
      unfold goR
      rw [k_up_ne _ _ (by omega), k_up_self]
    rw [e0]
    have hab : ¬ Int32.ofNat a = Int32.ofNat b := by rw [o_eq (by omega) (by omega)]; exact a3
    have hba : ¬ Int32.ofNat b = Int32.ofNat a := fun hx => hab hx.symm
    rcases a6 with ⟨c1, c2⟩ | ⟨c1, c2⟩
    · rw [c1, c2] at hend ⊢
      by_cases hh : Int32.ofNat a = r 0
      · rw [if_pos hh, if_neg hab, hh]
      · rw [if_neg hh, if_pos rfl]
        rcases hend with hx | hx
        · exact absurd hx hh
        · exact hx
    · rw [c1, c2] at hend ⊢
      by_cases hh : Int32.ofNat b = r 0
      · rw [if_pos hh, if_pos rfl, hh]
      · rw [if_neg hh, if_neg hab]
        rcases hend with hx | hx
        · exact absurd hx hh
        · exact hx
  unfold f_X10_takeBack
  simp (disch := omega) only [o_eql, hv0, if_false, bN, o_subl, Nat.add_sub_cancel, rdI_o, ed, e3, spit_e hW, bd_s, stX_4, farEnd_e (show v < 12 by omega) a4 a5, hfar, stX_w0, stX_b, wrI_o, stX_wb]
  have e4 : k_up (goR wy v r) 0 (r 0) (13 + v) = r (13 + v) - (if wy (5 * v + 3) = 9 then 0 else 1) := by
    rw [k_up_ne _ _ (by omega)]
    unfold goR
    rw [k_up_self]
  rw [e4]
  have e5 : ∀ x, k_up (k_up (k_up (k_up r 0 x) (13 + v) (r (13 + v) - (if wy (5 * v + 3) = 9 then 0 else 1))) 0 (r 0)) (13 + v) (r (13 + v)) = r := fun x => by
    rw [k_up_cm _ _ _ (show 13 + v ≠ 0 by omega), k_up_up, k_up_up, k_up_id _ 0 rfl, k_up_id _ _ rfl]
  by_cases h91 : r (13 + v) = 9
  · have h92 := h9.mp h91
    rw [if_pos h92, Int32.sub_zero, if_pos h91]
    refine congrArg (fun q => some ((), stX M w q)) ?_
    unfold goR
    rw [if_pos h92, Int32.sub_zero, k_up_cm _ _ _ (show 13 + v ≠ 0 by omega), k_up_up, k_up_id _ 0 rfl, k_up_id _ _ rfl]
  · have h92 : ¬ wy (5 * v + 3) = 9 := fun hh => h91 (h9.mpr hh)
    have hb0 : 0 < bb := by
      have := hg.2.1
      rw [hb, o_llt (by omega) (by omega)] at this
      exact this
    have h93 : ¬ r (13 + v) - 1 = 9 := by
      rw [hb, o_subl (by omega), o_eql (by omega) (by omega)]
      omega
    rw [if_neg h92, if_neg h93, Int32.sub_add_cancel]
    refine congrArg (fun q => some ((), stX M w q)) ?_
    have := e5 (if wy (5 * v) = r 0 then wy (5 * v + 1) else wy (5 * v))
    unfold goR
    exact this
end
