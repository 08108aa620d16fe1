/-! ===== the pure layer: rows that agree where it matters; the choices of a place ===== -/
def rEq (np nw : Nat) (r q : k_r) : Prop := (∀ k : Nat, k < 5 + np → r k = q k) ∧ (∀ v : Nat, v < nw → r (13 + v) = q (13 + v))
section
variable {np nw p i act : Nat} {r q r' : k_r} {lw pl wy : Nat → Int32} {rn wt : Int32}
theorem rEq_rfl (r : k_r) : rEq np nw r r := ⟨fun _ _ => rfl, fun _ _ => rfl⟩
theorem rEq_up (h : rEq np nw r q) (i : Nat) {a b : Int32} (hab : a = b) : rEq np nw (k_up r i a) (k_up q i b) := by
  subst hab
  refine ⟨fun k hk => ?_, fun v hv => ?_⟩
  · unfold k_up
    split
    · rfl
    · exact h.1 k hk
  · unfold k_up
    split
    · rfl
    · exact h.2 v hv
theorem rEq_eat (h : rEq np nw r q) (f : Nat) (d : Int32) : rEq np nw (eatR lw f d r) (eatR lw f d q) := by
  unfold eatR
  exact rEq_up (rEq_up (rEq_up (rEq_up h _ (by rw [h.1 1 (by omega)])) _ (by rw [h.1 2 (by omega)])) _ (by rw [h.1 3 (by omega)])) _ (by rw [h.1 4 (by omega)])
theorem eOK_cg (h : rEq np nw r q) : eOK r = eOK q := by
  unfold eOK
  rw [h.1 1 (by omega), h.1 2 (by omega), h.1 3 (by omega), h.1 4 (by omega)]
theorem rEq_get (hF : WFl np nw pl wy) (h : rEq np nw r q) (hp : p < np) : rEq np nw (getR pl lw wt p r) (getR pl lw wt p q) := by
  obtain ⟨k, k5, hk⟩ := (hF.2.2.1 p hp).1
  unfold getR
  rcases shk_c k5 with ⟨rfl, hs⟩ | ⟨hk0, s, hs3, hs⟩
  · rw [hk, hs, if_neg (by decide), if_neg (by decide)]
    exact h
  · rw [hk, hs, if_pos (o_nn (by omega)), if_pos (o_nn (by omega)), o_nat (by omega)]
    have e1 : r (2 + s) = q (2 + s) := h.1 _ (by omega)
    have e2 : r (5 + p) = q (5 + p) := h.1 _ (by omega)
    have e3 : gotR pl lw wt p r = gotR pl lw wt p q := by
      unfold gotR
      rw [hk, hs, o_nat (by omega), e1, e2, h.1 1 (by omega)]
    exact rEq_up (rEq_up h _ (by rw [e1, e3])) _ (by rw [e2, e3])
theorem stS_cg (hF : WFl np nw pl wy) (h : rEq np nw r q) (hp : p < np) (h0 : r 0 = Int32.ofNat p) : (stS pl lw wt r = none ∧ stS pl lw wt q = none) ∨ ∃ r' q', stS pl lw wt r = some r' ∧ stS pl lw wt q = some q' ∧ rEq np nw r' q' := by
  have np8 := hF.1
  have h1 : q 0 = Int32.ofNat p := by rw [← h.1 0 (by omega), h0]
  have g := rEq_eat (lw := lw) (rEq_get (lw := lw) (wt := wt) hF h hp) 0 1
  unfold stS
  rw [h0, h1, o_nat (by omega)]
  by_cases he : eOK (eatR lw 0 1 (getR pl lw wt p r))
  · exact .inr ⟨_, _, if_pos he, if_pos (by rw [← eOK_cg g]; exact he), g⟩
  · exact .inl ⟨if_neg he, if_neg (by rw [← eOK_cg g]; exact he)⟩
theorem stG_cg (h : rEq np nw r q) (v : Nat) : (stG nw wy lw v r = none ∧ stG nw wy lw v q = none) ∨ ∃ r' q', stG nw wy lw v r = some r' ∧ stG nw wy lw v q = some q' ∧ rEq np nw r' q' := by
  by_cases hv : v < nw
  · have e0 := h.1 0 (by omega)
    have e1 := h.1 1 (by omega)
    have e2 := h.2 v hv
    have eg : gOK nw wy v r = gOK nw wy v q := by
      unfold gOK
      rw [e0, e1, e2]
    have gg : rEq np nw (goR wy v r) (goR wy v q) := by
      unfold goR
      exact rEq_up (rEq_up h _ (by rw [e0])) _ (by rw [e2])
    have g := rEq_eat (lw := lw) gg 3 (wy (5 * v + 2))
    unfold stG
    by_cases hg : gOK nw wy v r
    · have hgq : gOK nw wy v q := by rw [← eg]; exact hg
      by_cases he : eOK (eatR lw 3 (wy (5 * v + 2)) (goR wy v r))
      · have heq : eOK (eatR lw 3 (wy (5 * v + 2)) (goR wy v q)) := by rw [← eOK_cg g]; exact he
        exact .inr ⟨_, _, (if_pos hg).trans (if_pos he), (if_pos hgq).trans (if_pos heq), g⟩
      · have heq : ¬ eOK (eatR lw 3 (wy (5 * v + 2)) (goR wy v q)) := by rw [← eOK_cg g]; exact he
        exact .inl ⟨(if_pos hg).trans (if_neg he), (if_pos hgq).trans (if_neg heq)⟩
    · have hgq : ¬ gOK nw wy v q := by rw [← eg]; exact hg
      exact .inl ⟨if_neg hg, if_neg hgq⟩
  · refine .inl ⟨?_, ?_⟩
    · unfold stG
      rw [if_neg (fun hx => hv hx.1)]
    · unfold stG
      rw [if_neg (fun hx => hv hx.1)]
theorem stp_cg (hS : Sd np nw pl wy lw r) (h : rEq np nw r q) (act : Nat) : (stp nw pl wy lw rn act r = none ∧ stp nw pl wy lw rn act q = none) ∨ ∃ r' q', stp nw pl wy lw rn act r = some r' ∧ stp nw pl wy lw rn act q = some q' ∧ rEq np nw r' q' := by
  obtain ⟨p, hA⟩ := Sd_At hS
  cases act with
  | zero =>
    rw [stp_0, stp_0, ← h.1 1 (by omega)]
    exact stS_cg hS.1 h hA.1 hA.2.1
  | succ v =>
    rw [stp_s, stp_s]
    exact stG_cg h v
theorem Sd_cg (h : rEq np nw r q) (hS : Sd np nw pl wy lw r) : Sd np nw pl wy lw q := by
  obtain ⟨h1, h2, ⟨a1, a2, a3, a4⟩, p, h4, h5⟩ := hS
  refine ⟨h1, h2, ⟨?_, fun s hs => ?_, fun p hp => ?_, fun v hv => ?_⟩, p, h4, ?_⟩
  · rw [← h.1 1 (by omega)]; exact a1
  · rw [← h.1 _ (by omega)]; exact a2 s hs
  · rw [← h.1 _ (by omega)]; exact a3 p hp
  · rw [← h.2 v hv]; exact a4 v hv
  · rw [← h.1 0 (by omega)]; exact h5
theorem rEq_tr {s : k_r} (h : rEq np nw r q) (g : rEq np nw q s) : rEq np nw r s := ⟨fun k hk => (h.1 k hk).trans (g.1 k hk), fun v hv => (h.2 v hv).trans (g.2 v hv)⟩
theorem rEq_sym (h : rEq np nw r q) : rEq np nw q r := ⟨fun k hk => (h.1 k hk).symm, fun v hv => (h.2 v hv).symm⟩
end
theorem RX_rEq {M : k_M} {w np nw : Nat} {r : k_r} (hnp : np ≤ 8) (h : RX w M np nw r) : rEq np nw (rwX M w) r := by
  obtain ⟨h1, h2, h3, h4, h5⟩ := h
  refine ⟨fun k hk => ?_, fun v hv => ?_⟩
  · unfold rwX
    by_cases k0 : k = 0
    · subst k0; exact h1
    · by_cases k1 : k = 1
      · subst k1; exact h2
      · rw [if_neg k0, if_neg k1]
        by_cases k5 : k < 5
        · rw [if_pos k5, h3 (k - 2) (by omega)]
          congr 1
          omega
        · rw [if_neg k5, if_pos (by omega), h4 (k - 5) (by omega)]
          congr 1
          omega
  · unfold rwX
    rw [if_neg (by omega), if_neg (by omega), if_neg (by omega), if_neg (by omega), Nat.add_sub_cancel_left]
    exact h5 v hv
theorem rEq_RX {M : k_M} {w np nw : Nat} {r q : k_r} (hnp : np ≤ 8) (hnw : nw ≤ 12) (h : rEq np nw r q) : RX w (stX M w r) np nw q := by
  refine ⟨?_, ?_, fun s hs => ?_, fun p hp => ?_, fun v hv => ?_⟩
  · rw [stX_4]; exact h.1 0 (by omega)
  · rw [stX_5]; exact h.1 1 (by omega)
  · rw [stX_s hs]; exact h.1 _ (by omega)
  · rw [stX_l (by omega)]; exact h.1 _ (by omega)
  · rw [stX_b (by omega)]; exact h.2 v hv
/-- the acts that come into question at a place -/
def atP (wy : Nat → Int32) (p a : Nat) : Bool := a == 0 || (wy (5 * (a - 1)) == Int32.ofNat p || wy (5 * (a - 1) + 1) == Int32.ofNat p)
def chs (nw : Nat) (wy : Nat → Int32) (p : Nat) : List Nat := (List.range (nw + 1)).filter (atP wy p)
theorem chs_eq (nw : Nat) (wy : Nat → Int32) (p : Nat) : chs nw wy p = 0 :: (wls nw wy p).map (· + 1) := by
  unfold chs wls
  rw [List.range_succ_eq_map, List.filter_cons, if_pos (show atP wy p 0 = true from rfl), List.filter_map]
  rfl
theorem drop_c {l t : List Nat} {i a : Nat} (h : l.drop i = a :: t) : i < l.length ∧ l.getD i 0 = a ∧ l.drop (i + 1) = t := by
  have h1 : i < l.length := by
    by_cases hh : i < l.length
    · exact hh
    · rw [List.drop_eq_nil_of_le (by omega)] at h
      cases h
  refine ⟨h1, ?_, ?_⟩
  · have : (l.drop i)[0]? = some a := by rw [h]; rfl
    rw [List.getElem?_drop] at this
    rw [List.getD_eq_getElem?_getD]
    rw [Nat.add_zero] at this
    rw [this]
    rfl
  · have : (l.drop i).drop 1 = t := by rw [h]; rfl
    rw [List.drop_drop] at this
    exact this
section
variable {M : k_M} {w np nw p i : Nat} {r : k_r} {lw pl wy : Nat → Int32} {rn : Int32}
theorem choices_e (hL : LX w M np nw pl wy) (hA : At np nw pl wy r p) : f_X10_choices w (stX M w r) = some (Int32.ofNat (chs nw wy p).length, stX M w r) := by
  have hp := hA.1
  have np8 := hA.2.2.1.1
  have e : (stX M w r).1 (w + 6) p = Int32.ofNat (wls nw wy p).length := by rw [stX_c (by omega)]; exact (hL.2.2.1 p hp).2.2.2.1
  unfold f_X10_choices
  rw [stX_4, hA.2.1]
  simp (disch := omega) only [rdI_o, e, o_ladd]
  rw [chs_eq, List.length_cons, List.length_map, Nat.add_comm]
theorem choice_e (hL : LX w M np nw pl wy) (hA : At np nw pl wy r p) (hi : i < (chs nw wy p).length) : f_X10_choice w (Int32.ofNat i) (stX M w r) = some (Int32.ofNat ((chs nw wy p).getD i 0), stX M w r) := by
  have hp := hA.1
  have np8 := hA.2.2.1.1
  have hl4 := (hA.2.2.1.2.2.1 p hp).2.2.2
  rw [chs_eq] at hi ⊢
  rw [List.length_cons, List.length_map] at hi
  unfold f_X10_choice
  cases i with
  | zero => rfl
  | succ i =>
    have h0 : ¬ i + 1 = 0 := by omega
    have e : (stX M w r).1 (w + 7) (4 * p + i) = Int32.ofNat ((wls nw wy p).getD i 0) := by rw [stX_c (by omega)]; exact (hL.2.2.1 p hp).2.2.2.2 i (by omega)
    have e2 : p * 4 + (i + 1) - 1 = 4 * p + i := by omega
    rw [stX_4, hA.2.1]
    simp (disch := omega) only [o_eql, h0, if_false, o_mull, o_add, o_subl, e2, rdI_o, e, o_addl]
    congr 3
    rw [List.getD_cons_succ, List.getD_eq_getElem?_getD, List.getD_eq_getElem?_getD, List.getElem?_map]
    have : (wls nw wy p)[i]? = some ((wls nw wy p)[i]'(by omega)) := List.getElem?_eq_getElem (by omega)
    rw [this]
    rfl
theorem daysOf_e (hL : LX w M np nw pl wy) (hnw : nw ≤ 12) {a : Nat} (ha : a ≤ nw) : f_X10_daysOf w (Int32.ofNat a) (stX M w r) = some (dys wy a, stX M w r) := by
  cases a with
  | zero => rfl
  | succ v =>
    have h0 : ¬ v + 1 = 0 := by omega
    have e : (stX M w r).1 (w + 10) v = wy (5 * v + 2) := by rw [stX_c (by omega)]; exact (hL.2.2.2 v (by omega)).2.1
    unfold f_X10_daysOf
    simp (disch := omega) only [o_eql, h0, if_false, o_subl, Nat.add_sub_cancel, rdI_o, e]
    rfl
theorem chs_mem {a : Nat} (h : a ∈ chs nw wy p) : a ≤ nw := by
  unfold chs at h
  have := List.mem_range.mp (List.mem_filter.mp h).1
  omega
theorem chs_no (hA : At np nw pl wy r p) {a : Nat} (h : atP wy p a = false) : stp nw pl wy lw rn a r = none := by
  cases a with
  | zero => cases h
  | succ v =>
    rw [stp_s]
    unfold stG
    rw [if_neg]
    rintro ⟨-, -, -, hx⟩
    rw [hA.2.1] at hx
    unfold atP at h
    simp only [Nat.add_sub_cancel, Bool.or_eq_false_iff, beq_eq_false_iff_ne, ne_eq] at h
    rcases hx with hx | hx
    · exact h.2.1 hx
    · exact h.2.2 hx
end
