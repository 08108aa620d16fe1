/-! ===== the pure layer: a way ===== -/
def isAt (wy : Nat → Int32) (p v : Nat) : Bool := wy (5 * v) == Int32.ofNat p || wy (5 * v + 1) == Int32.ofNat p
theorem wls_s (nw : Nat) (wy : Nat → Int32) (p : Nat) : wls (nw + 1) wy p = wls nw wy p ++ (if isAt wy p nw = true then [nw] else []) := by
  unfold wls
  rw [List.range_succ, List.filter_append]
  congr 1
  show List.filter (isAt wy p) [nw] = _
  rw [List.filter_cons, List.filter_nil]
theorem waysAt_l {M : k_M} {nw p : Nat} (hnw : nw ≤ 12) (hw : M.1 76 2 = Int32.ofNat nw) (kx : Int32 → k_M → Option (Int32 × k_M)) : ∀ (m n j : Nat), j + m = nw → m < n → f_X12_waysAt_4 n (Int32.ofNat p) (Int32.ofNat (wls j (M.1 78) p).length) (Int32.ofNat j) M kx = kx (Int32.ofNat (wls nw (M.1 78) p).length) M
  | 0, n, j, hj, hn => by
    obtain ⟨n, rfl⟩ : ∃ k, n = k + 1 := ⟨n - 1, by omega⟩
    rw [f_X12_waysAt_4, hw, if_pos (by rw [o_le (by omega) (by omega)]; omega), show j = nw by omega]
  | m + 1, n, j, hj, hn => by
    obtain ⟨n, rfl⟩ : ∃ k, n = k + 1 := ⟨n - 1, by omega⟩
    have ih := waysAt_l (p := p) hnw hw kx m n (j + 1) (by omega) (by omega)
    have e0 : f_X12_wayIts (Int32.ofNat j) 0 M = some (M.1 78 (5 * j), M) := by
      unfold f_X12_wayIts
      simp (disch := omega) only [o_lmul, o_addl, rdI_o, Nat.add_zero]
    have e1 : f_X12_wayIts (Int32.ofNat j) 1 M = some (M.1 78 (5 * j + 1), M) := by
      unfold f_X12_wayIts
      simp (disch := omega) only [o_lmul, o_addl, rdI_o]
    rw [wls_s, List.length_append] at ih
    rw [f_X12_waysAt_4, hw, if_neg (by rw [o_le (by omega) (by omega)]; omega), e0, bd_s, e1, bd_s]
    unfold f_X12_waysAt_33 f_X12_waysAt_38
    rw [bN_e, bN_e, o_addl, o_addl, o_addl]
    unfold isAt at ih
    by_cases h0 : M.1 78 (5 * j) = Int32.ofNat p
    · rw [if_pos h0]
      rw [if_pos (by rw [Bool.or_eq_true, beq_iff_eq]; exact .inl h0)] at ih
      exact ih
    · rw [if_neg h0]
      by_cases h1 : M.1 78 (5 * j + 1) = Int32.ofNat p
      · rw [if_pos h1]
        rw [if_pos (by rw [Bool.or_eq_true, beq_iff_eq, beq_iff_eq]; exact .inr h1)] at ih
        exact ih
      · rw [if_neg h1]
        rw [if_neg (by rw [Bool.or_eq_true, beq_iff_eq, beq_iff_eq]; rintro (q | q); exact h0 q; exact h1 q)] at ih
        exact ih
theorem waysAt_e {M : k_M} {nw p : Nat} (hnw : nw ≤ 12) (hw : M.1 76 2 = Int32.ofNat nw) : f_X12_waysAt (Int32.ofNat p) M = some (Int32.ofNat (wls nw (M.1 78) p).length, M) := by
  have h := waysAt_l (p := p) hnw hw (fun l2_ M_ => f_X12_waysAt_46 l2_ M_) nw k_fu 0 (by omega) (by unfold k_fu; omega)
  exact h
theorem join_e {w p u : Nat} {M : k_M} {L : Nat} (hp : p < 8) (hL : L < 4) (h6 : M.1 (w + 6) p = Int32.ofNat L) (x : Int32) : f_X3_join w (Int32.ofNat p) x M = some ((), sI (sI M (w + 7) (4 * p + L) x) (w + 6) p (Int32.ofNat (L + 1))) := by
  unfold f_X3_join
  rw [rdI_o (by omega) (by omega), h6, o_mull, o_add, wrI_o (by omega) (by omega), rdI_o (by omega) (by omega)]
  have e : (sI M (w + 7) (p * 4 + L) x).1 (w + 6) p = Int32.ofNat L := by rw [sI_g, if_neg (by omega)]; exact h6
  rw [e, o_addl, wrI_o (by omega) (by omega), Nat.mul_comm p 4]
def mon (x : Int32) : Int32 := if x = 0 then 4095 else x
/-- a way is added to a Land -/
theorem addW_e {w a b nw np : Nat} {M : k_M} {pl wy : Nat → Int32} (hF : WFl np nw pl wy) (hL : LX w M np nw pl wy) (hnw : nw < 12) (ha : a < np) (hb : b < np) (hab : a ≠ b) (la : (wls nw wy a).length < 4) (lb : (wls nw wy b).length < 4) (d be mo : Int32) : ∃ M', f_X3_addWay w (Int32.ofNat a) (Int32.ofNat b) d be mo M = some (Int32.ofNat nw, M') ∧ M'.1 (w + 8) nw = Int32.ofNat a ∧ M'.1 (w + 9) nw = Int32.ofNat b ∧ M'.1 (w + 10) nw = d ∧ M'.1 (w + 11) nw = be ∧ M'.1 (w + 12) nw = be ∧ M'.1 (w + 13) nw = mon mo ∧ M'.1 (w + 1) 7 = Int32.ofNat (nw + 1) ∧ M'.1 (w + 6) a = Int32.ofNat ((wls nw wy a).length + 1) ∧ M'.1 (w + 6) b = Int32.ofNat ((wls nw wy b).length + 1) ∧ M'.1 (w + 7) (4 * a + (wls nw wy a).length) = Int32.ofNat nw ∧ M'.1 (w + 7) (4 * b + (wls nw wy b).length) = Int32.ofNat nw ∧ (∀ c j, ¬ (w + 8 ≤ c ∧ c ≤ w + 13 ∧ j = nw) → ¬ (c = w + 1 ∧ j = 7) → ¬ (c = w + 6 ∧ (j = a ∨ j = b)) → ¬ (c = w + 7 ∧ (j = 4 * a + (wls nw wy a).length ∨ j = 4 * b + (wls nw wy b).length)) → M'.1 c j = M.1 c j) ∧ M'.2 = M.2 := by
  have np8 := hF.1
  have h7 := hL.2.1
  have h6a := (hL.2.2.1 a ha).2.2.2.1
  have h6b := (hL.2.2.1 b hb).2.2.2.1
  obtain ⟨A, hA⟩ : ∃ A, A = sI (sI (sI (sI (sI (sI M (w + 8) nw (Int32.ofNat a)) (w + 9) nw (Int32.ofNat b)) (w + 10) nw d) (w + 11) nw be) (w + 12) nw be) (w + 13) nw (mon mo) := ⟨_, rfl⟩
  have Al : ∀ c j, ¬ (w + 8 ≤ c ∧ c ≤ w + 13 ∧ j = nw) → A.1 c j = M.1 c j := fun c j q => by rw [hA, sI_g, if_neg (by omega), sI_g, if_neg (by omega), sI_g, if_neg (by omega), sI_g, if_neg (by omega), sI_g, if_neg (by omega), sI_g, if_neg (by omega)]
  have A6a : A.1 (w + 6) a = Int32.ofNat (wls nw wy a).length := by rw [Al _ _ (by omega)]; exact h6a
  obtain ⟨B, hB⟩ : ∃ B, B = sI (sI A (w + 7) (4 * a + (wls nw wy a).length) (Int32.ofNat nw)) (w + 6) a (Int32.ofNat ((wls nw wy a).length + 1)) := ⟨_, rfl⟩
  have B6b : B.1 (w + 6) b = Int32.ofNat (wls nw wy b).length := by rw [hB, sI_g, if_neg (by omega), sI_g, if_neg (by omega), Al _ _ (by omega)]; exact h6b
  obtain ⟨C, hC⟩ : ∃ C, C = sI (sI B (w + 7) (4 * b + (wls nw wy b).length) (Int32.ofNat nw)) (w + 6) b (Int32.ofNat ((wls nw wy b).length + 1)) := ⟨_, rfl⟩
  have Cl : ∀ c j, ¬ (c = w + 6 ∧ (j = a ∨ j = b)) → ¬ (c = w + 7 ∧ (j = 4 * a + (wls nw wy a).length ∨ j = 4 * b + (wls nw wy b).length)) → C.1 c j = A.1 c j := fun c j q1 q2 => by rw [hC, sI_g, if_neg (by omega), sI_g, if_neg (by omega), hB, sI_g, if_neg (by omega), sI_g, if_neg (by omega)]
  have C7 : C.1 (w + 1) 7 = Int32.ofNat nw := by rw [Cl _ _ (by omega) (by omega), Al _ _ (by omega)]; exact h7
  obtain ⟨D, hD⟩ : ∃ D, D = sI C (w + 1) 7 (Int32.ofNat (nw + 1)) := ⟨_, rfl⟩
  have Dl : ∀ c j, ¬ (c = w + 1 ∧ j = 7) → D.1 c j = C.1 c j := fun c j q => by rw [hD, sI_g, if_neg q]
  refine ⟨D, ?_, ?_, ?_, ?_, ?_, ?_, ?_, ?_, ?_, ?_, ?_, ?_, fun c j q1 q2 q3 q4 => ?_, by rw [hD, hC, hB, hA]; rfl⟩
  · have h67 : ∀ x, mon mo = x → f_X3_addWay_67 w (Int32.ofNat a) (Int32.ofNat b) (Int32.ofNat nw) (Int32.ofNat nw) x (sI (sI (sI (sI (sI M (w + 8) nw (Int32.ofNat a)) (w + 9) nw (Int32.ofNat b)) (w + 10) nw d) (w + 11) nw be) (w + 12) nw be) = some (Int32.ofNat nw, D) := fun x hx => by
      subst hx
      unfold f_X3_addWay_67
      rw [wrI_o (by omega) (by omega), ← hA, join_e (u := 0) (by omega) la A6a, bd_s, ← hB, join_e (u := 0) (by omega) lb B6b, bd_s, ← hC, bN_e, C7, o_addl, ← hD]
    unfold f_X3_addWay
    rw [bN_e, h7, wrI_o (by omega) (by omega), wrI_o (by omega) (by omega), wrI_o (by omega) (by omega), wrI_o (by omega) (by omega), wrI_o (by omega) (by omega)]
    by_cases hm : mo = 0
    · rw [if_pos hm]; exact h67 4095 (if_pos hm)
    · rw [if_neg hm]; exact h67 mo (if_neg hm)
  · rw [Dl _ _ (by omega), Cl _ _ (by omega) (by omega), hA, sI_g, if_neg (by omega), sI_g, if_neg (by omega), sI_g, if_neg (by omega), sI_g, if_neg (by omega), sI_g, if_neg (by omega), sI_g, if_pos ⟨rfl, rfl⟩]
  · rw [Dl _ _ (by omega), Cl _ _ (by omega) (by omega), hA, sI_g, if_neg (by omega), sI_g, if_neg (by omega), sI_g, if_neg (by omega), sI_g, if_neg (by omega), sI_g, if_pos ⟨rfl, rfl⟩]
  · rw [Dl _ _ (by omega), Cl _ _ (by omega) (by omega), hA, sI_g, if_neg (by omega), sI_g, if_neg (by omega), sI_g, if_neg (by omega), sI_g, if_pos ⟨rfl, rfl⟩]
  · rw [Dl _ _ (by omega), Cl _ _ (by omega) (by omega), hA, sI_g, if_neg (by omega), sI_g, if_neg (by omega), sI_g, if_pos ⟨rfl, rfl⟩]
  · rw [Dl _ _ (by omega), Cl _ _ (by omega) (by omega), hA, sI_g, if_neg (by omega), sI_g, if_pos ⟨rfl, rfl⟩]
  · rw [Dl _ _ (by omega), Cl _ _ (by omega) (by omega), hA, sI_g, if_pos ⟨rfl, rfl⟩]
  · rw [hD, sI_g, if_pos ⟨rfl, rfl⟩]
  · rw [Dl _ _ (by omega), hC, sI_g, if_neg (by omega), sI_g, if_neg (by omega), hB, sI_g, if_pos ⟨rfl, rfl⟩]
  · rw [Dl _ _ (by omega), hC, sI_g, if_pos ⟨rfl, rfl⟩]
  · rw [Dl _ _ (by omega), hC, sI_g, if_neg (by omega), sI_g, if_neg (by omega), hB, sI_g, if_neg (by omega), sI_g, if_pos ⟨rfl, rfl⟩]
  · rw [Dl _ _ (by omega), hC, sI_g, if_neg (by omega), sI_g, if_pos ⟨rfl, rfl⟩]
  · rw [Dl _ _ q2, Cl _ _ q3 q4, Al _ _ q1]
/-- the told numbers with one more way -/
theorem wls_ad {nw np a b p : Nat} {wy wy' : Nat → Int32} (hnw : nw < 12) (hnp : np ≤ 8) (ha : a < np) (hb : b < np) (hp : p < np) (e : ∀ j, j < 5 * nw → wy' j = wy j) (e0 : (wy' (5 * nw) = Int32.ofNat a ∧ wy' (5 * nw + 1) = Int32.ofNat b) ∨ (wy' (5 * nw) = Int32.ofNat b ∧ wy' (5 * nw + 1) = Int32.ofNat a)) : wls (nw + 1) wy' p = wls nw wy p ++ (if p = a ∨ p = b then [nw] else []) := by
  have hw : wls nw wy' p = wls nw wy p := by
    unfold wls
    apply List.filter_congr
    intro v hv
    have := List.mem_range.mp hv
    rw [e _ (by omega), e _ (by omega)]
  rw [wls_s, hw]
  have hi : (isAt wy' p nw = true) = (p = a ∨ p = b) := by
    apply propext
    unfold isAt
    rcases e0 with ⟨q1, q2⟩ | ⟨q1, q2⟩
    · rw [q1, q2]
      simp (disch := omega) only [Bool.or_eq_true, beq_iff_eq, o_eq]
      omega
    · rw [q1, q2]
      simp (disch := omega) only [Bool.or_eq_true, beq_iff_eq, o_eq]
      omega
  by_cases h : p = a ∨ p = b
  · rw [if_pos h, if_pos (by rw [hi]; exact h)]
  · rw [if_neg h, if_neg (by rw [hi]; exact h)]
section
variable {np nw a b : Nat} {pl wy wy' : Nat → Int32} {d be : Int32}
theorem WFl_addW (h : WFl np nw pl wy) (hnw : nw < 12) (ha : a < np) (hb : b < np) (hab : a ≠ b) (la : (wls nw wy a).length < 4) (lb : (wls nw wy b).length < 4) (e : ∀ j, j < 5 * nw → wy' j = wy j) (e0 : wy' (5 * nw) = Int32.ofNat (min a b)) (e1 : wy' (5 * nw + 1) = Int32.ofNat (max a b)) (e2 : wy' (5 * nw + 2) = d) (e3 : wy' (5 * nw + 3) = be) (hd : ∃ k : Nat, 1 ≤ k ∧ k ≤ 4 ∧ d = Int32.ofNat k) (hbe : Bn be 9) : WFl np (nw + 1) pl wy' := by
  have np8 := h.1
  have ee : (wy' (5 * nw) = Int32.ofNat a ∧ wy' (5 * nw + 1) = Int32.ofNat b) ∨ (wy' (5 * nw) = Int32.ofNat b ∧ wy' (5 * nw + 1) = Int32.ofNat a) := by
    by_cases hlt : a < b
    · left; rw [e0, e1, Nat.min_eq_left (by omega), Nat.max_eq_right (by omega)]; exact ⟨rfl, rfl⟩
    · right; rw [e0, e1, Nat.min_eq_right (by omega), Nat.max_eq_left (by omega)]; exact ⟨rfl, rfl⟩
  refine ⟨h.1, by omega, fun p hp => ?_, fun v hv => ?_⟩
  · obtain ⟨q1, q2, q3, q4⟩ := h.2.2.1 p hp
    refine ⟨q1, q2, q3, ?_⟩
    rw [wls_ad hnw np8 ha hb hp e ee, List.length_append]
    by_cases hh : p = a ∨ p = b
    · rw [if_pos hh]
      show _ + 1 ≤ 4
      rcases hh with rfl | rfl <;> omega
    · rw [if_neg hh]
      exact q4
  · by_cases hh : v = nw
    · subst hh
      obtain ⟨k, k1, k2, k3⟩ := hd
      exact ⟨min a b, max a b, k, by omega, by omega, k1, k2, e0, e1, by rw [e2]; exact k3, by rw [e3]; exact hbe⟩
    · rw [e _ (by omega), e _ (by omega), e _ (by omega), e _ (by omega)]
      exact h.2.2.2 v (by omega)
theorem LX_addW {w : Nat} {M M' : k_M} {mo : Int32} (hF : WFl np nw pl wy) (h : LX w M np nw pl wy) (hnw : nw < 12) (ha : a < np) (hb : b < np) (hab : a ≠ b) (la : (wls nw wy a).length < 4) (lb : (wls nw wy b).length < 4) (e : ∀ j, j < 5 * nw → wy' j = wy j) (e0 : wy' (5 * nw) = Int32.ofNat (min a b)) (e1 : wy' (5 * nw + 1) = Int32.ofNat (max a b)) (e2 : wy' (5 * nw + 2) = d) (e3 : wy' (5 * nw + 3) = be) (e4 : wy' (5 * nw + 4) = mo)
    (m8 : M'.1 (w + 8) nw = Int32.ofNat a) (m9 : M'.1 (w + 9) nw = Int32.ofNat b) (m10 : M'.1 (w + 10) nw = d) (m11 : M'.1 (w + 11) nw = be) (m13 : M'.1 (w + 13) nw = mo) (m1 : M'.1 (w + 1) 7 = Int32.ofNat (nw + 1)) (m6a : M'.1 (w + 6) a = Int32.ofNat ((wls nw wy a).length + 1)) (m6b : M'.1 (w + 6) b = Int32.ofNat ((wls nw wy b).length + 1)) (m7a : M'.1 (w + 7) (4 * a + (wls nw wy a).length) = Int32.ofNat nw) (m7b : M'.1 (w + 7) (4 * b + (wls nw wy b).length) = Int32.ofNat nw)
    (c : ∀ i j, 1 ≤ i → i < 14 → i ≠ 12 → ¬ (8 ≤ i ∧ j = nw) → ¬ (i = 1 ∧ j = 7) → ¬ (i = 6 ∧ (j = a ∨ j = b)) → ¬ (i = 7 ∧ (j = 4 * a + (wls nw wy a).length ∨ j = 4 * b + (wls nw wy b).length)) → M'.1 (w + i) j = M.1 (w + i) j) : LX w M' np (nw + 1) pl wy' := by
  have np8 := hF.1
  have ee : (wy' (5 * nw) = Int32.ofNat a ∧ wy' (5 * nw + 1) = Int32.ofNat b) ∨ (wy' (5 * nw) = Int32.ofNat b ∧ wy' (5 * nw + 1) = Int32.ofNat a) := by
    by_cases hlt : a < b
    · left; rw [e0, e1, Nat.min_eq_left (by omega), Nat.max_eq_right (by omega)]; exact ⟨rfl, rfl⟩
    · right; rw [e0, e1, Nat.min_eq_right (by omega), Nat.max_eq_left (by omega)]; exact ⟨rfl, rfl⟩
  obtain ⟨h1, h2, h3, h4⟩ := h
  refine ⟨by rw [c 1 0 (by omega) (by omega) (by omega) (by omega) (by omega) (by omega) (by omega)]; exact h1, m1, fun p hp => ?_, fun v hv => ?_⟩
  · obtain ⟨q1, q2, q3, q4, q5⟩ := h3 p hp
    have l4 := (hF.2.2.1 p hp).2.2.2
    rw [c 2 p (by omega) (by omega) (by omega) (by omega) (by omega) (by omega) (by omega), c 3 p (by omega) (by omega) (by omega) (by omega) (by omega) (by omega) (by omega), c 4 p (by omega) (by omega) (by omega) (by omega) (by omega) (by omega) (by omega)]
    refine ⟨q1, q2, q3, ?_⟩
    rw [wls_ad hnw np8 ha hb hp e ee, List.length_append]
    have old : ∀ i, i < (wls nw wy p).length → M'.1 (w + 7) (4 * p + i) = Int32.ofNat ((wls nw wy p).getD i 0) := fun i hi => by
      rw [c 7 _ (by omega) (by omega) (by omega) (by omega) (by omega) (by omega) ?_]
      · exact q5 i hi
      · rintro ⟨-, hh | hh⟩
        · by_cases hpa : p = a
          · subst hpa; omega
          · omega
        · by_cases hpb : p = b
          · subst hpb; omega
          · omega
    by_cases hh : p = a ∨ p = b
    · rw [if_pos hh]
      have m6 : M'.1 (w + 6) p = Int32.ofNat ((wls nw wy p).length + 1) := by rcases hh with rfl | rfl; exact m6a; exact m6b
      have m7 : M'.1 (w + 7) (4 * p + (wls nw wy p).length) = Int32.ofNat nw := by rcases hh with rfl | rfl; exact m7a; exact m7b
      refine ⟨m6, fun i hi => ?_⟩
      have hi' : i < (wls nw wy p).length + 1 := hi
      rw [List.getD_eq_getElem?_getD]
      by_cases hil : i < (wls nw wy p).length
      · rw [List.getElem?_append_left hil, old i hil, List.getD_eq_getElem?_getD]
      · have : i = (wls nw wy p).length := by omega
        subst this
        rw [List.getElem?_append_right (Nat.le_refl _), Nat.sub_self, m7]
        rfl
    · rw [if_neg hh, c 6 p (by omega) (by omega) (by omega) (by omega) (by omega) (by omega) (by omega), List.append_nil]
      exact ⟨q4, old⟩
  · by_cases hh : v = nw
    · subst hh
      rw [m8, m9, m10, m11, m13, e2, e3, e4]
      refine ⟨?_, rfl, rfl, rfl⟩
      rcases ee with ⟨q1, q2⟩ | ⟨q1, q2⟩
      · left; rw [q1, q2]; exact ⟨rfl, rfl⟩
      · right; rw [q1, q2]; exact ⟨rfl, rfl⟩
    · rw [e _ (by omega), e _ (by omega), e _ (by omega), e _ (by omega), e _ (by omega), c 8 v (by omega) (by omega) (by omega) (by omega) (by omega) (by omega) (by omega), c 9 v (by omega) (by omega) (by omega) (by omega) (by omega) (by omega) (by omega), c 10 v (by omega) (by omega) (by omega) (by omega) (by omega) (by omega) (by omega), c 11 v (by omega) (by omega) (by omega) (by omega) (by omega) (by omega) (by omega), c 13 v (by omega) (by omega) (by omega) (by omega) (by omega) (by omega) (by omega)]
      exact h4 v (by omega)
end
