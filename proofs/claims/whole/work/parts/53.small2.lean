/-! ===== the pure layer: more small calls ===== -/
theorem R_P {M M' : k_M} (P : Nat → Nat → Prop) (h : R M) (c : ∀ a j : Nat, ¬ scr a j → ¬ P a j → M'.1 a j = M.1 a j) (d : M'.2 = M.2) (pN : (∀ a j, P a j → ¬ chN a j ∧ a < 105) ∨ RN M') (pK : (∀ n a j, P a j → ¬ locK n a j) ∨ RK M') (pT : (∀ a j, P a j → ¬ locT a j) ∨ RT M') (pW : (∀ a j, P a j → ¬ locW a j) ∨ RW M') (pS : (∀ a j, P a j → ¬ locS a) ∨ RS M') (pF : (∀ a j, P a j → ¬ locF a) ∨ RF M') (pA : (∀ a j, P a j → ¬ locA a j) ∨ RA M') (pB : ∀ j, ¬ P 80 j) : R M' := by
  obtain ⟨hN, hK, hT, hW, hS, hF, hA, hB⟩ := h
  have hn : M.2.2.2 ≤ M'.2.2.2 := by rw [d]; exact Nat.le_refl _
  refine ⟨?_, ?_, ?_, ?_, ?_, ?_, ?_, ?_⟩
  · rcases pN with p | p
    · exact RN_fr (fun a j hl => c a j (by unfold locN rlv at hl; unfold scr rlv; omega) (fun hp => by have := p a j hp; unfold locN rlv at hl; unfold chN rlv at this; omega)) (by rw [d]) hn hN
    · exact p
  · rcases pK with p | p
    · exact RK_fr (fun a j hl => c a j (by unfold locK at hl; unfold scr rlv; omega) (fun hp => p _ a j hp hl)) (by rw [d]) hn hK
    · exact p
  · rcases pT with p | p
    · exact RT_fr (fun a j hl => c a j (by unfold locT at hl; unfold scr rlv; omega) (fun hp => p a j hp hl)) hT
    · exact p
  · rcases pW with p | p
    · exact RW_fr (fun a j hl => c a j (by unfold locW at hl; unfold scr rlv; omega) (fun hp => p a j hp hl)) hW
    · exact p
  · rcases pS with p | p
    · exact RS_fr (fun a j hl => c a j (by unfold locS at hl; unfold scr rlv; omega) (fun hp => p a j hp hl)) (fun a j _ => by rw [d]) hS
    · exact p
  · rcases pF with p | p
    · exact RF_fr (fun a j hl => c a j (by unfold locF at hl; unfold scr rlv; omega) (fun hp => p a j hp hl)) hF
    · exact p
  · rcases pA with p | p
    · exact RA_fr (fun a j hl => c a j (by unfold locA at hl; unfold scr rlv; omega) (fun hp => p a j hp hl)) hA
    · exact p
  · exact RB_fr (fun j => c 80 j (by unfold scr rlv; omega) (pB j)) hn hB
theorem c_alterRow (p1 p2 p3 : Int32) : Call (f_X11_alterRow p1 p2 p3) (f_X12_alterRow p1 p2 p3) := by
  intro M h
  obtain ⟨n, n6, b1, b2, b3⟩ := h.2.2.2.1
  by_cases hp : 0 ≤ p1 ∧ p1 < Int32.ofNat n
  · by_cases hq : 0 ≤ p2 ∧ p2 ≤ 2
    · obtain ⟨i, hi, rfl⟩ := ex_lt (by omega) hp.1 hp.2
      obtain ⟨k, hk, rfl⟩ := ex_o (n := 2) (by omega) hq.1 hq.2
      have e : M.1 63 (i * 3 + k) = M.1 95 (3 * i + k) := by rw [Nat.mul_comm i 3]; exact b3 _ (by omega)
      have e95 : (sI M 63 (i * 3 + k) p3).1 95 (3 * i + k) = M.1 95 (3 * i + k) := by rw [sI_g, if_neg (by omega)]
      have e36 : (sI M 63 (i * 3 + k) p3).1 76 36 = Int32.ofNat n := by rw [sI_g, if_neg (by omega)]; exact b2
      refine ⟨M.1 63 (i * 3 + k), sI M 63 (i * 3 + k) p3, sI (sI M 63 (i * 3 + k) p3) 95 (3 * i + k) p3, ?_, ?_, ?_⟩
      · simp (disch := omega) only [f_X11_alterRow, f_X11_isRowPart, within_e, bd_s, b1, le_pr, hp, hq, i1z, if_false, and_self, o_mull, o_add, rdI_o, wrI_o, if_true]
      · simp (disch := omega) only [f_X12_alterRow, f_X12_isRow, in_e, bd_s, e36, le_pr, hp, hq, i1z, if_false, and_self, o_lmul, o_add, rdI_o, wrI_o, if_true, e95, e]
      · have c : ∀ a j, ¬ (a = 63 ∨ a = 95) → (sI (sI M 63 (i * 3 + k) p3) 95 (3 * i + k) p3).1 a j = M.1 a j := fun a j ha => by rw [sI_g, if_neg (by omega), sI_g, if_neg (by omega)]
        refine R_P (fun a _ => a = 63 ∨ a = 95) h (fun a j _ hp => c a j hp) rfl (.inl fun a j hp => by unfold chN; omega) (.inl fun n a j hp => by unfold locK; omega) (.inl fun a j hp => by unfold locT; omega) (.inr ?_) (.inl fun a j hp => by unfold locS; omega) (.inl fun a j hp => by unfold locF; omega) (.inl fun a j hp => by unfold locA; omega) (fun j => by omega)
        refine ⟨n, n6, by rw [c _ _ (by omega)]; exact b1, by rw [c _ _ (by omega)]; exact b2, fun j hj => ?_⟩
        rw [sI_g, if_neg (by omega), sI_g, sI_g]
        by_cases hh : j = 3 * i + k
        · rw [if_pos (by omega), if_pos (by omega)]
        · rw [if_neg (by omega), if_neg (by omega), sI_g, if_neg (by omega)]
          exact b3 j hj
    · refine ⟨-9, M, M, ?_, ?_, h⟩
      · simp (disch := omega) only [f_X11_alterRow, f_X11_isRowPart, within_e, bd_s, b1, le_pr, hp, hq, i1z, if_false, and_self, if_true]
      · simp (disch := omega) only [f_X12_alterRow, f_X12_isRow, in_e, bd_s, b2, le_pr, hp, hq, i1z, if_false, and_self, if_true]
  · refine ⟨-9, M, M, ?_, ?_, h⟩
    · simp (disch := omega) only [f_X11_alterRow, f_X11_isRowPart, within_e, bd_s, b1, le_pr, hp, i1z, if_false, and_self, if_true]
    · simp (disch := omega) only [f_X12_alterRow, f_X12_isRow, in_e, bd_s, b2, le_pr, hp, i1z, if_false, and_self, if_true]
theorem c_trace (x : Int32) : Call (f_X11_trace x) (f_X12_trace x) := by
  intro M h
  obtain ⟨n, n30, b1, b2, b3⟩ := h.2.2.2.2.2.2.1
  by_cases hp : 0 ≤ x ∧ x < Int32.ofNat n
  · obtain ⟨i, hi, rfl⟩ := ex_lt (by omega) hp.1 hp.2
    refine ⟨M.1 75 i, M, M, ?_, ?_, h⟩
    · simp (disch := omega) only [f_X11_trace, within_e, bd_s, b1, le_pr, hp, i1z, if_false, and_self, rdI_o, if_true]
    · simp (disch := omega) only [f_X12_trace, in_e, bd_s, b2, le_pr, hp, i1z, if_false, and_self, rdI_o, if_true, b3 i hi]
  · refine ⟨-3, M, M, ?_, ?_, h⟩
    · simp (disch := omega) only [f_X11_trace, within_e, bd_s, b1, le_pr, hp, if_false, i0z, if_true]
    · simp (disch := omega) only [f_X12_trace, in_e, bd_s, b2, le_pr, hp, if_false, i0z, if_true]
theorem c_many (x : Int32) : Call (f_X11_many x) (f_X12_many x) := by
  intro M h
  obtain ⟨np, nw, nr, a1, a2, a3, h1, h2, h3, h4, h5, h6, h7, h8, h9⟩ := h.1
  obtain ⟨n4, -, t1, t2, -⟩ := h.2.2.1
  obtain ⟨n3, -, w1, w2, -⟩ := h.2.2.2.1
  obtain ⟨n5, -, r1, r2, -⟩ := h.2.2.2.2.2.2.1
  by_cases hx : 0 ≤ x ∧ x ≤ Int32.ofNat 6
  · obtain ⟨k, hk, rfl⟩ := ex_o (n := 6) (by omega) hx.1 hx.2
    unfold f_X11_many f_X12_many
    rw [tsw_o (by omega), if_pos (by omega)]
    have hc : k = 0 ∨ k = 1 ∨ k = 2 ∨ k = 3 ∨ k = 4 ∨ k = 5 ∨ k = 6 := by omega
    rcases hc with rfl | rfl | rfl | rfl | rfl | rfl | rfl
    · exact ⟨_, M, M, rfl, by show some (M.1 76 0, M) = _; rw [a1, ← h2.1], h⟩
    · exact ⟨_, M, M, rfl, by show some (M.1 76 2, M) = _; rw [a2, ← h2.2.1], h⟩
    · exact ⟨_, M, M, rfl, by show some (M.1 76 8, M) = _; rw [a3, ← h9.2.1], h⟩
    · exact ⟨_, M, M, rfl, by show some (M.1 76 36, M) = _; rw [w2, ← w1], h⟩
    · exact ⟨_, M, M, rfl, by show some (M.1 76 12, M) = _; rw [t2, ← t1], h⟩
    · exact ⟨_, M, M, rfl, by show some (M.1 76 47, M) = _; rw [r2, ← r1], h⟩
    · by_cases h0 : M.1 76 7 = 0
      · refine ⟨0, M, M, ?_, ?_, h⟩
        · show (if M.1 3 3 = 0 then some ((0 : Int32), M) else some (1, M)) = _
          rw [if_pos (h5.trans h0)]
        · show (if M.1 76 7 = 0 then some ((0 : Int32), M) else some (1, M)) = _
          rw [if_pos h0]
      · refine ⟨1, M, M, ?_, ?_, h⟩
        · show (if M.1 3 3 = 0 then some ((0 : Int32), M) else some (1, M)) = _
          rw [if_neg (fun hh => h0 (h5.symm.trans hh))]
        · show (if M.1 76 7 = 0 then some ((0 : Int32), M) else some (1, M)) = _
          rw [if_neg h0]
  · exact ⟨-1, M, M, tsw_no (n := 6) (by omega) hx, tsw_no (n := 6) (by omega) hx, h⟩
theorem hasPl_e {M : k_M} {w np : Nat} (hn : np ≤ 100) (h : M.1 (w + 1) 0 = Int32.ofNat np) (x : Int32) : f_X3_hasPlace w x M = some (if 0 ≤ x ∧ x < Int32.ofNat np then 1 else 0, M) := by
  unfold f_X3_hasPlace
  rw [h]
  by_cases h1 : x < 0
  · rw [if_pos h1, if_neg (fun hh => Int32.not_lt.mpr hh.1 h1)]
  · rw [if_neg h1]
    by_cases h2 : Int32.ofNat np ≤ x
    · rw [if_pos h2, if_neg (fun hh => Int32.not_lt.mpr h2 hh.2)]
    · rw [if_neg h2, if_pos ⟨Int32.not_lt.mp h1, Int32.not_le.mp h2⟩]
theorem hasWy_e {M : k_M} {w nw : Nat} (hn : nw ≤ 100) (h : M.1 (w + 1) 7 = Int32.ofNat nw) (x : Int32) : f_X3_hasWay w x M = some (if 0 ≤ x ∧ x < Int32.ofNat nw then 1 else 0, M) := by
  unfold f_X3_hasWay
  rw [h]
  by_cases h1 : x < 0
  · rw [if_pos h1, if_neg (fun hh => Int32.not_lt.mpr hh.1 h1)]
  · rw [if_neg h1]
    by_cases h2 : Int32.ofNat nw ≤ x
    · rw [if_pos h2, if_neg (fun hh => Int32.not_lt.mpr h2 hh.2)]
    · rw [if_neg h2, if_pos ⟨Int32.not_lt.mp h1, Int32.not_le.mp h2⟩]
theorem c_placeOf (x y : Int32) : Call (f_X11_placeOf x y) (f_X12_placeOf x y) := by
  intro M h
  obtain ⟨np, nw, nr, a1, a2, a3, h1, h2, h3, h4, h5, h6, h7, h8, h9⟩ := h.1
  have np8 := h1.1
  have e1 := hasPl_e (M := M) (w := 3) (np := np) (by omega) h2.1 x
  have e2 := isPl_e (M := M) (n := np) (by omega) a1 x
  unfold f_X11_placeOf f_X12_placeOf
  rw [e1]
  by_cases hx : 0 ≤ x ∧ x < Int32.ofNat np
  · rw [if_pos hx] at e1 e2 ⊢
    obtain ⟨p, hp, rfl⟩ := ex_lt (by omega) hx.1 hx.2
    obtain ⟨q1, q2, q3, -⟩ := h2.2.2.1 p hp
    have q4 := h8.2.2.2.1 p hp
    by_cases hy : 0 ≤ y ∧ y ≤ Int32.ofNat 2
    · obtain ⟨k, hk, rfl⟩ := ex_o (n := 2) (by omega) hy.1 hy.2
      have hy' : 0 ≤ Int32.ofNat k ∧ Int32.ofNat k ≤ 2 := hy
      have hc : k = 0 ∨ k = 1 ∨ k = 2 := by omega
      rcases hc with rfl | rfl | rfl
      · refine ⟨M.1 5 p, M, M, ?_, ?_, h⟩
        · rw [bd_s, if_neg (show ¬ (1 : Int32) = 0 by decide), tsw_o (by omega), if_pos (by omega)]
          rw [if_pos rfl, rdI_o (by omega) (by omega)]
        · rw [e2, bd_s, if_neg (by decide), in_e, bd_s, if_pos hy', if_neg (by decide), if_neg (by decide)]
          unfold f_X12_its
          simp (disch := omega) only [o_lmul, o_add, rdI_o, bd_s, Nat.add_zero]
          exact congrArg (fun z => some (z, M)) q1.symm
      · refine ⟨M.1 6 p, M, M, ?_, ?_, h⟩
        · rw [bd_s, if_neg (show ¬ (1 : Int32) = 0 by decide), tsw_o (by omega), if_pos (by omega)]
          rw [if_neg (by omega), if_pos rfl, rdI_o (by omega) (by omega)]
        · rw [e2, bd_s, if_neg (by decide), in_e, bd_s, if_pos hy', if_neg (by decide), if_neg (by decide)]
          unfold f_X12_its
          simp (disch := omega) only [o_lmul, o_add, rdI_o, bd_s, Nat.add_zero]
          exact congrArg (fun z => some (z, M)) q2.symm
      · refine ⟨M.1 8 p, M, M, ?_, ?_, h⟩
        · rw [bd_s, if_neg (show ¬ (1 : Int32) = 0 by decide), tsw_o (by omega), if_pos (by omega)]
          rw [if_neg (by omega), if_neg (by omega), if_pos rfl, rdI_o (by omega) (by omega)]
        · rw [e2, bd_s, if_neg (by decide), in_e, bd_s, if_pos hy', if_neg (by decide), if_pos (by decide)]
          simp (disch := omega) only [o_ladd, rdI_o]
          exact congrArg (fun z => some (z, M)) q4.symm
    · refine ⟨-1, M, M, ?_, ?_, h⟩
      · rw [bd_s, if_neg (show ¬ (1 : Int32) = 0 by decide)]
        exact tsw_no (n := 2) (by omega) hy
      · have hy' : ¬ (0 ≤ y ∧ y ≤ 2) := hy
        rw [e2, bd_s, if_neg (by decide), in_e, bd_s, if_neg hy', if_pos rfl]
  · rw [if_neg hx] at e1 e2 ⊢
    refine ⟨-1, M, M, rfl, ?_, h⟩
    rw [e2, bd_s, if_pos rfl]
theorem c_wayOf (x y : Int32) : Call (f_X11_wayOf x y) (f_X12_wayOf x y) := by
  intro M h
  obtain ⟨np, nw, nr, a1, a2, a3, h1, h2, h3, h4, h5, h6, h7, h8, h9⟩ := h.1
  have np8 := h1.1
  have nw12 := h1.2.1
  have e1 := hasWy_e (M := M) (w := 3) (nw := nw) (by omega) h2.2.1 x
  have e2 := isWy_e (M := M) (n := nw) (by omega) a2 x
  unfold f_X11_wayOf f_X12_wayOf
  rw [e1]
  by_cases hx : 0 ≤ x ∧ x < Int32.ofNat nw
  · rw [if_pos hx] at e1 e2 ⊢
    obtain ⟨v, hv, rfl⟩ := ex_lt (by omega) hx.1 hx.2
    obtain ⟨q1, q2, q3, q4⟩ := h2.2.2.2 v hv
    have q5 := h8.2.2.2.2 v hv
    obtain ⟨a, b, d, w1, w2, w3, w4, w5, w6, w7, w8⟩ := h1.2.2.2 v hv
    by_cases hy : 0 ≤ y ∧ y ≤ Int32.ofNat 4
    · obtain ⟨k, hk, rfl⟩ := ex_o (n := 4) (by omega) hy.1 hy.2
      have hy' : 0 ≤ Int32.ofNat k ∧ Int32.ofNat k ≤ 4 := hy
      have mI : ∀ i, i < 5 → i ≠ 3 → f_X12_wayIts (Int32.ofNat v) (Int32.ofNat i) M = some (M.1 78 (5 * v + i), M) := fun i hi _ => by
        unfold f_X12_wayIts
        simp (disch := omega) only [o_lmul, o_add, rdI_o]
      have m2 : bd (f_X12_isWay (Int32.ofNat v) M) (fun r1 M2 => if r1 = 0 then some (-1, M2) else bd (f_X12_in (Int32.ofNat k) 0 4 M2) (fun r3 M4 => if r3 = 0 then some (-1, M4) else if Int32.ofNat k = 3 then rdI M4 82 1100 (13 + Int32.ofNat v) (fun v7 => some (v7, M4)) else bd (f_X12_wayIts (Int32.ofNat v) (Int32.ofNat k) M4) (fun r5 M6 => some (r5, M6)))) = some (if k = 3 then M.1 82 (13 + v) else M.1 78 (5 * v + k), M) := by
        rw [e2, bd_s, if_neg (by decide), in_e, bd_s, if_pos hy', if_neg (by decide)]
        by_cases h3 : k = 3
        · subst h3
          rw [if_pos (by decide), if_pos rfl, o_ladd, rdI_o (by omega) (by omega)]
        · rw [if_neg (by rw [o_eql (by omega) (by omega)]; exact h3), if_neg h3, mI k (by omega) h3, bd_s]
      refine ⟨if k = 3 then M.1 82 (13 + v) else M.1 78 (5 * v + k), M, M, ?_, m2, h⟩
      rw [bd_s, if_neg (show ¬ (1 : Int32) = 0 by decide), tsw_o (by omega), if_pos (by omega)]
      have hc : k = 0 ∨ k = 1 ∨ k = 2 ∨ k = 3 ∨ k = 4 := by omega
      have hab : Int32.ofNat a < Int32.ofNat b := by rw [o_lt (by omega) (by omega)]; exact w1
      have hba : ¬ Int32.ofNat b < Int32.ofNat a := by rw [o_lt (by omega) (by omega)]; omega
      rcases hc with rfl | rfl | rfl | rfl | rfl
      · rw [if_pos rfl, rdI_o (by omega) (by omega), rdI_o (by omega) (by omega), if_neg (by omega)]
        unfold mnI
        rcases q1 with ⟨c1, c2⟩ | ⟨c1, c2⟩
        · rw [show M.1 11 v = Int32.ofNat a from c1.trans w5, show M.1 12 v = Int32.ofNat b from c2.trans w6, if_neg hba, Nat.add_zero, w5]
        · rw [show M.1 11 v = Int32.ofNat b from c1.trans w6, show M.1 12 v = Int32.ofNat a from c2.trans w5, if_pos hab, Nat.add_zero, w5]
      · rw [if_neg (by omega), if_pos rfl, rdI_o (by omega) (by omega), rdI_o (by omega) (by omega), if_neg (by omega)]
        unfold mxI
        rcases q1 with ⟨c1, c2⟩ | ⟨c1, c2⟩
        · rw [show M.1 11 v = Int32.ofNat a from c1.trans w5, show M.1 12 v = Int32.ofNat b from c2.trans w6, if_pos hab, w6]
        · rw [show M.1 11 v = Int32.ofNat b from c1.trans w6, show M.1 12 v = Int32.ofNat a from c2.trans w5, if_neg hba, w6]
      · rw [if_neg (by omega), if_neg (by omega), if_pos rfl, rdI_o (by omega) (by omega), if_neg (by omega)]
        exact congrArg (fun z => some (z, M)) q2
      · rw [if_neg (by omega), if_neg (by omega), if_neg (by omega), if_pos rfl, rdI_o (by omega) (by omega), if_pos rfl]
        exact congrArg (fun z => some (z, M)) q5
      · rw [if_neg (by omega), if_neg (by omega), if_neg (by omega), if_neg (by omega), if_pos rfl, rdI_o (by omega) (by omega), if_neg (by omega)]
        exact congrArg (fun z => some (z, M)) q4
    · refine ⟨-1, M, M, ?_, ?_, h⟩
      · rw [bd_s, if_neg (show ¬ (1 : Int32) = 0 by decide)]
        exact tsw_no (n := 4) (by omega) hy
      · have hy' : ¬ (0 ≤ y ∧ y ≤ 4) := hy
        rw [e2, bd_s, if_neg (by decide), in_e, bd_s, if_neg hy', if_pos rfl]
  · rw [if_neg hx] at e1 e2 ⊢
    refine ⟨-1, M, M, rfl, ?_, h⟩
    rw [e2, bd_s, if_pos rfl]
theorem c_cityOf (x : Int32) : Call (f_X11_cityOf x) (f_X12_cityOf x) := by
  intro M h
  have ht := there_e h
  by_cases hx : 0 ≤ x ∧ x ≤ Int32.ofNat 6
  · have hx' : 0 ≤ x ∧ x ≤ 6 := hx
    by_cases h0 : M.1 76 7 = 0
    · refine ⟨-4, M, M, ?_, ?_, h⟩
      · unfold f_X11_cityOf
        rw [within_e, bd_s, if_pos hx', if_neg (by decide), if_pos (ht.trans h0)]
      · unfold f_X12_cityOf
        rw [in_e, bd_s, if_pos hx', if_neg (by decide), if_pos h0]
    · obtain ⟨np, nw, nr, hN, hW, hL, hS, hS2, hq⟩ := here_of h h0
      obtain ⟨a1, a2, a3, h1, h2, h3, h4, h5, h6, h7, h8, h9⟩ := hN
      obtain ⟨k, hk, rfl⟩ := ex_o (n := 6) (by omega) hx.1 hx.2
      have hx2 := hx'
      have m2 : f_X12_cityOf (Int32.ofNat k) M = if 5 ≤ k then (if k = 5 then some (mth (M.1 82 1), M) else some (wth (M.1 79) (rwM M 0), M)) else some (M.1 82 k, M) := by
        have ew := worthAt_e 0 (by omega) M
        unfold f_X12_cityOf
        rw [in_e, bd_s, if_pos hx2, if_neg (by decide), if_neg h0]
        simp (disch := omega) only [o_lle, o_eql, rdI_l, mMonth_e, bd_s, rdI_o, e0z]
        rw [ew, bd_s]
      have x1 : f_X11_cityOf (Int32.ofNat k) M = tsw (Int32.ofNat k) 0 7 (fun i_ => if i_ = 0 then some (M.1 3 4, M) else if i_ = 1 then some (M.1 3 5, M) else if i_ = 2 then rdI M 20 3 (Int32.ofNat k - 2) (fun v3 => some (v3, M)) else if i_ = 3 then rdI M 20 3 (Int32.ofNat k - 2) (fun v4 => some (v4, M)) else if i_ = 4 then rdI M 20 3 (Int32.ofNat k - 2) (fun v5 => some (v5, M)) else if i_ = 5 then bd (f_X10_monthOf (M.1 3 5) M) (fun r6 M7 => some (r6, M7)) else if i_ = 6 then bd (f_X10_worth 3 M) (fun r8 M9 => some (r8, M9)) else rdI M 20 3 (Int32.ofNat k - 2) (fun v10 => some (v10, M))) (rdI M 20 3 (Int32.ofNat k - 2) (fun v10 => some (v10, M))) := by
        unfold f_X11_cityOf
        rw [within_e, bd_s, if_pos hx2, if_neg (by decide), if_neg (fun hh => h0 (ht.symm.trans hh))]
      rw [tsw_o (by omega), if_pos (by omega)] at x1
      have hc : k = 0 ∨ k = 1 ∨ k = 2 ∨ k = 3 ∨ k = 4 ∨ k = 5 ∨ k = 6 := by omega
      rcases hc with rfl | rfl | rfl | rfl | rfl | rfl | rfl
      · exact ⟨M.1 82 0, M, M, x1.trans (congrArg (fun z => some (z, M)) h8.1), m2, h⟩
      · exact ⟨M.1 82 1, M, M, x1.trans (congrArg (fun z => some (z, M)) h8.2.1), m2, h⟩
      · exact ⟨M.1 82 2, M, M, x1.trans (congrArg (fun z => some (z, M)) (h8.2.2.1 0 (by omega))), m2, h⟩
      · exact ⟨M.1 82 3, M, M, x1.trans (congrArg (fun z => some (z, M)) (h8.2.2.1 1 (by omega))), m2, h⟩
      · exact ⟨M.1 82 4, M, M, x1.trans (congrArg (fun z => some (z, M)) (h8.2.2.1 2 (by omega))), m2, h⟩
      · exact ⟨mth (M.1 82 1), M, M, x1.trans (congrArg (fun z => some (mth z, M)) h8.2.1), m2, h⟩
      · have e := worth_e (M := M) (w := 3) (r := rwX M 3) hW
        rw [← stX_self, wth_cg hq] at e
        refine ⟨wth (M.1 79) (rwM M 0), M, M, x1.trans ?_, m2, h⟩
        rw [if_neg (by omega), if_neg (by omega), if_neg (by omega), if_neg (by omega), if_neg (by omega), if_neg (by omega), if_pos rfl, e, bd_s]
  · have hx' : ¬ (0 ≤ x ∧ x ≤ 6) := hx
    refine ⟨-1, M, M, ?_, ?_, h⟩
    · unfold f_X11_cityOf
      rw [within_e, bd_s, if_neg hx', if_pos rfl]
    · unfold f_X12_cityOf
      rw [in_e, bd_s, if_neg hx', if_pos rfl]
