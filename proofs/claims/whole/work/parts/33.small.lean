/-! ===== the pure layer: small calls ===== -/
theorem c_rain (p : Int32) : Call (f_X11_rain p) (f_X12_rain p) := by
  intro M h
  obtain ⟨np, nw, nr, b1, b2, b3, h1, h2, h3, h4, h5, h6, h7, h8, h9⟩ := h.1
  refine ⟨M.1 3 2, sI M 3 2 p, sI (sI M 3 2 p) 76 6 p, rfl, ?_, ?_⟩
  · show some ((sI M 3 2 p).1 76 6, _) = _
    rw [sI_g, if_neg (by omega), h4.2]
  · have c : ∀ a j, ¬ (a = 3 ∧ j = 2) → ¬ (a = 76 ∧ j = 6) → (sI (sI M 3 2 p) 76 6 p).1 a j = M.1 a j := fun a j x y => by
      rw [sI_g, sI_g, if_neg y, if_neg x]
    have cf : ∀ a, a ≠ 3 → a ≠ 76 → (sI (sI M 3 2 p) 76 6 p).1 a = M.1 a := fun a x y => funext fun j => c a j (by omega) (by omega)
    refine R_N h (fun a j _ x _ => c a j (by unfold chN rlv at x; omega) (by unfold chN rlv at x; omega)) (fun _ _ _ => rfl) rfl (Nat.le_refl _) ?_
    refine ⟨np, nw, nr, by rw [c _ _ (by omega) (by omega)]; exact b1, by rw [c _ _ (by omega) (by omega)]; exact b2, by rw [c _ _ (by omega) (by omega)]; exact b3, ?_⟩
    rw [c 76 7 (by omega) (by omega), cf 77 (by omega) (by omega), cf 78 (by omega) (by omega), cf 79 (by omega) (by omega), cf 81 (by omega) (by omega), cf 82 (by omega) (by omega)]
    refine ⟨h1, LX_fr (fun i j _ _ _ _ => c _ _ (by omega) (by omega)) h2, h3, ⟨fun i hi => by rw [c _ _ (by omega) (by omega)]; exact h4.1 i hi, ?_⟩, by rw [c _ _ (by omega) (by omega)]; exact h5, h6, h7, RX_fr h1.1 h1.2.1 (c _ _ (by omega) (by omega)) (c _ _ (by omega) (by omega)) (fun i j _ => c _ _ (by omega) (by omega)) (fun _ _ => rfl) h8, RR_fr (c _ _ (by omega) (by omega)) (fun j => c _ _ (by omega) (by omega)) (fun q j _ _ => c _ _ (by omega) (by omega)) rfl (Nat.le_refl _) h9⟩
    rw [sI_g, sI_g, sI_g, if_neg (by omega), if_pos (by omega), if_pos (by omega)]
theorem c_row (p1 p2 : Int32) : Call (f_X11_row p1 p2) (f_X12_row p1 p2) := by
  intro M h
  obtain ⟨n, n6, b1, b2, b3⟩ := h.2.2.2.1
  by_cases hp : 0 ≤ p1 ∧ p1 < Int32.ofNat n
  · by_cases hq : 0 ≤ p2 ∧ p2 ≤ 2
    · obtain ⟨i, hi, rfl⟩ := ex_lt (by omega) hp.1 hp.2
      obtain ⟨k, hk, rfl⟩ := ex_o (n := 2) (by omega) hq.1 hq.2
      refine ⟨M.1 63 (i * 3 + k), M, M, ?_, ?_, h⟩
      · simp (disch := omega) only [f_X11_row, f_X11_isRowPart, within_e, bd_s, b1, le_pr, hp, hq, i1z, if_false, and_self, o_mull, o_add, rdI_o, if_true]
      · have e : M.1 63 (i * 3 + k) = M.1 95 (3 * i + k) := by rw [Nat.mul_comm i 3]; exact b3 _ (by omega)
        simp (disch := omega) only [f_X12_row, f_X12_isRow, in_e, bd_s, b2, le_pr, hp, hq, i1z, if_false, and_self, o_lmul, o_add, rdI_o, if_true, e]
    · refine ⟨-9, M, M, ?_, ?_, h⟩
      · simp (disch := omega) only [f_X11_row, f_X11_isRowPart, within_e, bd_s, b1, le_pr, hp, hq, i1z, if_false, and_self, if_true]
      · simp (disch := omega) only [f_X12_row, f_X12_isRow, in_e, bd_s, b2, le_pr, hp, hq, i1z, if_false, and_self, if_true]
  · refine ⟨-9, M, M, ?_, ?_, h⟩
    · simp (disch := omega) only [f_X11_row, f_X11_isRowPart, within_e, bd_s, b1, le_pr, hp, i1z, if_false, and_self, if_true]
    · simp (disch := omega) only [f_X12_row, f_X12_isRow, in_e, bd_s, b2, le_pr, hp, i1z, if_false, and_self, if_true]
