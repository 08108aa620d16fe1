/-! ===== the pure layer: the reference's step ===== -/
theorem adv126n {k : Nat} {M : k_M} (h : ¬ M.1 76 13 = 1) (kx : k_M → Option (Unit × k_M)) : f_X12_advance_126 (k + 1) M kx = kx M := by
  rw [f_X12_advance_126, if_neg h]
theorem adv207n {k : Nat} {M : k_M} (h : ¬ M.1 76 13 = 2) (kx : k_M → Option (Unit × k_M)) : f_X12_advance_207 (k + 1) M kx = kx M := by
  rw [f_X12_advance_207, if_neg h]
/-- behind the sort: the word itself -/
theorem adv83 {f : Nat → Nat} {n s q : Nat} {l1 : Int32} {M : k_M} (hB : BM M f n) (hq : q ≤ 3) (hs : q = 0 ∨ (s < n ∧ q = srt (f s))) (hsn : s ≤ n) (h14 : M.1 76 14 = Int32.ofNat s) (h15 : M.1 76 15 = Int32.ofNat s) : ∃ M', f_X12_advance_83 l1 (Int32.ofNat q) M = some ((), M') ∧ (∀ a j, ¬ (a = 76 ∧ 13 ≤ j ∧ j ≤ 17) → M'.1 a j = M.1 a j) ∧ (∀ a j, a ≠ 76 → M'.2.1 a j = M.2.1 a j) ∧ M'.2.2 = M.2.2 ∧ M'.1 76 13 = Int32.ofNat q ∧ M'.1 76 14 = Int32.ofNat s ∧ M'.1 76 15 = Int32.ofNat (if q = 0 then s else if q = 3 then s + 1 else scn f n q (n - s) s) ∧ (q = 2 → M'.1 76 17 = nmM f s (scn f n 2 (n - s) s - s) s 0) ∧ (q = 1 → M'.2.1 76 16 = wdJ f s (scn f n 1 (n - s) s - s) s 0) ∧ (q = 3 → M'.1 76 17 = l1) := by
  have hn := hB.1
  have hk : k_fu = 999999999 + 1 := rfl
  obtain ⟨A, hA⟩ : ∃ A, A = sJ (sI M 76 13 (Int32.ofNat q)) 76 16 0 := ⟨_, rfl⟩
  have a13 : A.1 76 13 = Int32.ofNat q := by rw [hA, sJ_1, sI_g, if_pos ⟨rfl, rfl⟩]
  obtain ⟨C, hC⟩ : ∃ C, C = sI A 76 17 (if q = 2 then 0 else l1) := ⟨_, rfl⟩
  have c1 : ∀ a j, ¬ (a = 76 ∧ (j = 13 ∨ j = 17)) → C.1 a j = M.1 a j := fun a j r => by rw [hC, sI_g, if_neg (by omega), hA, sJ_1, sI_g, if_neg (by omega)]
  have c13 : C.1 76 13 = Int32.ofNat q := by rw [hC, sI_g, if_neg (by omega)]; exact a13
  have c17 : C.1 76 17 = if q = 2 then 0 else l1 := by rw [hC, sI_g, if_pos ⟨rfl, rfl⟩]
  have c14 : C.1 76 14 = Int32.ofNat s := by rw [c1 _ _ (by omega)]; exact h14
  have c15 : C.1 76 15 = Int32.ofNat s := by rw [c1 _ _ (by omega)]; exact h15
  have cJ : ∀ a j, a ≠ 76 → C.2.1 a j = M.2.1 a j := fun a j r => by rw [hC, sI_2, hA, sJ_g, if_neg (fun h => r h.1)]; rfl
  have cJ16 : C.2.1 76 16 = 0 := by rw [hC, sI_2, hA, sJ_g, if_pos ⟨rfl, rfl⟩]
  have c22 : C.2.2 = M.2.2 := by rw [hC, sI_2, hA]; rfl
  have hBC : BM C f n := BM_fr hB (fun a j r => c1 a j (by omega))
  have st : f_X12_advance_83 l1 (Int32.ofNat q) M = if Int32.ofNat q = 3 then f_X12_advance_126 k_fu (sI C 76 15 (Int32.ofNat (s + 1))) (fun M_ => f_X12_advance_207 k_fu M_ (fun M_ => f_X12_advance_282 M_)) else f_X12_advance_126 k_fu C (fun M_ => f_X12_advance_207 k_fu M_ (fun M_ => f_X12_advance_282 M_)) := by
    unfold f_X12_advance_83
    rw [bN_e, bN_e, ← hA, a13]
    unfold f_X12_advance_105
    by_cases h2 : q = 2
    · rw [if_pos h2] at hC
      rw [if_pos (by rw [h2]; rfl), bN_e, ← hC, c13, bN_e, c15, o_addl]
    · rw [if_neg h2] at hC
      rw [if_neg (by rw [o_eql (by omega) (by omega)]; exact h2), bN_e, ← hC, c13, bN_e, c15, o_addl]
  have hc : q = 0 ∨ q = 1 ∨ q = 2 ∨ q = 3 := by omega
  rcases hc with rfl | rfl | rfl | rfl
  · refine ⟨C, ?_, fun a j r => c1 a j (by omega), cJ, c22, c13, c14, by rw [if_pos rfl]; exact c15, fun r => by omega, fun r => by omega, fun r => by omega⟩
    rw [st, if_neg (by decide), hk, adv126n (by rw [c13]; decide), adv207n (by rw [c13]; decide)]
    rfl
  · obtain ⟨N, g1, g2, g3, g4, g5, g6⟩ := adv126 (s := s) (n - s) k_fu s 0 C hBC c13 c14 (Nat.le_refl _) c15 cJ16 (by omega) (by unfold k_fu; omega)
    refine ⟨N, ?_, fun a j r => by rw [g4 a j (by omega)]; exact c1 a j (by omega), fun a j r => by rw [g5 a j r]; exact cJ a j r, by rw [g6]; exact c22, by rw [g4 _ _ (by omega)]; exact c13, by rw [g4 _ _ (by omega)]; exact c14, by rw [if_neg (by omega), if_neg (by omega)]; exact g2, fun r => by omega, fun _ => g3, fun r => by omega⟩
    rw [st, if_neg (by decide), g1, hk, adv207n (by rw [g4 _ _ (by omega), c13]; decide)]
    rfl
  · obtain ⟨N, g1, g2, g3, g4, g5⟩ := adv207 (s := s) (n - s) k_fu s 0 C hBC c13 c14 (Nat.le_refl _) c15 (by rw [c17, if_pos rfl]) (by omega) (by unfold k_fu; omega)
    refine ⟨N, ?_, fun a j r => by rw [g4 a j (by omega)]; exact c1 a j (by omega), fun a j r => by rw [g5]; exact cJ a j r, by rw [g5]; exact c22, by rw [g4 _ _ (by omega)]; exact c13, by rw [g4 _ _ (by omega)]; exact c14, by rw [if_neg (by omega), if_neg (by omega)]; exact g2, fun _ => g3, fun r => by omega, fun r => by omega⟩
    have e126 : ∀ kx, f_X12_advance_126 k_fu C kx = kx C := fun kx => by rw [hk, adv126n (by rw [c13]; decide)]
    rw [st, if_neg (by decide), e126, g1]
    rfl
  · refine ⟨sI C 76 15 (Int32.ofNat (s + 1)), ?_, fun a j r => by rw [sI_g, if_neg (by omega)]; exact c1 a j (by omega), cJ, c22, by rw [sI_g, if_neg (by omega)]; exact c13, by rw [sI_g, if_neg (by omega)]; exact c14, by rw [if_neg (by omega), if_pos rfl, sI_g, if_pos ⟨rfl, rfl⟩], fun r => by omega, fun r => by omega, fun _ => by rw [sI_g, if_neg (by omega), c17, if_neg (by omega)]⟩
    have d13 : (sI C 76 15 (Int32.ofNat (s + 1))).1 76 13 = Int32.ofNat 3 := by rw [sI_g, if_neg (by omega)]; exact c13
    rw [st, if_pos (by decide), hk, adv126n (by rw [d13]; decide), adv207n (by rw [d13]; decide)]
    rfl
