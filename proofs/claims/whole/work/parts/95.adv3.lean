/-! ===== the pure layer: the reference's step, letters ===== -/
theorem adv126 {f : Nat → Nat} {n s : Nat} : ∀ (m k e : Nat) (x : Int64) (M : k_M), BM M f n → M.1 76 13 = 1 → M.1 76 14 = Int32.ofNat s → s ≤ e → M.1 76 15 = Int32.ofNat e → M.2.1 76 16 = x → e + m = n → m < k → ∃ M', (∀ kx, f_X12_advance_126 k M kx = kx M') ∧ M'.1 76 15 = Int32.ofNat (scn f n 1 m e) ∧ M'.2.1 76 16 = wdJ f s (scn f n 1 m e - e) e x ∧ (∀ a j, ¬ (a = 76 ∧ j = 15) → M'.1 a j = M.1 a j) ∧ (∀ a j, a ≠ 76 → M'.2.1 a j = M.2.1 a j) ∧ M'.2.2 = M.2.2
  | 0, k, e, x, M, hB, h13, h14, hse, h15, h17, he, hk => by
    obtain ⟨k, rfl⟩ : ∃ q, k = q + 1 := ⟨k - 1, by omega⟩
    have hn := hB.1
    have hz : f_X12_isLetter (-1) M = some (0, M) := by
      unfold f_X12_isLetter
      rw [in_e, bd_s, if_neg (by decide)]
      rfl
    refine ⟨M, fun kx => ?_, h15, ?_, fun _ _ _ => rfl, fun _ _ _ => rfl, rfl⟩
    · rw [f_X12_advance_126, h13, if_pos rfl, h15, byteM hB (by omega), bd_s, if_neg (show ¬ e < n by omega), hz, bd_s, if_pos rfl]
    · unfold scn
      rw [Nat.sub_self]
      exact h17
  | m + 1, k, e, x, M, hB, h13, h14, hse, h15, h17, he, hk => by
    obtain ⟨k, rfl⟩ : ∃ q, k = q + 1 := ⟨k - 1, by omega⟩
    have hn := hB.1
    obtain ⟨b1, b2⟩ := hB.2.2 e (by omega)
    unfold scn
    by_cases hc : srt (f e) = 1
    · obtain ⟨y, hy⟩ : ∃ y : Int64, y = (if 8 ≤ e - s then -1 else 27 * x + (Int32.ofNat (f e)).toInt64 - 96) := ⟨_, rfl⟩
      obtain ⟨N, hN⟩ : ∃ N, N = sI (sJ M 76 16 y) 76 15 (Int32.ofNat (e + 1)) := ⟨_, rfl⟩
      have c1 : ∀ a j, ¬ (a = 76 ∧ j = 15) → N.1 a j = M.1 a j := fun a j q => by rw [hN, sI_g, if_neg q, sJ_1]
      have c2 : ∀ a j, a ≠ 76 → N.2.1 a j = M.2.1 a j := fun a j q => by rw [hN, sI_2, sJ_g, if_neg (fun h => q h.1)]
      obtain ⟨M', g1, g2, g3, g4, g5, g6⟩ := adv126 (s := s) m k (e + 1) y N (BM_fr hB (fun a j q => c1 a j (by omega))) (by rw [c1 _ _ (by omega)]; exact h13) (by rw [c1 _ _ (by omega)]; exact h14) (by omega) (by rw [hN, sI_g, if_pos ⟨rfl, rfl⟩]) (by rw [hN, sI_2, sJ_g, if_pos ⟨rfl, rfl⟩]) (by omega) (by omega)
      have sb := scn_b f n 1 m (e + 1) (by omega)
      refine ⟨M', fun kx => ?_, by rw [if_pos ⟨by omega, hc⟩]; exact g2, ?_, fun a j q => by rw [g4 a j q, c1 a j q], fun a j q => by rw [g5 a j q, c2 a j q], by rw [g6, hN]; rfl⟩
      · have k1 : ∀ z, f_X12_advance_191 z M ((fun M_ => f_X12_advance_126 k M_ kx)) kx = f_X12_advance_126 k (sI (sJ M 76 16 z) 76 15 (Int32.ofNat (e + 1))) kx := fun z => by
          unfold f_X12_advance_191
          rw [bN_e, bN_e, sJ_1, h15, o_addl]
        rw [f_X12_advance_126, h13, if_pos rfl, h15, byteM hB (by omega), bd_s, if_pos (show e < n by omega), letM b2, bd_s, if_pos hc, if_neg (by decide), h15, h14, o_sub hse]
        by_cases h2 : 8 ≤ e - s
        · rw [if_pos h2] at hy
          rw [if_pos (by rw [o_lle (by omega) (by omega)]; exact h2), k1, ← hy, ← hN]
          exact g1 kx
        · rw [if_neg h2] at hy
          rw [if_neg (by rw [o_lle (by omega) (by omega)]; exact h2), byteM hB (by omega), bd_s, if_pos (show e < n by omega), h17, k1, ← hy, ← hN]
          exact g1 kx
      · rw [if_pos ⟨by omega, hc⟩, g3, show scn f n 1 m (e + 1) - e = (scn f n 1 m (e + 1) - (e + 1)) + 1 by omega, wdJ, ← hy]
    · refine ⟨M, fun kx => ?_, by rw [if_neg (fun q => hc q.2)]; exact h15, ?_, fun _ _ _ => rfl, fun _ _ _ => rfl, rfl⟩
      · rw [f_X12_advance_126, h13, if_pos rfl, h15, byteM hB (by omega), bd_s, if_pos (show e < n by omega), letM b2, bd_s, if_neg hc, if_pos rfl]
      · rw [if_neg (fun q => hc q.2), Nat.sub_self]
        exact h17
