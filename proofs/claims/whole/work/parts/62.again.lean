/-! ===== the pure layer: again ===== -/
theorem c_again : Call f_X11_again f_X12_again := by
  intro M h
  have h01 := th_01 h
  obtain ⟨hk1, hk2⟩ := h.2.1
  rcases hk2 with hk0 | ⟨hk0, np, nw, nr, a1, a2, a3, hWR⟩
  · refine ⟨-3, M, M, ?_, ?_, h⟩
    · unfold f_X11_again
      rw [if_pos hk0]
    · unfold f_X12_again
      rw [if_pos (hk1.trans hk0)]
  · have hWR' := hWR
    obtain ⟨h1, h2, h3, h4, h5, h6, h7, h8, h9⟩ := hWR
    have th' : M.1 103 4 = 0 ∨ M.1 103 4 = 1 := by
      rcases h6 with h6 | ⟨h6, -⟩
      · exact .inl h6
      · exact .inr h6
    obtain ⟨X, x1, x2, x3, x4, x5, x6⟩ := copyW (w := 3) (v := 23) (by unfold dsj; omega) M (by rw [h5]; exact th') h9.2.2.2
    have xe : ∀ a j, ¬ (3 ≤ a ∧ a < 23) → X.1 a j = M.1 a j := fun a j ha => x2.2 a j (fun i e hk => by unfold KW KL at hk; omega)
    have x40 : X.1 4 0 = Int32.ofNat np := by
      have := x2.1 1 0 (.inl (.inl ⟨rfl, .inl rfl⟩))
      exact this.trans h2.1
    obtain ⟨M1, m1, m2, s0, s1, s2, s3, s4, m3, m4⟩ := mAll_s 0 X (by rw [xe _ _ (by omega)]; exact h01)
    obtain ⟨A, A1, A2, A3, A4, A5⟩ := movA (a1 := 104) (n1 := 5) (N := 5) (o := 0) (by omega) (by omega) (by omega) (by omega) m2
    obtain ⟨B, B1, B2, B3, B4, B5⟩ := movA (a1 := 77) (n1 := 24) (N := 24) (o := 0 + 5) (by omega) (by omega) (by omega) (by omega) A3
    obtain ⟨C, C1, C2, C3, C4, C5⟩ := movA (a1 := 78) (n1 := 60) (N := 60) (o := 0 + 5 + 24) (by omega) (by omega) (by omega) (by omega) B3
    obtain ⟨D, D1, D2, D3, D4, D5⟩ := movA (a1 := 79) (n1 := 13) (N := 13) (o := 0 + 5 + 24 + 60) (by omega) (by omega) (by omega) (by omega) C3
    obtain ⟨E, E1, E2, E3, E4, E5⟩ := movA (a1 := 81) (n1 := 12) (N := 12) (o := 0 + 5 + 24 + 60 + 13) (by omega) (by omega) (by omega) (by omega) D3
    obtain ⟨F, F1, F2, F3, F4, F5⟩ := movA (a1 := 82) (n1 := 1100) (N := 25) (o := 0 + 5 + 24 + 60 + 13 + 12) (by omega) (by omega) (by omega) (by omega) E3
    have k103 : ∀ j, M1.1 103 j = M.1 103 j := fun j => by rw [m3 103 j (by omega) (by omega), xe _ _ (by omega)]
    have fl : ∀ a j, a ≠ 104 → a ≠ 77 → a ≠ 78 → a ≠ 79 → a ≠ 81 → ¬ (a = 82 ∧ j < 25) → ¬ (a = 76 ∧ j = 51) → F.1 a j = X.1 a j := fun a j q1 q2 q3 q4 q5 q6 q7 => by
      rw [F4 a j q6 q7, E4 a j (by omega) q7, D4 a j (by omega) q7, C4 a j (by omega) q7, B4 a j (by omega) q7, A4 a j (by omega) q7, m3 a j q1 q7]
    have f104 : ∀ k, k < 5 → F.1 104 k = M.1 103 k := fun k hk => by
      rw [F4 _ _ (by omega) (by omega), E4 _ _ (by omega) (by omega), D4 _ _ (by omega) (by omega), C4 _ _ (by omega) (by omega), B4 _ _ (by omega) (by omega), A2 k hk, Nat.zero_add, k103]
    have f77 : ∀ k, k < 24 → F.1 77 k = M.1 103 (5 + k) := fun k hk => by
      rw [F4 _ _ (by omega) (by omega), E4 _ _ (by omega) (by omega), D4 _ _ (by omega) (by omega), C4 _ _ (by omega) (by omega), B2 k hk, A4 _ _ (by omega) (by omega), k103, Nat.zero_add]
    have f78 : ∀ k, k < 60 → F.1 78 k = M.1 103 (29 + k) := fun k hk => by
      rw [F4 _ _ (by omega) (by omega), E4 _ _ (by omega) (by omega), D4 _ _ (by omega) (by omega), C2 k hk, B4 _ _ (by omega) (by omega), A4 _ _ (by omega) (by omega), k103, show 0 + 5 + 24 + k = 29 + k by omega]
    have f79 : ∀ k, k < 13 → F.1 79 k = M.1 103 (89 + k) := fun k hk => by
      rw [F4 _ _ (by omega) (by omega), E4 _ _ (by omega) (by omega), D2 k hk, C4 _ _ (by omega) (by omega), B4 _ _ (by omega) (by omega), A4 _ _ (by omega) (by omega), k103, show 0 + 5 + 24 + 60 + k = 89 + k by omega]
    have f81 : ∀ k, k < 12 → F.1 81 k = M.1 103 (102 + k) := fun k hk => by
      rw [F4 _ _ (by omega) (by omega), E2 k hk, D4 _ _ (by omega) (by omega), C4 _ _ (by omega) (by omega), B4 _ _ (by omega) (by omega), A4 _ _ (by omega) (by omega), k103, show 0 + 5 + 24 + 60 + 13 + k = 102 + k by omega]
    have f82 : ∀ k, k < 25 → F.1 82 k = M.1 103 (114 + k) := fun k hk => by
      rw [F2 k hk, E4 _ _ (by omega) (by omega), D4 _ _ (by omega) (by omega), C4 _ _ (by omega) (by omega), B4 _ _ (by omega) (by omega), A4 _ _ (by omega) (by omega), k103, show 0 + 5 + 24 + 60 + 13 + 12 + k = 114 + k by omega]
    obtain ⟨G, hG⟩ : ∃ G, G = sI (sI (sI (sI (sI F 76 0 (M.1 103 0)) 76 2 (M.1 103 1)) 76 8 (M.1 103 2)) 76 6 (M.1 103 3)) 76 7 (M.1 103 4) := ⟨_, rfl⟩
    have gl : ∀ a j, a ≠ 76 → G.1 a j = F.1 a j := fun a j q => by rw [hG, sI_g, if_neg (by omega), sI_g, if_neg (by omega), sI_g, if_neg (by omega), sI_g, if_neg (by omega), sI_g, if_neg (by omega)]
    have g76 : ∀ j, ¬ rlv j → G.1 76 j = F.1 76 j := fun j q => by unfold rlv at q; rw [hG, sI_g, if_neg (by omega), sI_g, if_neg (by omega), sI_g, if_neg (by omega), sI_g, if_neg (by omega), sI_g, if_neg (by omega)]
    have v0 : G.1 76 0 = M.1 103 0 := by rw [hG, sI_g, if_neg (by omega), sI_g, if_neg (by omega), sI_g, if_neg (by omega), sI_g, if_neg (by omega), sI_g, if_pos ⟨rfl, rfl⟩]
    have v2 : G.1 76 2 = M.1 103 1 := by rw [hG, sI_g, if_neg (by omega), sI_g, if_neg (by omega), sI_g, if_neg (by omega), sI_g, if_pos ⟨rfl, rfl⟩]
    have v8 : G.1 76 8 = M.1 103 2 := by rw [hG, sI_g, if_neg (by omega), sI_g, if_neg (by omega), sI_g, if_pos ⟨rfl, rfl⟩]
    have v6 : G.1 76 6 = M.1 103 3 := by rw [hG, sI_g, if_neg (by omega), sI_g, if_pos ⟨rfl, rfl⟩]
    have v7 : G.1 76 7 = M.1 103 4 := by rw [hG, sI_g, if_pos ⟨rfl, rfl⟩]
    have gd : G.2 = X.2 := by rw [hG, sI_2, sI_2, sI_2, sI_2, sI_2, F5, E5, D5, C5, B5, A5, m4]
    have r104 : ∀ (N : k_M) k, k < 5 → (∀ j, N.1 104 j = F.1 104 j) → rdI N 104 5 (Int32.ofNat k) (fun v => some v) = some (M.1 103 k) := fun N k hk q => by rw [rdI_o (by omega) (by omega), q, f104 k hk]
    refine ⟨Int32.ofNat np, X, G, ?_, ?_, ?_⟩
    · unfold f_X11_again
      rw [if_neg (by rw [hk0]; decide), x1, bd_s, x40]
    · unfold f_X12_again
      rw [if_neg (by rw [xe _ _ (by omega), hk1, hk0]; decide), m1, A1, bd_s, B1, bd_s, C1, bd_s, D1, bd_s, E1, bd_s, F1, bd_s, bd_s]
      have q0 : F.1 104 0 = M.1 103 0 := f104 0 (by omega)
      have q1 : ∀ a, (sI F 76 0 a).1 104 1 = M.1 103 1 := fun a => by rw [sI_g, if_neg (by omega)]; exact f104 1 (by omega)
      have q2 : ∀ a b, (sI (sI F 76 0 a) 76 2 b).1 104 2 = M.1 103 2 := fun a b => by rw [sI_g, if_neg (by omega), sI_g, if_neg (by omega)]; exact f104 2 (by omega)
      have q3 : ∀ a b c, (sI (sI (sI F 76 0 a) 76 2 b) 76 8 c).1 104 3 = M.1 103 3 := fun a b c => by rw [sI_g, if_neg (by omega), sI_g, if_neg (by omega), sI_g, if_neg (by omega)]; exact f104 3 (by omega)
      have q4 : ∀ a b c d, (sI (sI (sI (sI F 76 0 a) 76 2 b) 76 8 c) 76 6 d).1 104 4 = M.1 103 4 := fun a b c d => by rw [sI_g, if_neg (by omega), sI_g, if_neg (by omega), sI_g, if_neg (by omega), sI_g, if_neg (by omega)]; exact f104 4 (by omega)
      rw [rdI_l (by omega) (by omega), q0, bN_e, rdI_l (by omega) (by omega), q1, bN_e, rdI_l (by omega) (by omega), q2, bN_e, rdI_l (by omega) (by omega), q3, bN_e, rdI_l (by omega) (by omega), q4]
      have fin : f_X12_again_71 (M.1 103 4) (sI (sI (sI (sI F 76 0 (M.1 103 0)) 76 2 (M.1 103 1)) 76 8 (M.1 103 2)) 76 6 (M.1 103 3)) = some (Int32.ofNat np, G) := by
        unfold f_X12_again_71 ckZ
        rw [if_pos th', bN_e, ← hG, v0, a1]
      rcases th' with t | t
      · rw [if_neg (by rw [t]; decide), ← fin, t]
      · rw [if_pos t, ← fin, t]
    · have gx : ∀ a j, a ≠ 104 → a ≠ 77 → a ≠ 78 → a ≠ 79 → a ≠ 81 → ¬ (a = 82 ∧ j < 25) → ¬ (a = 76 ∧ (rlv j ∨ j = 51)) → G.1 a j = X.1 a j := fun a j q1 q2 q3 q4 q5 q6 q7 => by
        by_cases ha : a = 76
        · subst ha
          rw [g76 j (fun hh => q7 ⟨rfl, .inl hh⟩), fl 76 j q1 q2 q3 q4 q5 q6 (fun hh => q7 ⟨rfl, .inr hh.2⟩)]
        · rw [gl a j ha, fl a j q1 q2 q3 q4 q5 q6 (by omega)]
      have gm : ∀ a j, a ≠ 104 → a ≠ 77 → a ≠ 78 → a ≠ 79 → a ≠ 81 → ¬ (a = 82 ∧ j < 25) → ¬ (a = 76 ∧ (rlv j ∨ j = 51)) → ¬ (3 ≤ a ∧ a < 23) → G.1 a j = M.1 a j := fun a j q1 q2 q3 q4 q5 q6 q7 q8 => by rw [gx a j q1 q2 q3 q4 q5 q6 q7, xe a j q8]
      have hn : M.2.2.2 ≤ G.2.2.2 := by rw [gd, x4]; exact Nat.le_refl _
      refine R_N h (fun a j q1 q2 _ => gm a j (by unfold scr at q1; omega) (by unfold chN at q2; omega) (by unfold chN at q2; omega) (by unfold chN at q2; omega) (by unfold chN at q2; omega) (by unfold chN at q2; omega) (by unfold scr rlv at q1; unfold chN rlv at q2; unfold rlv; omega) (by unfold chN at q2; omega)) (fun a j _ => by rw [gd, x3]) (by rw [gd]; funext i; exact x6 _ _ (by omega)) hn ?_
      refine ⟨np, nw, nr, v0.trans a1, v2.trans a2, v8.trans a3, ?_⟩
      rw [v6, v7]
      refine WR_vw (fun j hj => (gl 77 j (by omega)).trans (f77 j hj)) (fun j hj => (gl 78 j (by omega)).trans (f78 j hj)) (fun j hj => (gl 79 j (by omega)).trans (f79 j hj)) (fun j hj => (gl 81 j (by omega)).trans (f81 j hj)) (fun j hj => (gl 82 j (by omega)).trans (f82 j hj)) ?_
      have w3 := WR_cp (w := 3) (v := 23) (by omega) x2 x4 x5 hWR'
      refine WR_fr (fun i j q1 _ _ => ?_) (fun q j q1 _ => ?_) (by rw [gd]) (by rw [gd]; exact Nat.le_refl _) (fun _ _ => rfl) rfl rfl rfl rfl w3
      · exact gx _ _ (by omega) (by omega) (by omega) (by omega) (by omega) (by omega) (by omega)
      · exact gx _ _ (by omega) (by omega) (by omega) (by omega) (by omega) (by omega) (by omega)
