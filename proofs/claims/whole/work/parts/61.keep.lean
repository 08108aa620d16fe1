/-! ===== the pure layer: keep, again ===== -/
theorem wls_cg {nw p : Nat} {wy wy' : Nat → Int32} (hnw : nw ≤ 12) (h : ∀ j, j < 60 → wy' j = wy j) : wls nw wy' p = wls nw wy p := by
  unfold wls
  apply List.filter_congr
  intro v hv
  have := List.mem_range.mp hv
  rw [h _ (by omega), h _ (by omega)]
/-- the same numbers, in other rows -/
theorem WR_vw {w : Nat} {M : k_M} {np nw nr : Nat} {rn th : Int32} {pl wy lw rl r pl' wy' lw' rl' r' : Nat → Int32} (e1 : ∀ j, j < 24 → pl' j = pl j) (e2 : ∀ j, j < 60 → wy' j = wy j) (e3 : ∀ j, j < 13 → lw' j = lw j) (e4 : ∀ j, j < 12 → rl' j = rl j) (e5 : ∀ j, j < 25 → r' j = r j) (h : WR w M np nw nr rn th pl wy lw rl r) : WR w M np nw nr rn th pl' wy' lw' rl' r' := by
  obtain ⟨h1, h2, h3, h4, h5, h6, h7, h8, h9⟩ := h
  have np8 := h1.1
  have nw12 := h1.2.1
  have nr4 := h9.1
  have hw : ∀ p, wls nw wy' p = wls nw wy p := fun p => wls_cg nw12 e2
  refine ⟨⟨h1.1, h1.2.1, fun p hp => ?_, fun v hv => ?_⟩, ⟨h2.1, h2.2.1, fun p hp => ?_, fun v hv => ?_⟩, fun i hi => ?_, ⟨fun i hi => ?_, h4.2⟩, h5, ?_, ⟨?_, fun s hs => ?_, fun p hp => ?_, fun v hv => ?_⟩, RX_fr np8 nw12 rfl rfl (fun _ _ _ => rfl) e5 h8, ⟨h9.1, h9.2.1, fun i hi => ?_, h9.2.2.2⟩⟩
  · rw [e1 _ (by omega), e1 _ (by omega), e1 _ (by omega), hw]; exact h1.2.2.1 p hp
  · rw [e2 _ (by omega), e2 _ (by omega), e2 _ (by omega), e2 _ (by omega)]; exact h1.2.2.2 v hv
  · rw [e1 _ (by omega), e1 _ (by omega), e1 _ (by omega), hw]; exact h2.2.2.1 p hp
  · rw [e2 _ (by omega), e2 _ (by omega), e2 _ (by omega), e2 _ (by omega), e2 _ (by omega)]; exact h2.2.2.2 v hv
  · rw [e3 i hi]; exact h3 i hi
  · rw [e3 i hi]; exact h4.1 i hi
  · rw [e5 0 (by omega)]; exact h6
  · rw [e5 1 (by omega)]; exact h7.1
  · rw [e5 _ (by omega)]; exact h7.2.1 s hs
  · rw [e5 _ (by omega)]; exact h7.2.2.1 p hp
  · rw [e5 _ (by omega), e2 _ (by omega)]; exact h7.2.2.2 v hv
  · rw [e4 _ (by omega), e4 _ (by omega), e4 _ (by omega)]; exact h9.2.2.1 i hi
/-- a World that was copied -/
theorem WR_cp {w v : Nat} {M M' : k_M} {np nw nr : Nat} {rn th : Int32} {pl wy lw rl r : Nat → Int32} (hw : w + 20 ≤ 105) (c : CP w v KW M M') (hn : M'.2.2.2 = M.2.2.2) (hr : ∀ i, i < 4 → M'.2.2.1 (w + 18) i = M.2.2.1 (v + 18) i) (h : WR v M np nw nr rn th pl wy lw rl r) : WR w M' np nw nr rn th pl wy lw rl r := by
  obtain ⟨h1, h2, h3, h4, h5, h6, h7, h8, h9⟩ := h
  have np8 := h1.1
  have nw12 := h1.2.1
  have nr4 := h9.1
  have e0 : ∀ j, (j = 2 ∨ j = 3 ∨ j = 4 ∨ j = 5 ∨ j = 7) → M'.1 w j = M.1 v j := fun j hj => by
    have := c.1 0 j (.inr (.inr (.inl ⟨rfl, hj⟩)))
    rw [Nat.add_zero, Nat.add_zero] at this
    exact this
  have e8 : ∀ i j, 2 ≤ i → i < 7 → j < 8 → M'.1 (w + i) j = M.1 (v + i) j := fun i j q1 q2 q3 => c.1 i j (.inl (.inr (.inl ⟨q1, q2, q3⟩)))
  have e12 : ∀ i j, 8 ≤ i → i < 14 → j < 12 → M'.1 (w + i) j = M.1 (v + i) j := fun i j q1 q2 q3 => c.1 i j (.inl (.inr (.inr (.inr ⟨q1, q2, q3⟩))))
  have eq : ∀ q j, 105 ≤ q → M'.1 q j = M.1 q j := fun q j hq => c.2 q j (fun i e hk => by unfold KW KL at hk; omega)
  refine ⟨h1, ⟨?_, ?_, fun p hp => ?_, fun u hu => ?_⟩, h3, ⟨fun i hi => ?_, ?_⟩, ?_, h6, h7, ⟨?_, ?_, fun s hs => ?_, fun p hp => ?_, fun u hu => ?_⟩, ⟨h9.1, ?_, fun i hi => ?_, fun i hi => ?_⟩⟩
  · rw [c.1 1 0 (.inl (.inl ⟨rfl, .inl rfl⟩))]; exact h2.1
  · rw [c.1 1 7 (.inl (.inl ⟨rfl, .inr rfl⟩))]; exact h2.2.1
  · obtain ⟨q1, q2, q3, q4, q5⟩ := h2.2.2.1 p hp
    have l4 := (h1.2.2.1 p hp).2.2.2
    rw [e8 2 p (by omega) (by omega) (by omega), e8 3 p (by omega) (by omega) (by omega), e8 4 p (by omega) (by omega) (by omega), e8 6 p (by omega) (by omega) (by omega)]
    refine ⟨q1, q2, q3, q4, fun i hi => ?_⟩
    rw [c.1 7 _ (.inl (.inr (.inr (.inl ⟨rfl, by omega⟩))))]
    exact q5 i hi
  · rw [e12 8 u (by omega) (by omega) (by omega), e12 9 u (by omega) (by omega) (by omega), e12 10 u (by omega) (by omega) (by omega), e12 11 u (by omega) (by omega) (by omega), e12 13 u (by omega) (by omega) (by omega)]
    exact h2.2.2.2 u hu
  · rw [c.1 16 i (.inr (.inl ⟨rfl, hi⟩))]; exact h4.1 i hi
  · rw [e0 2 (by omega)]; exact h4.2
  · rw [e0 3 (by omega)]; exact h5
  · rw [e0 4 (by omega)]; exact h8.1
  · rw [e0 5 (by omega)]; exact h8.2.1
  · rw [c.1 17 s (.inr (.inr (.inr (.inl ⟨rfl, hs⟩))))]; exact h8.2.2.1 s hs
  · rw [e8 5 p (by omega) (by omega) (by omega)]; exact h8.2.2.2.1 p hp
  · rw [e12 12 u (by omega) (by omega) (by omega)]; exact h8.2.2.2.2 u hu
  · rw [e0 7 (by omega)]; exact h9.2.1
  · obtain ⟨q, b1, b2, b3, b4⟩ := h9.2.2.1 i hi
    refine ⟨q, by rw [hr i (by omega)]; exact b1, b2, by omega, ?_⟩
    rw [eq q _ b2, eq q _ b2, eq q _ b2, eq q _ b2, c.1 19 i (.inr (.inr (.inr (.inr ⟨rfl, by omega⟩))))]
    exact b4
  · rw [hr i hi]
    exact okRb_fr (by omega) (h9.2.2.2 i hi)
/-- a row goes into the kept one -/
theorem moveK {a1 n1 : Nat} (ha : a1 ≠ 76 ∧ a1 ≠ 103) (hn1 : n1 ≤ 2000) : ∀ (m n j o N : Nat) (M : k_M), j + m = N → N ≤ n1 → o + m ≤ 150 → m < n → M.1 76 51 = Int32.ofNat o → ∃ M', (∀ kx, f_X12_move_3 a1 n1 n (Int32.ofNat N) 1 (Int32.ofNat j) M kx = kx M') ∧ (∀ k, k < m → M'.1 103 (o + k) = M.1 a1 (j + k)) ∧ M'.1 76 51 = Int32.ofNat (o + m) ∧ (∀ a i, ¬ (a = 103 ∧ o ≤ i ∧ i < o + m) → ¬ (a = 76 ∧ i = 51) → M'.1 a i = M.1 a i) ∧ M'.2 = M.2
  | 0, n, j, o, N, M, hj, hN, ho, hn, hM => by
    obtain ⟨n, rfl⟩ : ∃ k, n = k + 1 := ⟨n - 1, by omega⟩
    refine ⟨M, fun kx => ?_, fun k hk => by omega, hM, fun _ _ _ _ => rfl, rfl⟩
    rw [f_X12_move_3, if_pos (by rw [o_le (by omega) (by omega)]; omega)]
  | m + 1, n, j, o, N, M, hj, hN, ho, hn, hM => by
    obtain ⟨n, rfl⟩ : ∃ k, n = k + 1 := ⟨n - 1, by omega⟩
    have e51 : (sI M 103 o (M.1 a1 j)).1 76 51 = Int32.ofNat o := by rw [sI_g, if_neg (by omega)]; exact hM
    obtain ⟨M', g1, g2, g3, g4, g5⟩ := moveK ha hn1 m n (j + 1) (o + 1) N (sI (sI M 103 o (M.1 a1 j)) 76 51 (Int32.ofNat (o + 1))) (by omega) hN (by omega) (by omega) (by rw [sI_g, if_pos ⟨rfl, rfl⟩])
    refine ⟨M', fun kx => ?_, fun k hk => ?_, by rw [g3]; congr 1; omega, fun a i q1 q2 => ?_, g5⟩
    · rw [f_X12_move_3, if_neg (by rw [o_le (by omega) (by omega)]; omega), if_neg (by decide), rdI_o (by omega) (by omega), hM, wrI_o (by omega) (by omega)]
      unfold f_X12_move_42
      rw [bN_e, e51, o_addl, o_addl]
      exact g1 kx
    · by_cases hk0 : k = 0
      · subst hk0
        rw [g4 _ _ (by omega) (by omega), sI_g, if_neg (by omega), sI_g, if_pos ⟨rfl, by omega⟩]
        rfl
      · have := g2 (k - 1) (by omega)
        rw [show o + 1 + (k - 1) = o + k by omega, show j + 1 + (k - 1) = j + k by omega, sI_g, if_neg (by omega), sI_g, if_neg (by omega)] at this
        exact this
    · rw [g4 a i (by omega) q2, sI_g, if_neg q2, sI_g, if_neg (by omega)]
/-- and out of it -/
theorem moveA {a1 n1 : Nat} (ha : a1 ≠ 76 ∧ a1 ≠ 103) (hn1 : n1 ≤ 2000) : ∀ (m n j o N : Nat) (M : k_M), j + m = N → N ≤ n1 → o + m ≤ 150 → m < n → M.1 76 51 = Int32.ofNat o → ∃ M', (∀ kx, f_X12_move_3 a1 n1 n (Int32.ofNat N) 0 (Int32.ofNat j) M kx = kx M') ∧ (∀ k, k < m → M'.1 a1 (j + k) = M.1 103 (o + k)) ∧ M'.1 76 51 = Int32.ofNat (o + m) ∧ (∀ a i, ¬ (a = a1 ∧ j ≤ i ∧ i < j + m) → ¬ (a = 76 ∧ i = 51) → M'.1 a i = M.1 a i) ∧ M'.2 = M.2
  | 0, n, j, o, N, M, hj, hN, ho, hn, hM => by
    obtain ⟨n, rfl⟩ : ∃ k, n = k + 1 := ⟨n - 1, by omega⟩
    refine ⟨M, fun kx => ?_, fun k hk => by omega, hM, fun _ _ _ _ => rfl, rfl⟩
    rw [f_X12_move_3, if_pos (by rw [o_le (by omega) (by omega)]; omega)]
  | m + 1, n, j, o, N, M, hj, hN, ho, hn, hM => by
    obtain ⟨n, rfl⟩ : ∃ k, n = k + 1 := ⟨n - 1, by omega⟩
    have e51 : (sI M a1 j (M.1 103 o)).1 76 51 = Int32.ofNat o := by rw [sI_g, if_neg (by omega)]; exact hM
    obtain ⟨M', g1, g2, g3, g4, g5⟩ := moveA ha hn1 m n (j + 1) (o + 1) N (sI (sI M a1 j (M.1 103 o)) 76 51 (Int32.ofNat (o + 1))) (by omega) hN (by omega) (by omega) (by rw [sI_g, if_pos ⟨rfl, rfl⟩])
    refine ⟨M', fun kx => ?_, fun k hk => ?_, by rw [g3]; congr 1; omega, fun a i q1 q2 => ?_, g5⟩
    · rw [f_X12_move_3, if_neg (by rw [o_le (by omega) (by omega)]; omega), if_pos rfl, hM, rdI_o (by omega) (by omega), wrI_o (by omega) (by omega)]
      unfold f_X12_move_42
      rw [bN_e, e51, o_addl, o_addl]
      exact g1 kx
    · by_cases hk0 : k = 0
      · subst hk0
        rw [g4 _ _ (by omega) (by omega), sI_g, if_neg (by omega), sI_g, if_pos ⟨rfl, by omega⟩]
        rfl
      · have := g2 (k - 1) (by omega)
        rw [show o + 1 + (k - 1) = o + k by omega, show j + 1 + (k - 1) = j + k by omega, sI_g, if_neg (by omega), sI_g, if_neg (by omega)] at this
        exact this
    · rw [g4 a i (by omega) q2, sI_g, if_neg q2, sI_g, if_neg (by omega)]
theorem movK {a1 n1 N o : Nat} (ha : a1 ≠ 76 ∧ a1 ≠ 103) (hn1 : n1 ≤ 2000) (hN : N ≤ n1) (ho : o + N ≤ 150) {M : k_M} (hM : M.1 76 51 = Int32.ofNat o) : ∃ M', f_X12_move a1 n1 (Int32.ofNat N) 1 M = some ((), M') ∧ (∀ k, k < N → M'.1 103 (o + k) = M.1 a1 k) ∧ M'.1 76 51 = Int32.ofNat (o + N) ∧ (∀ a i, ¬ (a = 103 ∧ o ≤ i ∧ i < o + N) → ¬ (a = 76 ∧ i = 51) → M'.1 a i = M.1 a i) ∧ M'.2 = M.2 := by
  obtain ⟨M', g1, g2, g3, g4, g5⟩ := moveK ha hn1 N k_fu 0 o N M (by omega) hN ho (by unfold k_fu; omega) hM
  refine ⟨M', ?_, fun k hk => ?_, g3, g4, g5⟩
  · unfold f_X12_move
    rw [e0z, g1]
    rfl
  · have := g2 k hk
    rw [Nat.zero_add] at this
    exact this
theorem movA {a1 n1 N o : Nat} (ha : a1 ≠ 76 ∧ a1 ≠ 103) (hn1 : n1 ≤ 2000) (hN : N ≤ n1) (ho : o + N ≤ 150) {M : k_M} (hM : M.1 76 51 = Int32.ofNat o) : ∃ M', f_X12_move a1 n1 (Int32.ofNat N) 0 M = some ((), M') ∧ (∀ k, k < N → M'.1 a1 k = M.1 103 (o + k)) ∧ M'.1 76 51 = Int32.ofNat (o + N) ∧ (∀ a i, ¬ (a = a1 ∧ i < N) → ¬ (a = 76 ∧ i = 51) → M'.1 a i = M.1 a i) ∧ M'.2 = M.2 := by
  obtain ⟨M', g1, g2, g3, g4, g5⟩ := moveA ha hn1 N k_fu 0 o N M (by omega) hN ho (by unfold k_fu; omega) hM
  refine ⟨M', ?_, fun k hk => ?_, g3, fun a i q1 q2 => g4 a i (by omega) q2, g5⟩
  · unfold f_X12_move
    rw [e0z]
    have := g1 (fun M_ => f_X12_move_58 a1 n1 M_)
    rw [e0z] at this
    rw [this]
    rfl
  · have := g2 k hk
    rw [Nat.zero_add] at this
    exact this
/-- the single numbers are laid ready -/
theorem mAll_s (p : Int32) (M : k_M) (hc : M.1 76 7 = 0 ∨ M.1 76 7 = 1) : ∃ M1, f_X12_moveAll p M = bd (f_X12_move 104 5 (Int32.ofNat 5) p M1) (fun r2 M3 => bd (f_X12_move 77 24 (Int32.ofNat 24) p M3) (fun r4 M5 => bd (f_X12_move 78 60 (Int32.ofNat 60) p M5) (fun r6 M7 => bd (f_X12_move 79 13 (Int32.ofNat 13) p M7) (fun r8 M9 => bd (f_X12_move 81 12 (Int32.ofNat 12) p M9) (fun r10 M11 => bd (f_X12_move 82 1100 (Int32.ofNat 25) p M11) (fun r12 M13 => some ((), M13))))))) ∧ M1.1 76 51 = Int32.ofNat 0 ∧ M1.1 104 0 = M.1 76 0 ∧ M1.1 104 1 = M.1 76 2 ∧ M1.1 104 2 = M.1 76 8 ∧ M1.1 104 3 = M.1 76 6 ∧ M1.1 104 4 = M.1 76 7 ∧ (∀ a j, a ≠ 104 → ¬ (a = 76 ∧ j = 51) → M1.1 a j = M.1 a j) ∧ M1.2 = M.2 := by
  refine ⟨sI (sI (sI (sI (sI (sI M 76 51 0) 104 0 (M.1 76 0)) 104 1 (M.1 76 2)) 104 2 (M.1 76 8)) 104 3 (M.1 76 6)) 104 4 (M.1 76 7), ?_, ?_, ?_, ?_, ?_, ?_, ?_, fun a j q1 q2 => ?_, rfl⟩
  · unfold f_X12_moveAll
    rw [bN_e, wrI_l (by omega) (by omega), wrI_l (by omega) (by omega), wrI_l (by omega) (by omega), wrI_l (by omega) (by omega)]
    have v0 : (sI M 76 51 0).1 76 0 = M.1 76 0 := by rw [sI_g, if_neg (by omega)]
    have v2 : ∀ a, (sI (sI M 76 51 0) 104 0 a).1 76 2 = M.1 76 2 := fun a => by rw [sI_g, if_neg (by omega), sI_g, if_neg (by omega)]
    have v8 : ∀ a b, (sI (sI (sI M 76 51 0) 104 0 a) 104 1 b).1 76 8 = M.1 76 8 := fun a b => by rw [sI_g, if_neg (by omega), sI_g, if_neg (by omega), sI_g, if_neg (by omega)]
    have v6 : ∀ a b c, (sI (sI (sI (sI M 76 51 0) 104 0 a) 104 1 b) 104 2 c).1 76 6 = M.1 76 6 := fun a b c => by rw [sI_g, if_neg (by omega), sI_g, if_neg (by omega), sI_g, if_neg (by omega), sI_g, if_neg (by omega)]
    have v7 : ∀ a b c d, (sI (sI (sI (sI (sI M 76 51 0) 104 0 a) 104 1 b) 104 2 c) 104 3 d).1 76 7 = M.1 76 7 := fun a b c d => by rw [sI_g, if_neg (by omega), sI_g, if_neg (by omega), sI_g, if_neg (by omega), sI_g, if_neg (by omega), sI_g, if_neg (by omega)]
    rw [v0, v2, v8, v6, v7]
    unfold f_X12_moveAll_62
    rcases hc with hc | hc
    · rw [if_pos hc, wrI_l (by omega) (by omega), hc]
      rfl
    · rw [if_neg (by rw [hc]; decide), wrI_l (by omega) (by omega), hc]
      rfl
  · rw [sI_g, if_neg (by omega), sI_g, if_neg (by omega), sI_g, if_neg (by omega), sI_g, if_neg (by omega), sI_g, if_neg (by omega), sI_g, if_pos ⟨rfl, rfl⟩]
    rfl
  · rw [sI_g, if_neg (by omega), sI_g, if_neg (by omega), sI_g, if_neg (by omega), sI_g, if_neg (by omega), sI_g, if_pos ⟨rfl, rfl⟩]
  · rw [sI_g, if_neg (by omega), sI_g, if_neg (by omega), sI_g, if_neg (by omega), sI_g, if_pos ⟨rfl, rfl⟩]
  · rw [sI_g, if_neg (by omega), sI_g, if_neg (by omega), sI_g, if_pos ⟨rfl, rfl⟩]
  · rw [sI_g, if_neg (by omega), sI_g, if_pos ⟨rfl, rfl⟩]
  · rw [sI_g, if_pos ⟨rfl, rfl⟩]
  · rw [sI_g, if_neg (by omega), sI_g, if_neg (by omega), sI_g, if_neg (by omega), sI_g, if_neg (by omega), sI_g, if_neg (by omega), sI_g, if_neg q2]
theorem th_01 {M : k_M} (h : R M) : M.1 76 7 = 0 ∨ M.1 76 7 = 1 := by
  obtain ⟨np, nw, nr, a1, a2, a3, h1, h2, h3, h4, h5, h6, h7⟩ := h.1
  rcases h6 with h6 | ⟨h6, -⟩
  · exact .inl h6
  · exact .inr h6
theorem c_keep : Call f_X11_keep f_X12_keep := by
  intro M h
  have h01 := th_01 h
  obtain ⟨np, nw, nr, a1, a2, a3, hWR⟩ := h.1
  have hWR' := hWR
  obtain ⟨h1, h2, h3, h4, h5, h6, h7, h8, h9⟩ := hWR
  obtain ⟨X, x1, x2, x3, x4, x5, x6⟩ := copyW (w := 23) (v := 3) (by unfold dsj; omega) M (by rw [h5]; exact h01) h9.2.2.2
  have xe : ∀ a j, ¬ (23 ≤ a ∧ a < 43) → X.1 a j = M.1 a j := fun a j ha => x2.2 a j (fun i e hk => by unfold KW KL at hk; omega)
  obtain ⟨X2, hX2⟩ : ∃ X2, X2 = sI X 0 4 1 := ⟨_, rfl⟩
  have x2e : ∀ a j, ¬ (23 ≤ a ∧ a < 43) → ¬ (a = 0 ∧ j = 4) → X2.1 a j = M.1 a j := fun a j q1 q2 => by rw [hX2, sI_g, if_neg q2]; exact xe a j q1
  obtain ⟨M1, m1, m2, s0, s1, s2, s3, s4, m3, m4⟩ := mAll_s 1 X2 (by rw [x2e _ _ (by omega) (by omega)]; exact h01)
  obtain ⟨A, A1, A2, A3, A4, A5⟩ := movK (a1 := 104) (n1 := 5) (N := 5) (o := 0) (by omega) (by omega) (by omega) (by omega) m2
  obtain ⟨B, B1, B2, B3, B4, B5⟩ := movK (a1 := 77) (n1 := 24) (N := 24) (o := 0 + 5) (by omega) (by omega) (by omega) (by omega) A3
  obtain ⟨C, C1, C2, C3, C4, C5⟩ := movK (a1 := 78) (n1 := 60) (N := 60) (o := 0 + 5 + 24) (by omega) (by omega) (by omega) (by omega) B3
  obtain ⟨D, D1, D2, D3, D4, D5⟩ := movK (a1 := 79) (n1 := 13) (N := 13) (o := 0 + 5 + 24 + 60) (by omega) (by omega) (by omega) (by omega) C3
  obtain ⟨E, E1, E2, E3, E4, E5⟩ := movK (a1 := 81) (n1 := 12) (N := 12) (o := 0 + 5 + 24 + 60 + 13) (by omega) (by omega) (by omega) (by omega) D3
  obtain ⟨F, F1, F2, F3, F4, F5⟩ := movK (a1 := 82) (n1 := 1100) (N := 25) (o := 0 + 5 + 24 + 60 + 13 + 12) (by omega) (by omega) (by omega) (by omega) E3
  obtain ⟨G, hG⟩ : ∃ G, G = sI F 76 49 1 := ⟨_, rfl⟩
  have low : ∀ a j, a ≠ 103 → a ≠ 104 → ¬ (a = 76 ∧ (j = 51 ∨ j = 49)) → G.1 a j = X2.1 a j := fun a j q1 q2 q3 => by
    rw [hG, sI_g, if_neg (by omega), F4 a j (by omega) (by omega), E4 a j (by omega) (by omega), D4 a j (by omega) (by omega), C4 a j (by omega) (by omega), B4 a j (by omega) (by omega), A4 a j (by omega) (by omega), m3 a j q2 (by omega)]
  have gF : ∀ j, G.1 103 j = F.1 103 j := fun j => by rw [hG, sI_g, if_neg (by omega)]
  have c0 : ∀ k, k < 5 → G.1 103 k = M1.1 104 k := fun k hk => by
    rw [gF, F4 _ _ (by omega) (by omega), E4 _ _ (by omega) (by omega), D4 _ _ (by omega) (by omega), C4 _ _ (by omega) (by omega), B4 _ _ (by omega) (by omega)]
    have := A2 k hk
    rw [Nat.zero_add] at this
    exact this
  have pre : ∀ a j, a ≠ 103 → a ≠ 104 → a ≠ 76 → ¬ (23 ≤ a ∧ a < 43) → a ≠ 0 → M1.1 a j = M.1 a j := fun a j q1 q2 q3 q4 q5 => by rw [m3 a j q2 (by omega), x2e a j q4 (by omega)]
  have c1 : ∀ k, k < 24 → G.1 103 (5 + k) = M.1 77 k := fun k hk => by
    rw [gF, F4 _ _ (by omega) (by omega), E4 _ _ (by omega) (by omega), D4 _ _ (by omega) (by omega), C4 _ _ (by omega) (by omega)]
    have := B2 k hk
    rw [Nat.zero_add] at this
    rw [this, A4 _ _ (by omega) (by omega), pre 77 k (by omega) (by omega) (by omega) (by omega) (by omega)]
  have c2 : ∀ k, k < 60 → G.1 103 (29 + k) = M.1 78 k := fun k hk => by
    rw [gF, F4 _ _ (by omega) (by omega), E4 _ _ (by omega) (by omega), D4 _ _ (by omega) (by omega)]
    have := C2 k hk
    rw [show 0 + 5 + 24 + k = 29 + k by omega] at this
    rw [this, B4 _ _ (by omega) (by omega), A4 _ _ (by omega) (by omega), pre 78 k (by omega) (by omega) (by omega) (by omega) (by omega)]
  have c3 : ∀ k, k < 13 → G.1 103 (89 + k) = M.1 79 k := fun k hk => by
    rw [gF, F4 _ _ (by omega) (by omega), E4 _ _ (by omega) (by omega)]
    have := D2 k hk
    rw [show 0 + 5 + 24 + 60 + k = 89 + k by omega] at this
    rw [this, C4 _ _ (by omega) (by omega), B4 _ _ (by omega) (by omega), A4 _ _ (by omega) (by omega), pre 79 k (by omega) (by omega) (by omega) (by omega) (by omega)]
  have c4 : ∀ k, k < 12 → G.1 103 (102 + k) = M.1 81 k := fun k hk => by
    rw [gF, F4 _ _ (by omega) (by omega)]
    have := E2 k hk
    rw [show 0 + 5 + 24 + 60 + 13 + k = 102 + k by omega] at this
    rw [this, D4 _ _ (by omega) (by omega), C4 _ _ (by omega) (by omega), B4 _ _ (by omega) (by omega), A4 _ _ (by omega) (by omega), pre 81 k (by omega) (by omega) (by omega) (by omega) (by omega)]
  have c5 : ∀ k, k < 25 → G.1 103 (114 + k) = M.1 82 k := fun k hk => by
    rw [gF]
    have := F2 k hk
    rw [show 0 + 5 + 24 + 60 + 13 + 12 + k = 114 + k by omega] at this
    rw [this, E4 _ _ (by omega) (by omega), D4 _ _ (by omega) (by omega), C4 _ _ (by omega) (by omega), B4 _ _ (by omega) (by omega), A4 _ _ (by omega) (by omega), pre 82 k (by omega) (by omega) (by omega) (by omega) (by omega)]
  have gd : G.2 = X.2 := by rw [hG, sI_2, F5, E5, D5, C5, B5, A5, m4, hX2, sI_2]
  have gl : ∀ a j, a ≠ 103 → a ≠ 104 → ¬ (a = 76 ∧ (j = 51 ∨ j = 49)) → ¬ (23 ≤ a ∧ a < 43) → ¬ (a = 0 ∧ j = 4) → G.1 a j = M.1 a j := fun a j q1 q2 q3 q4 q5 => by rw [low a j q1 q2 q3, x2e a j q4 q5]
  refine ⟨1, X2, G, ?_, ?_, ?_⟩
  · unfold f_X11_keep
    rw [x1, bd_s, bN_e, ← hX2]
  · unfold f_X12_keep
    rw [m1, A1, bd_s, B1, bd_s, C1, bd_s, D1, bd_s, E1, bd_s, F1, bd_s, bd_s, bN_e, ← hG]
  · obtain ⟨hN, hK, hT, hW, hS, hF, hA, hB⟩ := h
    have hn : M.2.2.2 ≤ G.2.2.2 := by rw [gd, x4]; exact Nat.le_refl _
    refine ⟨RN_fr (fun a j hl => gl a j (by unfold locN at hl; omega) (by unfold locN at hl; omega) (by unfold locN rlv at hl; omega) (by unfold locN at hl; omega) (by unfold locN at hl; omega)) ?_ hn hN, ?_, RT_fr (fun a j hl => gl a j (by unfold locT at hl; omega) (by unfold locT at hl; omega) (by unfold locT at hl; omega) (by unfold locT at hl; omega) (by unfold locT at hl; omega)) hT, RW_fr (fun a j hl => gl a j (by unfold locW at hl; omega) (by unfold locW at hl; omega) (by unfold locW at hl; omega) (by unfold locW at hl; omega) (by unfold locW at hl; omega)) hW, RS_fr (fun a j hl => gl a j (by unfold locS at hl; omega) (by unfold locS at hl; omega) (by unfold locS at hl; omega) (by unfold locS at hl; omega) (by unfold locS at hl; omega)) (fun a j _ => by rw [gd, x3]) hS, RF_fr (fun a j hl => gl a j (by unfold locF at hl; omega) (by unfold locF at hl; omega) (by unfold locF at hl; omega) (by unfold locF at hl; omega) (by unfold locF at hl; omega)) hF, RA_fr (fun a j hl => gl a j (by unfold locA at hl; omega) (by unfold locA at hl; omega) (by unfold locA at hl; omega) (by unfold locA at hl; omega) (by unfold locA at hl; omega)) hA, RB_fr (fun j => gl 80 j (by omega) (by omega) (by omega) (by omega) (by omega)) hn hB⟩
    · rw [gd]
      funext i
      exact x6 _ _ (by omega)
    · have g4 : G.1 0 4 = 1 := by rw [low 0 4 (by omega) (by omega) (by omega), hX2, sI_g, if_pos ⟨rfl, rfl⟩]
      refine ⟨by rw [g4, hG, sI_g, if_pos ⟨rfl, rfl⟩], .inr ⟨g4, np, nw, nr, ?_, ?_, ?_, ?_⟩⟩
      · rw [c0 0 (by omega), s0, x2e _ _ (by omega) (by omega)]; exact a1
      · rw [c0 1 (by omega), s1, x2e _ _ (by omega) (by omega)]; exact a2
      · rw [c0 2 (by omega), s2, x2e _ _ (by omega) (by omega)]; exact a3
      · rw [c0 3 (by omega), s3, x2e 76 6 (by omega) (by omega), c0 4 (by omega), s4, x2e 76 7 (by omega) (by omega)]
        refine WR_vw c1 c2 c3 c4 c5 ?_
        have w23 := WR_cp (w := 23) (v := 3) (by omega) x2 x4 x5 hWR'
        refine WR_fr (fun i j q1 _ _ => ?_) (fun q j q1 _ => ?_) ?_ (by rw [gd]; exact Nat.le_refl _) (fun _ _ => rfl) rfl rfl rfl rfl w23
        · rw [low _ _ (by omega) (by omega) (by omega), hX2, sI_g, if_neg (by omega)]
        · rw [low _ _ (by omega) (by omega) (by omega), hX2, sI_g, if_neg (by omega)]
        · rw [gd]
