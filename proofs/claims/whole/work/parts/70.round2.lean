/-! ===== the pure layer: round, the call ===== -/
theorem isSd_e (x : Int32) (M : k_M) : f_X12_isSide x M = some (if 0 ≤ x ∧ x ≤ 1 then 1 else 0, M) := by
  unfold f_X12_isSide
  rw [in_e, bd_s, ckZ_b]
theorem rwX_stX43 (X : k_M) (r : k_r) {np nw : Nat} (hnp : np ≤ 8) (hnw : nw ≤ 12) : rEq np nw (rwX (stX X 43 r) 43) r := RX_rEq hnp (rEq_RX hnp hnw (rEq_rfl r))
theorem b_eq {a b : Int32} {P Q : Prop} (ha : a = 0 ∨ a = 1) (hb : b = 0 ∨ b = 1) (h1 : a = 1 ↔ P) (h2 : b = 1 ↔ Q) (h : P ↔ Q) : a = b := by
  have h3 : a = 1 ↔ b = 1 := h1.trans (h.trans h2.symm)
  rcases ha with ha | ha
  · rcases hb with hb | hb
    · rw [ha, hb]
    · have := h3.mpr hb
      rw [ha] at this
      exact absurd this (by decide)
  · rw [ha, h3.mp ha]
theorem c_round (x y : Int32) : Call (f_X11_round x y) (f_X12_round x y) := by
  intro M h
  have ht := there_e h
  by_cases hx : 0 ≤ x ∧ x ≤ 3
  · obtain ⟨s, hs, rfl⟩ := ex_o (n := 3) (by omega) hx.1 hx.2
    by_cases hy : 0 ≤ y ∧ y ≤ 1
    · have x1 : f_X11_round (Int32.ofNat s) y M = if (M.1 3 3) = 0 then some (-4, M) else rdI M 64 4 (Int32.ofNat s) (fun v5 => if v5 = (-1) then some (-11, M) else rdI M 64 4 (Int32.ofNat s) (fun v6 => if v6 = 0 then rdI M 65 4 (Int32.ofNat s) (fun v7 => bd (f_X10_copyFrom 43 3 M) (fun r8 M9 => f_X11_round_79 k_fu (Int32.ofNat s) y v7 0 M9 (fun l2_ l3_ l4_ M_ => f_X11_round_112 l2_ l3_ l4_ M_))) else some (-13, M))) := by
        unfold f_X11_round
        rw [within_e, bd_s, if_pos hx, if_neg (by decide), within_e, bd_s, if_pos hy, if_neg (by decide)]
      have m1 : ∀ N, f_X12_round (Int32.ofNat s) y N = if (N.1 76 7) = 0 then some (-4, N) else bd (f_X12_lacksSort (Int32.ofNat s) 0 N) (fun r5 M6 => if r5 = 0 then f_X12_round_45 k_fu (Int32.ofNat s) y 0 1 M6 (fun l2_ l4_ l5_ M_ => f_X12_round_124 l2_ l4_ l5_ M_) else some (r5, M6)) := fun N => by
        unfold f_X12_round
        rw [isSh_e, bd_s, if_pos hx, if_neg (by decide), isSd_e, bd_s, if_pos hy, if_neg (by decide)]
      by_cases h0 : M.1 76 7 = 0
      · refine ⟨-4, M, M, ?_, ?_, h⟩
        · rw [x1, if_pos (by rw [ht]; exact h0)]
        · rw [m1, if_pos h0]
      · rw [if_neg (by rw [ht]; exact h0), rdI_o (by omega) (by omega)] at x1
        have hSs := h.2.2.2.2.1 s (by omega)
        have hso : M.1 96 s = -1 ∨ Bn (M.1 96 s) 3 := hSs.2.imp id (fun q => q.1)
        have hneg := neg_sort hso
        by_cases hm : M.1 96 s = -1
        · refine ⟨-11, M, M, ?_, ?_, h⟩
          · rw [x1, hSs.1, if_pos hm]
          · rw [m1, if_neg h0]
            unfold f_X12_lacksSort
            rw [rdI_o (by omega) (by omega), if_neg (by rw [← hneg]; exact hm), bd_s, if_neg (by decide)]
        · have hge : 0 ≤ M.1 96 s := by
            by_cases hq : 0 ≤ M.1 96 s
            · exact hq
            · rw [← hneg] at hq
              exact absurd hq hm
          rw [hSs.1, if_neg hm, rdI_o (by omega) (by omega), hSs.1] at x1
          by_cases hz : M.1 96 s = 0
          · rw [if_pos hz, rdI_o (by omega) (by omega)] at x1
            obtain ⟨-, s1, s2, s3⟩ := hSs.2.resolve_left hm
            obtain ⟨n, n40, hn⟩ := s2
            obtain ⟨np, nw, nr, hH⟩ := here_of h h0
            obtain ⟨X, c1, c2, c3, c4, c5, c6, c7, c8⟩ := trial h hH
            have np8 := c7.1.1
            have nw12 := c7.1.2.1
            have e1 := roundX (it := fun j => (M.2.1 98 (40 * s + j)).toInt32) (s := s) (n := n) c5 c6 (by omega) n40 (fun j hj => by rw [c3, s3 j (by omega)]) y (fun l2_ l3_ l4_ M_ => f_X11_round_112 l2_ l3_ l4_ M_) n k_fu 0 (rwX X 43) (by omega) (by unfold k_fu; omega) c7
            rw [← stX_self] at e1
            obtain ⟨r', hr'⟩ : ∃ r', r' = (rd nw (M.1 77) (M.1 78) (M.1 79) (M.1 76 6) (fun j => (M.2.1 98 (40 * s + j)).toInt32) n 0 (rwX X 43)).2 := ⟨_, rfl⟩
            obtain ⟨c, hc⟩ : ∃ c, c = (rd nw (M.1 77) (M.1 78) (M.1 79) (M.1 76 6) (fun j => (M.2.1 98 (40 * s + j)).toInt32) n 0 (rwX X 43)).1 := ⟨_, rfl⟩
            have hcn : c ≤ n := by
              have := rd_le (nw := nw) (pl := M.1 77) (wy := M.1 78) (lw := M.1 79) (rn := M.1 76 6) (it := fun j => (M.2.1 98 (40 * s + j)).toInt32) n 0 (rwX X 43)
              omega
            rw [← hr', ← hc] at e1
            obtain ⟨B, hB⟩ : ∃ B, B = stX X 43 r' := ⟨_, rfl⟩
            have be : ∀ a j, ¬ (43 ≤ a ∧ a < 63) → B.1 a j = M.1 a j := fun a j ha => by rw [hB, stX_o (by unfold onX; omega)]; exact c2 a j ha
            have bc : ∀ a, ¬ (43 ≤ a ∧ a < 63) → B.1 a = M.1 a := fun a ha => funext fun j => be a j ha
            have b2 : B.2.1 = M.2.1 := by rw [hB]; exact c3
            have er : rwM B 0 = rwM M 0 := by
              unfold rwM
              rw [bc 82 (by omega)]
            have hSB : Sd np nw (B.1 77) (B.1 78) (B.1 79) (rwM B 0) := by rw [bc 77 (by omega), bc 78 (by omega), bc 79 (by omega), er]; exact hH.2.2.2.2.1
            obtain ⟨N, e2, e3, e4⟩ := roundM (B := B) (np := np) (nw := nw) (n := n) (s := s) (it := fun j => (M.2.1 98 (40 * s + j)).toInt32) (by rw [bc 76 (by omega)]; exact hH.1.2.1) (by omega) n40 (by rw [bc 97 (by omega)]; exact hn) (fun j hj => by rw [b2]) y n k_fu 0 B (by omega) (by unfold k_fu; omega) (TB_rfl B) hSB
            rw [bc 77 (by omega), bc 78 (by omega), bc 79 (by omega), bc 76 (by omega), er] at e2 e4
            have hcg := rd_cg (rn := M.1 76 6) (it := fun j => (M.2.1 98 (40 * s + j)).toInt32) n 0 _ _ c7 c8
            rw [← hcg.1, ← hc] at e2 e4
            have fB : FR M B := FR_tr c4 (by rw [hB]; exact stX_FR43 X r')
            have fN : FR M N := FR_tr fB (TB_FR e3)
            have X1 : f_X11_round (Int32.ofNat s) y M = f_X11_round_112 y (Int32.ofNat n) (Int32.ofNat c) B := by
              rw [x1, c1, bd_s, s1, hn, hB]
              exact e1
            have M1 : f_X12_round (Int32.ofNat s) y B = f_X12_round_124 y (Int32.ofNat c) (if c = n then 1 else 0) N := by
              rw [m1, bc 76 (by omega), if_neg h0]
              unfold f_X12_lacksSort
              rw [rdI_o (by omega) (by omega), bc 96 (by omega), if_pos hge, rdI_o (by omega) (by omega), bc 96 (by omega), if_pos hz, bd_s, if_pos rfl]
              exact e2 _
            by_cases hy0 : y = 0
            · refine ⟨Int32.ofNat c, B, N, ?_, ?_, R_fr fN h⟩
              · rw [X1]
                unfold f_X11_round_112
                rw [if_pos hy0]
              · rw [M1]
                unfold f_X12_round_124
                rw [if_pos hy0]
            · by_cases hcn2 : c = n
              · subst hcn2
                have lx : LX 43 B np nw (M.1 77) (M.1 78) := by
                  rw [hB]
                  exact LX_fr (fun i j q1 q2 q3 q4 => stX_o (by unfold onX; omega)) c6
                obtain ⟨b1, g1, g2, g3⟩ := noWorse (M := B) (w := 43) (v := 3) lx.1 lx.2.1 np8 nw12
                have hNw : ∀ a, a ≠ 82 → N.1 a = B.1 a := fun a ha => TB_c e3 ha
                obtain ⟨b2, g4, g5, g6⟩ := everM (M := N) (np := np) (nw := nw) (d := c) (by rw [hNw 76 (by omega), bc 76 (by omega)]; exact hH.1.1) (by rw [hNw 76 (by omega), bc 76 (by omega)]; exact hH.1.2.1) np8 nw12 (by omega)
                have q1 : rEq np nw (rwX B 43) (rwM N c) := by
                  refine rEq_tr ?_ (e4 rfl)
                  rw [hB]
                  refine rEq_tr (rwX_stX43 X r' np8 nw12) ?_
                  rw [hr']
                  exact hcg.2
                have q2 : rEq np nw (rwX B 3) (rwM N 0) := by
                  have a1 : rwX B 3 = rwX M 3 := by
                    unfold rwX
                    rw [bc 3 (by omega), bc (3 + 17) (by omega), bc (3 + 5) (by omega), bc (3 + 12) (by omega)]
                  have a2 : rwM N 0 = rwM M 0 := by
                    funext k
                    by_cases hk : k < 25
                    · rw [rwM_e _ _ hk, rwM_e _ _ hk, e3.1 _ _ (by omega), be _ _ (by omega)]
                    · unfold rwM
                      rw [if_neg hk, if_neg hk]
                  rw [a1, a2]
                  exact hH.2.2.2.2.2
                have hb : b1 = b2 := b_eq g2 g5 g3 g6 (nwP_cg q1 q2)
                refine ⟨if b1 = 0 then 0 else 1, B, N, ?_, ?_, R_fr fN h⟩
                · rw [X1]
                  unfold f_X11_round_112
                  rw [if_neg hy0, if_pos rfl, g1, bd_s]
                  by_cases hb0 : b1 = 0
                  · rw [if_pos hb0, if_pos hb0]
                  · rw [if_neg hb0, if_neg hb0]
                · rw [M1]
                  unfold f_X12_round_124
                  rw [if_neg hy0, if_pos rfl, if_neg (show ¬ (1 : Int32) = 0 by decide), g4, bd_s, ← hb]
                  by_cases hb0 : b1 = 0
                  · rw [if_pos hb0, if_pos hb0]
                  · rw [if_neg hb0, if_neg hb0]
              · refine ⟨0, B, N, ?_, ?_, R_fr fN h⟩
                · rw [X1]
                  unfold f_X11_round_112
                  rw [if_neg hy0, if_neg (by rw [o_eq (by omega) (by omega)]; exact hcn2)]
                · rw [M1]
                  unfold f_X12_round_124
                  rw [if_neg hy0, if_neg hcn2, if_pos rfl]
          · refine ⟨-13, M, M, ?_, ?_, h⟩
            · rw [x1, if_neg hz]
            · rw [m1, if_neg h0]
              unfold f_X12_lacksSort
              rw [rdI_o (by omega) (by omega), if_pos hge, rdI_o (by omega) (by omega), if_neg hz, bd_s, if_neg (by decide)]
    · refine ⟨-1, M, M, ?_, ?_, h⟩
      · unfold f_X11_round
        rw [within_e, bd_s, if_pos hx, if_neg (by decide), within_e, bd_s, if_neg hy, if_pos rfl]
      · unfold f_X12_round
        rw [isSh_e, bd_s, if_pos hx, if_neg (by decide), isSd_e, bd_s, if_neg hy, if_pos rfl]
  · refine ⟨-1, M, M, ?_, ?_, h⟩
    · unfold f_X11_round
      rw [within_e, bd_s, if_neg hx, if_pos rfl]
    · unfold f_X12_round
      rw [isSh_e, bd_s, if_neg hx, if_pos rfl]
