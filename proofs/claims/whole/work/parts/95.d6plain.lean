/-! ===== the pure layer: plain ===== -/
theorem some_2 {α : Type} {a b : α} {M N : k_M} (h : (some (a, M) : Option (α × k_M)) = some (b, N)) : a = b ∧ M = N := by
  have := Option.some.inj h
  exact Prod.mk.inj this
theorem start_l {f : Nat → Nat} {n : Nat} {M N : k_M} (hM : BX M f n) (hN : BM N f n) :
    (∃ X Y, f_X7_readInto 43 M = some (X.1 1 3, X) ∧ f_X12_plain N = f_X12_plain_77 Y ∧ OutF M N X Y) ∨
    (∃ X Y np nw s, f_X7_readInto 43 M = some (-1, X) ∧ f_X12_plain N = f_X12_plain_77 Y ∧ Qq f n M N np nw s X Y) := by
  have hn := hM.1
  obtain ⟨C, hC⟩ : ∃ C, C = sI (sI (sI M 44 0 0) 44 7 0) 1 4 0 := ⟨_, rfl⟩
  have Cl : ∀ a j, ¬ (a = 44 ∧ (j = 0 ∨ j = 7)) → ¬ (a = 1 ∧ j = 4) → C.1 a j = M.1 a j := fun a j q1 q2 => by rw [hC, sI_g, if_neg q2, sI_g, if_neg (by omega), sI_g, if_neg (by omega)]
  have C0 : C.1 44 0 = 0 := by rw [hC, sI_g, if_neg (by omega), sI_g, if_neg (by omega), sI_g, if_pos ⟨rfl, rfl⟩]
  have C7 : C.1 44 7 = 0 := by rw [hC, sI_g, if_neg (by omega), sI_g, if_pos ⟨rfl, rfl⟩]
  have C4 : C.1 1 4 = Int32.ofNat 0 := by rw [hC, sI_g, if_pos ⟨rfl, rfl⟩]; rfl
  have Cd : C.2 = M.2 := by rw [hC]; rfl
  have bC : BX C f n := ⟨hn, by rw [Cl _ _ (by omega) (by omega)]; exact hM.2.1, fun k hk => by rw [Cl _ _ (by omega) (by omega)]; exact hM.2.2 k hk⟩
  obtain ⟨X0, x1, x2, x3, x4⟩ := TX_of bC C4 (by omega)
  obtain ⟨D, hD⟩ : ∃ D, D = sI (sI (sI (sI N 76 15 0) 76 18 1) 76 19 0) 76 20 0 := ⟨_, rfl⟩
  have Dl : ∀ a j, ¬ (a = 76 ∧ 13 ≤ j ∧ j ≤ 20) → D.1 a j = N.1 a j := fun a j q => by rw [hD, sI_g, if_neg (by omega), sI_g, if_neg (by omega), sI_g, if_neg (by omega), sI_g, if_neg (by omega)]
  have D15 : D.1 76 15 = Int32.ofNat 0 := by rw [hD, sI_g, if_neg (by omega), sI_g, if_neg (by omega), sI_g, if_neg (by omega), sI_g, if_pos ⟨rfl, rfl⟩]; rfl
  have D18 : D.1 76 18 = 1 := by rw [hD, sI_g, if_neg (by omega), sI_g, if_neg (by omega), sI_g, if_pos ⟨rfl, rfl⟩]
  have D19 : D.1 76 19 = Int32.ofNat 0 := by rw [hD, sI_g, if_neg (by omega), sI_g, if_pos ⟨rfl, rfl⟩]; rfl
  have D20 : D.1 76 20 = Int32.ofNat 0 := by rw [hD, sI_g, if_pos ⟨rfl, rfl⟩]; rfl
  have Dd : D.2 = N.2 := by rw [hD]; rfl
  have bD : BM D f n := ⟨hn, by rw [Dl _ _ (by omega)]; exact hN.2.1, fun k hk => by rw [Dl _ _ (by omega)]; exact hN.2.2 k hk⟩
  obtain ⟨Y0, y1, y2, y3, y4, y5⟩ := TM_of bD D15 (by omega)
  have hQ : Qq f n M N 0 0 (skp f n (n - 0) 0) X0 Y0 := by
    refine ⟨x2, y2, by rw [y3 _ _ (by omega)]; exact D18, ⟨⟨by omega, by omega, fun p hp => absurd hp (Nat.not_lt_zero p), fun v hv => absurd hv (Nat.not_lt_zero v)⟩, ⟨?_, ?_, fun p hp => absurd hp (Nat.not_lt_zero p), fun v hv => absurd hv (Nat.not_lt_zero v)⟩, by rw [y3 _ _ (by omega)]; exact D19, by rw [y3 _ _ (by omega)]; exact D20, fun p hp => absurd hp (Nat.not_lt_zero p), fun p hp => absurd hp (Nat.not_lt_zero p), fun p hp => absurd hp (Nat.not_lt_zero p)⟩, ⟨fun a j q1 q2 => by rw [x3 a j q1, Cl a j (by omega) (by omega)], x4.trans Cd⟩, ⟨fun a j q1 q2 => by rw [y3 a j (by omega), Dl a j (by omega)], fun a j q => by rw [y4 a j q, Dd], by rw [y5, Dd]⟩⟩
    · show X0.1 44 0 = Int32.ofNat 0
      rw [x3 _ _ (by omega)]; exact C0
    · show X0.1 44 7 = Int32.ofNat 0
      rw [x3 _ _ (by omega)]; exact C7
  have ex : ∀ A, f_X7_readInto_15 43 k_fu 0 X0 (fun M_ => f_X7_readInto_37 43 M_) (fun M_ => f_X7_readInto_52 43 M_) = A → f_X7_readInto 43 M = A := fun A hA => by
    unfold f_X7_readInto f_X3_clear
    rw [bN_e, bN_e, bd_s, bN_e, ← hC, x1, bd_s]
    exact hA
  have em : ∀ A, f_X12_plain_24 k_fu Y0 (fun M_ => f_X12_plain_77 M_) = A → f_X12_plain N = A := fun A hA => by
    unfold f_X12_plain
    rw [bN_e, bN_e, bN_e, bN_e, ← hD, y1, bd_s]
    exact hA
  rcases text_l (n - skp f n (n - 0) 0) k_fu k_fu (skp f n (n - 0) 0) 0 0 0 X0 Y0 hQ (Nat.le_refl _) (by unfold k_fu; omega) (by unfold k_fu; omega) (Nat.zero_le _) with ⟨A, B, g1, g2, g3⟩ | ⟨A, B, np, nw, s, g1, g2, g3⟩
  · exact .inl ⟨A, B, ex _ (g1 _ _), em _ (g2 _), g3⟩
  · exact .inr ⟨A, B, np, nw, s, ex _ (g1 _ _), em _ (g2 _), g3⟩
theorem p115 : ∀ (m k j : Nat) (M : k_M), j + m = 24 → m < k → ∃ M', (∀ kx, f_X12_plain_115 k (Int32.ofNat j) M kx = kx M') ∧ (∀ i, j ≤ i → i < 24 → M'.1 77 i = M.1 84 i) ∧ (∀ a i, ¬ (a = 77 ∧ j ≤ i ∧ i < 24) → M'.1 a i = M.1 a i) ∧ M'.2 = M.2
  | 0, k, j, M, hj, hk => by
    obtain ⟨k, rfl⟩ : ∃ q, k = q + 1 := ⟨k - 1, by omega⟩
    refine ⟨M, fun kx => ?_, fun i h1 h2 => by omega, fun _ _ _ => rfl, rfl⟩
    rw [f_X12_plain_115, if_pos (by rw [o_lle (by omega) (by omega)]; omega)]
  | m + 1, k, j, M, hj, hk => by
    obtain ⟨k, rfl⟩ : ∃ q, k = q + 1 := ⟨k - 1, by omega⟩
    obtain ⟨M', g1, g2, g3, g4⟩ := p115 m k (j + 1) (sI M 77 j (M.1 84 j)) (by omega) (by omega)
    refine ⟨M', fun kx => ?_, fun i h1 h2 => ?_, fun a i hh => by rw [g3 a i (by omega), sI_g, if_neg (by omega)], g4⟩
    · rw [f_X12_plain_115, if_neg (by rw [o_lle (by omega) (by omega)]; omega), rdI_o (by omega) (by omega), wrI_o (by omega) (by omega), o_addl]
      exact g1 kx
    · by_cases hi : i = j
      · rw [hi, g3 _ _ (by omega), sI_g, if_pos ⟨rfl, rfl⟩]
      · rw [g2 i (by omega) h2, sI_g, if_neg (by omega)]
theorem p141 : ∀ (m k j : Nat) (M : k_M), j + m = 60 → m < k → ∃ M', (∀ kx, f_X12_plain_141 k (Int32.ofNat j) M kx = kx M') ∧ (∀ i, j ≤ i → i < 60 → M'.1 78 i = M.1 85 i) ∧ (∀ a i, ¬ (a = 78 ∧ j ≤ i ∧ i < 60) → M'.1 a i = M.1 a i) ∧ M'.2 = M.2
  | 0, k, j, M, hj, hk => by
    obtain ⟨k, rfl⟩ : ∃ q, k = q + 1 := ⟨k - 1, by omega⟩
    refine ⟨M, fun kx => ?_, fun i h1 h2 => by omega, fun _ _ _ => rfl, rfl⟩
    rw [f_X12_plain_141, if_pos (by rw [o_lle (by omega) (by omega)]; omega)]
  | m + 1, k, j, M, hj, hk => by
    obtain ⟨k, rfl⟩ : ∃ q, k = q + 1 := ⟨k - 1, by omega⟩
    obtain ⟨M', g1, g2, g3, g4⟩ := p141 m k (j + 1) (sI M 78 j (M.1 85 j)) (by omega) (by omega)
    refine ⟨M', fun kx => ?_, fun i h1 h2 => ?_, fun a i hh => by rw [g3 a i (by omega), sI_g, if_neg (by omega)], g4⟩
    · rw [f_X12_plain_141, if_neg (by rw [o_lle (by omega) (by omega)]; omega), rdI_o (by omega) (by omega), wrI_o (by omega) (by omega), o_addl]
      exact g1 kx
    · by_cases hi : i = j
      · rw [hi, g3 _ _ (by omega), sI_g, if_pos ⟨rfl, rfl⟩]
      · rw [g2 i (by omega) h2, sI_g, if_neg (by omega)]
/-- the end of the reference's plain, where all was well -/
theorem p77_ok {np nw : Nat} (hnp : np ≤ 8) (hnw : nw ≤ 12) {Y : k_M} (h18 : Y.1 76 18 = 1) (h19 : Y.1 76 19 = Int32.ofNat np) (h20 : Y.1 76 20 = Int32.ofNat nw) : ∃ Z, f_X12_plain_77 Y = some (Int32.ofNat np, Z) ∧ Z.1 76 0 = Int32.ofNat np ∧ Z.1 76 2 = Int32.ofNat nw ∧ Z.1 76 7 = 0 ∧ Z.1 76 12 = 0 ∧ Z.1 76 36 = 0 ∧ (∀ j, j < 24 → Z.1 77 j = Y.1 84 j) ∧ (∀ j, j < 60 → Z.1 78 j = Y.1 85 j) ∧ (∀ p, p < np → Z.1 82 (5 + p) = Y.1 84 (3 * p + 2)) ∧ (∀ v, v < nw → Z.1 82 (13 + v) = Y.1 85 (5 * v + 3)) ∧ (∀ a j, ¬ (a = 76 ∧ (j = 0 ∨ j = 2 ∨ j = 7 ∨ j = 12 ∨ j = 36)) → a ≠ 77 → a ≠ 78 → ¬ (a = 82 ∧ 5 ≤ j ∧ j < 25) → Z.1 a j = Y.1 a j) ∧ Z.2 = Y.2 := by
  obtain ⟨A, hA⟩ : ∃ A, A = sI Y 76 12 0 := ⟨_, rfl⟩
  obtain ⟨B, hB⟩ : ∃ B, B = sI A 76 0 (Int32.ofNat np) := ⟨_, rfl⟩
  obtain ⟨C, hC⟩ : ∃ C, C = sI B 76 2 (Int32.ofNat nw) := ⟨_, rfl⟩
  have A18 : A.1 76 18 = 1 := by rw [hA, sI_g, if_neg (by omega)]; exact h18
  have A19 : A.1 76 19 = Int32.ofNat np := by rw [hA, sI_g, if_neg (by omega)]; exact h19
  have B20 : B.1 76 20 = Int32.ofNat nw := by rw [hB, sI_g, if_neg (by omega), hA, sI_g, if_neg (by omega)]; exact h20
  have Cl : ∀ a j, ¬ (a = 76 ∧ (j = 0 ∨ j = 2 ∨ j = 12)) → C.1 a j = Y.1 a j := fun a j q => by rw [hC, sI_g, if_neg (by omega), hB, sI_g, if_neg (by omega), hA, sI_g, if_neg (by omega)]
  have C0 : C.1 76 0 = Int32.ofNat np := by rw [hC, sI_g, if_neg (by omega), hB, sI_g, if_pos ⟨rfl, rfl⟩]
  have C2 : C.1 76 2 = Int32.ofNat nw := by rw [hC, sI_g, if_pos ⟨rfl, rfl⟩]
  have C12 : C.1 76 12 = 0 := by rw [hC, sI_g, if_neg (by omega), hB, sI_g, if_neg (by omega), hA, sI_g, if_pos ⟨rfl, rfl⟩]
  obtain ⟨D, d1, d2, d3, d4⟩ := p115 24 k_fu 0 C (by omega) (by unfold k_fu; omega)
  obtain ⟨E, e1, e2, e3, e4⟩ := p141 60 k_fu 0 D (by omega) (by unfold k_fu; omega)
  obtain ⟨G, hG⟩ : ∃ G, G = sI (sI E 76 7 0) 76 36 0 := ⟨_, rfl⟩
  have Gl : ∀ a j, ¬ (a = 76 ∧ (j = 7 ∨ j = 36)) → G.1 a j = E.1 a j := fun a j q => by rw [hG, sI_g, if_neg (by omega), sI_g, if_neg (by omega)]
  have GC : ∀ a j, a ≠ 77 → a ≠ 78 → ¬ (a = 76 ∧ (j = 7 ∨ j = 36)) → G.1 a j = C.1 a j := fun a j q1 q2 q3 => by rw [Gl a j q3, e3 a j (by omega), d3 a j (by omega)]
  have G7 : G.1 76 7 = 0 := by rw [hG, sI_g, if_neg (by omega), sI_g, if_pos ⟨rfl, rfl⟩]
  have G36 : G.1 76 36 = 0 := by rw [hG, sI_g, if_pos ⟨rfl, rfl⟩]
  have G77 : ∀ j, j < 24 → G.1 77 j = Y.1 84 j := fun j hj => by rw [Gl _ _ (by omega), e3 _ _ (by omega), d2 j (by omega) hj, Cl _ _ (by omega)]
  have G78 : ∀ j, j < 60 → G.1 78 j = Y.1 85 j := fun j hj => by rw [Gl _ _ (by omega), e2 j (by omega) hj, d3 _ _ (by omega), Cl _ _ (by omega)]
  obtain ⟨Z, z1, z2, z3, z4, z5⟩ := refill_e hnp hnw G (by rw [GC _ _ (by omega) (by omega) (by omega)]; exact C0) (by rw [GC _ _ (by omega) (by omega) (by omega)]; exact C2)
  refine ⟨Z, ?_, ?_, ?_, ?_, ?_, ?_, fun j hj => ?_, fun j hj => ?_, fun p hp => ?_, fun v hv => ?_, fun a j q1 q2 q3 q4 => ?_, ?_⟩
  · unfold f_X12_plain_77
    rw [bN_e, ← hA, A18, if_neg (show ¬ (1 : Int32) = 0 by decide), bN_e, A19, ← hB, bN_e, B20, ← hC, e0z, d1]
    unfold f_X12_plain_139
    rw [e0z, e1]
    unfold f_X12_plain_165
    rw [bN_e, bN_e, ← hG, z1, bd_s, z4 _ _ (by omega), GC _ _ (by omega) (by omega) (by omega), C0]
  · rw [z4 _ _ (by omega), GC _ _ (by omega) (by omega) (by omega), C0]
  · rw [z4 _ _ (by omega), GC _ _ (by omega) (by omega) (by omega), C2]
  · rw [z4 _ _ (by omega), G7]
  · rw [z4 _ _ (by omega), GC _ _ (by omega) (by omega) (by omega), C12]
  · rw [z4 _ _ (by omega), G36]
  · rw [z4 _ _ (by omega), G77 j hj]
  · rw [z4 _ _ (by omega), G78 j hj]
  · rw [z2 p hp, G77 _ (by omega)]
  · rw [z3 v hv, G78 _ (by omega)]
  · rw [z4 _ _ (by omega), GC _ _ q2 q3 (by omega), Cl _ _ (by omega)]
  · rw [z5, hG, sI_2, sI_2, e4, d4, hC, hB, hA]
    rfl
theorem LX_cp {M M' : k_M} {np nw : Nat} {pl wy : Nat → Int32} (hF : WFl np nw pl wy) (c : CP 3 43 KL M M') (h : LX 43 M np nw pl wy) : LX 3 M' np nw pl wy := by
  obtain ⟨h1, h2, h3, h4⟩ := h
  have np8 := hF.1
  have nw12 := hF.2.1
  refine ⟨by rw [c.1 1 0 (by unfold KL; omega)]; exact h1, by rw [c.1 1 7 (by unfold KL; omega)]; exact h2, fun p hp => ?_, fun v hv => ?_⟩
  · have l4 := (hF.2.2.1 p hp).2.2.2
    rw [c.1 2 p (by unfold KL; omega), c.1 3 p (by unfold KL; omega), c.1 4 p (by unfold KL; omega), c.1 6 p (by unfold KL; omega)]
    obtain ⟨q1, q2, q3, q4, q5⟩ := h3 p hp
    exact ⟨q1, q2, q3, q4, fun i hi => by rw [c.1 7 _ (by unfold KL; omega)]; exact q5 i hi⟩
  · rw [c.1 8 v (by unfold KL; omega), c.1 9 v (by unfold KL; omega), c.1 10 v (by unfold KL; omega), c.1 11 v (by unfold KL; omega), c.1 13 v (by unfold KL; omega)]
    exact h4 v hv
