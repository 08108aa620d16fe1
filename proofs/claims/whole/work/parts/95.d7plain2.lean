/-! ===== the pure layer: plain, the call ===== -/
theorem c_plain : Call f_X11_plain f_X12_plain := by
  intro M h
  obtain ⟨n, n200, t1, t2, t3⟩ := h.2.2.1
  obtain ⟨f, hf⟩ : ∃ f : Nat → Nat, f = fun k => (M.1 83 k).toNatClampNeg := ⟨_, rfl⟩
  have fb : ∀ k, k < n → M.1 83 k = Int32.ofNat (f k) ∧ f k ≤ 255 := fun k hk => by
    obtain ⟨x, x1, x2⟩ := (t3 k hk).2
    have : f k = x := by
      rw [hf]
      show (M.1 83 k).toNatClampNeg = x
      rw [x2, o_nat (by omega)]
    rw [this]
    exact ⟨x2, x1⟩
  have bX : BX M f n := ⟨n200, t1, fun k hk => ⟨by rw [(t3 k hk).1]; exact (fb k hk).1, (fb k hk).2⟩⟩
  have bM : ∀ N : k_M, N.1 76 12 = M.1 76 12 → (∀ j, N.1 83 j = M.1 83 j) → BM N f n := fun N e1 e2 => ⟨n200, by rw [e1]; exact t2, fun k hk => by rw [e2]; exact fb k hk⟩
  rcases start_l bX (bM M rfl (fun _ => rfl)) with ⟨X, Y, g1, -, g3⟩ | ⟨X, Y, np0, nw0, s0, g1, -, g3⟩
  · obtain ⟨s, s200, u1, -, -, u5, -⟩ := g3
    obtain ⟨X1, hX1⟩ : ∃ X1, X1 = sI X 1 1 0 := ⟨_, rfl⟩
    have xl : ∀ a j, ¬ (a = 1 ∧ j = 1) → X1.1 a j = X.1 a j := fun a j q => by rw [hX1, sI_g, if_neg q]
    have snn := o_nn (n := s) (by omega)
    have ex : f_X11_plain M = some ((-100) - Int32.ofNat s, X1) := by
      unfold f_X11_plain
      rw [g1, bd_s, bN_e, ← hX1, u1, if_neg (Int32.not_lt.mpr snn)]
    rcases start_l bX (bM X1 (by rw [xl _ _ (by omega), u5.1 _ _ (by omega) (by omega)]) (fun j => by rw [xl _ _ (by omega), u5.1 _ _ (by omega) (by omega)])) with ⟨X', Y', k1, k2, k3⟩ | ⟨X', Y', np1, nw1, s1, k1, -, -⟩
    · rw [g1] at k1
      obtain ⟨-, rfl⟩ := some_2 k1
      obtain ⟨s', s2', v1, v2, v3, -, v5⟩ := k3
      have es : s' = s := o_inj (by omega) (by omega) (by rw [← v1, ← u1])
      subst es
      refine ⟨(-100) - Int32.ofNat s', X1, sI Y' 76 12 0, ex, ?_, ?_⟩
      · rw [k2]
        unfold f_X12_plain_77
        rw [bN_e, if_pos (by rw [sI_g, if_neg (by omega)]; exact v3), sI_g, if_neg (by omega), v2]
      · have h' : R (sI (sI M 1 1 0) 76 12 0) := by
          refine R_P (fun a j => (a = 1 ∧ j = 1) ∨ (a = 76 ∧ j = 12)) h (fun a j _ q => by rw [sI_g, if_neg (by omega), sI_g, if_neg (by omega)]) rfl (.inl fun a j hp => by unfold chN rlv; omega) (.inl fun n a j hp => by unfold locK; omega) (.inr ⟨0, by omega, by rw [sI_g, if_neg (by omega), sI_g, if_pos ⟨rfl, rfl⟩]; rfl, by rw [sI_g, if_pos ⟨rfl, rfl⟩]; rfl, fun i hi => absurd hi (Nat.not_lt_zero i)⟩) (.inl fun a j hp => by unfold locW; omega) (.inl fun a j hp => by unfold locS; omega) (.inl fun a j hp => by unfold locF; omega) (.inl fun a j hp => by unfold locA; omega) (fun j => by omega)
        refine R_fr ⟨fun a j hs => ?_, fun a j hs => ?_, fun a hs => ?_, ?_⟩ h'
        · rw [sI_g, sI_g]
          by_cases q : a = 76 ∧ j = 12
          · rw [if_pos q, if_pos q]
          · rw [if_neg q, if_neg q, sI_g]
            by_cases q2 : a = 1 ∧ j = 1
            · rw [if_pos q2, v5.1 a j (by omega) (by omega), hX1, sI_g, if_pos q2]
            · rw [if_neg q2, v5.1 a j (by unfold scr rlv at hs; omega) (by unfold scr at hs; omega), xl a j q2, u5.1 a j (by unfold scr at hs; omega) (by unfold scr at hs; omega)]
        · rw [sI_2, sI_2, sI_2, v5.2.1 a j hs, hX1, sI_2, u5.2]
        · rw [sI_2, sI_2, sI_2, v5.2.2, hX1, sI_2, u5.2]
        · rw [sI_2, sI_2, sI_2, v5.2.2, hX1, sI_2, u5.2]
    · rw [g1] at k1
      obtain ⟨q, -⟩ := some_2 k1
      rw [u1] at q
      rw [q] at snn
      exact absurd snn (by decide)
  · have u5 := g3.2.2.2.2.1
    obtain ⟨X1, hX1⟩ : ∃ X1, X1 = sI X 1 1 0 := ⟨_, rfl⟩
    have xl : ∀ a j, ¬ (a = 1 ∧ j = 1) → X1.1 a j = X.1 a j := fun a j q => by rw [hX1, sI_g, if_neg q]
    obtain ⟨X2, y1, y2, y3⟩ := copyL (w := 3) (v := 43) (by unfold dsj; omega) X1
    obtain ⟨X3, hX3⟩ : ∃ X3, X3 = sI (sI X2 3 3 0) 0 6 0 := ⟨_, rfl⟩
    have zl : ∀ a j, ¬ (a = 3 ∧ j = 3) → ¬ (a = 0 ∧ j = 6) → X3.1 a j = X2.1 a j := fun a j q1 q2 => by rw [hX3, sI_g, if_neg q2, sI_g, if_neg q1]
    have yl : ∀ a j, ¬ (4 ≤ a ∧ a ≤ 16) → X2.1 a j = X1.1 a j := fun a j q => y2.2 a j (fun i e hk => by unfold KL at hk; omega)
    have ml : ∀ a j, a ≠ 1 → ¬ (a = 3 ∧ j = 3) → ¬ (a = 0 ∧ j = 6) → ¬ (4 ≤ a ∧ a ≤ 16) → ¬ (44 ≤ a ∧ a ≤ 58) → X3.1 a j = M.1 a j := fun a j q0 q1 q2 q3 q4 => by rw [zl a j q1 q2, yl a j q3, xl a j (by omega), u5.1 a j (by omega) q4]
    have e11 : X3.1 1 1 = 0 := by rw [zl _ _ (by omega) (by omega), yl _ _ (by omega), hX1, sI_g, if_pos ⟨rfl, rfl⟩]
    have e33 : X3.1 3 3 = 0 := by rw [hX3, sI_g, if_neg (by omega), sI_g, if_pos ⟨rfl, rfl⟩]
    have e06 : X3.1 0 6 = 0 := by rw [hX3, sI_g, if_pos ⟨rfl, rfl⟩]
    have xd : X3.2 = M.2 := by rw [hX3, sI_2, sI_2, y3, hX1, sI_2]; exact u5.2
    have ex : f_X11_plain M = some (X3.1 4 0, X3) := by
      unfold f_X11_plain
      rw [g1, bd_s, bN_e, ← hX1, if_pos (show (-1 : Int32) < 0 by decide), y1, bd_s, bN_e, bN_e, ← hX3]
    rcases start_l bX (bM X3 (ml _ _ (by omega) (by omega) (by omega) (by omega) (by omega)) (fun j => ml _ _ (by omega) (by omega) (by omega) (by omega) (by omega))) with ⟨X', Y', k1, -, k3⟩ | ⟨X', Y', np, nw, s1, k1, k2, k3⟩
    · rw [g1] at k1
      obtain ⟨q, rfl⟩ := some_2 k1
      obtain ⟨s', s2', v1, -⟩ := k3
      have snn := o_nn (n := s') (by omega)
      rw [← v1, ← q] at snn
      exact absurd snn (by decide)
    · rw [g1] at k1
      obtain ⟨-, rfl⟩ := some_2 k1
      obtain ⟨j1, j2, j3, ⟨l1, l2, l3, l4, l5, l6, l7⟩, j5, j6⟩ := k3
      have np8 := l1.1
      have nw12 := l1.2.1
      obtain ⟨Z, z1, z2, z3, z4, z5, z6, z7, z8, z9, z10, z11, z12⟩ := p77_ok np8 nw12 j3 l3 l4
      have cp : CP 3 43 KL X1 X2 := y2
      have l2' : LX 43 X1 np nw (Y'.1 84) (Y'.1 85) := LX_fr (fun i j q1 q2 _ _ => xl _ _ (by omega)) l2
      have l3' : LX 3 X2 np nw (Y'.1 84) (Y'.1 85) := LX_cp l1 cp l2'
      have a40 : X3.1 4 0 = Int32.ofNat np := by rw [zl _ _ (by omega) (by omega)]; exact l3'.1
      have Zx : ∀ a j, ¬ (a = 76 ∧ (j = 0 ∨ j = 2 ∨ j = 7 ∨ j = 36 ∨ 12 ≤ j ∧ j ≤ 20)) → a ≠ 77 → a ≠ 78 → ¬ (a = 82 ∧ 5 ≤ j ∧ j < 25) → ¬ (84 ≤ a ∧ a ≤ 86) → Z.1 a j = X3.1 a j := fun a j q1 q2 q3 q4 q5 => by rw [z11 a j (by omega) q2 q3 q4, j6.1 a j (by omega) q5]
      have Zm : ∀ a j, a ≠ 1 → ¬ (a = 3 ∧ j = 3) → ¬ (a = 0 ∧ j = 6) → ¬ (4 ≤ a ∧ a ≤ 16) → ¬ (44 ≤ a ∧ a ≤ 58) → ¬ (a = 76 ∧ (j = 0 ∨ j = 2 ∨ j = 7 ∨ j = 36 ∨ 12 ≤ j ∧ j ≤ 20)) → a ≠ 77 → a ≠ 78 → ¬ (a = 82 ∧ 5 ≤ j ∧ j < 25) → ¬ (84 ≤ a ∧ a ≤ 86) → Z.1 a j = M.1 a j := fun a j q0 q1 q2 q3 q4 q5 q6 q7 q8 q9 => by rw [Zx a j q5 q6 q7 q8 q9, ml a j q0 q1 q2 q3 q4]
      have Zd : ∀ a j, a ≠ 76 → Z.2.1 a j = M.2.1 a j := fun a j q => by rw [z12, j6.2.1 a j q, xd]
      have Zd2 : Z.2.2 = M.2.2 := by rw [z12, j6.2.2, xd]
      have hn : M.2.2.2 ≤ Z.2.2.2 := by rw [Zd2]; exact Nat.le_refl _
      refine ⟨Int32.ofNat np, X3, Z, by rw [ex, a40], by rw [k2]; exact z1, ?_⟩
      obtain ⟨hN, hK, hT, hW, hS, hF, hA, hB⟩ := h
      refine ⟨?_, RK_fr (fun a j hl => Zm a j (by unfold locK at hl; omega) (by unfold locK at hl; omega) (by unfold locK at hl; omega) (by unfold locK at hl; omega) (by unfold locK at hl; omega) (by unfold locK at hl; omega) (by unfold locK at hl; omega) (by unfold locK at hl; omega) (by unfold locK at hl; omega) (by unfold locK at hl; omega)) (by rw [Zd2]) hn hK, ⟨0, by omega, ?_, z5, fun i hi => absurd hi (Nat.not_lt_zero i)⟩, ⟨0, by omega, ?_, z6, fun i hi => by omega⟩, RS_fr (fun a j hl => Zm a j (by unfold locS at hl; omega) (by unfold locS at hl; omega) (by unfold locS at hl; omega) (by unfold locS at hl; omega) (by unfold locS at hl; omega) (by unfold locS at hl; omega) (by unfold locS at hl; omega) (by unfold locS at hl; omega) (by unfold locS at hl; omega) (by unfold locS at hl; omega)) (fun a j hl => Zd a j (by omega)) hS, RF_fr (fun a j hl => Zm a j (by unfold locF at hl; omega) (by unfold locF at hl; omega) (by unfold locF at hl; omega) (by unfold locF at hl; omega) (by unfold locF at hl; omega) (by unfold locF at hl; omega) (by unfold locF at hl; omega) (by unfold locF at hl; omega) (by unfold locF at hl; omega) (by unfold locF at hl; omega)) hF, RA_fr (fun a j hl => Zm a j (by unfold locA at hl; omega) (by unfold locA at hl; omega) (by unfold locA at hl; omega) (by unfold locA at hl; omega) (by unfold locA at hl; omega) (by unfold locA at hl; omega) (by unfold locA at hl; omega) (by unfold locA at hl; omega) (by unfold locA at hl; omega) (by unfold locA at hl; omega)) hA, RB_fr (fun j => Zm _ _ (by omega) (by omega) (by omega) (by omega) (by omega) (by omega) (by omega) (by omega) (by omega) (by omega)) hn hB⟩
      · obtain ⟨np', nw', nr, a1, a2, a3, r1, r2, r3, r4, r5, r6, r7, r8, r9⟩ := hN
        have zc : ∀ a j, (a = 3 ∧ j ≠ 3) ∨ (17 ≤ a ∧ a ≤ 43) ∨ a = 79 ∨ a = 81 ∨ (a = 82 ∧ j < 5) ∨ 105 ≤ a ∨ (a = 76 ∧ (j = 6 ∨ j = 8)) → Z.1 a j = M.1 a j := fun a j q => Zm a j (by omega) (by omega) (by omega) (by omega) (by omega) (by omega) (by omega) (by omega) (by omega) (by omega)
        have e79 : Z.1 79 = M.1 79 := funext fun j => zc _ _ (by omega)
        have e81 : Z.1 81 = M.1 81 := funext fun j => zc _ _ (by omega)
        have zX : ∀ i j, i < 17 → ¬ (i = 0 ∧ j = 3) → Z.1 (3 + i) j = X2.1 (3 + i) j := fun i j q1 q2 => by rw [Zx _ _ (by omega) (by omega) (by omega) (by omega) (by omega), zl _ _ (by omega) (by omega)]
        have lz : LX 3 Z np nw (Y'.1 84) (Y'.1 85) := LX_fr (fun i j q1 q2 _ _ => zX i j (by omega) (by omega)) l3'
        refine ⟨np, nw, nr, z2, z3, by rw [zc _ _ (by omega)]; exact a3, ?_⟩
        rw [z4, zc 76 6 (by omega)]
        refine WR_vw (pl := Y'.1 84) (wy := Y'.1 85) (lw := M.1 79) (rl := M.1 81) (r := Z.1 82) z7 z8 (fun j _ => by rw [e79]) (fun j _ => by rw [e81]) (fun j _ => rfl) ⟨l1, lz, r3, WX_fr (fun j => zc _ _ (by omega)) (zc _ _ (by omega)) r4, ?_, .inl rfl, ⟨?_, fun s hs => ?_, fun p hp => ?_, fun v hv => ?_⟩, ⟨?_, ?_, fun s hs => ?_, fun p hp => ?_, fun v hv => ?_⟩, RR_fr (zc _ _ (by omega)) (fun j => zc _ _ (by omega)) (fun q j q1 _ => zc _ _ (by omega)) (by rw [Zd2]) hn r9⟩
        · rw [Zx _ _ (by omega) (by omega) (by omega) (by omega) (by omega)]; exact e33
        · rw [zc _ _ (by omega)]; exact r7.1
        · rw [zc _ _ (by omega)]; exact r7.2.1 s hs
        · rw [z9 p hp]; exact (l1.2.2.1 p hp).2.2.1
        · rw [z10 v hv]
          obtain ⟨a, b, d, -, -, -, -, -, -, -, w8⟩ := l1.2.2.2 v hv
          exact ⟨w8, Iff.rfl⟩
        · rw [zc _ _ (by omega), zc _ _ (by omega)]; exact r8.1
        · rw [zc _ _ (by omega), zc _ _ (by omega)]; exact r8.2.1
        · rw [zc _ _ (by omega), zc _ _ (by omega)]; exact r8.2.2.1 s hs
        · rw [z9 p hp, zX 5 p (by omega) (by omega), cp.1 5 p (by unfold KL; omega), xl _ _ (by omega)]
          exact l6 p hp
        · rw [z10 v hv, zX 12 v (by omega) (by omega), cp.1 12 v (by unfold KL; omega), xl _ _ (by omega)]
          exact l7 v hv
      · rw [Zx _ _ (by omega) (by omega) (by omega) (by omega) (by omega)]; exact e11
      · rw [Zx _ _ (by omega) (by omega) (by omega) (by omega) (by omega)]; exact e06
