/-! ===== the pure layer: city ===== -/
theorem c_city (x c w g : Int32) : Call (f_X11_city x c w g) (f_X12_city x c w g) := by
  intro M h
  obtain ⟨np, nw, nr, a1, a2, a3, h1, h2, h3, h4, h5, h6, h7, h8, h9⟩ := h.1
  have np8 := h1.1
  have nw12 := h1.2.1
  have hp := fun z => hasPl_e (M := M) (w := 3) (np := np) (by omega) h2.1 z
  have mp := fun z => isPl_e (M := M) (n := np) (by omega) a1 z
  by_cases hok : (0 ≤ x ∧ x < Int32.ofNat np) ∧ (0 ≤ c ∧ c ≤ 20) ∧ (0 ≤ w ∧ w ≤ 20) ∧ (0 ≤ g ∧ g ≤ 20)
  · obtain ⟨k1, k2, k3, k4⟩ := hok
    obtain ⟨p, hpp, rfl⟩ := ex_lt (by omega) k1.1 k1.2
    obtain ⟨A, A1, A2, A3, A4⟩ := copy_e (a1 := 7) (a2 := 8) (n := 8) (by omega) M
    obtain ⟨B, B1, B2, B3, B4⟩ := copy_e (a1 := 14) (a2 := 15) (n := 12) (by omega) A
    obtain ⟨X, hX⟩ : ∃ X, X = sI (sI (sI (sI (sI (sI B 3 3 1) 3 4 (Int32.ofNat p)) 3 5 0) 20 0 c) 20 1 w) 20 2 g := ⟨_, rfl⟩
    have xl : ∀ a j, ¬ (a = 3 ∧ (j = 3 ∨ j = 4 ∨ j = 5)) → ¬ (a = 20 ∧ j < 3) → X.1 a j = B.1 a j := fun a j q1 q2 => by rw [hX, sI_g, if_neg (by omega), sI_g, if_neg (by omega), sI_g, if_neg (by omega), sI_g, if_neg (by omega), sI_g, if_neg (by omega), sI_g, if_neg (by omega)]
    have xm : ∀ a j, ¬ (a = 3 ∧ (j = 3 ∨ j = 4 ∨ j = 5)) → a ≠ 20 → a ≠ 8 → a ≠ 15 → X.1 a j = M.1 a j := fun a j q1 q2 q3 q4 => by rw [xl a j q1 (by omega), B3 a j (by omega), A3 a j (by omega)]
    have x3 : X.1 3 3 = 1 := by rw [hX, sI_g, if_neg (by omega), sI_g, if_neg (by omega), sI_g, if_neg (by omega), sI_g, if_neg (by omega), sI_g, if_neg (by omega), sI_g, if_pos ⟨rfl, rfl⟩]
    have x4 : X.1 3 4 = Int32.ofNat p := by rw [hX, sI_g, if_neg (by omega), sI_g, if_neg (by omega), sI_g, if_neg (by omega), sI_g, if_neg (by omega), sI_g, if_pos ⟨rfl, rfl⟩]
    have x5 : X.1 3 5 = 0 := by rw [hX, sI_g, if_neg (by omega), sI_g, if_neg (by omega), sI_g, if_neg (by omega), sI_g, if_pos ⟨rfl, rfl⟩]
    have s0 : X.1 20 0 = c := by rw [hX, sI_g, if_neg (by omega), sI_g, if_neg (by omega), sI_g, if_pos ⟨rfl, rfl⟩]
    have s1 : X.1 20 1 = w := by rw [hX, sI_g, if_neg (by omega), sI_g, if_pos ⟨rfl, rfl⟩]
    have s2 : X.1 20 2 = g := by rw [hX, sI_g, if_pos ⟨rfl, rfl⟩]
    have xlf : ∀ q, q < np → X.1 8 q = M.1 77 (3 * q + 2) := fun q hq => by rw [xl _ _ (by omega) (by omega), B3 _ _ (by omega), A2 q (by omega)]; exact (h2.2.2.1 q hq).2.2.1
    have xbr : ∀ q, q < nw → X.1 15 q = M.1 78 (5 * q + 3) := fun q hq => by rw [xl _ _ (by omega) (by omega), B2 q (by omega), A3 _ _ (by omega)]; exact (h2.2.2.2 q hq).2.2.1
    have xd : X.2 = M.2 := by rw [hX]; exact B4.trans A4
    obtain ⟨N, hN⟩ : ∃ N, N = sI (sI (sI (sI (sI (sI X 76 7 1) 82 0 (Int32.ofNat p)) 82 1 0) 82 2 c) 82 3 w) 82 4 g := ⟨_, rfl⟩
    have nl : ∀ a j, ¬ (a = 76 ∧ j = 7) → ¬ (a = 82 ∧ j < 5) → N.1 a j = X.1 a j := fun a j q1 q2 => by rw [hN, sI_g, if_neg (by omega), sI_g, if_neg (by omega), sI_g, if_neg (by omega), sI_g, if_neg (by omega), sI_g, if_neg (by omega), sI_g, if_neg (by omega)]
    have n76 : N.1 76 7 = 1 := by rw [hN, sI_g, if_neg (by omega), sI_g, if_neg (by omega), sI_g, if_neg (by omega), sI_g, if_neg (by omega), sI_g, if_neg (by omega), sI_g, if_pos ⟨rfl, rfl⟩]
    have n0 : N.1 82 0 = Int32.ofNat p := by rw [hN, sI_g, if_neg (by omega), sI_g, if_neg (by omega), sI_g, if_neg (by omega), sI_g, if_neg (by omega), sI_g, if_pos ⟨rfl, rfl⟩]
    have n1 : N.1 82 1 = 0 := by rw [hN, sI_g, if_neg (by omega), sI_g, if_neg (by omega), sI_g, if_neg (by omega), sI_g, if_pos ⟨rfl, rfl⟩]
    have n2 : N.1 82 2 = c := by rw [hN, sI_g, if_neg (by omega), sI_g, if_neg (by omega), sI_g, if_pos ⟨rfl, rfl⟩]
    have n3 : N.1 82 3 = w := by rw [hN, sI_g, if_neg (by omega), sI_g, if_pos ⟨rfl, rfl⟩]
    have n4 : N.1 82 4 = g := by rw [hN, sI_g, if_pos ⟨rfl, rfl⟩]
    obtain ⟨Y, y1, y2, y3, y4, y5⟩ := refill_e np8 nw12 N (by rw [nl _ _ (by omega) (by omega), xm _ _ (by omega) (by omega) (by omega) (by omega)]; exact a1) (by rw [nl _ _ (by omega) (by omega), xm _ _ (by omega) (by omega) (by omega) (by omega)]; exact a2)
    have ym : ∀ a j, ¬ (a = 3 ∧ (j = 3 ∨ j = 4 ∨ j = 5)) → a ≠ 20 → a ≠ 8 → a ≠ 15 → ¬ (a = 76 ∧ j = 7) → ¬ (a = 82 ∧ j < 25) → Y.1 a j = M.1 a j := fun a j q1 q2 q3 q4 q5 q6 => by rw [y4 a j (by omega), nl a j q5 (by omega), xm a j q1 q2 q3 q4]
    have yx : ∀ a j, a ≠ 82 → ¬ (a = 76 ∧ j = 7) → Y.1 a j = X.1 a j := fun a j q1 q2 => by rw [y4 a j (by omega), nl a j q2 (by omega)]
    have yn : ∀ k, k < 5 → Y.1 82 k = N.1 82 k := fun k hk => y4 _ _ (by omega)
    have n77 : N.1 77 = M.1 77 := funext fun j => by rw [nl _ _ (by omega) (by omega), xm _ _ (by omega) (by omega) (by omega) (by omega)]
    have n78 : N.1 78 = M.1 78 := funext fun j => by rw [nl _ _ (by omega) (by omega), xm _ _ (by omega) (by omega) (by omega) (by omega)]
    rw [n77] at y2
    rw [n78] at y3
    refine ⟨1, X, Y, ?_, ?_, ?_⟩
    · unfold f_X11_city f_X10_settle f_X3_becomeAsTold
      rw [hp, bd_s, if_pos k1, if_neg (by decide), within_e, bd_s, if_pos k2, if_neg (by decide), within_e, bd_s, if_pos k3, if_neg (by decide), within_e, bd_s, if_pos k4, if_neg (by decide), show f_X3_copy (3 + 4) 8 (3 + 5) 8 M = _ from A1, bd_s, show f_X3_copy (3 + 11) 12 (3 + 12) 12 A = _ from B1, bd_s, bd_s, bN_e, bN_e, bN_e, wrI_l (by omega) (by omega), wrI_l (by omega) (by omega), wrI_l (by omega) (by omega), bd_s, hX]
    · unfold f_X12_city
      rw [isPl_e (M := X) (n := np) (by omega) (by rw [xm _ _ (by omega) (by omega) (by omega) (by omega)]; exact a1), bd_s, if_pos k1, if_neg (by decide), in_e, bd_s, if_pos k2, if_neg (by decide), in_e, bd_s, if_pos k3, if_neg (by decide), in_e, bd_s, if_pos k4, if_neg (by decide), bN_e, wrI_l (by omega) (by omega), wrI_l (by omega) (by omega), wrI_l (by omega) (by omega), wrI_l (by omega) (by omega), wrI_l (by omega) (by omega), ← hN, y1, bd_s]
    · have yd : Y.2 = M.2 := by rw [y5, hN]; exact xd
      refine R_P (fun a j => (a = 3 ∧ (j = 3 ∨ j = 4 ∨ j = 5)) ∨ a = 20 ∨ a = 8 ∨ a = 15 ∨ (a = 76 ∧ j = 7) ∨ (a = 82 ∧ j < 25)) h (fun a j _ q => ym a j (by omega) (by omega) (by omega) (by omega) (by omega) (by omega)) yd (.inr ?_) (.inl fun n a j hp => by unfold locK; omega) (.inl fun a j hp => by unfold locT; omega) (.inl fun a j hp => by unfold locW; omega) (.inl fun a j hp => by unfold locS; omega) (.inl fun a j hp => by unfold locF; omega) (.inl fun a j hp => by unfold locA; omega) (fun j => by omega)
      have fc : ∀ a, a ≠ 3 → a ≠ 20 → a ≠ 8 → a ≠ 15 → a ≠ 76 → a ≠ 82 → Y.1 a = M.1 a := fun a q1 q2 q3 q4 q5 q6 => funext fun j => ym a j (by omega) q2 q3 q4 (by omega) (by omega)
      refine ⟨np, nw, nr, by rw [ym 76 0 (by omega) (by omega) (by omega) (by omega) (by omega) (by omega)]; exact a1, by rw [ym 76 2 (by omega) (by omega) (by omega) (by omega) (by omega) (by omega)]; exact a2, by rw [ym 76 8 (by omega) (by omega) (by omega) (by omega) (by omega) (by omega)]; exact a3, ?_⟩
      have t1 : Y.1 76 7 = 1 := by rw [y4 _ _ (by omega)]; exact n76
      rw [ym 76 6 (by omega) (by omega) (by omega) (by omega) (by omega) (by omega), fc 77 (by omega) (by omega) (by omega) (by omega) (by omega) (by omega), fc 78 (by omega) (by omega) (by omega) (by omega) (by omega) (by omega), fc 79 (by omega) (by omega) (by omega) (by omega) (by omega) (by omega), fc 81 (by omega) (by omega) (by omega) (by omega) (by omega) (by omega), t1]
      have B20 : ∀ z : Int32, 0 ≤ z ∧ z ≤ 20 → Bn z 20 := fun z q => ex_o (n := 20) (by omega) q.1 q.2
      refine ⟨h1, LX_fr (fun i j _ _ _ _ => ym _ _ (by omega) (by omega) (by omega) (by omega) (by omega) (by omega)) h2, h3, WX_fr (fun j => ym _ _ (by omega) (by omega) (by omega) (by omega) (by omega) (by omega)) (ym _ _ (by omega) (by omega) (by omega) (by omega) (by omega) (by omega)) h4, by rw [yx _ _ (by omega) (by omega)]; exact x3, .inr ⟨rfl, p, hpp, by rw [yn 0 (by omega)]; exact n0⟩, ⟨by rw [yn 1 (by omega), n1]; exact ⟨0, by omega, rfl⟩, fun s hs => ?_, fun q hq => by rw [y2 q hq]; exact (h1.2.2.1 q hq).2.2.1, fun v hv => by rw [y3 v hv]; obtain ⟨_, _, _, _, _, _, _, _, _, _, q9⟩ := h1.2.2.2 v hv; exact ⟨q9, Iff.rfl⟩⟩, ⟨by rw [yx _ _ (by omega) (by omega), yn 0 (by omega), n0]; exact x4, by rw [yx _ _ (by omega) (by omega), yn 1 (by omega), n1]; exact x5, fun s hs => ?_, fun q hq => by rw [y2 q hq, yx _ _ (by omega) (by omega)]; exact xlf q hq, fun v hv => by rw [y3 v hv, yx _ _ (by omega) (by omega)]; exact xbr v hv⟩, RR_fr (ym _ _ (by omega) (by omega) (by omega) (by omega) (by omega) (by omega)) (fun j => ym _ _ (by omega) (by omega) (by omega) (by omega) (by omega) (by omega)) (fun q j _ _ => ym _ _ (by omega) (by omega) (by omega) (by omega) (by omega) (by omega)) (by rw [yd]) (by rw [yd]; exact Nat.le_refl _) h9⟩
      · rw [yn _ (by omega)]
        have hc : s = 0 ∨ s = 1 ∨ s = 2 := by omega
        rcases hc with rfl | rfl | rfl
        · rw [n2]; exact B20 _ k2
        · rw [n3]; exact B20 _ k3
        · rw [n4]; exact B20 _ k4
      · rw [yn _ (by omega), yx _ _ (by omega) (by omega)]
        have hc : s = 0 ∨ s = 1 ∨ s = 2 := by omega
        rcases hc with rfl | rfl | rfl
        · rw [n2]; exact s0
        · rw [n3]; exact s1
        · rw [n4]; exact s2
  · refine ⟨-1, M, M, ?_, ?_, h⟩
    · unfold f_X11_city
      rw [hp, bd_s]
      by_cases k1 : 0 ≤ x ∧ x < Int32.ofNat np
      · rw [if_pos k1, if_neg (by decide), within_e, bd_s]
        by_cases k2 : 0 ≤ c ∧ c ≤ 20
        · rw [if_pos k2, if_neg (by decide), within_e, bd_s]
          by_cases k3 : 0 ≤ w ∧ w ≤ 20
          · rw [if_pos k3, if_neg (by decide), within_e, bd_s, if_neg (fun k4 => hok ⟨k1, k2, k3, k4⟩), if_pos rfl]
          · rw [if_neg k3, if_pos rfl]
        · rw [if_neg k2, if_pos rfl]
      · rw [if_neg k1, if_pos rfl]
    · unfold f_X12_city
      rw [mp, bd_s]
      by_cases k1 : 0 ≤ x ∧ x < Int32.ofNat np
      · rw [if_pos k1, if_neg (by decide), in_e, bd_s]
        by_cases k2 : 0 ≤ c ∧ c ≤ 20
        · rw [if_pos k2, if_neg (by decide), in_e, bd_s]
          by_cases k3 : 0 ≤ w ∧ w ≤ 20
          · rw [if_pos k3, if_neg (by decide), in_e, bd_s, if_neg (fun k4 => hok ⟨k1, k2, k3, k4⟩), if_pos rfl]
          · rw [if_neg k3, if_pos rfl]
        · rw [if_neg k2, if_pos rfl]
      · rw [if_neg k1, if_pos rfl]
