/-! ===== the pure layer: follow, the call ===== -/
theorem R_foll {M X N : k_M} {np nw nr i : Nat} (h : R M) (hN : NowF M np nw nr) (ht : M.1 76 7 = 1) (hi : i < nr) (hX : FI M X i) (hJ : FJ X N i) (hS : Sd np nw (M.1 77) (M.1 78) (M.1 79) (rwM N 0)) (hq : rEq np nw (rwX X 3) (rwM N 0)) (hv : X.1 22 i = N.1 81 (3 * i + 2)) : R N := by
  obtain ⟨a1, a2, a3, h1, h2, h3, h4, h5, h6, h7, h8, h9⟩ := hN
  have np8 := h1.1
  have nw12 := h1.2.1
  have nr4 := h9.1
  have e : ∀ b j, ¬ csc b j → ¬ (b = 82 ∧ j < 50) → ¬ (b = 81 ∧ j = 3 * i + 2) → b ≠ 17 → b ≠ 18 → ¬ (b = 22 ∧ j = i) → ¬ onX 3 b j → N.1 b j = M.1 b j := fun b j r1 r2 r3 r4 r5 r6 r7 => by rw [hJ.1 b j r1 r2 r3]; exact hX.1 b j r4 r5 r6 r7
  have ej : ∀ b j, ¬ csc b j → ¬ (b = 82 ∧ j < 50) → ¬ (b = 81 ∧ j = 3 * i + 2) → N.1 b j = X.1 b j := hJ.1
  have d1 : ∀ b j, b ≠ 76 → N.2.1 b j = M.2.1 b j := fun b j r => by rw [hJ.2.1 b j r, hX.2]
  have d2 : ∀ b, b ≠ 61 → N.2.2.1 b = M.2.2.1 b := fun b r => by rw [hJ.2.2.1 b r, hX.2]
  have d3 : N.2.2.2 = M.2.2.2 := by rw [hJ.2.2.2, hX.2]
  have c77 : N.1 77 = M.1 77 := funext fun j => e _ _ (by unfold csc dsc; omega) (by omega) (by omega) (by omega) (by omega) (by omega) (by unfold onX; omega)
  have c78 : N.1 78 = M.1 78 := funext fun j => e _ _ (by unfold csc dsc; omega) (by omega) (by omega) (by omega) (by omega) (by omega) (by unfold onX; omega)
  have c79 : N.1 79 = M.1 79 := funext fun j => e _ _ (by unfold csc dsc; omega) (by omega) (by omega) (by omega) (by omega) (by omega) (by unfold onX; omega)
  have c76 : ∀ j, rlv j → N.1 76 j = M.1 76 j := fun j hj => e _ _ (by unfold csc dsc; unfold rlv at hj; omega) (by omega) (by omega) (by omega) (by omega) (by omega) (by unfold onX; omega)
  have erx : rwX N 3 = rwX X 3 := by
    have gc : ∀ b, b = 3 ∨ b = 20 ∨ b = 8 ∨ b = 15 → N.1 b = X.1 b := fun b r => funext fun j => ej b j (by unfold csc dsc; omega) (by omega) (by omega)
    unfold rwX
    rw [gc 3 (by omega), gc (3 + 17) (by omega), gc (3 + 5) (by omega), gc (3 + 12) (by omega)]
  have k25 : ∀ k, k < 25 → N.1 82 k = rwM N 0 k := fun k hk => by rw [rwM_e _ _ hk, Nat.mul_zero, Nat.zero_add]
  refine R_N h (fun b j r1 r2 _ => e b j (by unfold scr rlv at r1; unfold csc dsc; omega) (by unfold scr at r1; unfold chN at r2; omega) (by unfold chN at r2; omega) (by unfold scr at r1; omega) (by unfold scr at r1; omega) (by unfold chN at r2; omega) (by unfold chN at r2; unfold onX; omega)) d1 (d2 41 (by omega)) (by omega) ⟨np, nw, nr, by rw [c76 0 (by unfold rlv; omega)]; exact a1, by rw [c76 2 (by unfold rlv; omega)]; exact a2, by rw [c76 8 (by unfold rlv; omega)]; exact a3, ?_⟩
  rw [c76 6 (by unfold rlv; omega), c76 7 (by unfold rlv; omega), c77, c78, c79]
  refine ⟨h1, LX_fr (fun b j q1 q2 q3 q4 => e _ _ (by unfold csc dsc; omega) (by omega) (by omega) (by omega) (by omega) (by omega) (by unfold onX; omega)) h2, h3, WX_fr (fun j => e _ _ (by unfold csc dsc; omega) (by omega) (by omega) (by omega) (by omega) (by omega) (by unfold onX; omega)) (e _ _ (by unfold csc dsc; omega) (by omega) (by omega) (by omega) (by omega) (by omega) (by unfold onX; omega)) h4, ?_, .inr ⟨ht, ?_⟩, ?_, ?_, ?_⟩
  · rw [e 3 3 (by unfold csc dsc; omega) (by omega) (by omega) (by omega) (by omega) (by omega) (by unfold onX; omega)]
    exact h5
  · obtain ⟨p, hp, hp0⟩ := hS.2.2.2
    exact ⟨p, hp, by rw [k25 0 (by omega)]; exact hp0⟩
  · exact WFr_fr np8 nw12 k25 hS.2.2.1
  · have hq' : rEq np nw (rwX N 3) (rwM N 0) := by rw [erx]; exact hq
    have := rEq_RX (M := N) (w := 3) np8 nw12 hq'
    rw [← stX_self] at this
    exact RX_fr np8 nw12 rfl rfl (fun _ _ _ => rfl) k25 this
  · obtain ⟨r1, r2, r3, r4⟩ := h9
    refine ⟨r1, ?_, fun i' hi' => ?_, fun i' hi' => ?_⟩
    · rw [e 3 7 (by unfold csc dsc; omega) (by omega) (by omega) (by omega) (by omega) (by omega) (by unfold onX; omega)]
      exact r2
    · obtain ⟨q, b1, b2, b3, b4, b5, b6, b7, b8, b9⟩ := r3 i' hi'
      have eq : ∀ j, N.1 q j = M.1 q j := fun j => e _ _ (by unfold csc dsc; omega) (by omega) (by omega) (by omega) (by omega) (by omega) (by unfold onX; omega)
      have e0 : N.1 81 (3 * i') = M.1 81 (3 * i') := e _ _ (by unfold csc dsc; omega) (by omega) (by omega) (by omega) (by omega) (by omega) (by unfold onX; omega)
      have e1 : N.1 81 (3 * i' + 1) = M.1 81 (3 * i' + 1) := e _ _ (by unfold csc dsc; omega) (by omega) (by omega) (by omega) (by omega) (by omega) (by unfold onX; omega)
      refine ⟨q, by rw [d2 _ (by omega)]; exact b1, b2, by omega, ?_, ?_, ?_, ?_, ?_, ?_⟩
      · rw [eq, e0]; exact b4
      · rw [eq]; exact b5
      · rw [eq, e1]; exact b6
      · rw [eq, e0]; exact b7
      · by_cases hii : i' = i
        · subst hii
          rw [ej _ _ (by unfold csc dsc; omega) (by omega) (by omega)]
          exact hv
        · rw [e (3 + 19) i' (by unfold csc dsc; omega) (by omega) (by omega) (by omega) (by omega) (by omega) (by unfold onX; omega), e 81 (3 * i' + 2) (by unfold csc dsc; omega) (by omega) (by omega) (by omega) (by omega) (by omega) (by unfold onX; omega)]
          exact b8
      · rw [e0, e1]
        exact b9
    · rw [d2 _ (by omega)]
      exact okRb_fr (by omega) (r4 i' hi')
theorem c_follow (x y : Int32) : Call (f_X11_follow x y) (f_X12_follow x y) := by
  intro M h
  have ht := there_e h
  obtain ⟨np, nw, G, a1, a2, hF, hL, hG⟩ := plain_of h
  obtain ⟨np', nw', nr, b1, b2, b3, hWR⟩ := h.1
  have hNow : NowF M np' nw' nr := ⟨b1, b2, b3, hWR⟩
  have hRR := hWR.2.2.2.2.2.2.2.2
  have nr4 := hRR.1
  have np8 := hF.1
  have nw12 := hF.2.1
  have e2 := isRu_e (M := M) (n := nr) (by omega) b3
  by_cases hx : 0 ≤ x ∧ x < Int32.ofNat nr
  · obtain ⟨i, hi, rfl⟩ := ex_lt (by omega) hx.1 hx.2
    obtain ⟨q, q0, q1, q2, q3, q4, q5, q6, q7, ⟨k, k1, k5, hk⟩, ⟨a, ha, haq⟩⟩ := ruleAt_in hRR hi
    have x0 : f_X11_follow (Int32.ofNat i) y M = bd (f_X11_within y 0 20 M) (fun r4 M5 => if r4 = 0 then some (-1, M5) else if (M5.1 3 3) = 0 then some (-4, M5) else f_X11_follow_41 k_fu y q 0 M5 (fun l4_ M_ => f_X11_follow_88 l4_ M_)) := by
      unfold f_X11_follow
      rw [q0, bd_s]
      rfl
    have m0 : ∀ N, N.1 76 8 = M.1 76 8 → f_X12_follow (Int32.ofNat i) y N = bd (f_X12_in y 0 20 N) (fun r3 M4 => if r3 = 0 then some (-1, M4) else if (M4.1 76 7) = 0 then some (-4, M4) else f_X12_follow_32 k_fu (Int32.ofNat i) y 0 M4 (fun l3_ M_ => f_X12_follow_69 l3_ M_)) := fun N hN => by
      unfold f_X12_follow
      rw [isRu_e (M := N) (n := nr) (by omega) (by rw [hN]; exact b3), bd_s, if_pos hx, if_neg (by decide)]
    by_cases hy : 0 ≤ y ∧ y ≤ 20
    · obtain ⟨T, hT, rfl⟩ := ex_o (n := 20) (by omega) hy.1 hy.2
      by_cases h0 : M.1 76 7 = 0
      · refine ⟨-4, M, M, ?_, ?_, h⟩
        · rw [x0, within_e, bd_s, if_pos hy, if_neg (by decide), if_pos (by rw [ht]; exact h0)]
        · rw [m0 M rfl, in_e, bd_s, if_pos hy, if_neg (by decide), if_pos h0]
      · obtain ⟨np2, nw2, nr2, hN, hWX, hLX, hS, hS2, hq⟩ := here_of h h0
        have enp : np2 = np := o_inj (by have := hS.1.1; omega) (by omega) (hN.1.symm.trans a1)
        subst enp
        have enw : nw2 = nw := o_inj (by have := hS.1.2.1; omega) (by omega) (hN.2.1.symm.trans a2)
        subst enw
        have enp' : np' = np2 := o_inj (by have := hWR.1.1; omega) (by omega) (b1.symm.trans a1)
        subst enp'
        have enw' : nw' = nw2 := o_inj (by have := hWR.1.2.1; omega) (by omega) (b2.symm.trans a2)
        subst enw'
        have h1 : M.1 76 7 = 1 := (th_01 h).resolve_left h0
        obtain ⟨X, g1, g2, g3, g4⟩ := follX (M := M) (T := T) (G := G) hT q1 q2 (by rw [q6]; exact hk) k1 k5 (by rw [q5]; exact haq) ha q4 (by omega) hWX hLX hG T k_fu 0 M (M.1 81 (3 * i + 2)) (by omega) (by unfold k_fu; omega) ⟨fun _ _ _ _ _ _ => rfl, rfl⟩ q7 hS
        have xe : ∀ b j, b ≠ 17 → b ≠ 18 → ¬ (b = 22 ∧ j = i) → ¬ onX 3 b j → X.1 b j = M.1 b j := g2.1
        have xc : ∀ b, b = 76 ∨ b = 77 ∨ b = 78 ∨ b = 79 ∨ b = 81 ∨ b = 82 → X.1 b = M.1 b := fun b r => funext fun j => xe b j (by omega) (by omega) (by omega) (by unfold onX; omega)
        have er : rwM X 0 = rwM M 0 := by
          unfold rwM
          rw [xc 82 (by omega)]
        obtain ⟨N, f1, f2, f3, f4⟩ := follM (B := X) (np := np') (nw := nw') (k := k) (a := a) (i := i) (T := T) (G := G) hT (by rw [xc 76 (by omega)]; exact a1) (by rw [xc 76 (by omega)]; exact a2) (by rw [xc 78 (by omega)]; exact hG) (by omega) (by rw [xc 81 (by omega)]; exact hk) k1 k5 (by rw [xc 81 (by omega)]; exact haq) ha T k_fu 0 X (M.1 81 (3 * i + 2)) (by omega) (by unfold k_fu; omega) ⟨fun _ _ _ _ _ => rfl, fun _ _ _ => rfl, fun _ _ => rfl, rfl⟩ (by rw [xc 81 (by omega)]) (by rw [xc 77 (by omega), xc 78 (by omega), xc 79 (by omega), er]; exact hS2)
        rw [xc 77 (by omega), xc 78 (by omega), xc 79 (by omega), xc 76 (by omega), er] at f1 f3 f4
        obtain ⟨c1, c2, c3⟩ := fl_cg (rn := M.1 76 6) (G := G) (k := k) (a := a) T 0 _ _ (M.1 81 (3 * i + 2)) hS hq
        have hSf := fl_Sd (rn := M.1 76 6) (G := G) (k := k) (a := a) T 0 _ (M.1 81 (3 * i + 2)) hS2
        refine ⟨Int32.ofNat (fl np' nw' (M.1 77) (M.1 78) (M.1 79) (M.1 76 6) G k a T 0 (rwX M 3) (M.1 81 (3 * i + 2))).1, X, N, ?_, ?_, ?_⟩
        · rw [x0, within_e, bd_s, if_pos hy, if_neg (by decide), if_neg (by rw [ht]; exact h0)]
          exact g1
        · rw [m0 X (by rw [xc 76 (by omega)]), in_e, bd_s, if_pos hy, if_neg (by decide), xc 76 (by omega), if_neg h0, c1]
          exact f1
        · refine R_foll h hNow h1 hi g2 f2 (Sd_cg (rEq_sym f4) hSf) (rEq_tr g4 (rEq_tr c2 (rEq_sym f4))) ?_
          rw [g3, f3, c3]
    · refine ⟨-1, M, M, ?_, ?_, h⟩
      · rw [x0, within_e, bd_s, if_neg hy, if_pos rfl]
      · rw [m0 M rfl, in_e, bd_s, if_neg hy, if_pos rfl]
  · refine ⟨-1, M, M, ?_, ?_, h⟩
    · unfold f_X11_follow
      rw [ruleAt_out hRR hx, bd_s]
      rfl
    · unfold f_X12_follow
      rw [e2, bd_s, if_neg hx, if_pos rfl]
