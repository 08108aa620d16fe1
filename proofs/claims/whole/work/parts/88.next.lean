/-! ===== the pure layer: next ===== -/
theorem c_next (x : Int32) : Call (f_X11_next x) (f_X12_next x) := by
  intro M h
  have ht := there_e h
  obtain ⟨np, nw, G, a1, a2, hF, hL, hG⟩ := plain_of h
  obtain ⟨np', nw', nr, b1, b2, b3, hWR⟩ := h.1
  obtain ⟨w1, w2, w3, w4, w5, w6, w7, w8, hRR⟩ := hWR
  have nr4 := hRR.1
  have np8 := hF.1
  have nw12 := hF.2.1
  have e2 := isRu_e (M := M) (n := nr) (by omega) b3
  by_cases hx : 0 ≤ x ∧ x < Int32.ofNat nr
  · obtain ⟨i, hi, rfl⟩ := ex_lt (by omega) hx.1 hx.2
    obtain ⟨q, q0, q1, q2, q3, q4, q5, q6, q7, ⟨k, k1, k5, hk⟩, ⟨a, ha, haq⟩⟩ := ruleAt_in hRR hi
    have x1 : f_X11_next (Int32.ofNat i) M = if (M.1 3 3) = 0 then some (-4, M) else bd (vd_Rule_choose q 3 M) (fun r4 M5 => some (r4, M5)) := by
      unfold f_X11_next
      rw [q0, bd_s]
      rfl
    have m1 : ∀ N, N.1 76 8 = M.1 76 8 → f_X12_next (Int32.ofNat i) N = if (N.1 76 7) = 0 then some (-4, N) else bd (f_X12_nextOf (Int32.ofNat i) N) (fun r3 M4 => some (r3, M4)) := fun N hN => by
      unfold f_X12_next
      rw [isRu_e (M := N) (n := nr) (by omega) (by rw [hN]; exact b3), bd_s, if_pos hx, if_neg (by decide)]
    by_cases h0 : M.1 76 7 = 0
    · refine ⟨-4, M, M, ?_, ?_, h⟩
      · rw [x1, if_pos (by rw [ht]; exact h0)]
      · rw [m1 M rfl, if_pos h0]
    · obtain ⟨np2, nw2, nr2, hN, hWX, hLX, hS, hS2, hq⟩ := here_of h h0
      have enp : np2 = np := o_inj (by have := hS.1.1; omega) (by omega) (hN.1.symm.trans a1)
      subst enp
      have enw : nw2 = nw := o_inj (by have := hS.1.2.1; omega) (by omega) (hN.2.1.symm.trans a2)
      subst enw
      obtain ⟨N, g1, g2, g3⟩ := choX (v := M.1 81 (3 * i + 2)) (G := G) q1 q2 (by rw [q6]; exact hk) k1 k5 (by rw [q5]; exact haq) ha q4 (by omega) q7 hWX hLX hG hS
      have nc : ∀ a, a ≠ 17 → a ≠ 18 → N.1 a = M.1 a := fun a r1 r2 => funext fun j => g2 a j r1 r2
      have er : rwM N 0 = rwM M 0 := by
        unfold rwM
        rw [nc 82 (by omega) (by omega)]
      have cm := choM (N := N) (np := np2) (nw := nw2) (i := i) (k := k) (a := a) (v := M.1 81 (3 * i + 2)) (G := G) (by rw [nc 76 (by omega) (by omega)]; exact a1) (by rw [nc 76 (by omega) (by omega)]; exact a2) (by rw [nc 78 (by omega) (by omega)]; exact hG) (by rw [nc 77 (by omega) (by omega), nc 78 (by omega) (by omega), nc 79 (by omega) (by omega), er]; exact hS2) (by omega) (by rw [nc 81 (by omega) (by omega)]; exact hk) k1 k5 (by rw [nc 81 (by omega) (by omega)]; exact haq) ha (by rw [nc 81 (by omega) (by omega)])
      obtain ⟨N', f1, f2, f3⟩ := cm
      rw [nc 77 (by omega) (by omega), nc 78 (by omega) (by omega), nc 79 (by omega) (by omega), nc 76 (by omega) (by omega), er, ← cho_cg hS hq] at f1
      refine ⟨cho np2 nw2 (M.1 77) (M.1 78) (M.1 79) (M.1 76 6) G k a (M.1 81 (3 * i + 2)) (rwX M 3), N, N', ?_, ?_, R_fr (FR_tr (FR_17 g2 g3) f3) h⟩
      · rw [x1, if_neg (by rw [ht]; exact h0), g1, bd_s]
      · rw [m1 N (by rw [nc 76 (by omega) (by omega)]), nc 76 (by omega) (by omega), if_neg h0, f1, bd_s]
  · refine ⟨-1, M, M, ?_, ?_, h⟩
    · unfold f_X11_next
      rw [ruleAt_out hRR hx, bd_s]
      rfl
    · unfold f_X12_next
      rw [e2, bd_s, if_neg hx, if_pos rfl]
