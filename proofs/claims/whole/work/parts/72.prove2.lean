/-! ===== the pure layer: prove, the reference and the call ===== -/
theorem rwM_stR_eq (N : k_M) (d : Nat) (r : k_r) {np nw : Nat} (np8 : np ≤ 8) (nw12 : nw ≤ 12) : rEq np nw r (rwM (stR N d r) d) := by
  have er : ∀ k, k < 25 → r k = rwM (stR N d r) d k := fun k hk => by rw [rwM_e _ _ hk, stR_in _ _ _ hk]
  exact ⟨fun k hk => er k (by omega), fun v hv => er _ (by omega)⟩
theorem proveM {np nw : Nat} {lw pl wy : Nat → Int32} {rn : Int32} : ∀ (m n k i : Nat) (N : k_M) (r : k_r), n ≤ m → m < k → i + n ≤ 6 → N.1 77 = pl → N.1 78 = wy → N.1 79 = lw → N.1 76 6 = rn → N.1 76 2 = Int32.ofNat nw → Sd np nw pl wy lw r → rEq np nw r (rwM N i) → 0 ≤ (bwp nw pl wy lw rn 9 n r).1 → N.1 76 36 = Int32.ofNat (i + (bwp nw pl wy lw rn 9 n r).2.length) → (∀ j, j < (bwp nw pl wy lw rn 9 n r).2.length → N.1 88 (i + j) = Int32.ofNat ((bwp nw pl wy lw rn 9 n r).2.getD j 0)) → ∃ N', (∀ kx, f_X12_prove_43 k (Int32.ofNat i) N kx = kx N') ∧ (∀ j, j < 3 * i → N'.1 95 j = N.1 95 j) ∧ (∀ j, j < 3 * (bwp nw pl wy lw rn 9 n r).2.length → N'.1 95 (3 * i + j) = prl nw pl wy lw rn (bwp nw pl wy lw rn 9 n r).2 r j) ∧ (∀ a j, a ≠ 95 → ¬ (a = 82 ∧ 25 ≤ j) → N'.1 a j = N.1 a j) ∧ N'.2 = N.2
  | m, n, k, i, N, r, hm, hk, hi, e77, e78, e79, e6, hw, hS, hq, h0, h36, h88 => by
    obtain ⟨k, rfl⟩ : ∃ q, k = q + 1 := ⟨k - 1, by omega⟩
    by_cases hn : n = 0
    · subst hn
      rw [bwp_0] at h36 ⊢
      refine ⟨N, fun kx => ?_, fun j hj => rfl, fun j hj => absurd hj (Nat.not_lt_zero j), fun a j q1 q2 => rfl, rfl⟩
      rw [f_X12_prove_43, h36, if_pos (by rw [o_le (by simp only [List.length_nil]; omega) (by omega)]; exact Nat.le_refl _)]
    · obtain ⟨a, d, r', h1, h2, h3, h4, h5, hl, hv⟩ := bwp_pth hn (by omega) hS h0
      have nw12 := hS.1.2.1
      have np8 := hS.1.1
      have hS' := (stp_Sd hS h2).1
      rw [hl, List.length_cons] at h36 h88
      have hlen := bwp_len (rn := rn) 8 (n - d) r' (by omega) (by omega) hS' hv
      obtain ⟨L, hL⟩ : ∃ L, L = (bwp nw pl wy lw rn 9 (n - d) r').2.length := ⟨_, rfl⟩
      rw [← hL] at h36 h88 hlen
      have h880 : N.1 88 i = Int32.ofNat a := by
        have := h88 0 (by omega)
        rw [Nat.add_zero] at this
        exact this
      obtain ⟨q', g1, g2⟩ := goesN (N := N) (d := i) (np := np) (nw := nw) (act := a) (by omega) hw (by rw [e77, e78, e79]; exact Sd_cg hq hS) (by omega)
      rw [e77, e78, e79, e6] at g1 g2
      rcases stp_cg (rn := rn) hS hq a with ⟨q1, -⟩ | ⟨r'', p', q1, q2, q3⟩
      · rw [h2] at q1
        cases q1
      rw [h2] at q1
      cases q1
      have hqp := g2 p' q2
      subst hqp
      rw [q2, Option.isSome_some, if_pos rfl, h5] at g1
      obtain ⟨N2, hN2⟩ : ∃ N2, N2 = sI (sI (sI (stR N (i + 1) q') 95 (3 * i) (Int32.ofNat a)) 95 (3 * i + 1) (q' 0)) 95 (3 * i + 2) (wth lw r') := ⟨_, rfl⟩
      have y2 : ∀ a j, a ≠ 95 → ¬ (a = 82 ∧ 25 ≤ j) → N2.1 a j = N.1 a j := fun a j q1 q2 => by rw [hN2, sI_g, if_neg (by omega), sI_g, if_neg (by omega), sI_g, if_neg (by omega), stR_o _ _ _ (by omega)]
      have yc : ∀ a, a ≠ 95 → a ≠ 82 → N2.1 a = N.1 a := fun a q1 q2 => funext fun j => y2 a j q1 (by omega)
      have yz : ∀ j, j < 3 * i → N2.1 95 j = N.1 95 j := fun j hj => by rw [hN2, sI_g, if_neg (by omega), sI_g, if_neg (by omega), sI_g, if_neg (by omega), stR_o _ _ _ (by omega)]
      have z0 : N2.1 95 (3 * i) = Int32.ofNat a := by rw [hN2, sI_g, if_neg (by omega), sI_g, if_neg (by omega), sI_g, if_pos (by omega)]
      have z1 : N2.1 95 (3 * i + 1) = r' 0 := by rw [hN2, sI_g, if_neg (by omega), sI_g, if_pos (by omega)]; exact (q3.1 0 (by omega)).symm
      have z2 : N2.1 95 (3 * i + 2) = wth lw r' := by rw [hN2, sI_g, if_pos (by omega)]
      have er : rwM N2 (i + 1) = rwM (stR N (i + 1) q') (i + 1) := by rw [hN2, rwM_sI _ _ (by omega), rwM_sI _ _ (by omega), rwM_sI _ _ (by omega)]
      have hq2 : rEq np nw r' (rwM N2 (i + 1)) := by
        rw [er]
        exact rEq_tr q3 (rwM_stR_eq N (i + 1) q' np8 nw12)
      cases m with
      | zero => omega
      | succ m =>
        obtain ⟨N', g1', g3, g4, g5, g6⟩ := proveM m (n - d) k (i + 1) N2 r' (by omega) (by omega) (by omega) (by rw [yc _ (by omega) (by omega)]; exact e77) (by rw [yc _ (by omega) (by omega)]; exact e78) (by rw [yc _ (by omega) (by omega)]; exact e79) (by rw [yc _ (by omega) (by omega)]; exact e6) (by rw [yc _ (by omega) (by omega)]; exact hw) hS' hq2 hv (by rw [yc _ (by omega) (by omega), h36, ← hL, show i + (L + 1) = i + 1 + L by omega]) (fun j hj => by
          rw [yc _ (by omega) (by omega)]
          have := h88 (j + 1) (by omega)
          rw [show i + 1 + j = i + (j + 1) by omega, this]
          rfl)
        rw [hl, List.length_cons]
        refine ⟨N', fun kx => ?_, fun j hj => by rw [g3 j (by omega), yz j hj], fun j hj => ?_, fun a j q1 q2 => by rw [g5 a j q1 q2, y2 a j q1 q2], by rw [g6, hN2]; rfl⟩
        · have e3 : (3 : Int32) * Int32.ofNat i = Int32.ofNat (3 * i) := o_lmul i 3
          have e25 : (25 : Int32) * Int32.ofNat (i + 1) = Int32.ofNat (25 * (i + 1)) := o_lmul (i + 1) 25
          have c88 : (stR N (i + 1) q').1 88 i = Int32.ofNat a := by rw [stR_c _ _ _ (by omega)]; exact h880
          have c82 : (sI (stR N (i + 1) q') 95 (3 * i) (Int32.ofNat a)).1 82 (25 * (i + 1)) = q' 0 := by rw [sI_g, if_neg (by omega), stR_in0]
          have cw : wth ((sI (sI (stR N (i + 1) q') 95 (3 * i) (Int32.ofNat a)) 95 (3 * i + 1) (q' 0)).1 79) (rwM (sI (sI (stR N (i + 1) q') 95 (3 * i) (Int32.ofNat a)) 95 (3 * i + 1) (q' 0)) (i + 1)) = wth lw r' := by
            rw [rwM_sI _ _ (by omega), rwM_sI _ _ (by omega)]
            have : (sI (sI (stR N (i + 1) q') 95 (3 * i) (Int32.ofNat a)) 95 (3 * i + 1) (q' 0)).1 79 = lw := by
              rw [← e79]
              funext j
              rw [sI_g, if_neg (by omega), sI_g, if_neg (by omega), stR_c _ _ _ (by omega)]
            rw [this]
            exact (wth_cg (rEq_tr q3 (rwM_stR_eq N (i + 1) q' np8 nw12))).symm
          rw [f_X12_prove_43, h36, if_neg (by rw [o_le (by omega) (by omega)]; omega), rdI_o (by omega) (by omega), h880, g1, bd_s, rdI_o (by omega) (by omega), c88, e3, wrI_o (by omega) (by omega), if_neg (by rw [o_lel (by omega) (by omega)]; omega), o_addl, e25, rdI_o (by omega) (by omega), c82]
          unfold f_X12_prove_106
          rw [o_addl, wrI_o (by omega) (by omega), o_addl, worthAt_e _ (by omega), bd_s, cw, e3, o_addl, wrI_o (by omega) (by omega), ← hN2]
          exact g1' kx
        · unfold prl
          rw [h2]
          simp only
          by_cases j0 : j = 0
          · subst j0
            rw [if_pos rfl, g3 _ (by omega), Nat.add_zero, z0]
          · by_cases j1 : j = 1
            · subst j1
              rw [if_neg (by omega), if_pos rfl, g3 _ (by omega), z1]
            · by_cases j2 : j = 2
              · subst j2
                rw [if_neg (by omega), if_neg (by omega), if_pos rfl, g3 _ (by omega), z2]
              · rw [if_neg j0, if_neg j1, if_neg j2, show 3 * i + j = 3 * (i + 1) + (j - 3) by omega]
                exact g4 (j - 3) (by omega)
theorem R_W {M M' : k_M} (h : R M) (c : ∀ a j, ¬ scr a j → ¬ locW a j → M'.1 a j = M.1 a j) (f2 : ∀ a j, a ≠ 76 → M'.2.1 a j = M.2.1 a j) (f3 : ∀ a, a ≠ 61 → M'.2.2.1 a = M.2.2.1 a) (f4 : M'.2.2.2 = M.2.2.2) (hW' : RW M') : R M' := by
  obtain ⟨hN, hK, hT, hW, hS, hF, hA, hB⟩ := h
  have hn : M.2.2.2 ≤ M'.2.2.2 := by omega
  exact ⟨RN_fr (fun a j hl => c a j (by unfold locN rlv at hl; unfold scr rlv; omega) (by unfold locN rlv at hl; unfold locW; omega)) (f3 _ (by omega)) hn hN, RK_fr (fun a j hl => c a j (by unfold locK at hl; unfold scr rlv; omega) (by unfold locK at hl; unfold locW; omega)) (f3 _ (by omega)) hn hK, RT_fr (fun a j hl => c a j (by unfold locT at hl; unfold scr rlv; omega) (by unfold locT at hl; unfold locW; omega)) hT, hW', RS_fr (fun a j hl => c a j (by unfold locS at hl; unfold scr rlv; omega) (by unfold locS at hl; unfold locW; omega)) (fun a j hl => f2 a j (by omega)) hS, RF_fr (fun a j hl => c a j (by unfold locF at hl; unfold scr rlv; omega) (by unfold locF at hl; unfold locW; omega)) hF, RA_fr (fun a j hl => c a j (by unfold locA at hl; unfold scr rlv; omega) (by unfold locA at hl; unfold locW; omega)) hA, RB_fr (fun j => c 80 j (by unfold scr rlv; omega) (by unfold locW; omega)) hn hB⟩
theorem c_prove (x : Int32) : Call (f_X11_prove x) (f_X12_prove x) := by
  intro M h
  have ht := there_e h
  by_cases hx : 0 ≤ x ∧ x ≤ 6
  · obtain ⟨n, hn, rfl⟩ := ex_o (n := 6) (by omega) hx.1 hx.2
    have x1 : f_X11_prove (Int32.ofNat n) M = if (M.1 3 3) = 0 then some (-4, M) else bd (f_X0_lasts 8 3 (Int32.ofNat n) M) (fun r3 M4 => if r3 = 0 then some (-3, M4) else bd (f_X10_copyFrom 43 3 M4) (fun r5 M6 => bN ((M6.1 3 5) + Int32.ofNat n) (fun v7 => bN (sI M6 0 6 0) (fun M8 => f_X11_prove_65 k_fu v7 M8 (fun M_ => f_X11_prove_114 M_) (fun M_ => f_X11_prove_182 M_))))) := by
      unfold f_X11_prove
      rw [within_e, bd_s, if_pos hx, if_neg (by decide)]
    have m1 : ∀ N, f_X12_prove (Int32.ofNat n) N = if (N.1 76 7) = 0 then some (-4, N) else bd (f_X12_findBest (Int32.ofNat n) N) (fun r3 M4 => if 0 ≤ r3 then bN (sI M4 76 36 (M4.1 76 26)) (fun M5 => f_X12_prove_43 k_fu 0 M5 (fun M_ => f_X12_prove_130 M_)) else some (-3, M4)) := fun N => by
      unfold f_X12_prove
      rw [in_e, bd_s, if_pos hx, if_neg (by decide)]
    by_cases h0 : M.1 76 7 = 0
    · refine ⟨-4, M, M, ?_, ?_, h⟩
      · rw [x1, if_pos (by rw [ht]; exact h0)]
      · rw [m1, if_pos h0]
    · obtain ⟨np, nw, nr, hH⟩ := here_of h h0
      have hH' := hH
      obtain ⟨hN, hW, hL, hS, hS2, hq⟩ := hH'
      have np8 := hS.1.1
      have nw12 := hS.1.2.1
      rw [if_neg (by rw [ht]; exact h0), lastsB hW hL hS hq hn, bd_s] at x1
      by_cases hb : 0 ≤ (B9 M nw n).1
      · rw [if_pos hb, if_neg (by decide)] at x1
        obtain ⟨X, c1, c2, c3, c4, c5, c6, c7, c8⟩ := trial h hH
        have hbX : bwp nw (M.1 77) (M.1 78) (M.1 79) (M.1 76 6) 9 n (rwX X 43) = B9 M nw n := B9_f c7 c8 (by omega) (by omega)
        have hv : 0 ≤ (bwp nw (M.1 77) (M.1 78) (M.1 79) (M.1 76 6) 9 n (rwX X 43)).1 := by rw [hbX]; exact hb
        obtain ⟨y, hy, hy1⟩ := c7.2.2.1.1
        obtain ⟨Z, hZ⟩ : ∃ Z, Z = sI X 0 6 0 := ⟨_, rfl⟩
        have ze : ∀ a j, ¬ (a = 0 ∧ j = 6) → Z.1 a j = X.1 a j := fun a j q => by rw [hZ, sI_g, if_neg q]
        have zx : rwX Z 43 = rwX X 43 := by
          have zc : ∀ a, a ≠ 0 → Z.1 a = X.1 a := fun a q => funext fun j => ze a j (by omega)
          unfold rwX
          rw [zc 43 (by omega), zc (43 + 17) (by omega), zc (43 + 5) (by omega), zc (43 + 12) (by omega)]
        obtain ⟨Y, y1, y2, -, y4, y5, y6⟩ := proveX 6 n k_fu 0 y Z (rwX X 43) (by omega) (by unfold k_fu; omega) (by omega) hy hy1 (by rw [hZ, sI_g, if_pos ⟨rfl, rfl⟩]; rfl) (WX_fr (fun j => ze _ _ (by omega)) (ze _ _ (by omega)) c5) (LX_fr (fun i j _ _ _ _ => ze _ _ (by omega)) c6) c7 hv
        rw [← zx, ← stX_self, zx, hbX] at y1
        rw [hbX, Nat.zero_add] at y2
        rw [hbX] at y4
        rw [Nat.zero_add] at y1
        have e35 : X.1 3 5 = Int32.ofNat y := by
          rw [c2 _ _ (by omega), ← hy1, c8.1 1 (by omega), ← hq.1 1 (by omega)]
          rfl
        have ye : ∀ a j, ¬ (43 ≤ a ∧ a < 63) → a ≠ 63 → ¬ (a = 0 ∧ j = 6) → Y.1 a j = M.1 a j := fun a j q1 q2 q3 => by rw [y5 a j q2 q3 q1, ze a j q3, c2 a j q1]
        have yc : ∀ a, ¬ (43 ≤ a ∧ a < 63) → a ≠ 63 → a ≠ 0 → Y.1 a = M.1 a := fun a q1 q2 q3 => funext fun j => ye a j q1 q2 (by omega)
        have er : rwM Y 0 = rwM M 0 := by
          unfold rwM
          rw [yc 82 (by omega) (by omega) (by omega)]
        have hB9 : B9 Y nw n = B9 M nw n := by
          unfold B9
          rw [yc 77 (by omega) (by omega) (by omega), yc 78 (by omega) (by omega) (by omega), yc 79 (by omega) (by omega) (by omega), yc 76 (by omega) (by omega) (by omega), er]
        obtain ⟨N, n1, n2, n3, n4, n5⟩ := findS (M := Y) (N := Y) (np := np) (nw := nw) (n := n) (SM_rfl Y) (by rw [yc 76 (by omega) (by omega) (by omega)]; exact hN.2.1) (by rw [yc 77 (by omega) (by omega) (by omega), yc 78 (by omega) (by omega) (by omega), yc 79 (by omega) (by omega) (by omega), er]; exact hS2) hn
        rw [hB9] at n1 n3 n4 n5
        have hlen := bwp_len (rn := M.1 76 6) 8 n (rwX X 43) (by omega) (by omega) c7 hv
        rw [hbX] at hlen
        obtain ⟨O, hO⟩ : ∃ O, O = sI N 76 36 (N.1 76 26) := ⟨_, rfl⟩
        have oe : ∀ a j, ¬ dsc a j → ¬ (a = 76 ∧ j = 36) → O.1 a j = Y.1 a j := fun a j q1 q2 => by rw [hO, sI_g, if_neg q2]; exact n2.1 a j q1
        have oc : ∀ a, ¬ (43 ≤ a ∧ a < 63) → a ≠ 63 → a ≠ 0 → a ≠ 82 → a ≠ 87 → a ≠ 88 → a ≠ 76 → O.1 a = M.1 a := fun a q1 q2 q3 q4 q5 q6 q7 => funext fun j => by rw [oe a j (by unfold dsc; omega) (by omega), ye a j q1 q2 (by omega)]
        have orw : rwM O 0 = rwM M 0 := by
          funext k
          by_cases hk : k < 25
          · rw [rwM_e _ _ hk, rwM_e _ _ hk, oe _ _ (by unfold dsc; omega) (by omega), ye _ _ (by omega) (by omega) (by omega)]
          · unfold rwM
            rw [if_neg hk, if_neg hk]
        obtain ⟨N', p1, -, p3, p4, p5⟩ := proveM (np := np) (nw := nw) (pl := M.1 77) (wy := M.1 78) (lw := M.1 79) (rn := M.1 76 6) 6 n k_fu 0 O (rwX X 43) (by omega) (by unfold k_fu; omega) (by omega) (oc 77 (by omega) (by omega) (by omega) (by omega) (by omega) (by omega) (by omega)) (oc 78 (by omega) (by omega) (by omega) (by omega) (by omega) (by omega) (by omega)) (oc 79 (by omega) (by omega) (by omega) (by omega) (by omega) (by omega) (by omega)) (by rw [oe _ _ (by unfold dsc; omega) (by omega), ye _ _ (by omega) (by omega) (by omega)]) (by rw [oe _ _ (by unfold dsc; omega) (by omega), ye _ _ (by omega) (by omega) (by omega)]; exact hN.2.1) c7 (by rw [orw]; exact c8) hv (by rw [hbX, Nat.zero_add, hO, sI_g, if_pos ⟨rfl, rfl⟩]; exact n3) (fun j hj => by
          rw [hbX] at hj ⊢
          rw [Nat.zero_add, hO, sI_g, if_neg (by omega)]
          exact n5 j hj)
        rw [hbX] at p3
        have o36 : O.1 76 36 = Int32.ofNat (B9 M nw n).2.length := by
          rw [hO, sI_g, if_pos ⟨rfl, rfl⟩]
          exact n3
        refine ⟨Int32.ofNat (B9 M nw n).2.length, Y, N', ?_, ?_, ?_⟩
        · rw [x1, c1, bd_s, bN_e, bN_e, ← hZ, e35, o_add]
          exact y1
        · rw [m1, yc 76 (by omega) (by omega) (by omega), if_neg h0, n1, bd_s, if_pos hb, bN_e, ← hO]
          have := p1 (fun M_ => f_X12_prove_130 M_)
          rw [← e0z] at this
          rw [this]
          unfold f_X12_prove_130
          rw [p4 _ _ (by omega) (by omega), o36]
        · have d1 : N'.2 = N.2 := by rw [p5, hO]; rfl
          refine R_W h (fun a j q1 q2 => ?_) (fun a j q => ?_) (fun a q => ?_) ?_ ⟨(B9 M nw n).2.length, by omega, ?_, ?_, fun j hj => ?_⟩
          · rw [p4 a j (by unfold locW at q2; omega) (by unfold scr at q1; omega), oe a j (by unfold scr rlv at q1; unfold dsc; omega) (by unfold locW at q2; omega), ye a j (by unfold scr at q1; omega) (by unfold locW at q2; omega) (by unfold locW at q2; omega)]
          · rw [d1, n2.2.2.1 a j q, y6, hZ]
            show X.2.1 a j = M.2.1 a j
            rw [c3]
          · rw [d1, n2.2.2.2.1 a q, y6, hZ]
            exact c4.2.2.1 a q
          · rw [d1, n2.2.2.2.2, y6, hZ]
            exact c4.2.2.2
          · rw [p4 _ _ (by omega) (by omega), oe _ _ (by unfold dsc; omega) (by omega)]
            exact y2
          · rw [p4 _ _ (by omega) (by omega)]
            exact o36
          · have a1 := y4 j hj
            have a2 := p3 j hj
            rw [Nat.mul_zero, Nat.zero_add] at a1 a2
            rw [p4 _ _ (by omega) (by omega), oe _ _ (by unfold dsc; omega) (by omega), a1, a2]
      · rw [if_neg hb, if_pos rfl] at x1
        obtain ⟨N, n1, n2, -⟩ := findS (M := M) (N := M) (np := np) (nw := nw) (n := n) (SM_rfl M) hN.2.1 hS2 hn
        refine ⟨-3, M, N, x1, ?_, R_fr n2.2 h⟩
        rw [m1, if_neg h0, n1, bd_s, if_neg hb]
  · refine ⟨-1, M, M, ?_, ?_, h⟩
    · unfold f_X11_prove
      rw [within_e, bd_s, if_neg hx, if_pos rfl]
    · unfold f_X12_prove
      rw [in_e, bd_s, if_neg hx, if_pos rfl]
