/-! ===== the pure layer: best, last ===== -/
theorem lt_m1 {x : Int32} (h : -1 < x) : 0 ≤ x := by
  rw [Int32.lt_iff_toInt_lt] at h
  rw [Int32.le_iff_toInt_le]
  have e1 : (-1 : Int32).toInt = -1 := by decide
  have e0 : (0 : Int32).toInt = 0 := by decide
  rw [e1] at h
  rw [e0]
  omega
theorem m1_neg : ¬ (0 : Int32) ≤ -1 := by decide
section
variable {np nw : Nat} {r : k_r} {lw pl wy : Nat → Int32} {rn : Int32}
/-- either there is no row, or the best one has a first act -/
theorem bwp_or {n f : Nat} (hn : ¬ n = 0) : bwp nw pl wy lw rn (f + 1) n r = (-1, []) ∨ ∃ a t, a ≤ nw ∧ (bwp nw pl wy lw rn (f + 1) n r).2 = a :: t ∧ 0 ≤ (bwp nw pl wy lw rn (f + 1) n r).1 ∧ bwp nw pl wy lw rn (f + 1) n r = ((chB nw pl wy lw rn (bwp nw pl wy lw rn f) n r a).1, a :: (chB nw pl wy lw rn (bwp nw pl wy lw rn f) n r a).2) := by
  rw [bwp_s, if_neg hn]
  rcases fold_src (c := chB nw pl wy lw rn (bwp nw pl wy lw rn f) n r) (List.range (nw + 1)) (-1, []) with h | ⟨a, h1, h2, h3⟩
  · exact .inl h
  · refine .inr ⟨a, (chB nw pl wy lw rn (bwp nw pl wy lw rn f) n r a).2, by have := List.mem_range.mp h1; omega, by rw [h3], by rw [h3]; exact lt_m1 h2, h3⟩
end
/-- nothing but what the look writes has changed -/
def SM (M N : k_M) : Prop := (∀ a j, ¬ dsc a j → N.1 a j = M.1 a j) ∧ FR M N
theorem SM_rfl (M : k_M) : SM M M := ⟨fun _ _ _ => rfl, FR_rfl M⟩
theorem SM_tr {M N O : k_M} (h : SM M N) (g : SM N O) : SM M O := ⟨fun a j hd => (g.1 a j hd).trans (h.1 a j hd), FR_tr h.2 g.2⟩
theorem SM_c {M N : k_M} (h : SM M N) {a : Nat} (ha : a ≠ 76 ∧ a ≠ 82 ∧ a ≠ 87 ∧ a ≠ 88) : N.1 a = M.1 a := funext fun j => h.1 a j (by unfold dsc; omega)
theorem SM_row {M N : k_M} (h : SM M N) : rwM N 0 = rwM M 0 := by
  funext k
  by_cases hk : k < 25
  · rw [rwM_e _ _ hk, rwM_e _ _ hk, h.1 _ _ (by unfold dsc; omega)]
  · unfold rwM
    rw [if_neg hk, if_neg hk]
/-- the best, as both sides see it -/
def B9 (M : k_M) (nw n : Nat) : Int32 × List Nat := bwp nw (M.1 77) (M.1 78) (M.1 79) (M.1 76 6) (7 + 1 + 1) n (rwM M 0)
theorem findS {M N : k_M} {np nw n : Nat} (hs : SM M N) (hw : M.1 76 2 = Int32.ofNat nw) (hS : Sd np nw (M.1 77) (M.1 78) (M.1 79) (rwM M 0)) (hn : n ≤ 6) : ∃ N', f_X12_findBest (Int32.ofNat n) N = some ((B9 M nw n).1, N') ∧ SM M N' ∧ N'.1 76 26 = Int32.ofNat (B9 M nw n).2.length ∧ (B9 M nw n).2.length ≤ 7 ∧ ∀ i, i < (B9 M nw n).2.length → N'.1 88 i = Int32.ofNat ((B9 M nw n).2.getD i 0) := by
  have e7 := SM_c hs (a := 77) (by omega)
  have e8 := SM_c hs (a := 78) (by omega)
  have e9 := SM_c hs (a := 79) (by omega)
  have e6 : N.1 76 6 = M.1 76 6 := hs.1 _ _ (by unfold dsc; omega)
  have er := SM_row hs
  obtain ⟨N', h1, h2, h3, h4, h5, h6⟩ := findB (M := N) (np := np) (nw := nw) (n := n) (f := 7) (by omega) (by rw [hs.1 76 2 (by unfold dsc; omega)]; exact hw) (by rw [e7, e8, e9, er]; exact hS) hn
  rw [e7, e8, e9, e6, er] at h1 h4 h5 h6
  exact ⟨N', h1, SM_tr hs ⟨h3, h2⟩, h4, h5, h6⟩
theorem B9_f {M : k_M} {np nw n f : Nat} {r : k_r} (hS : Sd np nw (M.1 77) (M.1 78) (M.1 79) r) (hq : rEq np nw r (rwM M 0)) (hn : n < f) (hf : f ≤ 9) : bwp nw (M.1 77) (M.1 78) (M.1 79) (M.1 76 6) f n r = B9 M nw n := by
  rw [bwp_9 f hn hf hS, bwp_cg _ _ _ _ hS hq]
  rfl
theorem c_best (x y : Int32) : Call (f_X11_best x y) (f_X12_best x y) := by
  intro M h
  have ht := there_e h
  by_cases hx : 0 ≤ x ∧ x ≤ 6
  · by_cases hy : 0 ≤ y ∧ y ≤ 1
    · by_cases h0 : M.1 76 7 = 0
      · refine ⟨-4, M, M, ?_, ?_, h⟩
        · simp only [f_X11_best, within_e, bd_s, hx, hy, and_self, if_true, i1z, if_false, ht, h0]
        · simp only [f_X12_best, f_X12_isSide, in_e, bd_s, hx, hy, and_self, if_true, i1z, if_false, h0, ckZ, or_true]
      · obtain ⟨np, nw, nr, hN, hW, hL, hS, hS2, hq⟩ := here_of h h0
        obtain ⟨n, hn, rfl⟩ := ex_o (n := 6) (by omega) hx.1 hx.2
        obtain ⟨k, hk, rfl⟩ := ex_o (n := 1) (by omega) hy.1 hy.2
        obtain ⟨N, g1, g2, g3, g4, g5⟩ := findS (SM_rfl M) hN.2.1 hS2 hn
        have f2 : f_X12_best (Int32.ofNat n) (Int32.ofNat k) M = if 0 ≤ (B9 M nw n).1 then (if Int32.ofNat k = 0 then some ((B9 M nw n).1, N) else if Int32.ofNat n = 0 then some (-9, N) else rdI N 88 8 0 (fun v7 => some (v7, N))) else some (-3, N) := by
          simp only [f_X12_best, f_X12_isSide, in_e, bd_s, hx, hy, and_self, if_true, i1z, if_false, h0, ckZ, or_true, g1]
        have hM := mostX (np := np) (w := 3) hW hL 8 n (rwX M 3) (by omega) (by omega) hS
        have hA := firstX (np := np) (w := 3) (n := n) hW hL hS (by omega)
        rw [← stX_self, B9_f hS hq (by omega) (by omega)] at hM hA
        have f1 : f_X11_best (Int32.ofNat n) (Int32.ofNat k) M = if Int32.ofNat k = 1 then (if Int32.ofNat n = 0 then some (-9, M) else f_X11_best_46 (Int32.ofNat n) (Int32.ofNat k) M) else f_X11_best_46 (Int32.ofNat n) (Int32.ofNat k) M := by
          simp only [f_X11_best, within_e, bd_s, hx, hy, and_self, if_true, i1z, if_false, ht, h0]
        have hk2 : k = 0 ∨ k = 1 := by omega
        rcases hk2 with rfl | rfl
        · rw [if_neg (by decide)] at f1
          rw [if_pos (show Int32.ofNat 0 = 0 from Eq.refl _)] at f2
          unfold f_X11_best_46 at f1
          rw [if_pos (show Int32.ofNat 0 = 0 from Eq.refl _), hM, bd_s] at f1
          unfold f_X11_best_69 at f1
          by_cases hv : 0 ≤ (B9 M nw n).1
          · rw [if_pos hv] at f2
            rw [if_neg (fun hh => by rw [hh] at hv; exact m1_neg hv)] at f1
            exact ⟨_, M, N, f1, f2, R_fr g2.2 h⟩
          · rw [if_neg hv] at f2
            have hn0 : ¬ n = 0 := by
              intro hh
              subst hh
              apply hv
              unfold B9
              rw [bwp_s, if_pos rfl]
              exact Bn_nn (by omega) (wth_Bn hS2)
            have : (B9 M nw n).1 = -1 := by
              rcases bwp_or (nw := nw) (pl := M.1 77) (wy := M.1 78) (lw := M.1 79) (rn := M.1 76 6) (r := rwM M 0) (f := 7 + 1) hn0 with hb | ⟨a, t, -, -, hb, -⟩
              · unfold B9; rw [hb]
              · exact absurd hb hv
            rw [if_pos this] at f1
            exact ⟨_, M, N, f1, f2, R_fr g2.2 h⟩
        · rw [if_pos (show Int32.ofNat 1 = 1 from Eq.refl _)] at f1
          rw [if_neg (show ¬ Int32.ofNat 1 = 0 by decide)] at f2
          by_cases hn0 : n = 0
          · subst hn0
            rw [if_pos (show Int32.ofNat 0 = 0 from Eq.refl _)] at f1 f2
            have hv : 0 ≤ (B9 M nw 0).1 := by
              unfold B9
              rw [bwp_s, if_pos rfl]
              exact Bn_nn (by omega) (wth_Bn hS2)
            rw [if_pos hv] at f2
            exact ⟨_, M, N, f1, f2, R_fr g2.2 h⟩
          · rw [if_neg (show ¬ Int32.ofNat n = 0 by rw [o_eql (by omega) (by omega)]; exact hn0)] at f1 f2
            unfold f_X11_best_46 at f1
            rw [if_neg (show ¬ Int32.ofNat 1 = 0 by decide), hA, bd_s] at f1
            unfold f_X11_best_69 at f1
            rcases bwp_or (nw := nw) (pl := M.1 77) (wy := M.1 78) (lw := M.1 79) (rn := M.1 76 6) (r := rwM M 0) (f := 7 + 1) hn0 with hb | ⟨a, t, ha, hb, hb2, -⟩
            · have e : B9 M nw n = (-1, []) := hb
              rw [e, if_neg m1_neg] at f2
              rw [e, if_pos (show hdA (-1, ([] : List Nat)).2 = -1 from Eq.refl _)] at f1
              exact ⟨_, M, N, f1, f2, R_fr g2.2 h⟩
            · have e : (B9 M nw n).2 = a :: t := hb
              have nw12 := hS.1.2.1
              have hb3 : 0 ≤ (B9 M nw n).1 := hb2
              rw [if_pos hb3, rdI_l (by omega) (by omega)] at f2
              have g6 := g5 0 (by rw [e]; exact Nat.zero_lt_succ _)
              rw [e] at g6 f1
              have hh : hdA (a :: t) = Int32.ofNat a := rfl
              have hne : ¬ Int32.ofNat a = -1 := by
                intro hh
                have := o_nn (n := a) (by omega)
                rw [hh] at this
                exact m1_neg this
              rw [hh, if_neg hne] at f1
              refine ⟨_, M, N, f1, ?_, R_fr g2.2 h⟩
              rw [f2, g6]
              rfl
    · refine ⟨-1, M, M, ?_, ?_, h⟩
      · simp only [f_X11_best, within_e, bd_s, hx, hy, and_self, if_true, i1z, if_false, i0z]
      · simp only [f_X12_best, f_X12_isSide, in_e, bd_s, hx, hy, and_self, if_true, i1z, if_false, i0z, ckZ, true_or]
  · refine ⟨-1, M, M, ?_, ?_, h⟩
    · simp only [f_X11_best, within_e, bd_s, hx, if_false, i0z, if_true]
    · simp only [f_X12_best, in_e, bd_s, hx, if_false, i0z, if_true]
