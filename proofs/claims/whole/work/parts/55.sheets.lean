/-! ===== the pure layer: sheets ===== -/
theorem isSh_e (x : Int32) (M : k_M) : f_X12_isShelf x M = some (if 0 ≤ x ∧ x ≤ 3 then 1 else 0, M) := by
  unfold f_X12_isShelf
  rw [in_e, bd_s, ckZ_b]
/-- writes of longs: only these places -/
theorem fillX {a : Nat} : ∀ (m n j : Nat) (M : k_M), j + m = 40 → m < n → ∃ M', (∀ kx, f_J7_fill_d0a16_6 a 40 n 0 (Int32.ofNat j) (Int32.ofNat 40) M kx = kx M') ∧ M'.1 = M.1 ∧ M'.2.2 = M.2.2 ∧ (∀ b i, b ≠ a → M'.2.1 b i = M.2.1 b i) ∧ (∀ i, i < j → M'.2.1 a i = M.2.1 a i) ∧ (∀ i, j ≤ i → i < 40 → M'.2.1 a i = 0)
  | 0, n, j, M, hj, hn => by
    obtain ⟨n, rfl⟩ : ∃ k, n = k + 1 := ⟨n - 1, by omega⟩
    refine ⟨M, fun kx => ?_, rfl, rfl, fun _ _ _ => rfl, fun _ _ => rfl, fun i h1 h2 => by omega⟩
    rw [f_J7_fill_d0a16_6, if_pos (by rw [o_le (by omega) (by omega)]; omega)]
  | m + 1, n, j, M, hj, hn => by
    obtain ⟨n, rfl⟩ : ∃ k, n = k + 1 := ⟨n - 1, by omega⟩
    obtain ⟨M', g1, g2, g3, g4, g5, g6⟩ := fillX (a := a) m n (j + 1) (sJ M a j 0) (by omega) (by omega)
    refine ⟨M', fun kx => ?_, g2, g3, fun b i hb => ?_, fun i hi => ?_, fun i h1 h2 => ?_⟩
    · rw [f_J7_fill_d0a16_6, if_neg (by rw [o_le (by omega) (by omega)]; omega), wrJ_o (by omega) (by omega), o_addl]
      exact g1 kx
    · rw [g4 b i hb, sJ_g, if_neg (by omega)]
    · rw [g5 i (by omega), sJ_g, if_neg (by omega)]
    · by_cases hij : i = j
      · subst hij
        rw [g5 i (by omega), sJ_g, if_pos ⟨rfl, rfl⟩]
      · exact g6 i (by omega) h2
theorem fillM {s : Nat} (hs : s < 4) : ∀ (m n j : Nat) (M : k_M), j + m = 40 → m < n → ∃ M', (∀ kx, f_X12_sheet_64 n (Int32.ofNat s) (Int32.ofNat j) M kx = kx M') ∧ M'.1 = M.1 ∧ M'.2.2 = M.2.2 ∧ (∀ b i, ¬ (b = 98 ∧ 40 * s ≤ i ∧ i < 40 * s + 40) → M'.2.1 b i = M.2.1 b i) ∧ (∀ i, i < j → M'.2.1 98 (40 * s + i) = M.2.1 98 (40 * s + i)) ∧ (∀ i, j ≤ i → i < 40 → M'.2.1 98 (40 * s + i) = 0)
  | 0, n, j, M, hj, hn => by
    obtain ⟨n, rfl⟩ : ∃ k, n = k + 1 := ⟨n - 1, by omega⟩
    refine ⟨M, fun kx => ?_, rfl, rfl, fun _ _ _ => rfl, fun _ _ => rfl, fun i h1 h2 => by omega⟩
    rw [f_X12_sheet_64, if_pos (by rw [o_lle (by omega) (by omega)]; omega)]
  | m + 1, n, j, M, hj, hn => by
    obtain ⟨n, rfl⟩ : ∃ k, n = k + 1 := ⟨n - 1, by omega⟩
    obtain ⟨M', g1, g2, g3, g4, g5, g6⟩ := fillM hs m n (j + 1) (sJ M 98 (40 * s + j) 0) (by omega) (by omega)
    refine ⟨M', fun kx => ?_, g2, g3, fun b i hb => ?_, fun i hi => ?_, fun i h1 h2 => ?_⟩
    · rw [f_X12_sheet_64, if_neg (by rw [o_lle (by omega) (by omega)]; omega), o_lmul, o_add, wrJ_o (by omega) (by omega), o_addl]
      exact g1 kx
    · rw [g4 b i hb, sJ_g, if_neg (by omega)]
    · rw [g5 i (by omega), sJ_g, if_neg (by omega)]
    · by_cases hij : i = j
      · subst hij
        rw [g5 i (by omega), sJ_g, if_pos ⟨rfl, rfl⟩]
      · exact g6 i (by omega) h2
/-- only sheets and their sorts have changed -/
theorem R_Sh {M M' : k_M} (h : R M) (c : ∀ a j, ¬ locS a → M'.1 a j = M.1 a j) (d : M'.2.2 = M.2.2) (hS : RS M') : R M' := by
  obtain ⟨hN, hK, hT, hW, -, hF, hA, hB⟩ := h
  have hn : M.2.2.2 ≤ M'.2.2.2 := by rw [d]; exact Nat.le_refl _
  exact ⟨RN_fr (fun a j hl => c a j (by unfold locN at hl; unfold locS; omega)) (by rw [d]) hn hN, RK_fr (fun a j hl => c a j (by unfold locK at hl; unfold locS; omega)) (by rw [d]) hn hK, RT_fr (fun a j hl => c a j (by unfold locT at hl; unfold locS; omega)) hT, RW_fr (fun a j hl => c a j (by unfold locW at hl; unfold locS; omega)) hW, hS, RF_fr (fun a j hl => c a j (by unfold locF at hl; unfold locS; omega)) hF, RA_fr (fun a j hl => c a j (by unfold locA at hl; unfold locS; omega)) hA, RB_fr (fun j => c 80 j (by unfold locS; omega)) hn hB⟩
theorem c_sheet (x y z : Int32) : Call (f_X11_sheet x y z) (f_X12_sheet x y z) := by
  intro M h
  have hS := h.2.2.2.2.1
  by_cases hx : 0 ≤ x ∧ x ≤ 3
  · obtain ⟨s, hs, rfl⟩ := ex_o (n := 3) (by omega) hx.1 hx.2
    by_cases hy : -1 ≤ y ∧ y ≤ 3
    · have x1 : f_X11_sheet (Int32.ofNat s) y z M = if y = (-1) then wrI M 64 4 (Int32.ofNat s) (-1) (fun M10 => some (1, M10)) else if z ≤ 40 then if 0 ≤ z then wrI M 64 4 (Int32.ofNat s) y (fun M5 => wrI M5 65 4 (Int32.ofNat s) z (fun M6 => rdLL 66 (Int32.ofNat s) (fun q7 => bd (f_J7_fill_d0a16 q7 40 0 M6) (fun r8 M9 => some (1, M9))))) else some (-14, M) else some (-1, M) := by
        unfold f_X11_sheet
        rw [within_e, bd_s, if_pos hx, if_neg (by decide), within_e, bd_s, if_pos hy, if_neg (by decide)]
      have m1 : ∀ N, f_X12_sheet (Int32.ofNat s) y z N = if y < 0 then f_X12_sheet_28 (Int32.ofNat s) y z N else if z ≤ 40 then f_X12_sheet_28 (Int32.ofNat s) y z N else some (-1, N) := fun N => by
        unfold f_X12_sheet
        rw [isSh_e, bd_s, if_pos hx, if_neg (by decide), in_e, bd_s, if_pos hy, if_neg (by decide)]
      by_cases hm : y = -1
      · subst hm
        obtain ⟨M', g1, g2, g3, g4, g5, g6⟩ := fillM (s := s) (by omega) 40 k_fu 0 (sI (sI (sI M 64 s (-1)) 96 s (-1)) 97 s 0) (by omega) (by unfold k_fu; omega)
        refine ⟨1, sI M 64 s (-1), M', ?_, ?_, ?_⟩
        · rw [x1, if_pos rfl, wrI_o (by omega) (by omega)]
        · rw [m1, if_pos (by decide)]
          unfold f_X12_sheet_28 f_X12_sheet_39 f_X12_sheet_60
          rw [if_pos (by decide), wrI_o (by omega) (by omega), if_neg (by decide), wrI_o (by omega) (by omega), e0z]
          exact g1 _
        · refine R_Sh h (fun a j ha => ?_) g3 (fun t ht => ?_)
          · rw [g2, sI_g, if_neg (by unfold locS at ha; omega), sI_g, if_neg (by unfold locS at ha; omega), sI_g, if_neg (by unfold locS at ha; omega)]
          · have c64 : M'.1 64 t = if t = s then -1 else M.1 64 t := by
              rw [g2, sI_g, if_neg (by omega), sI_g, if_neg (by omega), sI_g]
              by_cases hh : t = s
              · rw [if_pos ⟨rfl, hh⟩, if_pos hh]
              · rw [if_neg (fun q => hh q.2), if_neg hh]
            have c96 : M'.1 96 t = if t = s then -1 else M.1 96 t := by
              rw [g2, sI_g, if_neg (by omega), sI_g]
              by_cases hh : t = s
              · rw [if_pos ⟨rfl, hh⟩, if_pos hh]
              · rw [if_neg (fun q => hh q.2), if_neg hh, sI_g, if_neg (by omega)]
            rw [c64, c96]
            by_cases hh : t = s
            · rw [if_pos hh, if_pos hh]
              exact ⟨rfl, .inl rfl⟩
            · rw [if_neg hh, if_neg hh]
              obtain ⟨b1, b2⟩ := hS t ht
              refine ⟨b1, ?_⟩
              rcases b2 with b2 | ⟨b2, b3, b4, b5⟩
              · exact .inl b2
              · have c65 : M'.1 65 t = M.1 65 t := by rw [g2, sI_g, if_neg (by omega), sI_g, if_neg (by omega), sI_g, if_neg (by omega)]
                have c97 : M'.1 97 t = M.1 97 t := by rw [g2, sI_g, if_neg (by omega), sI_g, if_neg (by omega), sI_g, if_neg (by omega)]
                refine .inr ⟨b2, by rw [c65, c97]; exact b3, by rw [c97]; exact b4, fun i hi => ?_⟩
                rw [g4 _ _ (by omega), g4 _ _ (by omega)]
                exact b5 i hi
      · have hy0 : 0 ≤ y := by
          apply lt_m1
          rw [Int32.lt_iff_le_and_ne]
          exact ⟨hy.1, fun hh => hm hh.symm⟩
        obtain ⟨so, hso, rfl⟩ := ex_o (n := 3) (by omega) hy0 hy.2
        have hyn : ¬ Int32.ofNat so < 0 := Int32.not_lt.mpr hy0
        by_cases hz : z ≤ 40
        · by_cases hz0 : 0 ≤ z
          · obtain ⟨n, hn, rfl⟩ := ex_o (n := 40) (by omega) hz0 hz
            obtain ⟨M1, f1, f2, f3, f4, f5, f6⟩ := fillX (a := 66 + (s + 1)) 40 k_fu 0 (sI (sI M 64 s (Int32.ofNat so)) 65 s (Int32.ofNat n)) (by omega) (by unfold k_fu; omega)
            obtain ⟨M', g1, g2, g3, g4, g5, g6⟩ := fillM (s := s) (by omega) 40 k_fu 0 (sI (sI M1 96 s (Int32.ofNat so)) 97 s (Int32.ofNat n)) (by omega) (by unfold k_fu; omega)
            refine ⟨1, M1, M', ?_, ?_, ?_⟩
            · rw [x1, if_neg hm, if_pos hz, if_pos hz0, wrI_o (by omega) (by omega), wrI_o (by omega) (by omega), rdLL_o (by omega)]
              unfold f_J7_fill_d0a16
              rw [bN_e, e0z, f1]
              rfl
            · rw [m1, if_neg hyn, if_pos hz]
              unfold f_X12_sheet_28 f_X12_sheet_39 f_X12_sheet_60
              rw [if_neg hyn, if_pos hz0, wrI_o (by omega) (by omega), if_pos hy0, wrI_o (by omega) (by omega), e0z]
              exact g1 _
            · have c1 : ∀ a j, M'.1 a j = if a = 97 ∧ j = s then Int32.ofNat n else if a = 96 ∧ j = s then Int32.ofNat so else if a = 65 ∧ j = s then Int32.ofNat n else if a = 64 ∧ j = s then Int32.ofNat so else M.1 a j := fun a j => by
                rw [g2, sI_g, sI_g, f2, sI_g, sI_g]
              refine R_Sh h (fun a j ha => ?_) (g3.trans f3) (fun t ht => ?_)
              · rw [c1, if_neg (by unfold locS at ha; omega), if_neg (by unfold locS at ha; omega), if_neg (by unfold locS at ha; omega), if_neg (by unfold locS at ha; omega)]
              · have v64 : M'.1 64 t = if t = s then Int32.ofNat so else M.1 64 t := by
                  rw [c1, if_neg (by omega), if_neg (by omega), if_neg (by omega)]
                  simp only [true_and]
                have v65 : M'.1 65 t = if t = s then Int32.ofNat n else M.1 65 t := by
                  rw [c1, if_neg (by omega), if_neg (by omega)]
                  by_cases hh : t = s
                  · rw [if_pos ⟨rfl, hh⟩, if_pos hh]
                  · rw [if_neg (fun q => hh q.2), if_neg hh, if_neg (by omega)]
                have v96 : M'.1 96 t = if t = s then Int32.ofNat so else M.1 96 t := by
                  rw [c1, if_neg (by omega)]
                  by_cases hh : t = s
                  · rw [if_pos ⟨rfl, hh⟩, if_pos hh]
                  · rw [if_neg (fun q => hh q.2), if_neg hh, if_neg (by omega), if_neg (by omega)]
                have v97 : M'.1 97 t = if t = s then Int32.ofNat n else M.1 97 t := by
                  rw [c1]
                  by_cases hh : t = s
                  · rw [if_pos ⟨rfl, hh⟩, if_pos hh]
                  · rw [if_neg (fun q => hh q.2), if_neg hh, if_neg (by omega), if_neg (by omega), if_neg (by omega)]
                rw [v64, v65, v96, v97]
                by_cases hh : t = s
                · rw [if_pos hh, if_pos hh, if_pos hh, if_pos hh]
                  refine ⟨rfl, .inr ⟨⟨so, hso, rfl⟩, rfl, ⟨n, hn, rfl⟩, fun i hi => ?_⟩⟩
                  subst hh
                  rw [g4 _ _ (by omega), g6 i (by omega) hi]
                  have := f6 i (by omega) hi
                  rw [show 66 + (t + 1) = 67 + t by omega] at this
                  exact this
                · rw [if_neg hh, if_neg hh, if_neg hh, if_neg hh]
                  obtain ⟨b1, b2⟩ := hS t ht
                  refine ⟨b1, ?_⟩
                  rcases b2 with b2 | ⟨b2, b3, b4, b5⟩
                  · exact .inl b2
                  · refine .inr ⟨b2, b3, b4, fun i hi => ?_⟩
                    rw [g4 _ _ (by omega), g4 _ _ (by omega)]
                    have e1 : M1.2.1 (67 + t) i = M.2.1 (67 + t) i := f4 _ _ (by omega)
                    have e2 : M1.2.1 98 (40 * t + i) = M.2.1 98 (40 * t + i) := f4 _ _ (by omega)
                    exact e1.trans ((b5 i hi).trans e2.symm)
          · refine ⟨-14, M, M, ?_, ?_, h⟩
            · rw [x1, if_neg hm, if_pos hz, if_neg hz0]
            · rw [m1, if_neg hyn, if_pos hz]
              unfold f_X12_sheet_28
              rw [if_neg hyn, if_neg hz0]
        · refine ⟨-1, M, M, ?_, ?_, h⟩
          · rw [x1, if_neg hm, if_neg hz]
          · rw [m1, if_neg hyn, if_neg hz]
    · refine ⟨-1, M, M, ?_, ?_, h⟩
      · unfold f_X11_sheet
        rw [within_e, bd_s, if_pos hx, if_neg (by decide), within_e, bd_s, if_neg hy, if_pos rfl]
      · unfold f_X12_sheet
        rw [isSh_e, bd_s, if_pos hx, if_neg (by decide), in_e, bd_s, if_neg hy, if_pos rfl]
  · refine ⟨-1, M, M, ?_, ?_, h⟩
    · unfold f_X11_sheet
      rw [within_e, bd_s, if_neg hx, if_pos rfl]
    · unfold f_X12_sheet
      rw [isSh_e, bd_s, if_neg hx, if_pos rfl]
theorem within_p (z : Int32) {n : Nat} (hn : n ≤ 1000) (M : k_M) : f_X11_within z 0 (Int32.ofNat n - 1) M = some (if 0 ≤ z ∧ z < Int32.ofNat n then 1 else 0, M) := by
  rw [within_e]
  simp (disch := omega) only [le_pr]
theorem in_p (z : Int32) {n : Nat} (hn : n ≤ 1000) (M : k_M) : f_X12_in z 0 (Int32.ofNat n - 1) M = some (if 0 ≤ z ∧ z < Int32.ofNat n then 1 else 0, M) := by
  rw [in_e]
  simp (disch := omega) only [le_pr]
theorem neg_sort {v : Int32} (h : v = -1 ∨ Bn v 3) : (v = -1) = ¬ (0 ≤ v) := by
  apply propext
  rcases h with h | ⟨k, hk, h⟩
  · rw [h]; decide
  · have := o_nn (n := k) (by omega)
    rw [h]
    exact ⟨fun hh => (by rw [hh] at this; exact absurd this (by decide)), fun hh => absurd this hh⟩
theorem c_item (x y z : Int32) : Call (f_X11_item x y z) (f_X12_item x y z) := by
  intro M h
  have hS := h.2.2.2.2.1
  by_cases hx : 0 ≤ x ∧ x ≤ 3
  · obtain ⟨s, hs, rfl⟩ := ex_o (n := 3) (by omega) hx.1 hx.2
    obtain ⟨b1, b2⟩ := hS s (by omega)
    by_cases hy : 0 ≤ y ∧ y ≤ 3
    · have x1 : f_X11_item (Int32.ofNat s) y z M = if M.1 96 s = (-1) then some (-11, M) else if M.1 96 s = y then rdI M 65 4 (Int32.ofNat s) (fun v7 => bd (f_X11_within z 0 (v7 - 1) M) (fun r8 M9 => if r8 = 0 then some (-12, M9) else rdLL 66 (Int32.ofNat s) (fun q10 => rdJ M9 q10 40 z (fun v11 => some (v11.toInt32, M9))))) else some (-13, M) := by
        unfold f_X11_item
        rw [within_e, bd_s, if_pos hx, if_neg (by decide), within_e, bd_s, if_pos hy, if_neg (by decide), rdI_o (by omega) (by omega), rdI_o (by omega) (by omega), b1]
      have m1 : f_X12_item (Int32.ofNat s) y z M = if 0 ≤ M.1 96 s then (if M.1 96 s = y then rdI M 97 4 (Int32.ofNat s) (fun v7 => bd (f_X12_in z 0 (v7 - 1) M) (fun r8 M9 => if r8 = 0 then some (-12, M9) else rdJ M9 98 160 ((40 * Int32.ofNat s) + z) (fun v10 => some (v10.toInt32, M9)))) else some (-13, M)) else some (-11, M) := by
        unfold f_X12_item f_X12_lacksSort
        rw [isSh_e, bd_s, if_pos hx, if_neg (by decide), in_e, bd_s, if_pos hy, if_neg (by decide), rdI_o (by omega) (by omega), rdI_o (by omega) (by omega)]
        by_cases h0 : 0 ≤ M.1 96 s
        · rw [if_pos h0, if_pos h0]
          by_cases h1 : M.1 96 s = y
          · rw [if_pos h1, if_pos h1, bd_s, if_pos rfl]
          · rw [if_neg h1, if_neg h1, bd_s, if_neg (by decide)]
        · rw [if_neg h0, if_neg h0, bd_s, if_neg (by decide)]
      rcases b2 with b2 | ⟨b2, b3, b4, b5⟩
      · refine ⟨-11, M, M, ?_, ?_, h⟩
        · rw [x1, if_pos b2]
        · rw [m1, b2, if_neg (by decide)]
      · obtain ⟨k, hk, ek⟩ := b2
        have hn1 : ¬ M.1 96 s = -1 := by rw [neg_sort (.inr ⟨k, hk, ek⟩), ek]; intro hh; exact hh (o_nn (by omega))
        have hp0 : 0 ≤ M.1 96 s := by rw [ek]; exact o_nn (by omega)
        by_cases h1 : M.1 96 s = y
        · obtain ⟨n, hn, en⟩ := b4
          rw [if_neg hn1, if_pos h1, rdI_o (by omega) (by omega), b3, en, within_p _ (by omega), bd_s] at x1
          rw [if_pos hp0, if_pos h1, rdI_o (by omega) (by omega), en, in_p _ (by omega), bd_s] at m1
          by_cases hz : 0 ≤ z ∧ z < Int32.ofNat n
          · rw [if_pos hz, if_neg (by decide)] at x1 m1
            obtain ⟨i, hi, rfl⟩ := ex_lt (by omega) hz.1 hz.2
            rw [rdLL_o (by omega), rdJ_o (by omega) (by omega)] at x1
            rw [o_lmul, o_add, rdJ_o (by omega) (by omega)] at m1
            refine ⟨_, M, M, x1, ?_, h⟩
            rw [m1, show 66 + (s + 1) = 67 + s by omega, b5 i (by omega)]
          · rw [if_neg hz, if_pos rfl] at x1 m1
            exact ⟨-12, M, M, x1, m1, h⟩
        · refine ⟨-13, M, M, ?_, ?_, h⟩
          · rw [x1, if_neg hn1, if_neg h1]
          · rw [m1, if_pos hp0, if_neg h1]
    · refine ⟨-1, M, M, ?_, ?_, h⟩
      · unfold f_X11_item
        rw [within_e, bd_s, if_pos hx, if_neg (by decide), within_e, bd_s, if_neg hy, if_pos rfl]
      · unfold f_X12_item
        rw [isSh_e, bd_s, if_pos hx, if_neg (by decide), in_e, bd_s, if_neg hy, if_pos rfl]
  · refine ⟨-1, M, M, ?_, ?_, h⟩
    · unfold f_X11_item
      rw [within_e, bd_s, if_neg hx, if_pos rfl]
    · unfold f_X12_item
      rw [isSh_e, bd_s, if_neg hx, if_pos rfl]
theorem c_put (x y z : Int32) : Call (f_X11_put x y z) (f_X12_put x y z) := by
  intro M h
  have hS := h.2.2.2.2.1
  by_cases hx : 0 ≤ x ∧ x ≤ 3
  · obtain ⟨s, hs, rfl⟩ := ex_o (n := 3) (by omega) hx.1 hx.2
    obtain ⟨b1, b2⟩ := hS s (by omega)
    rcases b2 with b2 | ⟨b2, b3, b4, b5⟩
    · refine ⟨-11, M, M, ?_, ?_, h⟩
      · unfold f_X11_put
        rw [within_e, bd_s, if_pos hx, if_neg (by decide), rdI_o (by omega) (by omega), b1, if_pos b2]
      · unfold f_X12_put
        rw [isSh_e, bd_s, if_pos hx, if_neg (by decide), rdI_o (by omega) (by omega), if_neg (by rw [b2]; decide)]
    · obtain ⟨k, hk, ek⟩ := b2
      obtain ⟨n, hn, en⟩ := b4
      have hn1 : ¬ M.1 96 s = -1 := by rw [neg_sort (.inr ⟨k, hk, ek⟩), ek]; intro hh; exact hh (o_nn (by omega))
      have hp0 : 0 ≤ M.1 96 s := by rw [ek]; exact o_nn (by omega)
      by_cases hz : 0 ≤ y ∧ y < Int32.ofNat n
      · obtain ⟨i, hi, rfl⟩ := ex_lt (by omega) hz.1 hz.2
        obtain ⟨V, hV⟩ : ∃ V : Int64, V = if M.1 96 s = 0 then z.toInt8.toInt32.toInt64 else if M.1 96 s = 1 then z.toInt16.toInt32.toInt64 else z.toInt64 := ⟨_, rfl⟩
        refine ⟨1, sJ M (67 + s) i V, sJ (sJ M (67 + s) i V) 98 (40 * s + i) V, ?_, ?_, ?_⟩
        · unfold f_X11_put
          rw [within_e, bd_s, if_pos hx, if_neg (by decide), rdI_o (by omega) (by omega), b1, if_neg hn1, rdI_o (by omega) (by omega), b3, en, within_p _ (by omega), bd_s, if_pos hz, if_neg (by decide), rdLL_o (by omega), rdI_o (by omega) (by omega), b1]
          have en : f_X11_narrowed z (M.1 96 s) M = some (V, M) := by
            unfold f_X11_narrowed f_X11_narrowed_21
            rw [hV]
            split
            · rfl
            · split <;> rfl
          rw [en, bd_s, wrJ_o (by omega) (by omega), show 66 + (s + 1) = 67 + s by omega]
        · have q1 : (sJ M (67 + s) i V).1 = M.1 := rfl
          unfold f_X12_put f_X12_put_83
          rw [isSh_e, bd_s, if_pos hx, if_neg (by decide), rdI_o (by omega) (by omega), q1, if_pos hp0, rdI_o (by omega) (by omega), q1, en, in_p _ (by omega), bd_s, if_pos hz, if_neg (by decide), rdI_o (by omega) (by omega), q1, o_lmul, o_add, rdI_o (by omega) (by omega), q1, wrJ_o (by omega) (by omega), wrJ_o (by omega) (by omega), wrJ_o (by omega) (by omega), hV]
          split
          · rfl
          · split <;> rfl
        · refine R_Sh h (fun _ _ _ => rfl) rfl (fun t ht => ?_)
          obtain ⟨c1, c2⟩ := hS t ht
          refine ⟨c1, ?_⟩
          rcases c2 with c2 | ⟨c2, c3, c4, c5⟩
          · exact .inl c2
          · refine .inr ⟨c2, c3, c4, fun j hj => ?_⟩
            rw [sJ_g, if_neg (by omega), sJ_g, sJ_g]
            by_cases hh : t = s ∧ j = i
            · rw [if_pos (by omega), if_pos (by omega)]
            · rw [if_neg (by omega), if_neg (by omega), sJ_g, if_neg (by omega)]
              exact c5 j hj
      · refine ⟨-12, M, M, ?_, ?_, h⟩
        · unfold f_X11_put
          rw [within_e, bd_s, if_pos hx, if_neg (by decide), rdI_o (by omega) (by omega), b1, if_neg hn1, rdI_o (by omega) (by omega), b3, en, within_p _ (by omega), bd_s, if_neg hz, if_pos rfl]
        · unfold f_X12_put
          rw [isSh_e, bd_s, if_pos hx, if_neg (by decide), rdI_o (by omega) (by omega), if_pos hp0, rdI_o (by omega) (by omega), en, in_p _ (by omega), bd_s, if_neg hz, if_pos rfl]
  · refine ⟨-1, M, M, ?_, ?_, h⟩
    · unfold f_X11_put
      rw [within_e, bd_s, if_neg hx, if_pos rfl]
    · unfold f_X12_put
      rw [isSh_e, bd_s, if_neg hx, if_pos rfl]
