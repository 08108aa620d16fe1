/-! ===== the pure layer: a place is read ===== -/
theorem wP34_f {M : k_M} (h : M.1 76 18 = 0) (a : Int32) : f_X12_wantPlace_34 a M = some ((), M) := by
  unfold f_X12_wantPlace_34
  rw [wN_f h, bd_s, mEnd_e, bd_s]
  by_cases he : a = 1 ∨ a = 4
  · rw [if_pos he, if_neg (show ¬ (1 : Int32) = 0 by decide), wP61_f h]
  · rw [if_neg he, if_pos rfl, wN_f h, bd_s, wP61_f h]
section
variable {f : Nat → Nat} {n np nw s : Nat} {Bx Bm Mx Mm : k_M}
theorem place_l (h : Qq f n Bx Bm np nw s Mx Mm) (hk : kdN f n s < 6) (hs : s < n) (hnp : np < 8) : Out f n Bx Bm s (f_X7_readPlace 43 (Int32.ofNat (kdN f n s)) Mx) (f_X12_wantPlace Mm) := by
  obtain ⟨k, hkk⟩ : ∃ k, k = kdN f n s := ⟨_, rfl⟩
  have kI : kdI f n s = Int32.ofNat k := by
    unfold kdI
    rw [if_neg (by omega), hkk]
  rw [← hkk] at hk ⊢
  have om : f_X12_wantPlace Mm = bd (f_X12_advance Mm) (fun r3 M4 => f_X12_wantPlace_34 (Int32.ofNat k) M4) := by
    unfold f_X12_wantPlace
    rw [kindM h.2.1, bd_s, kI, h.2.2.2.1.2.2.1, if_neg (by rw [o_lle (by omega) (by omega)]; omega)]
    unfold f_X12_wantPlace_20
    rw [ckZ_1, bN_e, fl_1 h.2.2.1, h.2.2.1, if_neg (show ¬ (1 : Int32) = 0 by decide)]
  have hle := Q_le h
  have b1 := (nx_b f hle.1).2.2 hs
  obtain ⟨X1, Y1, x1, y1, q1⟩ := Q_step h
  rw [om, y1, bd_s]
  unfold f_X7_readPlace
  rw [x1, bd_s, isNumX (lo := 0) (h := 10) (p1 := 0) (p2 := 9) q1.1 (by omega) rfl (by decide) (by omega), bd_s, z01]
  by_cases hN : okN f n (nx f n s) 0 10
  · rw [if_pos hN, bN_e, valX q1.1 hN.1]
    obtain ⟨X2, Y2, x2, y2, q2⟩ := Q_step q1
    have b2 := nx_b f (Q_le q1).1
    have hg := hN.2.2
    unfold f_X12_wantPlace_34
    rw [x2, bd_s, xEnd_e, bd_s, z01, wN_ok (lo := 0) (h := 10) (p1 := 0) (p2 := 9) q1.2.2.1 q1.2.1 (by omega) rfl (by decide) (by omega) hN, y2, bd_s, bd_s, mEnd_e, bd_s, z01]
    by_cases he : Int32.ofNat k = 1 ∨ Int32.ofNat k = 4
    · rw [if_pos he, if_pos he]
      exact place58_l (l := 99) q2 (by omega) hnp (by omega) (by omega) (by omega) (by unfold lft; rw [if_pos he]; rfl)
    · rw [if_neg he, if_neg he, isNumX (lo := 0) (h := 100) (p1 := 0) (p2 := 99) q2.1 (by omega) rfl (by decide) (by omega), bd_s, z01]
      by_cases hM : okN f n (nx f n (nx f n s)) 0 100
      · rw [if_pos hM, bN_e, valX q2.1 hM.1]
        obtain ⟨X3, Y3, x3, y3, q3⟩ := Q_step q2
        have b3 := nx_b f (Q_le q2).1
        have hg2 := hM.2.2
        rw [x3, bd_s, wN_ok (lo := 0) (h := 100) (p1 := 0) (p2 := 99) q2.2.2.1 q2.2.1 (by omega) rfl (by decide) (by omega) hM, y3, bd_s, bd_s]
        exact place58_l q3 (by omega) hnp (by omega) (by omega) (by omega) (by unfold lft; rw [if_neg he])
      · rw [if_neg hM, wN_no (lo := 0) (h := 100) (p1 := 0) (p2 := 99) q2.2.2.1 q2.2.1 (by omega) rfl (by decide) (by omega) hM, bd_s, wP61_f (fl_g0 Y2)]
        exact .inl ⟨X2, _, rfl, rfl, Q_fail q2⟩
  · refine .inl ⟨X1, sI Y1 76 18 0, ?_, ?_, Q_fail q1⟩
    · rw [if_neg hN]
    · unfold f_X12_wantPlace_34
      rw [wN_no (lo := 0) (h := 10) (p1 := 0) (p2 := 9) q1.2.2.1 q1.2.1 (by omega) rfl (by decide) (by omega) hN, bd_s, mEnd_e, bd_s]
      by_cases he : Int32.ofNat k = 1 ∨ Int32.ofNat k = 4
      · rw [if_pos he, if_neg (show ¬ (1 : Int32) = 0 by decide), wP61_f (fl_g0 Y1)]
      · rw [if_neg he, if_pos rfl, wN_f (fl_g0 Y1), bd_s, wP61_f (fl_g0 Y1)]
theorem place_no (h : Qq f n Bx Bm np nw s Mx Mm) (hnp : ¬ np < 8) : f_X12_wantPlace Mm = some ((), sI Mm 76 18 0) := by
  have hle := Q_le h
  unfold f_X12_wantPlace
  rw [kindM h.2.1, bd_s, h.2.2.2.1.2.2.1, if_pos (by rw [o_lle (by omega) (by omega)]; omega)]
  unfold f_X12_wantPlace_20
  rw [ckZ_0, bN_e, if_pos (fl_g0 Mm), wP34_f (fl_g0 Mm)]
end
