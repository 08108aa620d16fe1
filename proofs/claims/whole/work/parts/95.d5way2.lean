/-! ===== the pure layer: a whole way, a piece ===== -/
section
variable {f : Nat → Nat} {n np nw s : Nat} {Bx Bm Mx Mm : k_M}
theorem way_l (h : Qq f n Bx Bm np nw s Mx Mm) (hs : s < n) (hnw : nw < 12) : Out f n Bx Bm s (f_X7_readWay 43 Mx) (f_X12_wantWay Mm) := by
  have hle := Q_le h
  obtain ⟨X1, Y1, x1, y1, q1⟩ := Q_step h
  have b1 := (nx_b f hle.1).2.2 hs
  have w1 := adv_85 h.2.1 y1
  obtain ⟨s1, hs1⟩ : ∃ s1, s1 = nx f n s := ⟨_, rfl⟩
  rw [← hs1] at q1 b1
  have om : f_X12_wantWay Mm = f_X12_wantWay_29 Y1 := by
    unfold f_X12_wantWay
    rw [h.2.2.2.1.2.2.2.1, if_neg (by rw [o_lle (by omega) (by omega)]; omega)]
    unfold f_X12_wantWay_15
    rw [ckZ_1, bN_e, fl_1 h.2.2.1, h.2.2.1, if_neg (show ¬ (1 : Int32) = 0 by decide), y1, bd_s]
  rw [om]
  unfold f_X7_readWay f_X12_wantWay_29
  rw [x1, bd_s, freeX q1, bd_s, z01]
  by_cases F1 : frd f n s1 np nw (Y1.1 85)
  · have v1 := F1.1.2.2
    have p1 : ¬ Int32.ofNat (nv f n s1) = -1 := fun q => by
      have := o_nn (n := nv f n s1) (by omega)
      rw [q] at this
      exact absurd this (by decide)
    obtain ⟨X2, Y2, x2, y2, q2⟩ := Q_step q1
    have b2 := (nx_b f (Q_le q1).1).1
    have w2 := adv_85 q1.2.1 y2
    obtain ⟨s2, hs2⟩ : ∃ s2, s2 = nx f n s1 := ⟨_, rfl⟩
    rw [← hs2] at q2 b2
    rw [if_pos F1, bN_e, valX q1.1 F1.1.1, x2, bd_s, freeX q2, bd_s, z01, wO_ok q1 F1 p1, y2, bd_s, bd_s]
    by_cases F2 : frd f n s2 np nw (Y2.1 85)
    · have v2 := F2.1.2.2
      rw [if_pos F2, valX q2.1 F2.1.1]
      by_cases he : Int32.ofNat (nv f n s2) = Int32.ofNat (nv f n s1)
      · rw [if_pos he, wO_no q2 (fun q => q.2 he), bd_s, wN_f (fl_g0 Y2), bd_s, wN_f (fl_g0 Y2), bd_s, if_pos (fl_g0 Y2), w81_f (fl_g0 Y2)]
        exact .inl ⟨X2, _, rfl, rfl, Q_fail q2⟩
      · obtain ⟨X3, Y3, x3, y3, q3⟩ := Q_step q2
        have b3 := (nx_b f (Q_le q2).1).1
        have w3 := adv_85 q2.2.1 y3
        obtain ⟨s3, hs3⟩ : ∃ s3, s3 = nx f n s2 := ⟨_, rfl⟩
        rw [← hs3] at q3 b3
        rw [if_neg he, bN_e, x3, bd_s, isNumX (lo := 1) (h := 5) (p1 := 1) (p2 := 4) q3.1 (by omega) rfl (by decide) (by omega), bd_s, z01, wO_ok q2 F2 he, y3, bd_s, bd_s]
        by_cases N3 : okN f n s3 1 5
        · obtain ⟨X4, Y4, x4, y4, q4⟩ := Q_step q3
          have b4 := (nx_b f (Q_le q3).1).1
          have w4 := adv_85 q3.2.1 y4
          have v3 := N3.2
          obtain ⟨s4, hs4⟩ : ∃ s4, s4 = nx f n s3 := ⟨_, rfl⟩
          rw [← hs4] at q4 b4
          rw [if_pos N3, bN_e, valX q3.1 N3.1, x4, bd_s, isNumX (lo := 0) (h := 10) (p1 := 0) (p2 := 9) q4.1 (by omega) rfl (by decide) (by omega), bd_s, z01, wN_ok (lo := 1) (h := 5) (p1 := 1) (p2 := 4) q3.2.2.1 q3.2.1 (by omega) rfl (by decide) (by omega) N3, y4, bd_s, bd_s]
          by_cases N4 : okN f n s4 0 10
          · obtain ⟨X5, Y5, x5, y5, q5⟩ := Q_step q4
            have b5 := (nx_b f (Q_le q4).1).1
            have w5 := adv_85 q4.2.1 y5
            have v4 := N4.2.2
            obtain ⟨s5, hs5⟩ : ∃ s5, s5 = nx f n s4 := ⟨_, rfl⟩
            rw [← hs5] at q5 b5
            rw [if_pos N4, bN_e, valX q4.1 N4.1, x5, bd_s, wN_ok (lo := 0) (h := 10) (p1 := 0) (p2 := 9) q4.2.2.1 q4.2.1 (by omega) rfl (by decide) (by omega) N4, y5, bd_s, bd_s, q5.2.2.1, if_neg (show ¬ (1 : Int32) = 0 by decide), isWordM (k := 1) (p := 257) (by omega) rfl q5.2.1, bd_s, z01]
            unfold f_X7_readMonths
            rw [isNamX (k := 1) (by omega) q5.1, bd_s]
            have hr' : (if nmd f n s5 1 then (1 : Int32) else 0) = 0 ∨ ((if nmd f n s5 1 then (1 : Int32) else 0) = 1 ∧ s5 < n) := by
              by_cases hd : nmd f n s5 1
              · rw [if_pos hd]
                exact .inr ⟨rfl, nmd_s hd⟩
              · rw [if_neg hd]
                exact .inl rfl
            have e84 : (if nmd f n s5 1 then f_X12_wantWay_82 (Int32.ofNat (nv f n s1)) (Int32.ofNat (nv f n s2)) (Int32.ofNat (nv f n s3)) (Int32.ofNat (nv f n s4)) 0 1 Y5 else f_X12_wantWay_81 (Int32.ofNat (nv f n s1)) (Int32.ofNat (nv f n s2)) (Int32.ofNat (nv f n s3)) (Int32.ofNat (nv f n s4)) 0 Y5) = f_X12_wantWay_84 k_fu (Int32.ofNat (nv f n s1)) (Int32.ofNat (nv f n s2)) (Int32.ofNat (nv f n s3)) (Int32.ofNat (nv f n s4)) 0 (if nmd f n s5 1 then (1 : Int32) else 0) Y5 (fun l1_ l2_ l3_ l4_ l5_ M_ => f_X12_wantWay_149 l1_ l2_ l3_ l4_ l5_ M_) := by
              by_cases hd : nmd f n s5 1
              · rw [if_pos hd, if_pos hd]
                rfl
              · rw [if_neg hd, if_neg hd]
                rfl
            rw [e84]
            rcases months_l (n - s5) k_fu k_fu s5 0 0 (if nmd f n s5 1 then (1 : Int32) else 0) X5 Y5 q5 (Nat.le_refl _) (by unfold k_fu; omega) (by unfold k_fu; omega) (Nat.zero_le _) (by decide) hr' with ⟨A, B, mo, g1, g2, g3⟩ | ⟨A, B, mo, s6, g0, g1, g2, g3, g4, g5⟩
            · have g1' : f_X7_readMonths_11 k_fu 0 (if nmd f n s5 1 then (1 : Int32) else 0) 0 X5 (fun M_ => f_X7_readMonths_36 M_) (fun l1_ M_ => f_X7_readMonths_64 l1_ M_) = some (-1, A) := g1 _ _
              rw [g1', bd_s, if_pos rfl, g2]
              obtain ⟨s6, u1, u2, u3, u4, u5, u6⟩ := id g3
              rw [w149_f u4]
              exact .inl ⟨A, B, rfl, rfl, g3⟩
            · have g2' : f_X7_readMonths_11 k_fu 0 (if nmd f n s5 1 then (1 : Int32) else 0) 0 X5 (fun M_ => f_X7_readMonths_36 M_) (fun l1_ M_ => f_X7_readMonths_64 l1_ M_) = some (mo, A) := g2 _ _
              rw [g2', bd_s, if_neg (bit_ne g1), g3]
              have wy1 : B.1 85 = Y1.1 85 := g5.trans (w5.trans (w4.trans (w3.trans w2)))
              have wy2 : B.1 85 = Y2.1 85 := g5.trans (w5.trans (w4.trans w3))
              exact wayEnd_l g4 (by omega) hnw v1 v2 (fun q => he (by rw [q])) (by rw [wy1]; exact F1.2) (by rw [wy2]; exact F2.2) (by omega) (by omega)
          · rw [if_neg N4, wN_no (lo := 0) (h := 10) (p1 := 0) (p2 := 9) q4.2.2.1 q4.2.1 (by omega) rfl (by decide) (by omega) N4, bd_s, if_pos (fl_g0 Y4), w81_f (fl_g0 Y4)]
            exact .inl ⟨X4, _, rfl, rfl, Q_fail q4⟩
        · rw [if_neg N3, wN_no (lo := 1) (h := 5) (p1 := 1) (p2 := 4) q3.2.2.1 q3.2.1 (by omega) rfl (by decide) (by omega) N3, bd_s, wN_f (fl_g0 Y3), bd_s, if_pos (fl_g0 Y3), w81_f (fl_g0 Y3)]
          exact .inl ⟨X3, _, rfl, rfl, Q_fail q3⟩
    · rw [if_neg F2, wO_no q2 (fun q => F2 q.1), bd_s, wN_f (fl_g0 Y2), bd_s, wN_f (fl_g0 Y2), bd_s, if_pos (fl_g0 Y2), w81_f (fl_g0 Y2)]
      exact .inl ⟨X2, _, rfl, rfl, Q_fail q2⟩
  · rw [if_neg F1, wO_no q1 (fun q => F1 q.1), bd_s, wO_f (fl_g0 Y1), bd_s, wN_f (fl_g0 Y1), bd_s, wN_f (fl_g0 Y1), bd_s, if_pos (fl_g0 Y1), w81_f (fl_g0 Y1)]
    exact .inl ⟨X1, _, rfl, rfl, Q_fail q1⟩
theorem way_no (h : Qq f n Bx Bm np nw s Mx Mm) (hnw : ¬ nw < 12) : f_X12_wantWay Mm = some ((), sI Mm 76 18 0) := by
  have hle := Q_le h
  unfold f_X12_wantWay
  rw [h.2.2.2.1.2.2.2.1, if_pos (by rw [o_lle (by omega) (by omega)]; omega)]
  unfold f_X12_wantWay_15
  rw [ckZ_0, bN_e, if_pos (fl_g0 Mm)]
  unfold f_X12_wantWay_29
  rw [wO_f (fl_g0 Mm), bd_s, wO_f (fl_g0 Mm), bd_s, wN_f (fl_g0 Mm), bd_s, wN_f (fl_g0 Mm), bd_s, if_pos (fl_g0 Mm), w81_f (fl_g0 Mm)]
/-- the reference's piece -/
def pcM (M : k_M) : Option (Unit × k_M) := bd (f_X12_kindHere M) (fun r1 M2 => if r1 < 0 then bd (f_X12_isWord 16819 M2) (fun r3 M4 => if r3 = 0 then some ((), sI M4 76 18 0) else f_X12_wantWay M4) else f_X12_wantPlace M2)
theorem piece_l (h : Qq f n Bx Bm np nw s Mx Mm) (hs : s < n) : Out f n Bx Bm s (f_X7_readPiece 43 Mx) (pcM Mm) := by
  have hle := Q_le h
  unfold f_X7_readPiece pcM
  rw [isNamX (k := 0) (by omega) h.1, bd_s, z01, kindM h.2.1, bd_s]
  have kb := kd_b f n s
  by_cases hw : nmd f n s 0
  · have k6 := kd_way hw
    have kI : kdI f n s = -1 := by
      unfold kdI
      rw [if_pos k6]
    rw [if_pos hw, kI, if_pos (show (-1 : Int32) < 0 by decide), isWordM (k := 0) (p := 16819) (by omega) rfl h.2.1, bd_s, z01, if_pos hw, h.2.2.2.1.2.1.2.1]
    by_cases hn : nw < 12
    · rw [if_neg (by rw [o_lle (by omega) (by omega)]; omega)]
      rcases way_l h hs hn with ⟨A, B, g1, g2, g3⟩ | ⟨A, A2, B, np', nw', s', g1, g2, g3, g4, g5⟩
      · refine .inl ⟨A, B, ?_, g2, g3⟩
        rw [g1, bd_s, if_pos rfl]
      · refine .inr ⟨A, A2, B, np', nw', s', ?_, g2, g3, g4, g5⟩
        rw [g1, bd_s, if_neg (show ¬ (1 : Int32) = 0 by decide)]
    · rw [if_pos (by rw [o_lle (by omega) (by omega)]; omega), way_no h hn]
      exact .inl ⟨Mx, _, rfl, rfl, Q_fail h⟩
  · rw [if_neg hw, kindX h.1, bd_s]
    by_cases hk : kdN f n s = 6
    · have kI : kdI f n s = -1 := by
        unfold kdI
        rw [if_pos hk]
      rw [kI, if_pos rfl, if_pos (show (-1 : Int32) < 0 by decide), isWordM (k := 0) (p := 16819) (by omega) rfl h.2.1, bd_s, z01, if_neg hw]
      exact .inl ⟨Mx, _, rfl, rfl, Q_fail h⟩
    · have kI : kdI f n s = Int32.ofNat (kdN f n s) := by
        unfold kdI
        rw [if_neg hk]
      have nn := o_nn (n := kdN f n s) (by omega)
      rw [kI, if_neg (fun q => by rw [q] at nn; exact absurd nn (by decide)), if_neg (Int32.not_lt.mpr nn), h.2.2.2.1.2.1.1]
      by_cases hn : np < 8
      · rw [if_neg (by rw [o_lle (by omega) (by omega)]; omega)]
        rcases place_l h (by omega) hs hn with ⟨A, B, g1, g2, g3⟩ | ⟨A, A2, B, np', nw', s', g1, g2, g3, g4, g5⟩
        · refine .inl ⟨A, B, ?_, g2, g3⟩
          rw [g1, bd_s, if_pos rfl]
        · refine .inr ⟨A, A2, B, np', nw', s', ?_, g2, g3, g4, g5⟩
          rw [g1, bd_s, if_neg (show ¬ (1 : Int32) = 0 by decide)]
      · rw [if_pos (by rw [o_lle (by omega) (by omega)]; omega), place_no h hn]
        exact .inl ⟨Mx, _, rfl, rfl, Q_fail h⟩
end
theorem p24_s {k : Nat} {M : k_M} (h : M.1 76 18 = 1) (h13 : ¬ M.1 76 13 = 0) (kx : k_M → Option (Int32 × k_M)) : f_X12_plain_24 (k + 1) M kx = bd (pcM M) (fun _ M' => f_X12_plain_24 k M' kx) := by
  rw [f_X12_plain_24, h, if_neg (show ¬ (1 : Int32) = 0 by decide), if_neg h13]
  unfold pcM
  cases f_X12_kindHere M with
  | none => rfl
  | some q =>
    rw [bd_s, bd_s]
    by_cases hq : q.1 < 0
    · rw [if_pos hq, if_pos hq]
      cases f_X12_isWord 16819 q.2 with
      | none => rfl
      | some q' =>
        rw [bd_s, bd_s]
        by_cases hq' : q'.1 = 0
        · rw [if_pos hq', if_pos hq']
          rfl
        · rw [if_neg hq', if_neg hq']
    · rw [if_neg hq, if_neg hq]
theorem text_l {f : Nat → Nat} {n : Nat} {Bx Bm : k_M} : ∀ (m k k' s q np nw : Nat) (Mx Mm : k_M), Qq f n Bx Bm np nw s Mx Mm → n - s ≤ m → m < k → m + 1 < k' → q ≤ s →
    (∃ Mx' Mm', (∀ kx37 kx52, f_X7_readInto_15 43 k (Int32.ofNat q) Mx kx37 kx52 = kx37 Mx') ∧ (∀ kx, f_X12_plain_24 k' Mm kx = kx Mm') ∧ OutF Bx Bm Mx' Mm') ∨
    (∃ Mx' Mm' np' nw' s', (∀ kx37 kx52, f_X7_readInto_15 43 k (Int32.ofNat q) Mx kx37 kx52 = kx52 Mx') ∧ (∀ kx, f_X12_plain_24 k' Mm kx = kx Mm') ∧ Qq f n Bx Bm np' nw' s' Mx' Mm')
  | m, k, k', s, q, np, nw, Mx, Mm, h, hm, hk, hk', hq => by
    obtain ⟨k, rfl⟩ : ∃ q, k = q + 1 := ⟨k - 1, by omega⟩
    obtain ⟨k', rfl⟩ : ∃ q, k' = q + 1 := ⟨k' - 1, by omega⟩
    have hle := Q_le h
    have t3 := tS_b f n s
    by_cases hs : s < n
    · have z : ¬ tS f n s = 0 := by omega
      have stx : ∀ kx37 kx52, f_X7_readInto_15 43 (k + 1) (Int32.ofNat q) Mx kx37 kx52 = bd (f_X7_readPiece 43 Mx) (fun r1 M2 => if r1 = 0 then kx37 M2 else bd (f_X7_step M2) (fun r3 M4 => f_X7_readInto_15 43 k (Int32.ofNat (q + 1)) M4 kx37 kx52)) := fun kx37 kx52 => by
        rw [f_X7_readInto_15, if_neg (by rw [o_llt (by omega) (by omega)]; omega), h.1.2.2.2.1, if_neg (by rw [o_eql (by omega) (by omega)]; exact z), o_addl]
      have stm : ∀ kx, f_X12_plain_24 (k' + 1) Mm kx = bd (pcM Mm) (fun _ M' => f_X12_plain_24 k' M' kx) := fun kx => p24_s h.2.2.1 (by rw [h.2.1.2.2.2.1, o_eql (by omega) (by omega)]; exact z) kx
      rcases piece_l h hs with ⟨A, B, g1, g2, g3⟩ | ⟨A, A2, B, np', nw', s', g1, g2, g3, g4, g5⟩
      · refine .inl ⟨A, B, fun kx37 kx52 => ?_, fun kx => ?_, g3⟩
        · rw [stx, g1, bd_s, if_pos rfl]
        · obtain ⟨k', rfl⟩ : ∃ q, k' = q + 1 := ⟨k' - 1, by omega⟩
          obtain ⟨s6, u1, u2, u3, u4, u5, u6⟩ := id g3
          rw [stm, g2, bd_s, f_X12_plain_24, if_pos u4]
      · have l' := Q_le g4
        obtain ⟨m, rfl⟩ : ∃ q, m = q + 1 := ⟨m - 1, by omega⟩
        have hx : ∀ kx37 kx52, f_X7_readInto_15 43 (k + 1) (Int32.ofNat q) Mx kx37 kx52 = f_X7_readInto_15 43 k (Int32.ofNat (q + 1)) A2 kx37 kx52 := fun kx37 kx52 => by
          rw [stx, g1, bd_s, if_neg (show ¬ (1 : Int32) = 0 by decide), g2, bd_s]
        have hy : ∀ kx, f_X12_plain_24 (k' + 1) Mm kx = f_X12_plain_24 k' B kx := fun kx => by
          rw [stm, g3, bd_s]
        rcases text_l m k k' s' (q + 1) np' nw' A2 B g4 (by omega) (by omega) (by omega) (by omega) with ⟨C, D, i1, i2, i3⟩ | ⟨C, D, np2, nw2, s2, i1, i2, i3⟩
        · exact .inl ⟨C, D, fun a b => (hx a b).trans (i1 a b), fun a => (hy a).trans (i2 a), i3⟩
        · exact .inr ⟨C, D, np2, nw2, s2, fun a b => (hx a b).trans (i1 a b), fun a => (hy a).trans (i2 a), i3⟩
    · have z : tS f n s = 0 := by omega
      refine .inr ⟨Mx, Mm, np, nw, s, fun kx37 kx52 => ?_, fun kx => ?_, h⟩
      · rw [f_X7_readInto_15, h.1.2.2.2.1, z, if_pos (show Int32.ofNat 0 = 0 from rfl)]
        split <;> rfl
      · rw [f_X12_plain_24, h.2.2.1, if_neg (show ¬ (1 : Int32) = 0 by decide), h.2.1.2.2.2.1, z, if_pos (show Int32.ofNat 0 = 0 from rfl)]
termination_by m => m
