/-! ===== the pure layer: a way is read ===== -/
theorem w149_f {M : k_M} (h : M.1 76 18 = 0) (a b c d e : Int32) : f_X12_wantWay_149 a b c d e M = some ((), M) := by
  unfold f_X12_wantWay_149
  rw [wE_f h, bd_s, if_pos h]
theorem w81_f {M : k_M} (h : M.1 76 18 = 0) (a b c d e : Int32) : f_X12_wantWay_81 a b c d e M = some ((), M) := by
  unfold f_X12_wantWay_81 f_X12_wantWay_82
  have hk : k_fu = 999999999 + 1 := rfl
  rw [hk, w84_0, w149_f h]
section
variable {f : Nat → Nat} {n np nw s : Nat} {Bx Bm Mx Mm : k_M}
theorem wayEnd_l {s0 a b d be : Nat} {mo : Int32} (h : Qq f n Bx Bm np nw s Mx Mm) (hs : s0 ≤ s) (hnw : nw < 12) (ha : a < np) (hb : b < np) (hab : a ≠ b) (la : (wls nw (Mm.1 85) a).length < 4) (lb : (wls nw (Mm.1 85) b).length < 4) (hd : 1 ≤ d ∧ d ≤ 4) (hbe : be ≤ 9) : Out f n Bx Bm s0 (bd (f_X7_isEndOfPiece Mx) (fun r25 M26 => if r25 = 0 then some (0, M26) else bd (f_X3_addWay 43 (Int32.ofNat a) (Int32.ofNat b) (Int32.ofNat d) (Int32.ofNat be) mo M26) (fun r27 M28 => some (1, M28)))) (f_X12_wantWay_149 (Int32.ofNat a) (Int32.ofNat b) (Int32.ofNat d) (Int32.ofNat be) mo Mm) := by
  have hle := Q_le h
  obtain ⟨h1, h2, h3, h4, h5, h6⟩ := id h
  unfold f_X12_wantWay_149
  by_cases hE : okE f n s
  · have hsn : s < n := by
      have := tS_b f n s
      have := hE.1
      omega
    obtain ⟨k1, k2, k3, k4, k5, k6, k7⟩ := h4
    obtain ⟨X, e1, e8, e9, e10, e11, e12, e13, e7, e6a, e6b, e7a, e7b, ec, ed⟩ := addW_e k1 k2 hnw ha hb hab la lb (Int32.ofNat d) (Int32.ofNat be) mo
    have tX : TX X f n s := TX_fr h1 (fun a j q => ec a j (by omega) (by omega) (by omega) (by omega))
    obtain ⟨X2, x1, x2, x3, x4⟩ := TX_step tX
    obtain ⟨Y, y1, y2, y3, y4, y5⟩ := TM_adv h2
    have y18 : Y.1 76 18 = 1 := by rw [y3 _ _ (by omega)]; exact h3
    have y20 : Y.1 76 20 = Int32.ofNat nw := by rw [y3 _ _ (by omega)]; exact k4
    have ya : Y.1 86 a = Int32.ofNat (wls nw (Mm.1 85) a).length := by rw [y3 _ _ (by omega)]; exact k5 a ha
    have yb : Y.1 86 b = Int32.ofNat (wls nw (Mm.1 85) b).length := by rw [y3 _ _ (by omega)]; exact k5 b hb
    obtain ⟨La, hLa⟩ : ∃ La, La = (wls nw (Mm.1 85) a).length := ⟨_, rfl⟩
    obtain ⟨Lb, hLb⟩ : ∃ Lb, Lb = (wls nw (Mm.1 85) b).length := ⟨_, rfl⟩
    rw [← hLa] at ya
    rw [← hLb] at yb
    obtain ⟨E, hE'⟩ : ∃ E, E = sI (sI (sI (sI (sI (sI (sI (sI Y 85 (5 * nw) (Int32.ofNat (min a b))) 85 (5 * nw + 1) (Int32.ofNat (max a b))) 85 (5 * nw + 2) (Int32.ofNat d)) 85 (5 * nw + 3) (Int32.ofNat be)) 85 (5 * nw + 4) (mon mo)) 86 a (Int32.ofNat (La + 1))) 86 b (Int32.ofNat (Lb + 1))) 76 20 (Int32.ofNat (nw + 1)) := ⟨_, rfl⟩
    have El : ∀ c j, ¬ (c = 85 ∧ 5 * nw ≤ j ∧ j < 5 * nw + 5) → ¬ (c = 86 ∧ (j = a ∨ j = b)) → ¬ (c = 76 ∧ j = 20) → E.1 c j = Y.1 c j := fun c j q1 q2 q3 => by rw [hE', sI_g, if_neg q3, sI_g, if_neg (by omega), sI_g, if_neg (by omega), sI_g, if_neg (by omega), sI_g, if_neg (by omega), sI_g, if_neg (by omega), sI_g, if_neg (by omega), sI_g, if_neg (by omega)]
    have E0 : E.1 85 (5 * nw) = Int32.ofNat (min a b) := by rw [hE', sI_g, if_neg (by omega), sI_g, if_neg (by omega), sI_g, if_neg (by omega), sI_g, if_neg (by omega), sI_g, if_neg (by omega), sI_g, if_neg (by omega), sI_g, if_neg (by omega), sI_g, if_pos ⟨rfl, rfl⟩]
    have E1 : E.1 85 (5 * nw + 1) = Int32.ofNat (max a b) := by rw [hE', sI_g, if_neg (by omega), sI_g, if_neg (by omega), sI_g, if_neg (by omega), sI_g, if_neg (by omega), sI_g, if_neg (by omega), sI_g, if_neg (by omega), sI_g, if_pos ⟨rfl, rfl⟩]
    have E2 : E.1 85 (5 * nw + 2) = Int32.ofNat d := by rw [hE', sI_g, if_neg (by omega), sI_g, if_neg (by omega), sI_g, if_neg (by omega), sI_g, if_neg (by omega), sI_g, if_neg (by omega), sI_g, if_pos ⟨rfl, rfl⟩]
    have E3 : E.1 85 (5 * nw + 3) = Int32.ofNat be := by rw [hE', sI_g, if_neg (by omega), sI_g, if_neg (by omega), sI_g, if_neg (by omega), sI_g, if_neg (by omega), sI_g, if_pos ⟨rfl, rfl⟩]
    have E4 : E.1 85 (5 * nw + 4) = mon mo := by rw [hE', sI_g, if_neg (by omega), sI_g, if_neg (by omega), sI_g, if_neg (by omega), sI_g, if_pos ⟨rfl, rfl⟩]
    have Ea : E.1 86 a = Int32.ofNat (La + 1) := by rw [hE', sI_g, if_neg (by omega), sI_g, if_neg (by omega), sI_g, if_pos ⟨rfl, rfl⟩]
    have Eb : E.1 86 b = Int32.ofNat (Lb + 1) := by rw [hE', sI_g, if_neg (by omega), sI_g, if_pos ⟨rfl, rfl⟩]
    have E20 : E.1 76 20 = Int32.ofNat (nw + 1) := by rw [hE', sI_g, if_pos ⟨rfl, rfl⟩]
    have Ed : E.2 = Y.2 := by rw [hE']; rfl
    have t246 : ∀ (N : k_M) v, N.1 76 20 = Int32.ofNat nw → N.1 86 a = Int32.ofNat La → N.1 86 b = Int32.ofNat Lb → f_X12_wantWay_246 (Int32.ofNat a) (Int32.ofNat b) (Int32.ofNat (5 * nw + 4)) v N = some ((), sI (sI (sI (sI N 85 (5 * nw + 4) v) 86 a (Int32.ofNat (La + 1))) 86 b (Int32.ofNat (Lb + 1))) 76 20 (Int32.ofNat (nw + 1))) := fun N v n20 na nb => by
      have p1 : (sI N 85 (5 * nw + 4) v).1 86 a = Int32.ofNat La := by rw [sI_g, if_neg (by omega)]; exact na
      have p2 : (sI (sI N 85 (5 * nw + 4) v) 86 a (Int32.ofNat (La + 1))).1 86 b = Int32.ofNat Lb := by rw [sI_g, if_neg (by omega), sI_g, if_neg (by omega)]; exact nb
      have p3 : (sI (sI (sI N 85 (5 * nw + 4) v) 86 a (Int32.ofNat (La + 1))) 86 b (Int32.ofNat (Lb + 1))).1 76 20 = Int32.ofNat nw := by rw [sI_g, if_neg (by omega), sI_g, if_neg (by omega), sI_g, if_neg (by omega)]; exact n20
      unfold f_X12_wantWay_246
      rw [wrI_o (by omega) (by omega), rdI_o (by omega) (by omega), p1, o_addl, wrI_o (by omega) (by omega), rdI_o (by omega) (by omega), p2, o_addl, wrI_o (by omega) (by omega), bN_e, p3, o_addl]
    have t203 : ∀ (N : k_M) v, N.1 76 20 = Int32.ofNat nw → N.1 86 a = Int32.ofNat La → N.1 86 b = Int32.ofNat Lb → f_X12_wantWay_203 (Int32.ofNat a) (Int32.ofNat b) (Int32.ofNat d) (Int32.ofNat be) mo (Int32.ofNat (5 * nw)) (Int32.ofNat (5 * nw + 1)) v N = some ((), sI (sI (sI (sI (sI (sI (sI N 85 (5 * nw + 1) v) 85 (5 * nw + 2) (Int32.ofNat d)) 85 (5 * nw + 3) (Int32.ofNat be)) 85 (5 * nw + 4) (mon mo)) 86 a (Int32.ofNat (La + 1))) 86 b (Int32.ofNat (Lb + 1))) 76 20 (Int32.ofNat (nw + 1))) := fun N v n20 na nb => by
      have p1 : ∀ c j, c ≠ 85 → (sI (sI (sI N 85 (5 * nw + 1) v) 85 (5 * nw + 2) (Int32.ofNat d)) 85 (5 * nw + 3) (Int32.ofNat be)).1 c j = N.1 c j := fun c j q => by rw [sI_g, if_neg (by omega), sI_g, if_neg (by omega), sI_g, if_neg (by omega)]
      unfold f_X12_wantWay_203
      rw [wrI_o (by omega) (by omega), o_addl, wrI_o (by omega) (by omega), o_addl, wrI_o (by omega) (by omega), o_addl]
      unfold mon
      by_cases hm : mo = 0
      · rw [if_pos hm, if_pos hm, t246 _ _ (by rw [p1 _ _ (by omega)]; exact n20) (by rw [p1 _ _ (by omega)]; exact na) (by rw [p1 _ _ (by omega)]; exact nb)]
      · rw [if_neg hm, if_neg hm, t246 _ _ (by rw [p1 _ _ (by omega)]; exact n20) (by rw [p1 _ _ (by omega)]; exact na) (by rw [p1 _ _ (by omega)]; exact nb)]
    have t184 : ∀ v v2, (if b ≤ a then Int32.ofNat a else Int32.ofNat b) = v2 → f_X12_wantWay_184 (Int32.ofNat a) (Int32.ofNat b) (Int32.ofNat d) (Int32.ofNat be) mo (Int32.ofNat (5 * nw)) (Int32.ofNat (5 * nw)) v Y = some ((), sI (sI (sI (sI (sI (sI (sI (sI Y 85 (5 * nw) v) 85 (5 * nw + 1) v2) 85 (5 * nw + 2) (Int32.ofNat d)) 85 (5 * nw + 3) (Int32.ofNat be)) 85 (5 * nw + 4) (mon mo)) 86 a (Int32.ofNat (La + 1))) 86 b (Int32.ofNat (Lb + 1))) 76 20 (Int32.ofNat (nw + 1))) := fun v v2 hv => by
      have p1 : ∀ c j, c ≠ 85 → (sI Y 85 (5 * nw) v).1 c j = Y.1 c j := fun c j q => by rw [sI_g, if_neg (by omega)]
      unfold f_X12_wantWay_184
      rw [wrI_o (by omega) (by omega), o_addl]
      by_cases hle : b ≤ a
      · rw [if_pos hle] at hv
        rw [if_pos (by rw [o_le (by omega) (by omega)]; exact hle), t203 _ _ (by rw [p1 _ _ (by omega)]; exact y20) (by rw [p1 _ _ (by omega)]; exact ya) (by rw [p1 _ _ (by omega)]; exact yb), hv]
      · rw [if_neg hle] at hv
        rw [if_neg (by rw [o_le (by omega) (by omega)]; exact hle), t203 _ _ (by rw [p1 _ _ (by omega)]; exact y20) (by rw [p1 _ _ (by omega)]; exact ya) (by rw [p1 _ _ (by omega)]; exact yb), hv]
    have e84 : E.1 84 = Mm.1 84 := funext fun j => by rw [El _ _ (by omega) (by omega) (by omega), y3 _ _ (by omega)]
    have e85 : ∀ j, j < 5 * nw → E.1 85 j = Mm.1 85 j := fun j hj => by rw [El _ _ (by omega) (by omega) (by omega), y3 _ _ (by omega)]
    have xn : ∀ c, c ≠ 1 → ∀ j, X2.1 c j = X.1 c j := fun c q j => x3 c j (by omega)
    have ee : (E.1 85 (5 * nw) = Int32.ofNat a ∧ E.1 85 (5 * nw + 1) = Int32.ofNat b) ∨ (E.1 85 (5 * nw) = Int32.ofNat b ∧ E.1 85 (5 * nw + 1) = Int32.ofNat a) := by
      by_cases hlt : a < b
      · left; rw [E0, E1, Nat.min_eq_left (by omega), Nat.max_eq_right (by omega)]; exact ⟨rfl, rfl⟩
      · right; rw [E0, E1, Nat.min_eq_right (by omega), Nat.max_eq_left (by omega)]; exact ⟨rfl, rfl⟩
    refine .inr ⟨X, X2, E, np, nw + 1, nx f n s, ?_, x1, ?_, ⟨x2, ?_, ?_, ?_, ?_, ?_⟩, ?_⟩
    · rw [isEndX h1, bd_s, if_pos hE, if_neg (show ¬ (1 : Int32) = 0 by decide), e1, bd_s]
    · rw [wE_ok h3 h2 hE, y1, bd_s, bd_s, y18, if_neg (show ¬ (1 : Int32) = 0 by decide), bN_e, y20, o_lmul]
      by_cases hle : b ≤ a
      · rw [if_pos (by rw [o_le (by omega) (by omega)]; exact hle), t184 _ (Int32.ofNat (max a b)) (by rw [if_pos hle, Nat.max_eq_left hle]), hE', Nat.min_eq_right hle]
      · rw [if_neg (by rw [o_le (by omega) (by omega)]; exact hle), t184 _ (Int32.ofNat (max a b)) (by rw [if_neg hle, Nat.max_eq_right (by omega)]), hE', Nat.min_eq_left (by omega)]
    · exact TM_fr y2 (fun c j q => El c j (by omega) (by omega) (by omega)) Ed
    · rw [El _ _ (by omega) (by omega) (by omega)]; exact y18
    · refine ⟨?_, ?_, ?_, E20, fun p hp => ?_, fun p hp => ?_, fun v hv => ?_⟩
      · rw [e84]
        exact WFl_addW k1 hnw ha hb hab la lb e85 E0 E1 E2 E3 ⟨d, hd.1, hd.2, rfl⟩ ⟨be, hbe, rfl⟩
      · rw [e84]
        exact LX_addW k1 k2 hnw ha hb hab la lb e85 E0 E1 E2 E3 E4 (by rw [xn _ (by omega)]; exact e8) (by rw [xn _ (by omega)]; exact e9) (by rw [xn _ (by omega)]; exact e10) (by rw [xn _ (by omega)]; exact e11) (by rw [xn _ (by omega)]; exact e13) (by rw [xn _ (by omega)]; exact e7) (by rw [xn _ (by omega)]; exact e6a) (by rw [xn _ (by omega)]; exact e6b) (by rw [xn _ (by omega)]; exact e7a) (by rw [xn _ (by omega)]; exact e7b) (fun i j q1 q2 q3 q4 q5 q6 q7 => by rw [xn _ (by omega), ec _ _ (by omega) (by omega) (by omega) (by omega)])
      · rw [El _ _ (by omega) (by omega) (by omega), y3 _ _ (by omega)]; exact k3
      · rw [wls_ad hnw hle.2.2.1 ha hb hp e85 ee, List.length_append]
        by_cases hh : p = a
        · subst hh
          rw [Ea, hLa, if_pos (.inl rfl)]
          rfl
        · by_cases hh2 : p = b
          · subst hh2
            rw [Eb, hLb, if_pos (.inr rfl)]
            rfl
          · rw [if_neg (by omega), El _ _ (by omega) (by omega) (by omega), y3 _ _ (by omega)]; exact k5 p hp
      · rw [e84, xn _ (by omega), ec _ _ (by omega) (by omega) (by omega) (by omega)]; exact k6 p hp
      · rw [xn _ (by omega)]
        by_cases hh : v = nw
        · rw [hh, E3]; exact e12
        · rw [e85 _ (by omega), ec _ _ (by omega) (by omega) (by omega) (by omega)]; exact k7 v (by omega)
    · exact ⟨fun c j q1 q2 => by rw [x3 c j q1, ec c j (by omega) (by omega) (by omega) (by omega)]; exact h5.1 c j q1 q2, by rw [x4, ed]; exact h5.2⟩
    · exact ⟨fun c j q1 q2 => by rw [El c j (by omega) (by omega) (by omega), y3 c j (by omega)]; exact h6.1 c j q1 q2, fun c j q => by rw [Ed, y4 c j q]; exact h6.2.1 c j q, by rw [Ed, y5]; exact h6.2.2⟩
    · have := (nx_b f h1.2.1).2.2 hsn
      omega
  · refine .inl ⟨Mx, sI Mm 76 18 0, ?_, ?_, Q_fail h⟩
    · rw [isEndX h1, bd_s, if_neg hE, if_pos rfl]
    · rw [wE_no h3 h2 hE, bd_s, if_pos (fl_g0 Mm)]
end
