/-! ===== the pure layer: way, city ===== -/
theorem c_way (x y d be mo : Int32) : Call (f_X11_way x y d be mo) (f_X12_way x y d be mo) := by
  intro M h
  obtain ⟨np, nw, nr, a1, a2, a3, h1, h2, h3, h4, h5, h6, h7, h8, h9⟩ := h.1
  have np8 := h1.1
  have nw12 := h1.2.1
  have hp := fun z => hasPl_e (M := M) (w := 3) (np := np) (by omega) h2.1 z
  have mp := fun z => isPl_e (M := M) (n := np) (by omega) a1 z
  by_cases hok : (0 ≤ x ∧ x < Int32.ofNat np) ∧ (0 ≤ y ∧ y < Int32.ofNat np) ∧ ¬ x = y ∧ (1 ≤ d ∧ d ≤ 4) ∧ (0 ≤ be ∧ be ≤ 9) ∧ (0 ≤ mo ∧ mo ≤ 4095)
  · obtain ⟨k1, k2, k3, k4, k5, k6⟩ := hok
    obtain ⟨a, ha, rfl⟩ := ex_lt (by omega) k1.1 k1.2
    obtain ⟨b, hb, rfl⟩ := ex_lt (by omega) k2.1 k2.2
    have hab : a ≠ b := fun hh => k3 (by rw [hh])
    have la := (h1.2.2.1 a ha).2.2.2
    have lb := (h1.2.2.1 b hb).2.2.2
    have cj : ∀ p, p < np → f_X3_canJoin 3 (Int32.ofNat p) M = some (if (wls nw (M.1 78) p).length = 4 then 0 else 1, M) := fun p hpp => by
      have l4 := (h1.2.2.1 p hpp).2.2.2
      unfold f_X3_canJoin
      rw [rdI_o (by omega) (by omega), (h2.2.2.1 p hpp).2.2.2.1]
      by_cases hh : (wls nw (M.1 78) p).length = 4
      · rw [if_pos (by rw [o_lle (by omega) (by omega)]; omega), if_pos hh]
      · rw [if_neg (by rw [o_lle (by omega) (by omega)]; omega), if_neg hh]
    have x1 : f_X11_way (Int32.ofNat a) (Int32.ofNat b) d be mo M = if 12 ≤ Int32.ofNat nw then f_X11_way_96 M else bd (f_X3_canJoin 3 (Int32.ofNat a) M) (fun r11 M12 => if r11 = 0 then f_X11_way_96 M12 else bd (f_X3_canJoin 3 (Int32.ofNat b) M12) (fun r13 M14 => if r13 = 0 then f_X11_way_96 M14 else bd (f_X3_addWay 3 (Int32.ofNat a) (Int32.ofNat b) d be mo M14) (fun r15 M16 => some (r15, M16)))) := by
      unfold f_X11_way
      rw [hp, bd_s, if_pos k1, if_neg (by decide), hp, bd_s, if_pos k2, if_neg (by decide), if_neg k3, within_e, bd_s, if_pos k4, if_neg (by decide), within_e, bd_s, if_pos k5, if_neg (by decide), within_e, bd_s, if_pos k6, if_neg (by decide), show M.1 4 7 = Int32.ofNat nw from h2.2.1]
    have m1 : ∀ N, N.1 76 0 = Int32.ofNat np → f_X12_way (Int32.ofNat a) (Int32.ofNat b) d be mo N = if N.1 76 2 = 12 then f_X12_way_82 N else bd (f_X12_waysAt (Int32.ofNat a) N) (fun r11 M12 => if r11 = 4 then f_X12_way_82 M12 else bd (f_X12_waysAt (Int32.ofNat b) M12) (fun r13 M14 => if r13 = 4 then f_X12_way_82 M14 else bN (5 * (M14.1 76 2)) (fun v15 => if Int32.ofNat b ≤ Int32.ofNat a then f_X12_way_109 (Int32.ofNat a) (Int32.ofNat b) d be mo v15 v15 (Int32.ofNat b) M14 else f_X12_way_109 (Int32.ofNat a) (Int32.ofNat b) d be mo v15 v15 (Int32.ofNat a) M14))) := fun N hN => by
      unfold f_X12_way
      rw [isPl_e (by omega) hN, bd_s, if_pos k1, if_neg (by decide), isPl_e (by omega) hN, bd_s, if_pos k2, if_neg (by decide), if_neg k3, in_e, bd_s, if_pos k4, if_neg (by decide), in_e, bd_s, if_pos k5, if_neg (by decide), in_e, bd_s, if_pos k6, if_neg (by decide)]
    by_cases hf : nw < 12 ∧ (wls nw (M.1 78) a).length < 4 ∧ (wls nw (M.1 78) b).length < 4
    · obtain ⟨f1, f2, f3⟩ := hf
      obtain ⟨X, e1, e8, e9, e10, e11, e12, e13, e7, e6a, e6b, e7a, e7b, ec, ed⟩ := addW_e h1 h2 f1 ha hb hab f2 f3 d be mo
      have xm : ∀ c j, 76 ≤ c → X.1 c j = M.1 c j := fun c j q => ec c j (by omega) (by omega) (by omega) (by omega)
      have n78 : X.1 78 = M.1 78 := funext fun j => xm _ _ (by omega)
      obtain ⟨Y, hY⟩ : ∃ Y, Y = sI (sI (sI (sI (sI (sI (sI X 78 (5 * nw) (Int32.ofNat (min a b))) 78 (5 * nw + 1) (Int32.ofNat (max a b))) 78 (5 * nw + 2) d) 78 (5 * nw + 3) be) 78 (5 * nw + 4) (mon mo)) 82 (13 + nw) be) 76 2 (Int32.ofNat (nw + 1)) := ⟨_, rfl⟩
      have yl : ∀ c j, ¬ (c = 78 ∧ 5 * nw ≤ j ∧ j < 5 * nw + 5) → ¬ (c = 82 ∧ j = 13 + nw) → ¬ (c = 76 ∧ j = 2) → Y.1 c j = X.1 c j := fun c j q1 q2 q3 => by rw [hY, sI_g, if_neg q3, sI_g, if_neg q2, sI_g, if_neg (by omega), sI_g, if_neg (by omega), sI_g, if_neg (by omega), sI_g, if_neg (by omega), sI_g, if_neg (by omega)]
      have y0 : Y.1 78 (5 * nw) = Int32.ofNat (min a b) := by rw [hY, sI_g, if_neg (by omega), sI_g, if_neg (by omega), sI_g, if_neg (by omega), sI_g, if_neg (by omega), sI_g, if_neg (by omega), sI_g, if_neg (by omega), sI_g, if_pos ⟨rfl, rfl⟩]
      have y1 : Y.1 78 (5 * nw + 1) = Int32.ofNat (max a b) := by rw [hY, sI_g, if_neg (by omega), sI_g, if_neg (by omega), sI_g, if_neg (by omega), sI_g, if_neg (by omega), sI_g, if_neg (by omega), sI_g, if_pos ⟨rfl, rfl⟩]
      have y2 : Y.1 78 (5 * nw + 2) = d := by rw [hY, sI_g, if_neg (by omega), sI_g, if_neg (by omega), sI_g, if_neg (by omega), sI_g, if_neg (by omega), sI_g, if_pos ⟨rfl, rfl⟩]
      have y3 : Y.1 78 (5 * nw + 3) = be := by rw [hY, sI_g, if_neg (by omega), sI_g, if_neg (by omega), sI_g, if_neg (by omega), sI_g, if_pos ⟨rfl, rfl⟩]
      have y4 : Y.1 78 (5 * nw + 4) = mon mo := by rw [hY, sI_g, if_neg (by omega), sI_g, if_neg (by omega), sI_g, if_pos ⟨rfl, rfl⟩]
      have y5 : Y.1 82 (13 + nw) = be := by rw [hY, sI_g, if_neg (by omega), sI_g, if_pos ⟨rfl, rfl⟩]
      have y6 : Y.1 76 2 = Int32.ofNat (nw + 1) := by rw [hY, sI_g, if_pos ⟨rfl, rfl⟩]
      have x762 : X.1 76 2 = Int32.ofNat nw := by rw [xm _ _ (by omega)]; exact a2
      refine ⟨Int32.ofNat nw, X, Y, ?_, ?_, ?_⟩
      · rw [x1, if_neg (by rw [o_lle (by omega) (by omega)]; omega), cj a ha, bd_s, if_neg (show ¬ (wls nw (M.1 78) a).length = 4 by omega), if_neg (by decide), cj b hb, bd_s, if_neg (show ¬ (wls nw (M.1 78) b).length = 4 by omega), if_neg (by decide), e1, bd_s]
      · rw [m1 X (by rw [xm _ _ (by omega)]; exact a1), x762, if_neg (by rw [o_eql (by omega) (by omega)]; omega), waysAt_e nw12 x762, bd_s, n78, if_neg (by rw [o_eql (by omega) (by omega)]; omega), waysAt_e nw12 x762, bd_s, n78, if_neg (by rw [o_eql (by omega) (by omega)]; omega), bN_e, x762, o_lmul]
        have t171 : ∀ (N : k_M) v, N.1 76 2 = Int32.ofNat nw → f_X12_way_171 be (Int32.ofNat (5 * nw + 4)) v N = some (Int32.ofNat nw, sI (sI (sI N 78 (5 * nw + 4) v) 82 (13 + nw) be) 76 2 (Int32.ofNat (nw + 1))) := fun N v hN => by
          have p1 : (sI N 78 (5 * nw + 4) v).1 76 2 = Int32.ofNat nw := by rw [sI_g, if_neg (by omega)]; exact hN
          have p2 : (sI (sI N 78 (5 * nw + 4) v) 82 (13 + nw) be).1 76 2 = Int32.ofNat nw := by rw [sI_g, if_neg (by omega)]; exact p1
          have p3 : (sI (sI (sI N 78 (5 * nw + 4) v) 82 (13 + nw) be) 76 2 (Int32.ofNat (nw + 1))).1 76 2 = Int32.ofNat (nw + 1) := by rw [sI_g, if_pos ⟨rfl, rfl⟩]
          unfold f_X12_way_171
          rw [wrI_o (by omega) (by omega), p1, o_ladd, wrI_o (by omega) (by omega), bN_e, p2, o_addl, p3, o_subl (by omega), Nat.add_sub_cancel]
        have t128 : ∀ (N : k_M) v, N.1 76 2 = Int32.ofNat nw → f_X12_way_128 d be mo (Int32.ofNat (5 * nw)) (Int32.ofNat (5 * nw + 1)) v N = some (Int32.ofNat nw, sI (sI (sI (sI (sI (sI N 78 (5 * nw + 1) v) 78 (5 * nw + 2) d) 78 (5 * nw + 3) be) 78 (5 * nw + 4) (mon mo)) 82 (13 + nw) be) 76 2 (Int32.ofNat (nw + 1))) := fun N v hN => by
          have p1 : (sI (sI (sI N 78 (5 * nw + 1) v) 78 (5 * nw + 2) d) 78 (5 * nw + 3) be).1 76 2 = Int32.ofNat nw := by rw [sI_g, if_neg (by omega), sI_g, if_neg (by omega), sI_g, if_neg (by omega)]; exact hN
          unfold f_X12_way_128
          rw [wrI_o (by omega) (by omega), o_addl, wrI_o (by omega) (by omega), o_addl, wrI_o (by omega) (by omega), o_addl]
          unfold mon
          by_cases hm : mo = 0
          · rw [if_pos hm, if_pos hm, t171 _ _ p1]
          · rw [if_neg hm, if_neg hm, t171 _ _ p1]
        have t109 : ∀ v v2, (if b ≤ a then Int32.ofNat a else Int32.ofNat b) = v2 → f_X12_way_109 (Int32.ofNat a) (Int32.ofNat b) d be mo (Int32.ofNat (5 * nw)) (Int32.ofNat (5 * nw)) v X = some (Int32.ofNat nw, sI (sI (sI (sI (sI (sI (sI X 78 (5 * nw) v) 78 (5 * nw + 1) v2) 78 (5 * nw + 2) d) 78 (5 * nw + 3) be) 78 (5 * nw + 4) (mon mo)) 82 (13 + nw) be) 76 2 (Int32.ofNat (nw + 1))) := fun v v2 hv => by
          have p1 : (sI X 78 (5 * nw) v).1 76 2 = Int32.ofNat nw := by rw [sI_g, if_neg (by omega)]; exact x762
          unfold f_X12_way_109
          rw [wrI_o (by omega) (by omega), o_addl]
          by_cases hle : b ≤ a
          · rw [if_pos hle] at hv
            rw [if_pos (by rw [o_le (by omega) (by omega)]; exact hle), t128 _ _ p1, hv]
          · rw [if_neg hle] at hv
            rw [if_neg (by rw [o_le (by omega) (by omega)]; exact hle), t128 _ _ p1, hv]
        by_cases hle : b ≤ a
        · rw [if_pos (by rw [o_le (by omega) (by omega)]; exact hle), t109 _ (Int32.ofNat (max a b)) (by rw [if_pos hle, Nat.max_eq_left hle]), hY, Nat.min_eq_right hle]
        · rw [if_neg (by rw [o_le (by omega) (by omega)]; exact hle), t109 _ (Int32.ofNat (max a b)) (by rw [if_neg hle, Nat.max_eq_right (by omega)]), hY, Nat.min_eq_left (by omega)]
      · have yd : Y.2 = M.2 := by rw [hY]; exact ed
        have ym : ∀ c j, ¬ (4 ≤ c ∧ c < 17) → ¬ (c = 78 ∧ 5 * nw ≤ j ∧ j < 5 * nw + 5) → ¬ (c = 82 ∧ j = 13 + nw) → ¬ (c = 76 ∧ j = 2) → Y.1 c j = M.1 c j := fun c j q1 q2 q3 q4 => by rw [yl c j q2 q3 q4, ec c j (by omega) (by omega) (by omega) (by omega)]
        refine R_P (fun c j => (4 ≤ c ∧ c < 17) ∨ (c = 78 ∧ 5 * nw ≤ j ∧ j < 5 * nw + 5) ∨ (c = 82 ∧ j = 13 + nw) ∨ (c = 76 ∧ j = 2)) h (fun c j _ q => ym c j (by omega) (by omega) (by omega) (by omega)) yd (.inr ?_) (.inl fun n a j hp => by unfold locK; omega) (.inl fun a j hp => by unfold locT; omega) (.inl fun a j hp => by unfold locW; omega) (.inl fun a j hp => by unfold locS; omega) (.inl fun a j hp => by unfold locF; omega) (.inl fun a j hp => by unfold locA; omega) (fun j => by omega)
        have pe : ∀ j, j < 5 * nw → Y.1 78 j = M.1 78 j := fun j hj => ym 78 j (by omega) (by omega) (by omega) (by omega)
        have fc : ∀ c, ¬ (4 ≤ c ∧ c < 17) → c ≠ 78 → c ≠ 82 → c ≠ 76 → Y.1 c = M.1 c := fun c q1 q2 q3 q4 => funext fun j => ym c j q1 (by omega) (by omega) (by omega)
        refine ⟨np, nw + 1, nr, by rw [ym 76 0 (by omega) (by omega) (by omega) (by omega)]; exact a1, y6, by rw [ym 76 8 (by omega) (by omega) (by omega) (by omega)]; exact a3, ?_⟩
        rw [ym 76 6 (by omega) (by omega) (by omega) (by omega), ym 76 7 (by omega) (by omega) (by omega) (by omega), fc 77 (by omega) (by omega) (by omega) (by omega), fc 79 (by omega) (by omega) (by omega) (by omega), fc 81 (by omega) (by omega) (by omega) (by omega)]
        have hd : ∃ k : Nat, 1 ≤ k ∧ k ≤ 4 ∧ d = Int32.ofNat k := by
          obtain ⟨k, q1, q2⟩ := ex_o (n := 4) (by omega) (Int32.le_trans (by decide) k4.1) k4.2
          refine ⟨k, ?_, q1, q2⟩
          have := k4.1
          rw [q2, o_lle (by omega) (by omega)] at this
          exact this
        have hbe := ex_o (n := 9) (by omega) k5.1 k5.2
        have rr : ∀ k, k ≠ 13 + nw → Y.1 82 k = M.1 82 k := fun k hk => ym 82 k (by omega) (by omega) (by omega) (by omega)
        have dyn : ∀ c j, (c = 8 ∨ (c = 15 ∧ j ≠ nw)) → Y.1 c j = M.1 c j := fun c j q => by rw [yl c j (by omega) (by omega) (by omega), ec c j (by omega) (by omega) (by omega) (by omega)]
        refine ⟨WFl_addW h1 f1 ha hb hab f2 f3 pe y0 y1 y2 y3 hd hbe, LX_addW h1 h2 f1 ha hb hab f2 f3 pe y0 y1 y2 y3 y4 (by rw [yl _ _ (by omega) (by omega) (by omega)]; exact e8) (by rw [yl _ _ (by omega) (by omega) (by omega)]; exact e9) (by rw [yl _ _ (by omega) (by omega) (by omega)]; exact e10) (by rw [yl _ _ (by omega) (by omega) (by omega)]; exact e11) (by rw [yl _ _ (by omega) (by omega) (by omega)]; exact e13) (by rw [yl _ _ (by omega) (by omega) (by omega)]; exact e7) (by rw [yl _ _ (by omega) (by omega) (by omega)]; exact e6a) (by rw [yl _ _ (by omega) (by omega) (by omega)]; exact e6b) (by rw [yl _ _ (by omega) (by omega) (by omega)]; exact e7a) (by rw [yl _ _ (by omega) (by omega) (by omega)]; exact e7b) (fun i j q1 q2 q3 q4 q5 q6 q7 => by rw [yl _ _ (by omega) (by omega) (by omega), ec _ _ (by omega) (by omega) (by omega) (by omega)]), h3, WX_fr (fun j => ym _ _ (by omega) (by omega) (by omega) (by omega)) (ym _ _ (by omega) (by omega) (by omega) (by omega)) h4, by rw [ym _ _ (by omega) (by omega) (by omega) (by omega)]; exact h5, ?_, ⟨?_, fun s hs => ?_, fun p hp => ?_, fun v hv => ?_⟩, ⟨?_, ?_, fun s hs => ?_, fun p hp => ?_, fun v hv => ?_⟩, RR_fr (ym _ _ (by omega) (by omega) (by omega) (by omega)) (fun j => ym _ _ (by omega) (by omega) (by omega) (by omega)) (fun q j _ _ => ym _ _ (by omega) (by omega) (by omega) (by omega)) (by rw [yd]) (by rw [yd]; exact Nat.le_refl _) h9⟩
        · rw [rr 0 (by omega)]; exact h6
        · rw [rr 1 (by omega)]; exact h7.1
        · rw [rr _ (by omega)]; exact h7.2.1 s hs
        · rw [rr _ (by omega)]; exact h7.2.2.1 p hp
        · by_cases hh : v = nw
          · subst hh; rw [y5, y3]; exact ⟨hbe, Iff.rfl⟩
          · rw [rr _ (by omega), pe _ (by omega)]; exact h7.2.2.2 v (by omega)
        · rw [rr 0 (by omega), ym _ _ (by omega) (by omega) (by omega) (by omega)]; exact h8.1
        · rw [rr 1 (by omega), ym _ _ (by omega) (by omega) (by omega) (by omega)]; exact h8.2.1
        · rw [rr _ (by omega), ym _ _ (by omega) (by omega) (by omega) (by omega)]; exact h8.2.2.1 s hs
        · rw [rr _ (by omega), dyn _ _ (by omega)]; exact h8.2.2.2.1 p hp
        · by_cases hh : v = nw
          · subst hh
            rw [y5, yl _ _ (by omega) (by omega) (by omega)]
            exact e12
          · rw [rr _ (by omega), dyn _ _ (by omega)]; exact h8.2.2.2.2 v (by omega)
    · refine ⟨-2, M, M, ?_, ?_, h⟩
      · rw [x1]
        by_cases q1 : nw < 12
        · rw [if_neg (by rw [o_lle (by omega) (by omega)]; omega), cj a ha, bd_s]
          by_cases q2 : (wls nw (M.1 78) a).length = 4
          · rw [if_pos q2, if_pos rfl]; rfl
          · rw [if_neg q2, if_neg (by decide), cj b hb, bd_s, if_pos (show (wls nw (M.1 78) b).length = 4 by omega), if_pos rfl]; rfl
        · rw [if_pos (by rw [o_lle (by omega) (by omega)]; omega)]; rfl
      · rw [m1 M a1, a2]
        by_cases q1 : nw < 12
        · rw [if_neg (by rw [o_eql (by omega) (by omega)]; omega), waysAt_e nw12 a2, bd_s]
          by_cases q2 : (wls nw (M.1 78) a).length = 4
          · rw [if_pos (by rw [o_eql (by omega) (by omega)]; exact q2)]; rfl
          · rw [if_neg (by rw [o_eql (by omega) (by omega)]; exact q2), waysAt_e nw12 a2, bd_s, if_pos (by rw [o_eql (by omega) (by omega)]; omega)]; rfl
        · rw [if_pos (by rw [o_eql (by omega) (by omega)]; omega)]; rfl
  · refine ⟨-1, M, M, ?_, ?_, h⟩
    · unfold f_X11_way
      rw [hp, bd_s]
      by_cases k1 : 0 ≤ x ∧ x < Int32.ofNat np
      · rw [if_pos k1, if_neg (by decide), hp, bd_s]
        by_cases k2 : 0 ≤ y ∧ y < Int32.ofNat np
        · rw [if_pos k2, if_neg (by decide)]
          by_cases k3 : x = y
          · rw [if_pos k3]
          · rw [if_neg k3, within_e, bd_s]
            by_cases k4 : 1 ≤ d ∧ d ≤ 4
            · rw [if_pos k4, if_neg (by decide), within_e, bd_s]
              by_cases k5 : 0 ≤ be ∧ be ≤ 9
              · rw [if_pos k5, if_neg (by decide), within_e, bd_s, if_neg (fun k6 => hok ⟨k1, k2, k3, k4, k5, k6⟩), if_pos rfl]
              · rw [if_neg k5, if_pos rfl]
            · rw [if_neg k4, if_pos rfl]
        · rw [if_neg k2, if_pos rfl]
      · rw [if_neg k1, if_pos rfl]
    · unfold f_X12_way
      rw [mp, bd_s]
      by_cases k1 : 0 ≤ x ∧ x < Int32.ofNat np
      · rw [if_pos k1, if_neg (by decide), mp, bd_s]
        by_cases k2 : 0 ≤ y ∧ y < Int32.ofNat np
        · rw [if_pos k2, if_neg (by decide)]
          by_cases k3 : x = y
          · rw [if_pos k3]
          · rw [if_neg k3, in_e, bd_s]
            by_cases k4 : 1 ≤ d ∧ d ≤ 4
            · rw [if_pos k4, if_neg (by decide), in_e, bd_s]
              by_cases k5 : 0 ≤ be ∧ be ≤ 9
              · rw [if_pos k5, if_neg (by decide), in_e, bd_s, if_neg (fun k6 => hok ⟨k1, k2, k3, k4, k5, k6⟩), if_pos rfl]
              · rw [if_neg k5, if_pos rfl]
            · rw [if_neg k4, if_pos rfl]
        · rw [if_neg k2, if_pos rfl]
      · rw [if_neg k1, if_pos rfl]
theorem refillP {np : Nat} (hnp : np ≤ 8) : ∀ (m n j : Nat) (M : k_M), j + m = np → m < n → M.1 76 0 = Int32.ofNat np → ∃ M', (∀ kx, f_X12_refill_2 n (Int32.ofNat j) M kx = kx M') ∧ (∀ p, j ≤ p → p < np → M'.1 82 (5 + p) = M.1 77 (3 * p + 2)) ∧ (∀ a i, ¬ (a = 82 ∧ 5 + j ≤ i ∧ i < 5 + np) → M'.1 a i = M.1 a i) ∧ M'.2 = M.2
  | 0, n, j, M, hj, hn, hM => by
    obtain ⟨n, rfl⟩ : ∃ k, n = k + 1 := ⟨n - 1, by omega⟩
    refine ⟨M, fun kx => ?_, fun p h1 h2 => by omega, fun _ _ _ => rfl, rfl⟩
    rw [f_X12_refill_2, hM, if_pos (by rw [o_le (by omega) (by omega)]; omega)]
  | m + 1, n, j, M, hj, hn, hM => by
    obtain ⟨n, rfl⟩ : ∃ k, n = k + 1 := ⟨n - 1, by omega⟩
    obtain ⟨M', g1, g2, g3, g4⟩ := refillP hnp m n (j + 1) (sI M 82 (5 + j) (M.1 77 (3 * j + 2))) (by omega) (by omega) (by rw [sI_g, if_neg (by omega)]; exact hM)
    refine ⟨M', fun kx => ?_, fun p h1 h2 => ?_, fun a i hh => ?_, g4⟩
    · rw [f_X12_refill_2, hM, if_neg (by rw [o_le (by omega) (by omega)]; omega)]
      unfold f_X12_its
      simp (disch := omega) only [o_lmul, o_addl, o_ladd, rdI_o, bd_s, wrI_o]
      exact g1 kx
    · by_cases hp : p = j
      · subst hp
        rw [g3 _ _ (by omega), sI_g, if_pos ⟨rfl, rfl⟩]
      · rw [g2 p (by omega) h2, sI_g, if_neg (by omega)]
    · rw [g3 a i (by omega), sI_g, if_neg (by omega)]
theorem refillW {nw : Nat} (hnw : nw ≤ 12) : ∀ (m n j : Nat) (M : k_M), j + m = nw → m < n → M.1 76 2 = Int32.ofNat nw → ∃ M', (∀ kx, f_X12_refill_32 n (Int32.ofNat j) M kx = kx M') ∧ (∀ p, j ≤ p → p < nw → M'.1 82 (13 + p) = M.1 78 (5 * p + 3)) ∧ (∀ a i, ¬ (a = 82 ∧ 13 + j ≤ i ∧ i < 13 + nw) → M'.1 a i = M.1 a i) ∧ M'.2 = M.2
  | 0, n, j, M, hj, hn, hM => by
    obtain ⟨n, rfl⟩ : ∃ k, n = k + 1 := ⟨n - 1, by omega⟩
    refine ⟨M, fun kx => ?_, fun p h1 h2 => by omega, fun _ _ _ => rfl, rfl⟩
    rw [f_X12_refill_32, hM, if_pos (by rw [o_le (by omega) (by omega)]; omega)]
  | m + 1, n, j, M, hj, hn, hM => by
    obtain ⟨n, rfl⟩ : ∃ k, n = k + 1 := ⟨n - 1, by omega⟩
    obtain ⟨M', g1, g2, g3, g4⟩ := refillW hnw m n (j + 1) (sI M 82 (13 + j) (M.1 78 (5 * j + 3))) (by omega) (by omega) (by rw [sI_g, if_neg (by omega)]; exact hM)
    refine ⟨M', fun kx => ?_, fun p h1 h2 => ?_, fun a i hh => ?_, g4⟩
    · rw [f_X12_refill_32, hM, if_neg (by rw [o_le (by omega) (by omega)]; omega)]
      unfold f_X12_wayIts
      simp (disch := omega) only [o_lmul, o_addl, o_ladd, rdI_o, bd_s, wrI_o]
      exact g1 kx
    · by_cases hp : p = j
      · subst hp
        rw [g3 _ _ (by omega), sI_g, if_pos ⟨rfl, rfl⟩]
      · rw [g2 p (by omega) h2, sI_g, if_neg (by omega)]
    · rw [g3 a i (by omega), sI_g, if_neg (by omega)]
theorem refill_e {np nw : Nat} (hnp : np ≤ 8) (hnw : nw ≤ 12) (M : k_M) (h0 : M.1 76 0 = Int32.ofNat np) (h2 : M.1 76 2 = Int32.ofNat nw) : ∃ M', f_X12_refill M = some ((), M') ∧ (∀ p, p < np → M'.1 82 (5 + p) = M.1 77 (3 * p + 2)) ∧ (∀ v, v < nw → M'.1 82 (13 + v) = M.1 78 (5 * v + 3)) ∧ (∀ a i, ¬ (a = 82 ∧ ((5 ≤ i ∧ i < 5 + np) ∨ (13 ≤ i ∧ i < 13 + nw))) → M'.1 a i = M.1 a i) ∧ M'.2 = M.2 := by
  obtain ⟨A, g1, g2, g3, g4⟩ := refillP hnp np k_fu 0 M (by omega) (by unfold k_fu; omega) h0
  obtain ⟨B, k1, k2, k3, k4⟩ := refillW hnw nw k_fu 0 A (by omega) (by unfold k_fu; omega) (by rw [g3 _ _ (by omega)]; exact h2)
  refine ⟨B, ?_, fun p hp => ?_, fun v hv => ?_, fun a i hh => ?_, k4.trans g4⟩
  · unfold f_X12_refill
    rw [e0z, g1]
    unfold f_X12_refill_30
    rw [e0z, k1]
    rfl
  · rw [k3 _ _ (by omega), g2 p (by omega) hp]
  · rw [k2 v (by omega) hv, g3 _ _ (by omega)]
  · rw [k3 _ _ (by omega), g3 _ _ (by omega)]
