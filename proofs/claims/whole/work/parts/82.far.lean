/-! ===== the pure layer: far, meet ===== -/
theorem FW_uq {np nw : Nat} {pl wy : Nat → Int32} {G G' : Nat → Nat → Nat} (hF : WFl np nw pl wy) (h : FW np nw wy np G) (h' : FW np nw wy np G') {a b : Nat} (ha : a < np) (hb : b < np) : G a b = G' a b := by
  have np8 := hF.1
  have key : ∀ (X Y : Nat → Nat → Nat), FW np nw wy np X → FW np nw wy np Y → X a b ≤ Y a b := fun X Y hX hY => by
    have b1 := hX.2.1 a b
    have b2 := hY.2.1 a b
    rcases hY.2.2.1 a b (by omega) (by omega) with q | ⟨-, n, g⟩
    · omega
    · exact FW_le hF hX ha n b _ (by omega) g
  exact Nat.le_antisymm (key G G' h h') (key G' G h' h)
/-- the plain of R -/
theorem plain_of {M : k_M} (h : R M) : ∃ np nw G, M.1 76 0 = Int32.ofNat np ∧ M.1 76 2 = Int32.ofNat nw ∧ WFl np nw (M.1 77) (M.1 78) ∧ LX 3 M np nw (M.1 77) (M.1 78) ∧ FW np nw (M.1 78) np G := by
  obtain ⟨np, nw, nr, a1, a2, a3, h1, h2, -⟩ := h.1
  obtain ⟨N, G, -, -, g3⟩ := farsM a1 a2 h1
  exact ⟨np, nw, G, a1, a2, h1, h2, g3⟩
/-- the reference's table behind whatever the class did -/
theorem farsR {M N : k_M} {np nw : Nat} {G : Nat → Nat → Nat} (a1 : M.1 76 0 = Int32.ofNat np) (a2 : M.1 76 2 = Int32.ofNat nw) (h1 : WFl np nw (M.1 77) (M.1 78)) (hG : FW np nw (M.1 78) np G) (c : ∀ a, a = 76 ∨ a = 77 ∨ a = 78 → N.1 a = M.1 a) : ∃ N', f_X12_findFars N = some ((), N') ∧ (∀ a b, a < np → b < np → N'.1 94 (8 * a + b) = enc (G a b)) ∧ (∀ a j, a ≠ 94 → N'.1 a j = N.1 a j) ∧ N'.2 = N.2 := by
  have np8 := h1.1
  obtain ⟨N', G', g1, g2, g3⟩ := farsM (M := N) (np := np) (nw := nw) (by rw [c 76 (by omega)]; exact a1) (by rw [c 76 (by omega)]; exact a2) (by rw [c 77 (by omega), c 78 (by omega)]; exact h1)
  rw [c 78 (by omega)] at g3
  exact ⟨N', g1, fun a b ha hb => by rw [g2.1 a b (by omega) (by omega), FW_uq h1 hG g3 ha hb], g2.2.1, g2.2.2.1⟩
theorem FR_17 {M N : k_M} (h : ∀ a j, a ≠ 17 → a ≠ 18 → N.1 a j = M.1 a j) (d : N.2 = M.2) : FR M N := ⟨fun a j hs => h a j (by unfold scr at hs; omega) (by unfold scr at hs; omega), fun _ _ _ => by rw [d], fun _ _ => by rw [d], by rw [d]⟩
theorem FR_94 {M N : k_M} (h : ∀ a j, a ≠ 94 → N.1 a j = M.1 a j) (d : N.2 = M.2) : FR M N := ⟨fun a j hs => h a j (by unfold scr at hs; omega), fun _ _ _ => by rw [d], fun _ _ => by rw [d], by rw [d]⟩
theorem betwX {M : k_M} {np nw s b : Nat} {pl wy : Nat → Int32} {G : Nat → Nat → Nat} (hL : LX 3 M np nw pl wy) (hF : WFl np nw pl wy) (hG : FW np nw wy np G) (hs : s < np) (hb : b < np) : ∃ N, f_X3_daysBetween 3 (Int32.ofNat s) (Int32.ofNat b) M = some (Int32.ofNat (G s b), N) ∧ (∀ a j, a ≠ 17 → N.1 a j = M.1 a j) ∧ N.2 = M.2 := by
  have np8 := hF.1
  obtain ⟨N, g1, g2, g3, g4⟩ := measX (c := 3 + 14) hs (by omega) hL hF (TD_of hF hG hs)
  refine ⟨N, ?_, g3, g4⟩
  unfold f_X3_daysBetween
  rw [g1, bd_s, rdI_o (by omega) (by omega), g2 b hb]
theorem i8 (a b : Nat) : (8 : Int32) * Int32.ofNat a + Int32.ofNat b = Int32.ofNat (8 * a + b) := by
  have : (8 : Int32) * Int32.ofNat a = Int32.ofNat (8 * a) := o_lmul a 8
  rw [this, o_add]
theorem c_far (x y : Int32) : Call (f_X11_far x y) (f_X12_far x y) := by
  intro M h
  obtain ⟨np, nw, G, a1, a2, hF, hL, hG⟩ := plain_of h
  have np8 := hF.1
  have e1 := hasPl_e (M := M) (w := 3) (np := np) (by omega) hL.1
  have e2 := isPl_e (M := M) (n := np) (by omega) a1
  by_cases hx : 0 ≤ x ∧ x < Int32.ofNat np
  · by_cases hy : 0 ≤ y ∧ y < Int32.ofNat np
    · obtain ⟨s, hs, rfl⟩ := ex_lt (by omega) hx.1 hx.2
      obtain ⟨b, hb, rfl⟩ := ex_lt (by omega) hy.1 hy.2
      obtain ⟨N, g1, g2, g3⟩ := betwX hL hF hG hs hb
      obtain ⟨N', k1, k2, k3, k4⟩ := farsR (N := N) a1 a2 hF hG (fun a ha => funext fun j => g2 a j (by omega))
      have e3 := isPl_e (M := N) (n := np) (by omega) (by rw [g2 _ _ (by omega)]; exact a1)
      have hb10 := hG.2.1 s b
      have fr : FR M N' := FR_tr (FR_17 (fun a j q1 q2 => g2 a j q1) g3) (FR_94 k3 k4)
      have X1 : f_X11_far (Int32.ofNat s) (Int32.ofNat b) M = if Int32.ofNat (G s b) = 10000 then some (-3, N) else some (Int32.ofNat (G s b), N) := by
        unfold f_X11_far
        rw [e1, bd_s, if_pos hx, if_neg (by decide), e1, bd_s, if_pos hy, if_neg (by decide), g1, bd_s]
      have M1 : f_X12_far (Int32.ofNat s) (Int32.ofNat b) N = if 0 ≤ enc (G s b) then some (enc (G s b), N') else some (-3, N') := by
        unfold f_X12_far
        rw [e3, bd_s, if_pos hx, if_neg (by decide), e3, bd_s, if_pos hy, if_neg (by decide), k1, bd_s, i8, rdI_o (by omega) (by omega), k2 s b hs hb, rdI_o (by omega) (by omega), k2 s b hs hb]
      by_cases hi : G s b = 10000
      · refine ⟨-3, N, N', ?_, ?_, R_fr fr h⟩
        · rw [X1, if_pos (by rw [hi]; rfl)]
        · rw [M1, hi, if_neg (by decide)]
      · refine ⟨Int32.ofNat (G s b), N, N', ?_, ?_, R_fr fr h⟩
        · rw [X1, if_neg (by rw [o_eql (by omega) (by omega)]; exact hi)]
        · rw [M1, enc_f hi, if_pos (o_nn (by omega))]
    · refine ⟨-1, M, M, ?_, ?_, h⟩
      · unfold f_X11_far
        rw [e1, bd_s, if_pos hx, if_neg (by decide), e1, bd_s, if_neg hy, if_pos rfl]
      · unfold f_X12_far
        rw [e2, bd_s, if_pos hx, if_neg (by decide), e2, bd_s, if_neg hy, if_pos rfl]
  · refine ⟨-1, M, M, ?_, ?_, h⟩
    · unfold f_X11_far
      rw [e1, bd_s, if_neg hx, if_pos rfl]
    · unfold f_X12_far
      rw [e2, bd_s, if_neg hx, if_pos rfl]
theorem mx_o {a b : Nat} (ha : a < 2147483648) (hb : b < 2147483648) : mxI (Int32.ofNat a) (Int32.ofNat b) = Int32.ofNat (Nat.max a b) := by
  unfold mxI
  by_cases h : a < b
  · rw [if_pos (by rw [o_lt ha hb]; exact h), show Nat.max a b = b from Nat.max_eq_right (by omega)]
  · rw [if_neg (by rw [o_lt ha hb]; exact h), show Nat.max a b = a from Nat.max_eq_left (by omega)]
def mtN (D E : Nat → Nat) : Nat → Nat → Nat → Nat
  | 0, _, s => s
  | t + 1, i, s => mtN D E t (i + 1) (Nat.min s (Nat.max (D i) (E i)))
theorem meetX {N : k_M} {np : Nat} {D E : Nat → Nat} (hnp : np ≤ 8) (h0 : N.1 4 0 = Int32.ofNat np) (h1 : ∀ v, v < np → N.1 17 v = Int32.ofNat (D v) ∧ D v ≤ 10000) (h2 : ∀ v, v < np → N.1 18 v = Int32.ofNat (E v) ∧ E v ≤ 10000) : ∀ (t k i s : Nat), i + t = np → t < k → s ≤ 10000 → f_X3_daysToMeet_25 3 k (Int32.ofNat s) (Int32.ofNat i) N (fun l3_ M_ => f_X3_daysToMeet_62 3 l3_ M_) = some (Int32.ofNat (mtN D E t i s), N)
  | 0, k, i, s, hi, hk, hs => by
    obtain ⟨k, rfl⟩ : ∃ q, k = q + 1 := ⟨k - 1, by omega⟩
    rw [f_X3_daysToMeet_25, h0, if_pos (by rw [o_le (by omega) (by omega)]; omega)]
    rfl
  | t + 1, k, i, s, hi, hk, hs => by
    obtain ⟨k, rfl⟩ : ∃ q, k = q + 1 := ⟨k - 1, by omega⟩
    obtain ⟨q1, q2⟩ := h1 i (by omega)
    obtain ⟨q3, q4⟩ := h2 i (by omega)
    have hmx : Nat.max (D i) (E i) ≤ 10000 := Nat.max_le.mpr ⟨q2, q4⟩
    have hmn : Nat.min s (Nat.max (D i) (E i)) ≤ 10000 := Nat.le_trans (Nat.min_le_left _ _) hs
    rw [f_X3_daysToMeet_25, h0, if_neg (by rw [o_le (by omega) (by omega)]; omega), rdI_o (by omega) (by omega), q1, rdI_o (by omega) (by omega), q3, bN_e, mx_o (by omega) (by omega), mn_o (by omega) (by omega), o_addl]
    exact meetX hnp h0 h1 h2 t k (i + 1) _ (by omega) (by omega) hmn
def en3 (x : Nat) : Int32 := if x = 10000 then -3 else Int32.ofNat x
theorem meetM {N : k_M} {np p q : Nat} {D E : Nat → Nat} (hnp : np ≤ 8) (h0 : N.1 76 0 = Int32.ofNat np) (hp : p < np) (hq : q < np) (hr : N.1 82 0 = Int32.ofNat p) (h1 : ∀ v, v < np → N.1 94 (8 * p + v) = enc (D v) ∧ D v ≤ 10000) (h2 : ∀ v, v < np → N.1 94 (8 * q + v) = enc (E v) ∧ E v ≤ 10000) : ∀ (t k i s : Nat), i + t = np → t < k → s ≤ 10000 → f_X12_meet_29 k (Int32.ofNat q) (en3 s) (Int32.ofNat i) N (fun l2_ M_ => f_X12_meet_117 l2_ M_) = some (en3 (mtN D E t i s), N)
  | 0, k, i, s, hi, hk, hs => by
    obtain ⟨k, rfl⟩ : ∃ q, k = q + 1 := ⟨k - 1, by omega⟩
    rw [f_X12_meet_29, h0, if_pos (by rw [o_le (by omega) (by omega)]; omega)]
    rfl
  | t + 1, k, i, s, hi, hk, hs => by
    obtain ⟨k, rfl⟩ : ∃ q, k = q + 1 := ⟨k - 1, by omega⟩
    obtain ⟨q1, q2⟩ := h1 i (by omega)
    obtain ⟨q3, q4⟩ := h2 i (by omega)
    have hmx : Nat.max (D i) (E i) ≤ 10000 := Nat.max_le.mpr ⟨q2, q4⟩
    have hmn : Nat.min s (Nat.max (D i) (E i)) ≤ 10000 := Nat.le_trans (Nat.min_le_left _ _) hs
    have ih := fun s hs => meetM hnp h0 hp hq hr h1 h2 t k (i + 1) s (by omega) (by omega) hs
    have e109 : f_X12_meet_109 (Int32.ofNat q) (en3 s) (Int32.ofNat i) N ((fun l1_ l2_ l3_ M_ => f_X12_meet_29 k l1_ l2_ l3_ M_ (fun l2_ M_ => f_X12_meet_117 l2_ M_))) (fun l2_ M_ => f_X12_meet_117 l2_ M_) = some (en3 (mtN D E t (i + 1) s), N) := by
      unfold f_X12_meet_109 f_X12_meet_110
      rw [o_addl]
      exact ih s hs
    have e104 : ∀ x, x < 10000 → f_X12_meet_104 (Int32.ofNat q) (Int32.ofNat i) (Int32.ofNat x) N ((fun l1_ l2_ l3_ M_ => f_X12_meet_29 k l1_ l2_ l3_ M_ (fun l2_ M_ => f_X12_meet_117 l2_ M_))) (fun l2_ M_ => f_X12_meet_117 l2_ M_) = some (en3 (mtN D E t (i + 1) x), N) := fun x hx => by
      unfold f_X12_meet_104 f_X12_meet_110
      rw [o_addl]
      have := ih x (by omega)
      have e : en3 x = Int32.ofNat x := if_neg (by omega)
      rw [e] at this
      exact this
    rw [f_X12_meet_29, h0, if_neg (by rw [o_le (by omega) (by omega)]; omega), rdI_l (by omega) (by omega), hr, i8, rdI_o (by omega) (by omega), q1, i8, rdI_o (by omega) (by omega), q3, mtN]
    by_cases c1 : D i = 10000
    · have em : Nat.min s (Nat.max (D i) (E i)) = s := Nat.min_eq_left (Nat.le_trans (by omega) (Nat.le_max_left _ _))
      rw [em]
      have u : ∀ t0 : Int32, f_X12_meet_82 (Int32.ofNat q) (en3 s) (Int32.ofNat i) (enc (D i)) (enc (E i)) t0 N ((fun l1_ l2_ l3_ M_ => f_X12_meet_29 k l1_ l2_ l3_ M_ (fun l2_ M_ => f_X12_meet_117 l2_ M_))) (fun l2_ M_ => f_X12_meet_117 l2_ M_) = some (en3 (mtN D E t (i + 1) s), N) := fun t0 => by
        unfold f_X12_meet_82
        rw [if_pos (by rw [enc_lt q2]; exact c1)]
        exact e109
      split <;> exact u _
    · by_cases c2 : E i = 10000
      · have em : Nat.min s (Nat.max (D i) (E i)) = s := Nat.min_eq_left (Nat.le_trans (by omega) (Nat.le_max_right _ _))
        rw [em]
        have u : ∀ t0 : Int32, f_X12_meet_82 (Int32.ofNat q) (en3 s) (Int32.ofNat i) (enc (D i)) (enc (E i)) t0 N ((fun l1_ l2_ l3_ M_ => f_X12_meet_29 k l1_ l2_ l3_ M_ (fun l2_ M_ => f_X12_meet_117 l2_ M_))) (fun l2_ M_ => f_X12_meet_117 l2_ M_) = some (en3 (mtN D E t (i + 1) s), N) := fun t0 => by
          unfold f_X12_meet_82
          rw [if_neg (by rw [enc_lt q2]; exact c1), if_pos (by rw [enc_lt q4]; exact c2)]
          exact e109
        split <;> exact u _
      · have t0 : ∀ x, x < 10000 → f_X12_meet_82 (Int32.ofNat q) (en3 s) (Int32.ofNat i) (enc (D i)) (enc (E i)) (Int32.ofNat x) N ((fun l1_ l2_ l3_ M_ => f_X12_meet_29 k l1_ l2_ l3_ M_ (fun l2_ M_ => f_X12_meet_117 l2_ M_))) (fun l2_ M_ => f_X12_meet_117 l2_ M_) = some (en3 (mtN D E t (i + 1) (Nat.min s x)), N) := fun x hx => by
          unfold f_X12_meet_82
          rw [if_neg (by rw [enc_lt q2]; exact c1), if_neg (by rw [enc_lt q4]; exact c2)]
          by_cases c3 : s = 10000
          · rw [if_pos (by rw [c3]; decide), e104 x hx, c3, show Nat.min 10000 x = x from Nat.min_eq_right (by omega)]
          · have e3 : en3 s = Int32.ofNat s := if_neg c3
            rw [if_neg (by rw [e3]; exact Int32.not_lt.mpr (o_nn (by omega)))]
            by_cases c4 : s ≤ x
            · rw [if_pos (by rw [e3, o_le (by omega) (by omega)]; exact c4), e109, show Nat.min s x = s from Nat.min_eq_left c4]
            · rw [if_neg (by rw [e3, o_le (by omega) (by omega)]; exact c4), e104 x hx, show Nat.min s x = x from Nat.min_eq_right (by omega)]
        rw [enc_f c1, enc_f c2] at t0 ⊢
        by_cases c5 : D i ≤ E i
        · rw [if_pos (by rw [o_le (by omega) (by omega)]; exact c5), t0 (E i) (by omega), show Nat.max (D i) (E i) = E i from Nat.max_eq_right c5]
        · rw [if_neg (by rw [o_le (by omega) (by omega)]; exact c5), t0 (D i) (by omega), show Nat.max (D i) (E i) = D i from Nat.max_eq_left (by omega)]
theorem mtN_le (D E : Nat → Nat) : ∀ t i s, mtN D E t i s ≤ s
  | 0, _, _ => Nat.le_refl _
  | t + 1, i, s => Nat.le_trans (mtN_le D E t (i + 1) _) (Nat.min_le_left _ _)
theorem c_meet (x : Int32) : Call (f_X11_meet x) (f_X12_meet x) := by
  intro M h
  have ht := there_e h
  obtain ⟨np, nw, G, a1, a2, hF, hL, hG⟩ := plain_of h
  have np8 := hF.1
  have e1 := hasPl_e (M := M) (w := 3) (np := np) (by omega) hL.1
  have e2 := isPl_e (M := M) (n := np) (by omega) a1
  by_cases hx : 0 ≤ x ∧ x < Int32.ofNat np
  · by_cases h0 : M.1 76 7 = 0
    · refine ⟨-4, M, M, ?_, ?_, h⟩
      · unfold f_X11_meet
        rw [e1, bd_s, if_pos hx, if_neg (by decide), if_pos (by rw [ht]; exact h0)]
      · unfold f_X12_meet
        rw [e2, bd_s, if_pos hx, if_neg (by decide), if_pos h0]
    · obtain ⟨np', nw', nr, hN, -, -, hS, hS2, hq⟩ := here_of h h0
      have enp : np' = np := o_inj (by have := hS.1.1; omega) (by omega) (hN.1.symm.trans a1)
      subst enp
      obtain ⟨p, hp, hp0⟩ := hS2.2.2.2
      obtain ⟨b, hb, rfl⟩ := ex_lt (by omega) hx.1 hx.2
      have h34 : M.1 3 4 = Int32.ofNat p := by rw [← hp0, ← hq.1 0 (by omega)]; rfl
      have h82 : M.1 82 0 = Int32.ofNat p := by rw [← hp0, rwM_e _ _ (by omega)]
      obtain ⟨N1, g1, g2, g3, g4⟩ := measX (c := 3 + 14) hp (by omega) hL hF (TD_of hF hG hp)
      have hL1 : LX 3 N1 np' nw (M.1 77) (M.1 78) := LX_fr (fun i j q1 q2 q3 q4 => g3 _ _ (by omega)) hL
      obtain ⟨N, k1, k2, k3, k4⟩ := measX (c := 3 + 15) hb (by omega) hL1 hF (TD_of hF hG hb)
      have ne : ∀ a j, a ≠ 17 → a ≠ 18 → N.1 a j = M.1 a j := fun a j q1 q2 => by rw [k3 a j q2, g3 a j q1]
      have nd : N.2 = M.2 := by rw [k4, g4]
      have X0 := meetX (N := N) (np := np') (D := G p) (E := G b) (by omega) (by rw [ne _ _ (by omega) (by omega)]; exact hL.1) (fun v hv => ⟨by rw [k3 _ _ (by omega)]; exact g2 v hv, hG.2.1 p v⟩) (fun v hv => ⟨k2 v hv, hG.2.1 b v⟩) np' k_fu 0 10000 (by omega) (by unfold k_fu; omega) (by omega)
      obtain ⟨N', f1, f2, f3, f4⟩ := farsR (N := N) a1 a2 hF hG (fun a ha => funext fun j => ne a j (by omega) (by omega))
      have M0 := meetM (N := N') (np := np') (p := p) (q := b) (D := G p) (E := G b) (by omega) (by rw [f3 _ _ (by omega), ne _ _ (by omega) (by omega)]; exact a1) hp hb (by rw [f3 _ _ (by omega), ne _ _ (by omega) (by omega)]; exact h82) (fun v hv => ⟨f2 p v hp hv, hG.2.1 p v⟩) (fun v hv => ⟨f2 b v hb hv, hG.2.1 b v⟩) np' k_fu 0 10000 (by omega) (by unfold k_fu; omega) (by omega)
      have e3 := isPl_e (M := N) (n := np') (by omega) (by rw [ne _ _ (by omega) (by omega)]; exact a1)
      have hle := mtN_le (G p) (G b) np' 0 10000
      have fr : FR M N' := FR_tr (FR_17 ne nd) (FR_94 f3 f4)
      refine ⟨en3 (mtN (G p) (G b) np' 0 10000), N, N', ?_, ?_, R_fr fr h⟩
      · unfold f_X11_meet
        rw [e1, bd_s, if_pos hx, if_neg (by decide), if_neg (by rw [ht]; exact h0), h34]
        unfold f_X3_daysToMeet
        have e10 : (10000 : Int32) = Int32.ofNat 10000 := rfl
        rw [g1, bd_s, k1, bd_s, e10, e0z, X0, bd_s]
        unfold en3
        by_cases hi : mtN (G p) (G b) np' 0 10000 = 10000
        · rw [if_pos hi, if_pos (congrArg Int32.ofNat hi)]
        · rw [if_neg hi, if_neg (by rw [o_eq (by omega) (by omega)]; exact hi)]
      · unfold f_X12_meet
        have em3 : (-3 : Int32) = en3 10000 := rfl
        rw [e3, bd_s, if_pos hx, if_neg (by decide), ne _ _ (by omega) (by omega), if_neg h0, f1, bd_s, bN_e, em3, e0z]
        exact M0
  · refine ⟨-1, M, M, ?_, ?_, h⟩
    · unfold f_X11_meet
      rw [e1, bd_s, if_neg hx, if_pos rfl]
    · unfold f_X12_meet
      rw [e2, bd_s, if_neg hx, if_pos rfl]
