/-! ===== the pure layer: a place, a way ===== -/
theorem xEnd_e (k : Int32) (M : k_M) : f_X3_isEndless k M = some (if k = 1 ∨ k = 4 then 1 else 0, M) := by
  unfold f_X3_isEndless f_X3_isEndless_10
  by_cases h1 : k = 1
  · simp [h1]
  · by_cases h2 : k = 4
    · simp [h2]
    · simp [h1, h2]
def lft (k l : Int32) : Int32 := if k = 1 ∨ k = 4 then 99 else l
theorem wls_nil {np nw : Nat} {pl wy : Nat → Int32} (h : WFl np nw pl wy) : wls nw wy np = [] := by
  unfold wls
  rw [List.filter_eq_nil_iff]
  intro v hv
  have hv := List.mem_range.mp hv
  obtain ⟨a, b, d, h1, h2, h3, h4, h5, h6, h7⟩ := h.2.2.2 v hv
  have np8 := h.1
  rw [h5, h6]
  simp (disch := omega) only [Bool.or_eq_true, beq_iff_eq, o_eq]
  omega
theorem addP_e {w np : Nat} {M : k_M} (hnp : np < 8) (h0 : M.1 (w + 1) 0 = Int32.ofNat np) (k g l : Int32) : ∃ M', f_X3_addPlace w k g l M = some (Int32.ofNat np, M') ∧ M'.1 (w + 2) np = k ∧ M'.1 (w + 3) np = g ∧ M'.1 (w + 4) np = lft k l ∧ M'.1 (w + 5) np = lft k l ∧ M'.1 (w + 6) np = 0 ∧ M'.1 (w + 1) 0 = Int32.ofNat (np + 1) ∧ (∀ a j, ¬ (w + 2 ≤ a ∧ a ≤ w + 6 ∧ j = np) → ¬ (a = w + 1 ∧ j = 0) → M'.1 a j = M.1 a j) ∧ M'.2 = M.2 := by
  refine ⟨sI (sI (sI (sI (sI (sI M (w + 2) np k) (w + 3) np g) (w + 4) np (lft k l)) (w + 5) np (lft k l)) (w + 6) np 0) (w + 1) 0 (Int32.ofNat (np + 1)), ?_, ?_, ?_, ?_, ?_, ?_, ?_, fun a j q1 q2 => ?_, rfl⟩
  · have e4 : (sI (sI (sI M (w + 2) np k) (w + 3) np g) (w + 4) np (lft k l)).1 (w + 4) np = lft k l := by rw [sI_g, if_pos ⟨rfl, rfl⟩]
    have e1 : (sI (sI (sI (sI (sI M (w + 2) np k) (w + 3) np g) (w + 4) np (lft k l)) (w + 5) np (lft k l)) (w + 6) np 0).1 (w + 1) 0 = Int32.ofNat np := by rw [sI_g, if_neg (by omega), sI_g, if_neg (by omega), sI_g, if_neg (by omega), sI_g, if_neg (by omega), sI_g, if_neg (by omega)]; exact h0
    have h41 : ∀ x, lft k l = x → f_X3_addPlace_41 w (Int32.ofNat np) (Int32.ofNat np) x (sI (sI M (w + 2) np k) (w + 3) np g) = some (Int32.ofNat np, sI (sI (sI (sI (sI (sI M (w + 2) np k) (w + 3) np g) (w + 4) np (lft k l)) (w + 5) np (lft k l)) (w + 6) np 0) (w + 1) 0 (Int32.ofNat (np + 1))) := fun x hx => by
      subst hx
      unfold f_X3_addPlace_41
      rw [wrI_o (by omega) (by omega), rdI_o (by omega) (by omega), e4, wrI_o (by omega) (by omega), wrI_o (by omega) (by omega), bN_e, e1, o_addl]
    unfold f_X3_addPlace
    rw [bN_e, h0, wrI_o (by omega) (by omega), wrI_o (by omega) (by omega), xEnd_e, bd_s]
    by_cases hk : k = 1 ∨ k = 4
    · rw [if_pos hk, if_neg (by decide)]
      exact h41 99 (if_pos hk)
    · rw [if_neg hk, if_pos rfl]
      exact h41 l (if_neg hk)
  · rw [sI_g, if_neg (by omega), sI_g, if_neg (by omega), sI_g, if_neg (by omega), sI_g, if_neg (by omega), sI_g, if_neg (by omega), sI_g, if_pos ⟨rfl, rfl⟩]
  · rw [sI_g, if_neg (by omega), sI_g, if_neg (by omega), sI_g, if_neg (by omega), sI_g, if_neg (by omega), sI_g, if_pos ⟨rfl, rfl⟩]
  · rw [sI_g, if_neg (by omega), sI_g, if_neg (by omega), sI_g, if_neg (by omega), sI_g, if_pos ⟨rfl, rfl⟩]
  · rw [sI_g, if_neg (by omega), sI_g, if_neg (by omega), sI_g, if_pos ⟨rfl, rfl⟩]
  · rw [sI_g, if_neg (by omega), sI_g, if_pos ⟨rfl, rfl⟩]
  · rw [sI_g, if_pos ⟨rfl, rfl⟩]
  · rw [sI_g, if_neg q2, sI_g, if_neg (by omega), sI_g, if_neg (by omega), sI_g, if_neg (by omega), sI_g, if_neg (by omega), sI_g, if_neg (by omega)]
/-- the told numbers with one more place -/
theorem WFl_addP {np nw : Nat} {pl pl' wy : Nat → Int32} {k g l : Int32} (h : WFl np nw pl wy) (hnp : np < 8) (hk : Bn k 5) (hg : Bn g 9) (hl : Bn l 99) (e : ∀ j, j < 3 * np → pl' j = pl j) (e0 : pl' (3 * np) = k) (e1 : pl' (3 * np + 1) = g) (e2 : pl' (3 * np + 2) = l) : WFl (np + 1) nw pl' wy := by
  refine ⟨by omega, h.2.1, fun p hp => ?_, fun v hv => ?_⟩
  · by_cases hh : p = np
    · subst hh
      rw [e0, e1, e2, wls_nil h]
      exact ⟨hk, hg, hl, Nat.zero_le _⟩
    · rw [e _ (by omega), e _ (by omega), e _ (by omega)]
      exact h.2.2.1 p (by omega)
  · obtain ⟨a, b, d, h1, h2, h3⟩ := h.2.2.2 v hv
    exact ⟨a, b, d, h1, by omega, h3⟩
theorem LX_addP {w np nw : Nat} {M M' : k_M} {pl pl' wy : Nat → Int32} {k g l : Int32} (hF : WFl np nw pl wy) (h : LX w M np nw pl wy) (hnp : np < 8) (e : ∀ j, j < 3 * np → pl' j = pl j) (e0 : pl' (3 * np) = k) (e1 : pl' (3 * np + 1) = g) (e2 : pl' (3 * np + 2) = l) (m2 : M'.1 (w + 2) np = k) (m3 : M'.1 (w + 3) np = g) (m4 : M'.1 (w + 4) np = l) (m6 : M'.1 (w + 6) np = 0) (m1 : M'.1 (w + 1) 0 = Int32.ofNat (np + 1)) (c : ∀ i j, 1 ≤ i → i < 14 → i ≠ 5 → i ≠ 12 → ¬ (2 ≤ i ∧ i ≤ 6 ∧ j = np) → ¬ (i = 1 ∧ j = 0) → M'.1 (w + i) j = M.1 (w + i) j) : LX w M' (np + 1) nw pl' wy := by
  obtain ⟨h1, h2, h3, h4⟩ := h
  have nw12 := hF.2.1
  refine ⟨m1, by rw [c 1 7 (by omega) (by omega) (by omega) (by omega) (by omega) (by omega)]; exact h2, fun p hp => ?_, fun v hv => ?_⟩
  · by_cases hh : p = np
    · subst hh
      rw [e0, e1, e2, m2, m3, m4, m6, wls_nil hF]
      exact ⟨rfl, rfl, rfl, rfl, fun i hi => absurd hi (Nat.not_lt_zero i)⟩
    · rw [e _ (by omega), e _ (by omega), e _ (by omega), c 2 p (by omega) (by omega) (by omega) (by omega) (by omega) (by omega), c 3 p (by omega) (by omega) (by omega) (by omega) (by omega) (by omega), c 4 p (by omega) (by omega) (by omega) (by omega) (by omega) (by omega), c 6 p (by omega) (by omega) (by omega) (by omega) (by omega) (by omega)]
      obtain ⟨q1, q2, q3, q4, q5⟩ := h3 p (by omega)
      exact ⟨q1, q2, q3, q4, fun i hi => by rw [c 7 _ (by omega) (by omega) (by omega) (by omega) (by omega) (by omega)]; exact q5 i hi⟩
  · rw [c 8 v (by omega) (by omega) (by omega) (by omega) (by omega) (by omega), c 9 v (by omega) (by omega) (by omega) (by omega) (by omega) (by omega), c 10 v (by omega) (by omega) (by omega) (by omega) (by omega) (by omega), c 11 v (by omega) (by omega) (by omega) (by omega) (by omega) (by omega), c 13 v (by omega) (by omega) (by omega) (by omega) (by omega) (by omega)]
    exact h4 v hv
theorem lft_Bn {k l : Int32} (h : ¬ (k = 1 ∨ k = 4) → Bn l 99) : Bn (lft k l) 99 := by
  unfold lft
  by_cases hk : k = 1 ∨ k = 4
  · rw [if_pos hk]; exact ⟨99, by omega, rfl⟩
  · rw [if_neg hk]; exact h hk
theorem c_place (x y z : Int32) : Call (f_X11_place x y z) (f_X12_place x y z) := by
  intro M h
  obtain ⟨np, nw, nr, a1, a2, a3, h1, h2, h3, h4, h5, h6, h7, h8, h9⟩ := h.1
  have np8 := h1.1
  have nw12 := h1.2.1
  by_cases hx : 0 ≤ x ∧ x ≤ 5
  · by_cases hy : 0 ≤ y ∧ y ≤ 9
    · by_cases hz : (x = 1 ∨ x = 4) ∨ (0 ≤ z ∧ z ≤ 99)
      · have x1 : f_X11_place x y z M = f_X11_place_40 x y z M := by
          unfold f_X11_place
          rw [within_e, bd_s, if_pos hx, if_neg (by decide), within_e, bd_s, if_pos hy, if_neg (by decide), xEnd_e, bd_s]
          by_cases hk : x = 1 ∨ x = 4
          · rw [if_pos hk, if_neg (by decide)]
          · rw [if_neg hk, if_pos rfl, within_e, bd_s, if_pos (hz.resolve_left hk), if_neg (by decide)]
        have m1 : ∀ N, f_X12_place x y z N = f_X12_place_38 x y z N := fun N => by
          unfold f_X12_place
          rw [in_e, bd_s, if_pos hx, if_neg (by decide), in_e, bd_s, if_pos hy, if_neg (by decide), mEnd_e, bd_s]
          by_cases hk : x = 1 ∨ x = 4
          · rw [if_pos hk, if_neg (by decide)]
          · rw [if_neg hk, if_pos rfl, in_e, bd_s, if_pos (hz.resolve_left hk), if_neg (by decide)]
        by_cases hf : np < 8
        · obtain ⟨X, e1, e2, e3, e4, e5, e6, e7, e8, e9⟩ := addP_e (w := 3) hf h2.1 x y z
          have n76 : ∀ j, X.1 76 j = M.1 76 j := fun j => e8 _ _ (by omega) (by omega)
          obtain ⟨Y, hY⟩ : ∃ Y, Y = sI (sI (sI (sI (sI X 77 (3 * np) x) 77 (3 * np + 1) y) 77 (3 * np + 2) (lft x z)) 82 (5 + np) (lft x z)) 76 0 (Int32.ofNat (np + 1)) := ⟨_, rfl⟩
          have yl : ∀ a j, ¬ (a = 77 ∧ 3 * np ≤ j ∧ j < 3 * np + 3) → ¬ (a = 82 ∧ j = 5 + np) → ¬ (a = 76 ∧ j = 0) → Y.1 a j = X.1 a j := fun a j q1 q2 q3 => by rw [hY, sI_g, if_neg q3, sI_g, if_neg q2, sI_g, if_neg (by omega), sI_g, if_neg (by omega), sI_g, if_neg (by omega)]
          have y0 : Y.1 77 (3 * np) = x := by rw [hY, sI_g, if_neg (by omega), sI_g, if_neg (by omega), sI_g, if_neg (by omega), sI_g, if_neg (by omega), sI_g, if_pos ⟨rfl, rfl⟩]
          have y1 : Y.1 77 (3 * np + 1) = y := by rw [hY, sI_g, if_neg (by omega), sI_g, if_neg (by omega), sI_g, if_neg (by omega), sI_g, if_pos ⟨rfl, rfl⟩]
          have y2 : Y.1 77 (3 * np + 2) = lft x z := by rw [hY, sI_g, if_neg (by omega), sI_g, if_neg (by omega), sI_g, if_pos ⟨rfl, rfl⟩]
          have y3 : Y.1 82 (5 + np) = lft x z := by rw [hY, sI_g, if_neg (by omega), sI_g, if_pos ⟨rfl, rfl⟩]
          have y4 : Y.1 76 0 = Int32.ofNat (np + 1) := by rw [hY, sI_g, if_pos ⟨rfl, rfl⟩]
          have ym : ∀ a j, ¬ (5 ≤ a ∧ a ≤ 9 ∧ j = np) → ¬ (a = 4 ∧ j = 0) → ¬ (a = 77 ∧ 3 * np ≤ j ∧ j < 3 * np + 3) → ¬ (a = 82 ∧ j = 5 + np) → ¬ (a = 76 ∧ j = 0) → Y.1 a j = M.1 a j := fun a j q1 q2 q3 q4 q5 => by rw [yl a j q3 q4 q5, e8 a j (by omega) (by omega)]
          have hB : Bn (lft x z) 99 := lft_Bn (fun hk => ex_o (n := 99) (by omega) (hz.resolve_left hk).1 (hz.resolve_left hk).2)
          refine ⟨Int32.ofNat np, X, Y, ?_, ?_, ?_⟩
          · rw [x1]
            unfold f_X11_place_40
            rw [show M.1 4 0 = Int32.ofNat np from h2.1, if_neg (by rw [o_lle (by omega) (by omega)]; omega), e1, bd_s]
          · rw [m1]
            have q8 : ∀ v, (sI X 77 (3 * np) v).1 76 0 = Int32.ofNat np := fun v => by rw [sI_g, if_neg (by omega), n76]; exact a1
            have q9 : ∀ v v', (sI (sI X 77 (3 * np) v) 77 (3 * np + 1) v').1 76 0 = Int32.ofNat np := fun v v' => by rw [sI_g, if_neg (by omega)]; exact q8 v
            have q10 : ∀ v v' v2, (sI (sI (sI X 77 (3 * np) v) 77 (3 * np + 1) v') 77 (3 * np + 2) v2).1 76 0 = Int32.ofNat np := fun v v' v2 => by rw [sI_g, if_neg (by omega)]; exact q9 v v'
            have q11 : ∀ v v' v2 v3, (sI (sI (sI (sI X 77 (3 * np) v) 77 (3 * np + 1) v') 77 (3 * np + 2) v2) 82 (5 + np) v3).1 76 0 = Int32.ofNat np := fun v v' v2 v3 => by rw [sI_g, if_neg (by omega)]; exact q10 v v' v2
            have l101 : ∀ v, lft x z = v → f_X12_place_101 (Int32.ofNat (3 * np + 2)) v (sI (sI X 77 (3 * np) x) 77 (3 * np + 1) y) = some (Int32.ofNat np, Y) := fun v hv => by
              subst hv
              unfold f_X12_place_101 f_X12_its
              rw [wrI_o (by omega) (by omega), q10, o_lmul, o_addl, rdI_o (by omega) (by omega), bd_s, o_ladd, wrI_o (by omega) (by omega)]
              have e77 : (sI (sI (sI X 77 (3 * np) x) 77 (3 * np + 1) y) 77 (3 * np + 2) (lft x z)).1 77 (3 * np + 2) = lft x z := by rw [sI_g, if_pos ⟨rfl, rfl⟩]
              rw [e77, bN_e, q11, o_addl, ← hY, y4, o_subl (by omega), Nat.add_sub_cancel]
            unfold f_X12_place_38
            rw [n76, a1, if_neg (by rw [o_eql (by omega) (by omega)]; omega), o_lmul, wrI_o (by omega) (by omega), q8, o_lmul, o_addl, wrI_o (by omega) (by omega), mEnd_e, bd_s, q9, o_lmul, o_addl]
            by_cases hk : x = 1 ∨ x = 4
            · rw [if_pos hk, if_neg (by decide)]
              exact l101 99 (if_pos hk)
            · rw [if_neg hk, if_pos rfl]
              exact l101 z (if_neg hk)
          · have yd : Y.2 = M.2 := by rw [hY]; exact e9
            refine R_P (fun a j => (5 ≤ a ∧ a ≤ 9 ∧ j = np) ∨ (a = 4 ∧ j = 0) ∨ (a = 77 ∧ 3 * np ≤ j ∧ j < 3 * np + 3) ∨ (a = 82 ∧ j = 5 + np) ∨ (a = 76 ∧ j = 0)) h (fun a j _ q => ym a j (by omega) (by omega) (by omega) (by omega) (by omega)) yd (.inr ?_) (.inl fun n a j hp => by unfold locK; omega) (.inl fun a j hp => by unfold locT; omega) (.inl fun a j hp => by unfold locW; omega) (.inl fun a j hp => by unfold locS; omega) (.inl fun a j hp => by unfold locF; omega) (.inl fun a j hp => by unfold locA; omega) (fun j => by omega)
            have fc : ∀ a, ¬ (4 ≤ a ∧ a ≤ 9) → a ≠ 77 → a ≠ 82 → a ≠ 76 → Y.1 a = M.1 a := fun a q1 q2 q3 q4 => funext fun j => ym a j (by omega) (by omega) (by omega) (by omega) (by omega)
            have pe : ∀ j, j < 3 * np → Y.1 77 j = M.1 77 j := fun j hj => ym 77 j (by omega) (by omega) (by omega) (by omega) (by omega)
            refine ⟨np + 1, nw, nr, y4, by rw [ym 76 2 (by omega) (by omega) (by omega) (by omega) (by omega)]; exact a2, by rw [ym 76 8 (by omega) (by omega) (by omega) (by omega) (by omega)]; exact a3, ?_⟩
            rw [ym 76 6 (by omega) (by omega) (by omega) (by omega) (by omega), ym 76 7 (by omega) (by omega) (by omega) (by omega) (by omega), fc 78 (by omega) (by omega) (by omega) (by omega), fc 79 (by omega) (by omega) (by omega) (by omega), fc 81 (by omega) (by omega) (by omega) (by omega)]
            have rr : ∀ k, k ≠ 5 + np → Y.1 82 k = M.1 82 k := fun k hk => ym 82 k (by omega) (by omega) (by omega) (by omega) (by omega)
            refine ⟨WFl_addP h1 hf (ex_o (n := 5) (by omega) hx.1 hx.2) (ex_o (n := 9) (by omega) hy.1 hy.2) hB pe y0 y1 y2, LX_addP h1 h2 hf pe y0 y1 y2 (by rw [yl _ _ (by omega) (by omega) (by omega)]; exact e2) (by rw [yl _ _ (by omega) (by omega) (by omega)]; exact e3) (by rw [yl _ _ (by omega) (by omega) (by omega)]; exact e4) (by rw [yl _ _ (by omega) (by omega) (by omega)]; exact e6) (by rw [yl _ _ (by omega) (by omega) (by omega)]; exact e7) (fun i j _ _ _ _ q5 q6 => ym _ _ (by omega) (by omega) (by omega) (by omega) (by omega)), h3, WX_fr (fun j => ym _ _ (by omega) (by omega) (by omega) (by omega) (by omega)) (ym _ _ (by omega) (by omega) (by omega) (by omega) (by omega)) h4, by rw [ym _ _ (by omega) (by omega) (by omega) (by omega) (by omega)]; exact h5, ?_, ⟨?_, fun s hs => ?_, fun p hp => ?_, fun v hv => ?_⟩, ⟨?_, ?_, fun s hs => ?_, fun p hp => ?_, fun v hv => ?_⟩, RR_fr (ym _ _ (by omega) (by omega) (by omega) (by omega) (by omega)) (fun j => ym _ _ (by omega) (by omega) (by omega) (by omega) (by omega)) (fun q j _ _ => ym _ _ (by omega) (by omega) (by omega) (by omega) (by omega)) (by rw [yd]) (by rw [yd]; exact Nat.le_refl _) h9⟩
            · rw [rr 0 (by omega)]
              rcases h6 with h6 | ⟨h6, a, q1, q2⟩
              · exact .inl h6
              · exact .inr ⟨h6, a, by omega, q2⟩
            · rw [rr 1 (by omega)]; exact h7.1
            · rw [rr _ (by omega)]; exact h7.2.1 s hs
            · by_cases hh : p = np
              · subst hh; rw [y3]; exact hB
              · rw [rr _ (by omega)]; exact h7.2.2.1 p (by omega)
            · rw [rr _ (by omega)]; exact h7.2.2.2 v hv
            · rw [rr 0 (by omega), ym _ _ (by omega) (by omega) (by omega) (by omega) (by omega)]; exact h8.1
            · rw [rr 1 (by omega), ym _ _ (by omega) (by omega) (by omega) (by omega) (by omega)]; exact h8.2.1
            · rw [rr _ (by omega), ym _ _ (by omega) (by omega) (by omega) (by omega) (by omega)]; exact h8.2.2.1 s hs
            · by_cases hh : p = np
              · subst hh
                rw [y3, yl _ _ (by omega) (by omega) (by omega)]
                exact e5
              · rw [rr _ (by omega), ym _ _ (by omega) (by omega) (by omega) (by omega) (by omega)]; exact h8.2.2.2.1 p (by omega)
            · rw [rr _ (by omega), ym _ _ (by omega) (by omega) (by omega) (by omega) (by omega)]; exact h8.2.2.2.2 v hv
        · have e8 : np = 8 := by omega
          subst e8
          refine ⟨-2, M, M, ?_, ?_, h⟩
          · rw [x1]
            unfold f_X11_place_40
            rw [show M.1 4 0 = Int32.ofNat 8 from h2.1, if_pos (by decide)]
          · rw [m1]
            unfold f_X12_place_38
            rw [a1, if_pos (by decide)]
      · have hk : ¬ (x = 1 ∨ x = 4) := fun q => hz (.inl q)
        have hz2 : ¬ (0 ≤ z ∧ z ≤ 99) := fun q => hz (.inr q)
        refine ⟨-1, M, M, ?_, ?_, h⟩
        · unfold f_X11_place
          rw [within_e, bd_s, if_pos hx, if_neg (by decide), within_e, bd_s, if_pos hy, if_neg (by decide), xEnd_e, bd_s, if_neg hk, if_pos rfl, within_e, bd_s, if_neg hz2, if_pos rfl]
        · unfold f_X12_place
          rw [in_e, bd_s, if_pos hx, if_neg (by decide), in_e, bd_s, if_pos hy, if_neg (by decide), mEnd_e, bd_s, if_neg hk, if_pos rfl, in_e, bd_s, if_neg hz2, if_pos rfl]
    · refine ⟨-1, M, M, ?_, ?_, h⟩
      · unfold f_X11_place
        rw [within_e, bd_s, if_pos hx, if_neg (by decide), within_e, bd_s, if_neg hy, if_pos rfl]
      · unfold f_X12_place
        rw [in_e, bd_s, if_pos hx, if_neg (by decide), in_e, bd_s, if_neg hy, if_pos rfl]
  · refine ⟨-1, M, M, ?_, ?_, h⟩
    · unfold f_X11_place
      rw [within_e, bd_s, if_neg hx, if_pos rfl]
    · unfold f_X12_place
      rw [in_e, bd_s, if_neg hx, if_pos rfl]
