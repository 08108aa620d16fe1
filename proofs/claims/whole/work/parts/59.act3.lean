/-! ===== the pure layer: act, taken ===== -/
theorem clear_e (M : k_M) : f_X9_clear M = some ((), tX M [] 0) := by
  unfold f_X9_clear
  rw [bN_e, bN_e]
  refine congrArg (fun q => some ((), q)) (kM_ext (fun a j => ?_) rfl)
  rw [sI_g, sI_g, tX_u]
  by_cases h1 : a = 74 ∧ j = 1
  · rw [if_pos h1, if_pos h1, if_neg (by omega)]
    rfl
  · rw [if_neg h1, if_neg h1]
    by_cases h2 : a = 74 ∧ j = 2
    · rw [if_pos h2, if_pos h2]
    · rw [if_neg h2, if_neg h2, if_neg (fun hh => Nat.not_lt_zero _ hh.2)]
theorem tM_s {M : k_M} {l : List Int32} {j : Nat} {v : Int32} (h : j ≠ 47) : sI (tM M l) 76 j v = tM (sI M 76 j v) l := by
  refine kM_ext (fun a i => ?_) rfl
  rw [sI_g, tM_u, tM_u]
  by_cases h1 : a = 76 ∧ i = j
  · rw [if_pos h1, if_neg (by omega), if_neg (by omega), sI_g, if_pos h1]
  · rw [if_neg h1, sI_g, if_neg h1]
theorem tM_0 (M : k_M) : sI M 76 47 0 = tM M [] := by
  refine kM_ext (fun a i => ?_) rfl
  rw [sI_g, tM_u]
  by_cases h1 : a = 76 ∧ i = 47
  · rw [if_pos h1, if_pos h1]
    rfl
  · rw [if_neg h1, if_neg h1, if_neg (fun hh => Nat.not_lt_zero _ hh.2)]
/-- what lies on a shelf, for the class -/
theorem ruleOn_r {M : k_M} {s i nr q : Nat} {rl : Nat → Int32} (hs : s ≤ 3) (h71 : M.1 71 s = 1) (h72 : M.1 72 s = Int32.ofNat i) (hr : f_X10_ruleAt 3 (Int32.ofNat i) M = some (some q, M)) : f_X11_ruleOn (Int32.ofNat s) M = some (some q, M) := by
  have hx : 0 ≤ Int32.ofNat s ∧ Int32.ofNat s ≤ 3 := ⟨o_nn (by omega), by rw [o_lel (by omega) (by omega)]; exact hs⟩
  unfold f_X11_ruleOn
  rw [within_e, bd_s, if_pos hx, if_neg (by decide), rdI_o (by omega) (by omega), h71, if_pos rfl, rdI_o (by omega) (by omega), h72, hr, bd_s]
theorem ruleOn_o {M : k_M} {s i : Nat} (hs : s ≤ 3) (h71 : M.1 71 s = 1) (h72 : M.1 72 s = Int32.ofNat i) (hr : f_X10_ruleAt 3 (Int32.ofNat i) M = some (none, M)) : f_X11_ruleOn (Int32.ofNat s) M = some (none, M) := by
  have hx : 0 ≤ Int32.ofNat s ∧ Int32.ofNat s ≤ 3 := ⟨o_nn (by omega), by rw [o_lel (by omega) (by omega)]; exact hs⟩
  unfold f_X11_ruleOn
  rw [within_e, bd_s, if_pos hx, if_neg (by decide), rdI_o (by omega) (by omega), h71, if_pos rfl, rdI_o (by omega) (by omega), h72, hr, bd_s]
theorem ruleOn_n {M : k_M} {s : Nat} (hs : s ≤ 3) (h71 : ¬ M.1 71 s = 1) : f_X11_ruleOn (Int32.ofNat s) M = some (none, M) := by
  have hx : 0 ≤ Int32.ofNat s ∧ Int32.ofNat s ≤ 3 := ⟨o_nn (by omega), by rw [o_lel (by omega) (by omega)]; exact hs⟩
  unfold f_X11_ruleOn f_X11_ruleOn_19
  rw [within_e, bd_s, if_pos hx, if_neg (by decide), rdI_o (by omega) (by omega), if_neg h71]
/-- and for the reference -/
theorem kindOn_e {M : k_M} {s i nr : Nat} (hs : s ≤ 3) (hnr : nr ≤ 4) (h8 : M.1 76 8 = Int32.ofNat nr) (h99 : M.1 99 s = 0) (h100 : M.1 100 s = Int32.ofNat i) (hi : i ≤ 3) : f_X12_kindOn (Int32.ofNat s) M = some (if i < nr then M.1 81 (3 * i) else -1, M) := by
  unfold f_X12_kindOn
  rw [rdI_o (by omega) (by omega), h99, if_pos rfl, rdI_o (by omega) (by omega), h100, isRu_e (by omega) h8, bd_s]
  by_cases h : i < nr
  · have hc : 0 ≤ Int32.ofNat i ∧ Int32.ofNat i < Int32.ofNat nr := ⟨o_nn (by omega), by rw [o_lt (by omega) (by omega)]; exact h⟩
    rw [if_pos hc, if_neg (by decide), rdI_o (by omega) (by omega), h100, o_lmul, rdI_o (by omega) (by omega), if_pos h]
  · have hc : ¬ (0 ≤ Int32.ofNat i ∧ Int32.ofNat i < Int32.ofNat nr) := fun hh => by
      have := hh.2
      rw [o_lt (by omega) (by omega)] at this
      exact h this
    rw [if_neg hc, if_pos rfl, if_neg h]
theorem kindOn_n {M : k_M} {s : Nat} (hs : s ≤ 3) (h99 : M.1 99 s = -1) : f_X12_kindOn (Int32.ofNat s) M = some (-1, M) := by
  unfold f_X12_kindOn
  rw [rdI_o (by omega) (by omega), h99, if_neg (by decide), rdI_o (by omega) (by omega), h99, if_neg (by decide)]
theorem kindOn_9 {M : k_M} {s : Nat} (hs : s ≤ 3) (h99 : M.1 99 s = 1) : f_X12_kindOn (Int32.ofNat s) M = some (9, M) := by
  unfold f_X12_kindOn
  rw [rdI_o (by omega) (by omega), h99, if_neg (by decide), rdI_o (by omega) (by omega), h99, if_pos (by decide)]
/-- the trace alone has changed -/
theorem R_tr {M N : k_M} {l : List Int32} {pt : Int32} (h : R M) (hl : l.length ≤ 30) (hN : ∀ a j, ¬ (a = 76 ∧ 43 ≤ j ∧ j ≤ 48) → N.1 a j = (tX M l pt).1 a j) (d : N.2 = M.2) : R (tM N l) := by
  refine R_P (fun a j => locA a j) h (fun a j h1 h2 => ?_) d (.inl fun a j hp => by unfold locA at hp; unfold chN rlv; omega) (.inl fun n a j hp => by unfold locA at hp; unfold locK; omega) (.inl fun a j hp => by unfold locA at hp; unfold locT; omega) (.inl fun a j hp => by unfold locA at hp; unfold locW; omega) (.inl fun a j hp => by unfold locA at hp; unfold locS; omega) (.inl fun a j hp => by unfold locA at hp; unfold locF; omega) (.inr ?_) (fun j => by unfold locA; omega)
  · unfold locA at h2
    unfold scr rlv at h1
    rw [tM_u, if_neg (by omega), if_neg (by omega), hN _ _ (by omega), tX_u, if_neg (by omega), if_neg (by omega), if_neg (by omega)]
  · refine ⟨l.length, hl, ?_, tM_1, fun i hi => ?_⟩
    · rw [tM_q (by omega), hN _ _ (by omega), tX_1]
    · rw [tM_b hi, tM_q (by omega), hN _ _ (by omega), tX_b hi]
theorem c_act (x y z : Int32) : Call (f_X11_act x y z) (f_X12_act x y z) := by
  intro M h
  have hF := h.2.2.2.2.2.1
  obtain ⟨np, nw, nr, a1, a2, a3, h1, h2, h3, h4, h5, h6, h7, h8, h9⟩ := h.1
  have nr4 := h9.1
  -- nothing is there, or no such act
  have none0 : f_X11_act x y z M = some (0, tX M [] 0) → f_X12_act x y z (tX M [] 0) = some (0, tM (tX M [] 0) []) → ∃ (v : Int32) (M1 M2 : k_M), f_X11_act x y z M = some (v, M1) ∧ f_X12_act x y z M1 = some (v, M2) ∧ R M2 := fun q1 q2 => ⟨0, _, _, q1, q2, R_tr (pt := 0) h (by decide) (fun _ _ _ => rfl) rfl⟩
  have m21 : ∀ (N : k_M) (t : Int32), (¬ (1 ≤ t ∧ t ≤ 5) ∨ ¬ (0 ≤ y ∧ y ≤ 3)) → f_X12_act_21 x y z t N = some (0, N) := fun N t q => by
    unfold f_X12_act_21
    rw [in_e, bd_s]
    by_cases hy : 0 ≤ y ∧ y ≤ 3
    · rw [if_pos hy, if_neg (by decide), in_e, bd_s, if_neg (q.resolve_right (fun hh => hh hy)), if_pos rfl]
    · rw [if_neg hy, if_pos rfl]
  have x0 : f_X11_act x y z M = bd (f_X11_ruleOn x (tX M [] 0)) (fun r3 M4 => nul r3 (some (0, M4)) (fun a5 => bd (f_X11_within y 0 3 M4) (fun r6 M7 => if r6 = 0 then some (0, M7) else tsw y 0 3 (fun i_ => if i_ = 0 then bd (vd_Rule_rolls a5 z M7) (fun r8 M9 => f_X11_act_113 r8 M9) else if i_ = 1 then bd (vd_Rule_eats a5 z M7) (fun r10 M11 => f_X11_act_113 r10 M11) else if i_ = 2 then bd (vd_Rule_shares a5 z M7) (fun r12 M13 => f_X11_act_113 r12 M13) else bd (vd_Rule_tells a5 z M7) (fun r14 M15 => f_X11_act_113 r14 M15)) (bd (vd_Rule_tells a5 z M7) (fun r14 M15 => f_X11_act_113 r14 M15))))) := by
    unfold f_X11_act
    rw [clear_e, bd_s]
  have m0 : ∀ N, f_X12_act x y z N = bd (f_X12_isShelf x (tM N [])) (fun r2 M3 => if r2 = 0 then f_X12_act_21 x y z (-1) M3 else bd (f_X12_kindOn x M3) (fun r4 M5 => f_X12_act_21 x y z r4 M5)) := fun N => by
    unfold f_X12_act
    rw [bN_e, tM_0]
  by_cases hx : 0 ≤ x ∧ x ≤ 3
  · obtain ⟨s, hs, rfl⟩ := ex_o (n := 3) (by omega) hx.1 hx.2
    have kn : ∀ N t, f_X12_kindOn (Int32.ofNat s) (tM N []) = some (t, tM N []) → f_X12_act (Int32.ofNat s) y z N = f_X12_act_21 (Int32.ofNat s) y z t (tM N []) := fun N t q => by
      rw [m0, isSh_e, bd_s, if_pos hx, if_neg (by decide), q, bd_s]
    have nothing : f_X11_ruleOn (Int32.ofNat s) (tX M [] 0) = some (none, tX M [] 0) → (∃ t, f_X12_kindOn (Int32.ofNat s) (tM (tX M [] 0) []) = some (t, tM (tX M [] 0) []) ∧ ¬ (1 ≤ t ∧ t ≤ 5)) → ∃ (v : Int32) (M1 M2 : k_M), f_X11_act (Int32.ofNat s) y z M = some (v, M1) ∧ f_X12_act (Int32.ofNat s) y z M1 = some (v, M2) ∧ R M2 := fun q1 q2 => by
      obtain ⟨t, q2, q3⟩ := q2
      refine none0 ?_ ?_
      · rw [x0, q1, bd_s, nul_n]
      · rw [kn _ _ q2, m21 _ _ (.inl q3)]
    rcases hF s (by omega) with ⟨b1, b2⟩ | ⟨b1, b2, b3, i, hi, b4⟩ | ⟨b1, b2, b3, b4, b5⟩
    · refine nothing (ruleOn_n hs (by rw [tX_q (by omega), b1]; decide)) ⟨-1, kindOn_n hs (by rw [tM_q (by omega), tX_q (by omega), b2]), by decide⟩
    · have c71 : (tX M [] 0).1 71 s = 1 := by rw [tX_q (by omega)]; exact b1
      have c72 : (tX M [] 0).1 72 s = Int32.ofNat i := by rw [tX_q (by omega), b3]; exact b4
      have r9 : RR 3 (tX M [] 0) nr (M.1 81) := RR_fr (M := M) (M' := tX M [] 0) (by rw [tX_q (by omega)]) (fun j => by rw [tX_q (by omega)]) (fun q j _ _ => by rw [tX_q (by omega)]) rfl (Nat.le_refl M.2.2.2) h9
      have kE : ∀ (l : List Int32) (pt : Int32), f_X12_kindOn (Int32.ofNat s) (tM (tX M l pt) []) = some (if i < nr then M.1 81 (3 * i) else -1, tM (tX M l pt) []) := fun l pt => by
        rw [kindOn_e (i := i) (nr := nr) hs nr4 (by rw [tM_f (by omega), tX_q (by omega)]; exact a3) (by rw [tM_q (by omega), tX_q (by omega)]; exact b2) (by rw [tM_q (by omega), tX_q (by omega)]; exact b4) hi, tM_q (by omega), tX_q (by omega)]
      by_cases hin : i < nr
      · obtain ⟨q, q1, q2, q3, q4, q5, q6, q7, q8, ⟨k, hk1, hk5, q9⟩, q10⟩ := ruleAt_in r9 hin
        rw [tX_q (by omega)] at q4 q5 q6 q7
        by_cases hy : 0 ≤ y ∧ y ≤ 3
        · obtain ⟨act, hact, rfl⟩ := ex_o (n := 3) (by omega) hy.1 hy.2
          have x1 := x0
          rw [ruleOn_r (rl := M.1 81) (nr := nr) hs c71 c72 q1, bd_s, nul_s, within_e, bd_s, if_pos hy, if_neg (by decide), tsw_o (by omega)] at x1
          obtain ⟨Nf, hNf⟩ : ∃ Nf : k_M → k_M, ∀ M1, Nf M1 = sI (sI (sI (sI M1 76 43 (Int32.ofNat k)) 76 44 (Int32.ofNat i)) 76 45 (M.1 81 (3 * i + 1))) 76 48 0 := ⟨fun M1 => sI (sI (sI (sI M1 76 43 (Int32.ofNat k)) 76 44 (Int32.ofNat i)) 76 45 (M.1 81 (3 * i + 1))) 76 48 0, fun _ => rfl⟩
          have nf : ∀ M1, (Nf M1).1 76 43 = Int32.ofNat k ∧ (Nf M1).1 76 44 = Int32.ofNat i ∧ (Nf M1).1 76 45 = M.1 81 (3 * i + 1) ∧ (Nf M1).1 76 48 = 0 := fun M1 => by
            rw [hNf]
            refine ⟨?_, ?_, ?_, ?_⟩
            · rw [sI_g, if_neg (by omega), sI_g, if_neg (by omega), sI_g, if_neg (by omega), sI_g, if_pos ⟨rfl, rfl⟩]
            · rw [sI_g, if_neg (by omega), sI_g, if_neg (by omega), sI_g, if_pos ⟨rfl, rfl⟩]
            · rw [sI_g, if_neg (by omega), sI_g, if_pos ⟨rfl, rfl⟩]
            · rw [sI_g, if_pos ⟨rfl, rfl⟩]
          have hNx : ∀ (l : List Int32) (pt : Int32), f_X12_act (Int32.ofNat s) (Int32.ofNat act) z (tX M l pt) = (if Int32.ofNat act = 0 then bd (f_X12_rollsIt z (tM (Nf (tX M l pt)) [])) (fun r17 M18 => f_X12_act_125 r17 M18) else if Int32.ofNat act = 1 then bd (f_X12_eatsIt z (tM (Nf (tX M l pt)) [])) (fun r15 M16 => f_X12_act_125 r15 M16) else if Int32.ofNat act = 2 then bd (f_X12_sharesIt z (tM (Nf (tX M l pt)) [])) (fun r13 M14 => f_X12_act_125 r13 M14) else bd (f_X12_tellsIt z (tM (Nf (tX M l pt)) [])) (fun r11 M12 => f_X12_act_125 r11 M12)) := fun l pt => by
            rw [kn _ _ (kE l pt), if_pos hin, q9, hNf]
            unfold f_X12_act_21
            have hk : 1 ≤ Int32.ofNat k ∧ Int32.ofNat k ≤ 5 := ⟨by rw [o_lle (by omega) (by omega)]; exact hk1, by rw [o_lel (by omega) (by omega)]; exact hk5⟩
            rw [in_e, bd_s, if_pos hy, if_neg (by decide), in_e, bd_s, if_pos hk, if_neg (by decide), bN_e, tM_s (by omega), rdI_o (by omega) (by omega), tM_q (by omega)]
            have v100 : (sI (tX M l pt) 76 43 (Int32.ofNat k)).1 100 s = Int32.ofNat i := by rw [sI_g, if_neg (by omega), tX_q (by omega)]; exact b4
            rw [v100, bN_e, tM_s (by omega)]
            have v44 : (tM (sI (sI (tX M l pt) 76 43 (Int32.ofNat k)) 76 44 (Int32.ofNat i)) []).1 76 44 = Int32.ofNat i := by rw [tM_f (by omega), sI_g, if_pos ⟨rfl, rfl⟩]
            rw [v44, o_lmul, o_addl, rdI_o (by omega) (by omega)]
            have v81 : (tM (sI (sI (tX M l pt) 76 43 (Int32.ofNat k)) 76 44 (Int32.ofNat i)) []).1 81 (3 * i + 1) = M.1 81 (3 * i + 1) := by rw [tM_q (by omega), sI_g, if_neg (by omega), sI_g, if_neg (by omega), tX_q (by omega)]
            rw [v81, bN_e, tM_s (by omega), bN_e, tM_s (by omega)]
          have fin : ∀ (xr mr : k_M → Option (Int32 × k_M)), (∀ N, N.1 76 43 = Int32.ofNat k → N.1 76 44 = Int32.ofNat i → N.1 76 45 = M.1 81 (3 * i + 1) → N.1 76 48 = 0 → AR M N (xr (tX M [] 0)) (mr (tM N []))) → f_X11_act (Int32.ofNat s) (Int32.ofNat act) z M = bd (xr (tX M [] 0)) (fun r8 M9 => f_X11_act_113 r8 M9) → (∀ (l : List Int32) (pt : Int32), f_X12_act (Int32.ofNat s) (Int32.ofNat act) z (tX M l pt) = bd (mr (tM (Nf (tX M l pt)) [])) (fun r M => f_X12_act_125 r M)) → ∃ (v : Int32) (M1 M2 : k_M), f_X11_act (Int32.ofNat s) (Int32.ofNat act) z M = some (v, M1) ∧ f_X12_act (Int32.ofNat s) (Int32.ofNat act) z M1 = some (v, M2) ∧ R M2 := fun xr mr w1 w2 w3 => by
            have ar := fun M1 => w1 (Nf M1) (nf M1).1 (nf M1).2.1 (nf M1).2.2.1 (nf M1).2.2.2
            have nq : ∀ M1 a j, ¬ (a = 76 ∧ 43 ≤ j ∧ j ≤ 48) → (Nf M1).1 a j = M1.1 a j := fun M1 a j hh => by rw [hNf, sI_g, if_neg (by omega), sI_g, if_neg (by omega), sI_g, if_neg (by omega), sI_g, if_neg (by omega)]
            have nd : ∀ M1, (Nf M1).2 = M1.2 := fun M1 => by rw [hNf]; rfl
            have first : ∃ v l pt, xr (tX M [] 0) = some (v, tX M l pt) := by
              rcases ar M with ⟨v, l, -, g, -⟩ | ⟨v, v', l, -, g, -⟩
              · exact ⟨v, l, 0, g⟩
              · exact ⟨v, l, 1, g⟩
            obtain ⟨v, l, pt, e1⟩ := first
            rcases ar (tX M l pt) with ⟨v2, l2, hl, g1, g2⟩ | ⟨v2, v3, l2, hl, g1, g2⟩
            · rw [e1] at g1
              have eM : tX M l pt = tX M l2 0 := congrArg Prod.snd (Option.some.inj g1)
              have ev : v = v2 := congrArg Prod.fst (Option.some.inj g1)
              refine ⟨v2, tX M l pt, tM (Nf (tX M l pt)) l2, ?_, ?_, R_tr (pt := 0) h hl (fun a j hh => by rw [nq _ _ _ hh, eM]) (by rw [nd]; rfl)⟩
              · rw [w2, e1, bd_s, eM, ev]
                unfold f_X11_act_113
                rw [tX_p, if_pos rfl]
              · rw [w3, g2, bd_s]
                unfold f_X12_act_125
                rw [tM_f (by omega), (nf _).2.2.2, if_pos rfl]
            · rw [e1] at g1
              have eM : tX M l pt = tX M l2 1 := congrArg Prod.snd (Option.some.inj g1)
              refine ⟨-15, tX M l pt, tM (sI (Nf (tX M l pt)) 76 48 1) l2, ?_, ?_, R_tr (pt := 1) h hl (fun a j hh => by rw [sI_g, if_neg (by omega), nq _ _ _ hh, eM]) (by rw [sI_2, nd]; rfl)⟩
              · rw [w2, e1, bd_s, eM]
                unfold f_X11_act_113
                rw [tX_p, if_neg (by decide)]
              · rw [w3, g2, bd_s]
                unfold f_X12_act_125
                have v48 : (sI (Nf (tX M l pt)) 76 48 1).1 76 48 = 1 := by rw [sI_g, if_pos ⟨rfl, rfl⟩]
                rw [tM_f (by omega), v48, if_neg (by decide)]
          have hc : act = 0 ∨ act = 1 ∨ act = 2 ∨ act = 3 := by omega
          have q7' : M.1 q 3 = Int32.ofNat k := q7.trans q9
          have q3' : q < M.2.2.2 := q3
          rcases hc with rfl | rfl | rfl | rfl
          · refine fin (vd_Rule_rolls q z) (f_X12_rollsIt z) (fun N n3 n4 n5 n8 => .inl ⟨_, _, ?_, X_rolls (M := M) (l := []) q2 q3' q5 q7' hk1 hk5 (by decide) z, M_rolls (l := []) n3 n4 hk1 hk5 (by decide) z⟩) ?_ (fun l pt => ?_)
            · rw [List.nil_append]; have := tr_len k; omega
            · rw [x1, if_pos (by omega), if_pos rfl]
            · rw [hNx, if_pos (by decide)]
          · refine fin (vd_Rule_eats q z) (f_X12_eatsIt z) (fun N n3 n4 n5 n8 => .inl ⟨_, _, ?_, X_eats (M := M) (l := []) q2 q3' q5 q6 q7' hk1 hk5 (by decide) z, M_eats (l := []) n3 n4 n5 hk1 hk5 (by decide) z⟩) ?_ (fun l pt => ?_)
            · rw [List.nil_append]; have := te_len k; omega
            · rw [x1, if_pos (by omega), if_neg (by omega), if_pos rfl]
            · rw [hNx, if_neg (by decide), if_pos (by decide)]
          · refine fin (vd_Rule_shares q z) (f_X12_sharesIt z) (fun N n3 n4 n5 n8 => AR_shares q2 q3' q5 q6 q7' hk1 hk5 n3 n4 n5 n8 z) ?_ (fun l pt => ?_)
            · rw [x1, if_pos (by omega), if_neg (by omega), if_neg (by omega), if_pos rfl]
            · rw [hNx, if_neg (by decide), if_neg (by decide), if_pos (by decide)]
          · refine fin (vd_Rule_tells q z) (f_X12_tellsIt z) (fun N n3 n4 n5 n8 => AR_tells q2 q3' q5 q6 q7' hk1 hk5 n3 n4 n5 n8 z) ?_ (fun l pt => ?_)
            · rw [x1, if_neg (by omega)]
            · rw [hNx, if_neg (by decide), if_neg (by decide), if_neg (by decide)]
        · refine none0 ?_ ?_
          · rw [x0, ruleOn_r (rl := M.1 81) (nr := nr) hs c71 c72 q1, bd_s, nul_s, within_e, bd_s, if_neg hy, if_pos rfl]
          · rw [kn _ _ (kE [] 0), m21 _ _ (.inr hy)]
      · refine nothing (ruleOn_o hs c71 c72 (ruleAt_out r9 (fun hh => by have := hh.2; rw [o_lt (by omega) (by omega)] at this; exact hin this))) ⟨-1, by rw [kE, if_neg hin], by decide⟩
    · refine nothing (ruleOn_n hs (by rw [tX_q (by omega), b1]; decide)) ⟨9, kindOn_9 hs (by rw [tM_q (by omega), tX_q (by omega), b2]), by decide⟩
  · refine none0 ?_ ?_
    · rw [x0]
      unfold f_X11_ruleOn f_X11_ruleOn_19
      rw [within_e, bd_s, if_neg hx, if_pos rfl, bd_s, nul_n]
    · rw [m0, isSh_e, bd_s, if_neg hx, if_pos rfl, m21 _ _ (.inl (by decide))]
theorem isOf_e {M : k_M} {q k m : Nat} (hq : 105 ≤ q) (hn : q < M.2.2.2) (h3 : M.1 q 3 = Int32.ofNat k) (hk1 : 1 ≤ k) (hk5 : k ≤ 5) (hm : m ≤ 5) : ∃ b : Int32, vd_Rule_isOf q (Int32.ofNat m) M = some (b, M) ∧ ∀ N, f_X12_isUnder (Int32.ofNat k) (Int32.ofNat m) N = some (b, N) := by
  have e : vd_Rule_isOf q (Int32.ofNat m) M = f_X6_isOf q (Int32.ofNat m) M := by
    unfold vd_Rule_isOf
    rw [isRl_e hq hn]
    repeat' split
    all_goals rfl
  rw [e]
  unfold f_X6_isOf insR
  rw [tsw_o (by omega), if_pos (by omega), h3]
  simp only [isRl_e hq hn]
  have hc : k = 1 ∨ k = 2 ∨ k = 3 ∨ k = 4 ∨ k = 5 := by omega
  have hd : m = 0 ∨ m = 1 ∨ m = 2 ∨ m = 3 ∨ m = 4 ∨ m = 5 := by omega
  rcases hc with rfl | rfl | rfl | rfl | rfl <;> rcases hd with rfl | rfl | rfl | rfl | rfl | rfl <;> first | exact ⟨1, rfl, fun _ => rfl⟩ | exact ⟨0, rfl, fun _ => rfl⟩
theorem c_taken (x y : Int32) : Call (f_X11_taken x y) (f_X12_taken x y) := by
  intro M h
  have hF := h.2.2.2.2.2.1
  obtain ⟨np, nw, nr, a1, a2, a3, h1, h2, h3, h4, h5, h6, h7, h8, h9⟩ := h.1
  have nr4 := h9.1
  by_cases hx : 0 ≤ x ∧ x ≤ 3
  · obtain ⟨s, hs, rfl⟩ := ex_o (n := 3) (by omega) hx.1 hx.2
    by_cases hr : 10 ≤ y ∧ y ≤ 13
    · obtain ⟨m, hm, rfl⟩ := ex_o (n := 13) (by omega) (Int32.le_trans (by decide) hr.1) hr.2
      have hm10 : 10 ≤ m := by have := hr.1; rw [o_lle (by omega) (by omega)] at this; exact this
      have n05 : ¬ (0 ≤ Int32.ofNat m ∧ Int32.ofNat m ≤ 5) := fun hh => by have := hh.2; rw [o_lel (by omega) (by omega)] at this; omega
      have x1 : f_X11_taken (Int32.ofNat s) (Int32.ofNat m) M = f_X11_taken_33 (Int32.ofNat s) (Int32.ofNat m) 1 M := by
        unfold f_X11_taken
        rw [within_e, bd_s, if_pos hr, within_e, bd_s, if_pos hx, if_neg (by decide), if_neg (by decide)]
      have m1 : f_X12_taken (Int32.ofNat s) (Int32.ofNat m) M = f_X12_taken_29 (Int32.ofNat s) (Int32.ofNat m) M := by
        unfold f_X12_taken
        rw [isSh_e, bd_s, if_pos hx, if_neg (by decide), in_e, bd_s, if_neg n05, if_pos rfl, in_e, bd_s, if_pos hr, if_neg (by decide)]
      unfold f_X11_taken_33 at x1
      unfold f_X12_taken_29 at m1
      rw [rdI_o (by omega) (by omega)] at x1
      rcases hF s (by omega) with ⟨b1, b2⟩ | ⟨b1, b2, b3, i, hi, b4⟩ | ⟨b1, b2, b3, b4, i, hi, b5⟩
      · rw [b1, if_neg (by decide), ruleOn_n hs (by rw [b1]; decide), bd_s, nul_n] at x1
        rw [kindOn_n hs b2, bd_s, if_neg (by decide)] at m1
        exact ⟨_, M, M, x1, m1, h⟩
      · rw [kindOn_e hs nr4 a3 b2 b4 hi, bd_s] at m1
        rw [b1, if_neg (by decide)] at x1
        by_cases hin : i < nr
        · obtain ⟨q, q1, q2, q3, q4, q5, q6, q7, q8, ⟨k, hk1, hk5, q9⟩, q10⟩ := ruleAt_in h9 hin
          rw [ruleOn_r (rl := M.1 81) (nr := nr) hs b1 (b3.trans b4) q1, bd_s, nul_s, if_neg (by decide)] at x1
          rw [if_pos hin, q9, if_pos (o_nn (by omega)), if_neg (by rw [o_eql (by omega) (by omega)]; omega), if_pos (by rw [o_lle (by omega) (by omega)]; exact hm10)] at m1
          exact ⟨_, M, M, x1, m1, h⟩
        · rw [ruleOn_o hs b1 (b3.trans b4) (ruleAt_out h9 (fun hh => by have := hh.2; rw [o_lt (by omega) (by omega)] at this; exact hin this)), bd_s, nul_n] at x1
          rw [if_neg hin, if_neg (by decide)] at m1
          exact ⟨_, M, M, x1, m1, h⟩
      · rw [b1, if_pos rfl, if_neg (by decide), rdI_o (by omega) (by omega), b3, b5, o_subl (by omega), rdI_o (by omega) (by omega), b4] at x1
        rw [kindOn_9 hs b2, bd_s, if_pos (by decide), if_pos rfl, rdI_o (by omega) (by omega), b5, o_ladd, rdI_o (by omega) (by omega)] at m1
        by_cases hh : i = m - 10
        · rw [if_pos (by rw [o_eq (by omega) (by omega)]; exact hh)] at x1
          rw [if_pos (by rw [o_eq (by omega) (by omega)]; omega)] at m1
          exact ⟨_, M, M, x1, m1, h⟩
        · rw [if_neg (by rw [o_eq (by omega) (by omega)]; exact hh)] at x1
          rw [if_neg (by rw [o_eq (by omega) (by omega)]; omega)] at m1
          exact ⟨_, M, M, x1, m1, h⟩
    · by_cases hy : 0 ≤ y ∧ y ≤ 5
      · obtain ⟨m, hm, rfl⟩ := ex_o (n := 5) (by omega) hy.1 hy.2
        have x1 : f_X11_taken (Int32.ofNat s) (Int32.ofNat m) M = f_X11_taken_33 (Int32.ofNat s) (Int32.ofNat m) 0 M := by
          unfold f_X11_taken
          rw [within_e, bd_s, if_neg hr, within_e, bd_s, if_pos hx, if_neg (by decide), if_pos rfl, within_e, bd_s, if_pos hy, if_neg (by decide)]
        have m1 : f_X12_taken (Int32.ofNat s) (Int32.ofNat m) M = f_X12_taken_29 (Int32.ofNat s) (Int32.ofNat m) M := by
          unfold f_X12_taken
          rw [isSh_e, bd_s, if_pos hx, if_neg (by decide), in_e, bd_s, if_pos hy, if_neg (by decide)]
        unfold f_X11_taken_33 at x1
        unfold f_X12_taken_29 at m1
        rw [rdI_o (by omega) (by omega)] at x1
        rcases hF s (by omega) with ⟨b1, b2⟩ | ⟨b1, b2, b3, i, hi, b4⟩ | ⟨b1, b2, b3, b4, i, hi, b5⟩
        · rw [b1, if_neg (by decide), ruleOn_n hs (by rw [b1]; decide), bd_s, nul_n] at x1
          rw [kindOn_n hs b2, bd_s, if_neg (by decide)] at m1
          exact ⟨_, M, M, x1, m1, h⟩
        · rw [kindOn_e hs nr4 a3 b2 b4 hi, bd_s] at m1
          rw [b1, if_neg (by decide)] at x1
          by_cases hin : i < nr
          · obtain ⟨q, q1, q2, q3, q4, q5, q6, q7, q8, ⟨k, hk1, hk5, q9⟩, q10⟩ := ruleAt_in h9 hin
            obtain ⟨b, o1, o2⟩ := isOf_e (m := m) q2 q3 (q7.trans q9) hk1 hk5 hm
            rw [ruleOn_r (rl := M.1 81) (nr := nr) hs b1 (b3.trans b4) q1, bd_s, nul_s, if_pos rfl, o1, bd_s] at x1
            rw [if_pos hin, q9, if_pos (o_nn (by omega)), if_neg (by rw [o_eql (by omega) (by omega)]; omega), if_neg (by rw [o_lle (by omega) (by omega)]; omega), o2, bd_s, rdI_o (by omega) (by omega), b4] at m1
            rw [gRl_e q2 q3, q5] at x1
            by_cases hb : b = 0
            · rw [if_pos hb] at x1 m1
              exact ⟨_, M, M, x1, m1, h⟩
            · rw [if_neg hb] at x1 m1
              exact ⟨_, M, M, x1, m1, h⟩
          · rw [ruleOn_o hs b1 (b3.trans b4) (ruleAt_out h9 (fun hh => by have := hh.2; rw [o_lt (by omega) (by omega)] at this; exact hin this)), bd_s, nul_n] at x1
            rw [if_neg hin, if_neg (by decide)] at m1
            exact ⟨_, M, M, x1, m1, h⟩
        · rw [b1, if_pos rfl, if_pos rfl] at x1
          rw [kindOn_9 hs b2, bd_s, if_pos (by decide), if_pos rfl, rdI_o (by omega) (by omega), b5, o_ladd, if_neg (by rw [o_eq (by omega) (by omega)]; omega)] at m1
          exact ⟨_, M, M, x1, m1, h⟩
      · refine ⟨-1, M, M, ?_, ?_, h⟩
        · unfold f_X11_taken
          rw [within_e, bd_s, if_neg hr, within_e, bd_s, if_pos hx, if_neg (by decide), if_pos rfl, within_e, bd_s, if_neg hy, if_pos rfl]
        · unfold f_X12_taken
          rw [isSh_e, bd_s, if_pos hx, if_neg (by decide), in_e, bd_s, if_neg hy, if_pos rfl, in_e, bd_s, if_neg hr, if_pos rfl]
  · refine ⟨-1, M, M, ?_, ?_, h⟩
    · unfold f_X11_taken
      rw [within_e, bd_s, within_e, bd_s, if_neg hx, if_pos rfl]
    · unfold f_X12_taken
      rw [isSh_e, bd_s, if_neg hx, if_pos rfl]
