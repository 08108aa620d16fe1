/-! ===== the pure layer: light ===== -/
theorem WFw_up {lw : Nat → Int32} (h : WFw lw) {t : Nat} (ht : t ≤ 5) : WFw (k_up lw 7 (Int32.ofNat t)) := by
  intro i hi
  by_cases h7 : i = 7
  · subst h7
    rw [k_up_self]
    exact ⟨t, ht, rfl⟩
  · rw [k_up_ne _ _ h7]
    exact h i hi
theorem Sd_lw {np nw : Nat} {pl wy lw lw' : Nat → Int32} {r : k_r} (h : Sd np nw pl wy lw r) (hw : WFw lw') : Sd np nw pl wy lw' r := ⟨h.1, hw, h.2.2.1, h.2.2.2⟩
def LB (M : k_M) (nw n t : Nat) : Int32 := (B9 (sI M 79 7 (Int32.ofNat t)) nw n).1
theorem LB_e (M : k_M) (nw n t : Nat) : LB M nw n t = (bwp nw (M.1 77) (M.1 78) (k_up (M.1 79) 7 (Int32.ofNat t)) (M.1 76 6) (7 + 1 + 1) n (rwM M 0)).1 := by
  unfold LB B9
  rw [rwM_sI _ _ (by omega), sI_ne _ _ _ (show 77 ≠ 79 by omega), sI_ne _ _ _ (show 78 ≠ 79 by omega), sI_at, sI_ne _ _ _ (show 76 ≠ 79 by omega)]
def lightN (f : Nat → Int32) : Nat → Int32
  | 0 => if 0 ≤ f 0 then Int32.ofNat 0 else -3
  | t + 1 => if 0 ≤ f (t + 1) then Int32.ofNat (t + 1) else lightN f t
section
variable {M : k_M} {np nw n : Nat}
theorem lastsT (hW : WX 3 M (M.1 79) (M.1 76 6)) (hL : LX 3 M np nw (M.1 77) (M.1 78)) (hS : Sd np nw (M.1 77) (M.1 78) (M.1 79) (rwX M 3)) (hq : rEq np nw (rwX M 3) (rwM M 0)) (hn : n ≤ 6) {t : Nat} (ht : t ≤ 5) : f_X0_lasts 8 3 (Int32.ofNat n) (sI M 19 7 (Int32.ofNat t)) = some (if 0 ≤ LB M nw n t then 1 else 0, sI M 19 7 (Int32.ofNat t)) := by
  have hW' : WX 3 (sI M 19 7 (Int32.ofNat t)) (k_up (M.1 79) 7 (Int32.ofNat t)) (M.1 76 6) := by
    refine ⟨fun i hi => ?_, by rw [sI_g, if_neg (by omega)]; exact hW.2⟩
    show (sI M 19 7 (Int32.ofNat t)).1 19 i = _
    rw [sI_at]
    unfold k_up
    by_cases h7 : i = 7
    · rw [if_pos h7, if_pos h7]
    · rw [if_neg h7, if_neg h7]
      exact hW.1 i hi
  have hL' : LX 3 (sI M 19 7 (Int32.ofNat t)) np nw (M.1 77) (M.1 78) := LX_fr (fun i j _ _ _ _ => by rw [sI_g, if_neg (by omega)]) hL
  have hS' := Sd_lw hS (WFw_up hS.2.1 ht)
  have er : rwX (sI M 19 7 (Int32.ofNat t)) 3 = rwX M 3 := by
    funext k
    unfold rwX
    rw [sI_ne _ _ _ (show 3 ≠ 19 by omega), sI_ne _ _ _ (show 3 + 17 ≠ 19 by omega), sI_ne _ _ _ (show 3 + 5 ≠ 19 by omega), sI_ne _ _ _ (show 3 + 12 ≠ 19 by omega)]
  have h := lastsX (np := np) (w := 3) hW' hL' 8 n (rwX M 3) (by omega) (by omega) hS'
  rw [← er, ← stX_self, er, lst_bw _ _ _ hS', b01_d, bwp_9 8 (by omega) (by omega) hS', bwp_cg _ _ _ _ hS' hq] at h
  rw [LB_e]
  exact h
theorem lightX (hW : WX 3 M (M.1 79) (M.1 76 6)) (hL : LX 3 M np nw (M.1 77) (M.1 78)) (hS : Sd np nw (M.1 77) (M.1 78) (M.1 79) (rwX M 3)) (hq : rEq np nw (rwX M 3) (rwM M 0)) (hn : n ≤ 6) (l2 : Int32) (kx : Int32 → Int32 → k_M → Option (Int32 × k_M)) : ∀ (t k : Nat) (y : Int32), t ≤ 5 → t + 2 < k → ∃ z, f_X11_light_42 k (Int32.ofNat n) l2 (-3) (Int32.ofNat t) (sI M 19 7 y) kx = kx l2 (lightN (LB M nw n) t) (sI M 19 7 z)
  | 0, k, y, ht, hk => by
    obtain ⟨k, rfl⟩ : ∃ q, k = q + 2 := ⟨k - 2, by omega⟩
    have e : sI (sI M 19 7 y) 19 7 (Int32.ofNat 0) = sI M 19 7 (Int32.ofNat 0) := by
      refine kM_ext (fun a j => ?_) rfl
      rw [sI_g, sI_g, sI_g]
      split <;> rfl
    refine ⟨Int32.ofNat 0, ?_⟩
    rw [f_X11_light_42, if_neg (by decide), if_pos rfl, wrI_l (by omega) (by omega), e, lastsT hW hL hS hq hn ht, bd_s, lightN]
    unfold f_X11_light_79
    by_cases hb : 0 ≤ LB M nw n 0
    · rw [if_pos hb, if_pos hb, if_neg (by decide)]
      show f_X11_light_42 (k + 1) (Int32.ofNat n) l2 (Int32.ofNat 0) (Int32.ofNat 0 + -1) (sI M 19 7 (Int32.ofNat 0)) kx = _
      rw [f_X11_light_42, if_pos (by decide)]
    · rw [if_neg hb, if_neg hb, if_pos rfl]
      show f_X11_light_42 (k + 1) (Int32.ofNat n) l2 (-3) (Int32.ofNat 0 + -1) (sI M 19 7 (Int32.ofNat 0)) kx = _
      rw [f_X11_light_42, if_pos (by decide)]
  | t + 1, k, y, ht, hk => by
    obtain ⟨k, rfl⟩ : ∃ q, k = q + 2 := ⟨k - 2, by omega⟩
    have e : sI (sI M 19 7 y) 19 7 (Int32.ofNat (t + 1)) = sI M 19 7 (Int32.ofNat (t + 1)) := by
      refine kM_ext (fun a j => ?_) rfl
      rw [sI_g, sI_g, sI_g]
      split <;> rfl
    by_cases hb : 0 ≤ LB M nw n (t + 1)
    · refine ⟨Int32.ofNat (t + 1), ?_⟩
      have hne : ¬ Int32.ofNat (t + 1) = -3 := by
        intro hh
        have := o_nn (n := t + 1) (by omega)
        rw [hh] at this
        exact absurd this (by decide)
      rw [f_X11_light_42, if_neg (by exact Int32.not_lt.mpr (o_nn (by omega))), if_pos rfl, wrI_l (by omega) (by omega), e, lastsT hW hL hS hq hn ht, bd_s, lightN]
      unfold f_X11_light_79
      rw [if_pos hb, if_pos hb, if_neg (by decide)]
      show f_X11_light_42 (k + 1) (Int32.ofNat n) l2 (Int32.ofNat (t + 1)) (Int32.ofNat (t + 1) + -1) (sI M 19 7 (Int32.ofNat (t + 1))) kx = _
      rw [f_X11_light_42, o_dec, if_neg (by exact Int32.not_lt.mpr (o_nn (by omega))), if_neg hne]
    · obtain ⟨z, hz⟩ := lightX hW hL hS hq hn l2 kx t (k + 1) (Int32.ofNat (t + 1)) (by omega) (by omega)
      refine ⟨z, ?_⟩
      rw [f_X11_light_42, if_neg (by exact Int32.not_lt.mpr (o_nn (by omega))), if_pos rfl, wrI_l (by omega) (by omega), e, lastsT hW hL hS hq hn ht, bd_s, lightN]
      unfold f_X11_light_79
      rw [if_neg hb, if_neg hb, if_pos rfl, o_dec]
      exact hz
theorem SM_up {N : k_M} {a b : Int32} (h : SM (sI M 79 7 a) N) : SM (sI M 79 7 b) (sI N 79 7 b) := by
  have c : ∀ c j, N.1 c j = (sI M 79 7 a).1 c j → (sI N 79 7 b).1 c j = (sI M 79 7 b).1 c j := fun c j hh => by
    rw [sI_g, sI_g]
    by_cases h7 : c = 79 ∧ j = 7
    · rw [if_pos h7, if_pos h7]
    · rw [if_neg h7, if_neg h7, hh, sI_g, if_neg h7]
  exact ⟨fun x j hd => c x j (h.1 x j hd), ⟨fun x j hd => c x j (h.2.1 x j hd), h.2.2.1, h.2.2.2.1, h.2.2.2.2⟩⟩
theorem lightM (hw : M.1 76 2 = Int32.ofNat nw) (hS : Sd np nw (M.1 77) (M.1 78) (M.1 79) (rwM M 0)) (hn : n ≤ 6) (l2 : Int32) : ∀ (t k : Nat) (N : k_M), t ≤ 5 → t + 2 < k → SM (sI M 79 7 (Int32.ofNat t)) N → ∃ z N' l3, SM (sI M 79 7 z) N' ∧ (if 0 ≤ l3 then l3 else -3) = lightN (LB M nw n) t ∧ ∀ kx, f_X12_light_40 k (Int32.ofNat n) l2 (Int32.ofNat t) N kx = kx l2 l3 N' := by
  intro t
  have hSt : ∀ t, t ≤ 5 → Sd np nw ((sI M 79 7 (Int32.ofNat t)).1 77) ((sI M 79 7 (Int32.ofNat t)).1 78) ((sI M 79 7 (Int32.ofNat t)).1 79) (rwM (sI M 79 7 (Int32.ofNat t)) 0) := fun t ht => by
    rw [rwM_sI _ _ (by omega), sI_ne _ _ _ (show 77 ≠ 79 by omega), sI_ne _ _ _ (show 78 ≠ 79 by omega), sI_at]
    exact Sd_lw hS (WFw_up hS.2.1 ht)
  have hwt : ∀ t, (sI M 79 7 (Int32.ofNat t)).1 76 2 = Int32.ofNat nw := fun t => by rw [sI_g, if_neg (by omega)]; exact hw
  induction t with
  | zero =>
    intro k N ht hk hs
    obtain ⟨k, rfl⟩ : ∃ q, k = q + 2 := ⟨k - 2, by omega⟩
    obtain ⟨N', g1, g2, -⟩ := findS hs (hwt 0) (hSt 0 ht) hn
    have eL : (B9 (sI M 79 7 (Int32.ofNat 0)) nw n).1 = LB M nw n 0 := rfl
    rw [eL] at g1
    by_cases hb : 0 ≤ LB M nw n 0
    · refine ⟨_, N', Int32.ofNat 0, g2, ?_, fun kx => ?_⟩
      · rw [if_pos (by decide), lightN, if_pos hb]
      · rw [f_X12_light_40, if_neg (by decide), g1, bd_s, if_pos hb]
    · refine ⟨0, sI N' 79 7 0, Int32.ofNat 0 + -1, SM_up g2, ?_, fun kx => ?_⟩
      · rw [if_neg (by decide), lightN, if_neg hb]
      · rw [f_X12_light_40, if_neg (by decide), g1, bd_s, if_neg hb, if_neg (by decide)]
        unfold f_X12_light_70
        rw [wrI_l (by omega) (by omega)]
        show f_X12_light_40 (k + 1) (Int32.ofNat n) l2 (Int32.ofNat 0 + -1) (sI N' 79 7 0) kx = _
        rw [f_X12_light_40, if_pos (by decide)]
  | succ t ih =>
    intro k N ht hk hs
    obtain ⟨k, rfl⟩ : ∃ q, k = q + 1 := ⟨k - 1, by omega⟩
    obtain ⟨N', g1, g2, -⟩ := findS hs (hwt (t + 1)) (hSt (t + 1) ht) hn
    have eL : (B9 (sI M 79 7 (Int32.ofNat (t + 1))) nw n).1 = LB M nw n (t + 1) := rfl
    rw [eL] at g1
    by_cases hb : 0 ≤ LB M nw n (t + 1)
    · refine ⟨_, N', Int32.ofNat (t + 1), g2, ?_, fun kx => ?_⟩
      · rw [if_pos (o_nn (by omega)), lightN, if_pos hb]
      · rw [f_X12_light_40, if_neg (by exact Int32.not_lt.mpr (o_nn (by omega))), g1, bd_s, if_pos hb]
    · obtain ⟨z, N2, l3, i1, i2, i3⟩ := ih k (sI N' 79 7 (Int32.ofNat t)) (by omega) (by omega) (SM_up g2)
      refine ⟨z, N2, l3, i1, ?_, fun kx => ?_⟩
      · rw [lightN, if_neg hb]; exact i2
      · rw [f_X12_light_40, if_neg (by exact Int32.not_lt.mpr (o_nn (by omega))), g1, bd_s, if_neg hb, o_dec, if_pos (o_nn (by omega))]
        unfold f_X12_light_70
        rw [wrI_l (by omega) (by omega)]
        exact i3 kx
end
theorem c_light (x : Int32) : Call (f_X11_light x) (f_X12_light x) := by
  intro M h
  have ht := there_e h
  by_cases hx : 0 ≤ x ∧ x ≤ 6
  · by_cases h0 : M.1 76 7 = 0
    · refine ⟨-4, M, M, ?_, ?_, h⟩
      · unfold f_X11_light
        rw [within_e, bd_s, if_pos hx, if_neg (by decide), if_pos (by rw [ht]; exact h0)]
      · unfold f_X12_light
        rw [in_e, bd_s, if_pos hx, if_neg (by decide), if_pos h0]
    · obtain ⟨np, nw, nr, hN, hW, hL, hS, hS2, hq⟩ := here_of h h0
      obtain ⟨n, hn, rfl⟩ := ex_o (n := 6) (by omega) hx.1 hx.2
      obtain ⟨t, t5, hh⟩ := hS.2.1 7 (by omega)
      have t5' : t ≤ 5 := t5
      have hx7 : M.1 19 7 = Int32.ofNat t := (hW.1 7 (by omega)).trans hh
      have es : ∀ a : Nat, M.1 a 7 = Int32.ofNat t → sI M a 7 (Int32.ofNat t) = M := fun a ha => by
        refine kM_ext (fun b j => ?_) rfl
        rw [sI_g]
        by_cases hb : b = a ∧ j = 7
        · rw [if_pos hb, hb.1, hb.2, ha]
        · rw [if_neg hb]
      obtain ⟨z, e1⟩ := lightX hW hL hS hq hn (Int32.ofNat t) (fun l2_ l3_ M_ => f_X11_light_85 l2_ l3_ M_) t k_fu (Int32.ofNat t) t5' (by unfold k_fu; omega)
      rw [es 19 hx7] at e1
      obtain ⟨z2, N', l3, i1, i2, i3⟩ := lightM hN.2.1 hS2 hn (Int32.ofNat t) t k_fu M t5' (by unfold k_fu; omega) (by rw [es 79 hh]; exact SM_rfl M)
      have i4 : SM M (sI N' 79 7 (Int32.ofNat t)) := by
        have := SM_up (b := Int32.ofNat t) i1
        rw [es 79 hh] at this
        exact this
      refine ⟨lightN (LB M nw n) t, M, sI N' 79 7 (Int32.ofNat t), ?_, ?_, R_fr i4.2 h⟩
      · unfold f_X11_light
        rw [within_e, bd_s, if_pos hx, if_neg (by decide), if_neg (by rw [ht]; exact h0), rdI_l (by omega) (by omega), hx7, bN_e, e1]
        unfold f_X11_light_85
        rw [wrI_l (by omega) (by omega)]
        have e : sI (sI M 19 7 z) 19 7 (Int32.ofNat t) = M := by
          refine Eq.trans ?_ (es 19 hx7)
          refine kM_ext (fun a j => ?_) rfl
          rw [sI_g, sI_g, sI_g]
          split <;> rfl
        rw [e]
      · unfold f_X12_light
        rw [in_e, bd_s, if_pos hx, if_neg (by decide), if_neg h0, rdI_l (by omega) (by omega), hh, wrI_l (by omega) (by omega), es 79 hh, i3]
        unfold f_X12_light_74
        rw [wrI_l (by omega) (by omega), ← i2]
        split <;> rfl
  · refine ⟨-1, M, M, ?_, ?_, h⟩
    · unfold f_X11_light
      rw [within_e, bd_s, if_neg hx, if_pos rfl]
    · unfold f_X12_light
      rw [in_e, bd_s, if_neg hx, if_pos rfl]
