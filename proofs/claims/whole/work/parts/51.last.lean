/-! ===== the pure layer: last, light ===== -/
theorem o_dec {d : Nat} : Int32.ofNat (d + 1) + -1 = Int32.ofNat d := by
  rw [← o_addl, Int32.add_assoc]
  have : (1 : Int32) + -1 = 0 := by decide
  exact (congrArg (Int32.ofNat d + ·) this).trans (Int32.add_zero _)
theorem b01_d {p : Prop} [Decidable p] : b01 (decide p) = if p then 1 else 0 := by
  unfold b01
  by_cases h : p
  · rw [decide_eq_true h, if_pos rfl, if_pos h]
  · rw [decide_eq_false h, if_neg Bool.false_ne_true, if_neg h]
/-- the class's lasts, by the best -/
theorem lastsB {M : k_M} {np nw n : Nat} (hW : WX 3 M (M.1 79) (M.1 76 6)) (hL : LX 3 M np nw (M.1 77) (M.1 78)) (hS : Sd np nw (M.1 77) (M.1 78) (M.1 79) (rwX M 3)) (hq : rEq np nw (rwX M 3) (rwM M 0)) (hn : n ≤ 6) : f_X0_lasts 8 3 (Int32.ofNat n) M = some (if 0 ≤ (B9 M nw n).1 then 1 else 0, M) := by
  have h := lastsX (np := np) (w := 3) hW hL 8 n (rwX M 3) (by omega) (by omega) hS
  rw [← stX_self, lst_bw _ _ _ hS, b01_d, B9_f hS hq (by omega) (by omega)] at h
  exact h
def lastN (M : k_M) (nw : Nat) : Nat → Nat
  | 0 => 0
  | d + 1 => if 0 ≤ (B9 M nw (d + 1)).1 then d + 1 else lastN M nw d
theorem lastX {M : k_M} {np nw : Nat} (hW : WX 3 M (M.1 79) (M.1 76 6)) (hL : LX 3 M np nw (M.1 77) (M.1 78)) (hS : Sd np nw (M.1 77) (M.1 78) (M.1 79) (rwX M 3)) (hq : rEq np nw (rwX M 3) (rwM M 0)) : ∀ (d k : Nat), d ≤ 6 → d < k → f_X11_last_16 k (Int32.ofNat d) M (fun l1_ M_ => f_X11_last_31 l1_ M_) (fun M_ => f_X11_last_39 M_) = some (Int32.ofNat (lastN M nw d), M)
  | 0, k, hd, hk => by
    obtain ⟨k, rfl⟩ : ∃ q, k = q + 1 := ⟨k - 1, by omega⟩
    rw [f_X11_last_16, if_pos (by decide)]
    rfl
  | d + 1, k, hd, hk => by
    obtain ⟨k, rfl⟩ : ∃ q, k = q + 1 := ⟨k - 1, by omega⟩
    rw [f_X11_last_16, if_neg (by rw [o_lel (by omega) (by omega)]; omega), lastsB hW hL hS hq hd, bd_s, lastN]
    by_cases hb : 0 ≤ (B9 M nw (d + 1)).1
    · rw [if_pos hb, if_pos hb, if_neg (show ¬ (1 : Int32) = 0 by decide)]
      rfl
    · rw [if_neg hb, if_neg hb, if_pos rfl, o_dec]
      exact lastX hW hL hS hq d k (by omega) (by omega)
theorem lastM {M : k_M} {np nw : Nat} (hw : M.1 76 2 = Int32.ofNat nw) (hS : Sd np nw (M.1 77) (M.1 78) (M.1 79) (rwM M 0)) : ∀ (d k : Nat) (N : k_M), d ≤ 6 → d < k → SM M N → ∃ N', f_X12_last_13 k (Int32.ofNat d) N (fun l1_ M_ => f_X12_last_27 l1_ M_) = some (Int32.ofNat (lastN M nw d), N') ∧ SM M N'
  | 0, k, N, hd, hk, hs => by
    obtain ⟨k, rfl⟩ : ∃ q, k = q + 1 := ⟨k - 1, by omega⟩
    obtain ⟨N', g1, g2, -⟩ := findS hs hw hS hd
    refine ⟨N', ?_, g2⟩
    rw [f_X12_last_13, g1, bd_s]
    have hv : 0 ≤ (B9 M nw 0).1 := by
      unfold B9
      rw [bwp_s, if_pos rfl]
      exact Bn_nn (by omega) (wth_Bn hS)
    rw [if_pos hv]
    rfl
  | d + 1, k, N, hd, hk, hs => by
    obtain ⟨k, rfl⟩ : ∃ q, k = q + 1 := ⟨k - 1, by omega⟩
    obtain ⟨N', g1, g2, -⟩ := findS hs hw hS hd
    by_cases hb : 0 ≤ (B9 M nw (d + 1)).1
    · refine ⟨N', ?_, g2⟩
      rw [f_X12_last_13, g1, bd_s, lastN, if_pos hb, if_pos hb]
      rfl
    · obtain ⟨N2, g3, g4⟩ := lastM hw hS d k N' (by omega) (by omega) g2
      refine ⟨N2, ?_, g4⟩
      rw [f_X12_last_13, g1, bd_s, lastN, if_neg hb, if_neg hb, o_dec]
      exact g3
theorem c_last : Call f_X11_last f_X12_last := by
  intro M h
  have ht := there_e h
  by_cases h0 : M.1 76 7 = 0
  · refine ⟨-4, M, M, ?_, ?_, h⟩
    · unfold f_X11_last
      rw [if_pos (by rw [ht]; exact h0)]
    · unfold f_X12_last
      rw [if_pos h0]
  · obtain ⟨np, nw, nr, hN, hW, hL, hS, hS2, hq⟩ := here_of h h0
    have e1 := lastX hW hL hS hq 6 k_fu (by omega) (by unfold k_fu; omega)
    obtain ⟨N, e2, e3⟩ := lastM hN.2.1 hS2 6 k_fu M (by omega) (by unfold k_fu; omega) (SM_rfl M)
    refine ⟨Int32.ofNat (lastN M nw 6), M, N, ?_, ?_, R_fr e3.2 h⟩
    · unfold f_X11_last
      rw [if_neg (by rw [ht]; exact h0)]
      exact e1
    · unfold f_X12_last
      rw [if_neg h0]
      exact e2
