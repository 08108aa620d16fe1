/-! ===== the pure layer: surest, the call ===== -/
def hlv : Nat → Nat → Nat → Nat × Nat
  | 0, a, b => (a, b)
  | k + 1, a, b => if b ≤ 1 then (a, b) else if a % 2 = 0 then hlv k (a / 2) (b / 2) else (a, b)
def euc : Nat → Nat → Nat → Nat
  | 0, c, _ => c
  | k + 1, c, d => if d = 0 then c else euc k d (c % d)
theorem halvX (l2 : Int32) (M : k_M) (kx : Int32 → Int32 → Int32 → k_M → Option (Int32 × k_M)) : ∀ (m k a b : Nat), b < 2 ^ m → m < k → a ≤ 1000 → b ≤ 1000 → f_X11_surest_47 k l2 (Int32.ofNat a) (Int32.ofNat b) M kx = kx l2 (Int32.ofNat (hlv m a b).1) (Int32.ofNat (hlv m a b).2) M
  | 0, k, a, b, hb, hk, ha, hb2 => by
    obtain ⟨k, rfl⟩ : ∃ q, k = q + 1 := ⟨k - 1, by omega⟩
    have : b = 0 := by
      rw [Nat.pow_zero] at hb
      omega
    subst this
    rw [f_X11_surest_47, if_pos (by decide)]
    rfl
  | m + 1, k, a, b, hb, hk, ha, hb2 => by
    obtain ⟨k, rfl⟩ : ∃ q, k = q + 1 := ⟨k - 1, by omega⟩
    rw [Nat.pow_succ] at hb
    rw [f_X11_surest_47, hlv]
    by_cases h1 : b ≤ 1
    · rw [if_pos (by rw [o_lel (by omega) (by omega)]; exact h1), if_pos h1]
    · rw [if_neg (by rw [o_lel (by omega) (by omega)]; exact h1), if_neg h1, o_rem (by omega) (by omega)]
      by_cases h2 : a % 2 = 0
      · rw [if_pos (by rw [o_eql (by omega) (by omega)]; exact h2), if_pos h2, bN_e, bN_e, o_divl (by omega) (by omega), o_divl (by omega) (by omega)]
        exact halvX l2 M kx m k (a / 2) (b / 2) (by omega) (by omega) (by omega) (by omega)
      · rw [if_neg (by rw [o_eql (by omega) (by omega)]; exact h2), if_neg h2]
theorem o_remN {a b : Nat} (ha : a < 2147483648) (hb : b < 2147483648) : Int32.ofNat a - Int32.ofNat a / Int32.ofNat b * Int32.ofNat b = Int32.ofNat (a % b) := by
  rw [o_div ha hb, o_mul, o_sub (Nat.div_mul_le_self a _)]
  congr 1
  have h := Nat.mod_add_div a b
  rw [Nat.mul_comm] at h
  omega
theorem lowL (l1 l2 : Int32) (M : k_M) (kx : Int32 → Int32 → Int32 → k_M → Option (Unit × k_M)) : ∀ (m k c d : Nat), d ≤ m → m < k → c ≤ 1000 → d ≤ 1000 → f_X12_lowest_5 k l1 l2 (Int32.ofNat c) (Int32.ofNat d) M kx = kx l1 l2 (Int32.ofNat (euc m c d)) M
  | 0, k, c, d, hd, hk, hc, hd2 => by
    obtain ⟨k, rfl⟩ : ∃ q, k = q + 1 := ⟨k - 1, by omega⟩
    have : d = 0 := by omega
    subst this
    rw [f_X12_lowest_5, if_pos (by decide)]
    rfl
  | m + 1, k, c, d, hd, hk, hc, hd2 => by
    obtain ⟨k, rfl⟩ : ∃ q, k = q + 1 := ⟨k - 1, by omega⟩
    rw [f_X12_lowest_5, euc]
    by_cases h0 : d = 0
    · rw [if_pos (by rw [h0]; decide), if_pos h0]
    · have hlt : c % d < d := Nat.mod_lt _ (by omega)
      have hne : ¬ Int32.ofNat d = 0 := by rw [o_eql (by omega) (by omega)]; exact h0
      rw [if_neg hne, if_neg h0]
      unfold dv
      rw [if_neg hne, bN_e, o_remN (by omega) (by omega)]
      exact lowL l1 l2 M kx m k d (c % d) (by omega) (by omega) (by omega) (by omega)
theorem low_chk : ∀ n, n ≤ 4 → ∀ s, s ≤ 4 ^ n → euc 256 s (4 ^ n) ≠ 0 ∧ euc 256 s (4 ^ n) ≤ 256 ∧ hlv 9 (4 ^ (4 - n) * s) 256 = (s / euc 256 s (4 ^ n), 4 ^ n / euc 256 s (4 ^ n)) := by decide +kernel
theorem lowM {s b : Nat} (M : k_M) (hs : s ≤ 256) (hb : b ≤ 256) (h0 : euc 256 s b ≠ 0) (h1 : euc 256 s b ≤ 256) : f_X12_lowest (Int32.ofNat s) (Int32.ofNat b) M = some ((), sI (sI M 76 32 (Int32.ofNat (s / euc 256 s b))) 76 33 (Int32.ofNat (b / euc 256 s b))) := by
  have hne : ¬ Int32.ofNat (euc 256 s b) = 0 := by rw [o_eql (by omega) (by omega)]; exact h0
  unfold f_X12_lowest
  rw [lowL _ _ _ _ 256 k_fu s b hb (by unfold k_fu; omega) (by omega) (by omega)]
  unfold f_X12_lowest_26 dv
  rw [if_neg hne, bN_e, if_neg hne, bN_e, o_div (by omega) (by omega), o_div (by omega) (by omega)]
theorem fSure {M : k_M} {np nw n : Nat} (hw : M.1 76 2 = Int32.ofNat nw) (hS : Sd np nw (M.1 77) (M.1 78) (M.1 79) (rwM M 0)) (hn1 : 1 ≤ n) (hn : n ≤ 4) : ∃ N, f_X12_findSurest (Int32.ofNat n) M = some (Int32.ofNat (sur nw (M.1 77) (M.1 78) (M.1 79) 5 n (rwM M 0)), N) ∧ LF 0 M N := by
  obtain ⟨A, hA⟩ : ∃ A, A = sI (sI (sI (sI M 89 0 (Int32.ofNat n)) 90 0 0) 91 0 0) 93 0 0 := ⟨_, rfl⟩
  have hF : LF 0 M A := by
    rw [hA]
    exact LF_tr (LF_tr (LF_tr (LF_sI M _ (by omega)) (LF_sI _ _ (by omega))) (LF_sI _ _ (by omega))) (LF_sI _ _ (by omega))
  have er : rwM A 0 = rwM M 0 := LF_row hF (Nat.le_refl _)
  have hE : EN A nw (M.1 77) (M.1 78) (M.1 79) (M.1 76 6) := EN_F hF ⟨rfl, rfl, rfl, rfl, hw⟩
  have h89 : A.1 89 0 = Int32.ofNat n := by rw [hA, sI_g, if_neg (by omega), sI_g, if_neg (by omega), sI_g, if_neg (by omega), sI_g, if_pos ⟨rfl, rfl⟩]
  have h90 : A.1 90 0 = Int32.ofNat 0 := by
    rw [hA, sI_g, if_neg (by omega), sI_g, if_neg (by omega), sI_g, if_pos ⟨rfl, rfl⟩]
    rfl
  have h91 : A.1 91 0 = Int32.ofNat 0 := by
    rw [hA, sI_g, if_neg (by omega), sI_g, if_pos ⟨rfl, rfl⟩]
    rfl
  have h93 : A.1 93 0 = Int32.ofNat 0 := by
    rw [hA, sI_g, if_pos ⟨rfl, rfl⟩]
    rfl
  have nw12 := hS.1.2.1
  obtain ⟨t, N, g1, g2, g3, g4, g5, g6⟩ := nodeS (np := np) (nw := nw) (pl := M.1 77) (wy := M.1 78) (lw := M.1 79) (rn := M.1 76 6) 3 n hn1 (by omega) 0 A (by omega) hE (by rw [er]; exact hS) h89 h90 h91 h93
  rw [er] at g4
  have hp : 105 ^ n ≤ 105 ^ 4 := Nat.pow_le_pow_right (by omega) hn
  have hp4 : (105 : Nat) ^ 4 = 121550625 := by decide
  obtain ⟨k, hk⟩ : ∃ k, k_fu = k + 1 + t := ⟨k_fu - 1 - t, by unfold k_fu; omega⟩
  have e5 : (3 + 2) = 5 := rfl
  have hE2 := EN_F g2 hE
  refine ⟨N, ?_, LF_tr hF g2⟩
  unfold f_X12_findSurest
  rw [wrI_l (by omega) (by omega), wrI_l (by omega) (by omega), wrI_l (by omega) (by omega), wrI_l (by omega) (by omega), bN_e, ← hA, hk]
  have := g6 (k + 1) (fun M_ => f_X12_findSurest_53 M_)
  rw [← e0z] at this
  rw [this, f_X12_findSurest_32, rdI_l (by omega) (by omega), g5, hE2.2.2.2.2, if_neg (by rw [o_le (by omega) (by omega)]; omega), if_pos rfl]
  unfold f_X12_findSurest_53
  rw [rdI_l (by omega) (by omega), g4]
theorem LF_FR {A B : k_M} (h : LF 0 A B) : FR A B := ⟨fun a j hs => h.1 a j (by unfold scr at hs; omega) (by unfold scr at hs; omega), fun _ _ _ => by rw [h.2], fun _ _ => by rw [h.2], by rw [h.2]⟩
theorem c_surest (x y : Int32) : Call (f_X11_surest x y) (f_X12_surest x y) := by
  intro M h
  have ht := there_e h
  by_cases hx : 0 ≤ x ∧ x ≤ 4
  · obtain ⟨n, hn, rfl⟩ := ex_o (n := 4) (by omega) hx.1 hx.2
    by_cases hy : 0 ≤ y ∧ y ≤ 1
    · have x1 : f_X11_surest (Int32.ofNat n) y M = if (M.1 3 3) = 0 then some (-4, M) else bd (f_X0_sureness 6 3 (Int32.ofNat n) M) (fun r5 M6 => f_X11_surest_47 k_fu y r5 256 M6 (fun l2_ l3_ l4_ M_ => f_X11_surest_72 l2_ l3_ l4_ M_)) := by
        unfold f_X11_surest
        rw [within_e, bd_s, if_pos hx, if_neg (by decide), within_e, bd_s, if_pos hy, if_neg (by decide)]
      have m1 : f_X12_surest (Int32.ofNat n) y M = if (M.1 76 7) = 0 then some (-4, M) else if Int32.ofNat n = 0 then f_X12_surest_42 (Int32.ofNat n) y 1 M else bd (f_X12_findSurest (Int32.ofNat n) M) (fun r5 M6 => f_X12_surest_42 (Int32.ofNat n) y r5 M6) := by
        unfold f_X12_surest
        rw [in_e, bd_s, if_pos hx, if_neg (by decide), isSd_e, bd_s, if_pos hy, if_neg (by decide)]
      by_cases h0 : M.1 76 7 = 0
      · refine ⟨-4, M, M, ?_, ?_, h⟩
        · rw [x1, if_pos (by rw [ht]; exact h0)]
        · rw [m1, if_pos h0]
      · obtain ⟨np, nw, nr, hN, hW, hL, hS, hS2, hq⟩ := here_of h h0
        have sx := surX hW hL 5 n (rwX M 3) (by omega) hn hS
        rw [← stX_self, sur_cg 5 n _ _ hS hq] at sx
        have sle := sur_le (nw := nw) 5 n (rwM M 0) hS2
        obtain ⟨s, hs⟩ : ∃ s, s = sur nw (M.1 77) (M.1 78) (M.1 79) 5 n (rwM M 0) := ⟨_, rfl⟩
        rw [← hs] at sx sle
        have c1 : 4 ^ n ≤ 4 ^ 4 := Nat.pow_le_pow_right (by omega) hn
        have c2 : (4 : Nat) ^ 4 = 256 := rfl
        have c3 : 4 ^ (4 - n) * s ≤ 256 := by rw [← k_top hn]; exact Nat.mul_le_mul_left _ sle
        obtain ⟨k1, k2, k3⟩ := low_chk n hn s sle
        obtain ⟨v1, hv1⟩ : ∃ v1, v1 = s / euc 256 s (4 ^ n) := ⟨_, rfl⟩
        obtain ⟨v2, hv2⟩ : ∃ v2, v2 = 4 ^ n / euc 256 s (4 ^ n) := ⟨_, rfl⟩
        have hX : f_X11_surest (Int32.ofNat n) y M = some (if y = 0 then Int32.ofNat v1 else Int32.ofNat v2, M) := by
          have e256 : (256 : Int32) = Int32.ofNat 256 := rfl
          have := halvX y M (fun l2_ l3_ l4_ M_ => f_X11_surest_72 l2_ l3_ l4_ M_) 9 k_fu (4 ^ (4 - n) * s) 256 (by decide) (by unfold k_fu; omega) (by omega) (by omega)
          rw [x1, if_neg (by rw [ht]; exact h0), sx, bd_s, e256, this, k3, ← hv1, ← hv2]
          unfold f_X11_surest_72
          split <;> rfl
        have hM : ∀ N, f_X12_surest_42 (Int32.ofNat n) y (Int32.ofNat s) N = some (if y = 0 then Int32.ofNat v1 else Int32.ofNat v2, sI (sI N 76 32 (Int32.ofNat v1)) 76 33 (Int32.ofNat v2)) := fun N => by
          unfold f_X12_surest_42
          rw [pow_e _ n hn, bd_s, lowM N (by omega) (by omega) k1 k2, bd_s, ← hv1, ← hv2]
          have w32 : (sI (sI N 76 32 (Int32.ofNat v1)) 76 33 (Int32.ofNat v2)).1 76 32 = Int32.ofNat v1 := by rw [sI_g, if_neg (by omega), sI_g, if_pos ⟨rfl, rfl⟩]
          have w33 : (sI (sI N 76 32 (Int32.ofNat v1)) 76 33 (Int32.ofNat v2)).1 76 33 = Int32.ofNat v2 := by rw [sI_g, if_pos ⟨rfl, rfl⟩]
          rw [w32, w33]
          split <;> rfl
        have fr : ∀ N, FR N (sI (sI N 76 32 (Int32.ofNat v1)) 76 33 (Int32.ofNat v2)) := fun N => ⟨fun a j hs => by rw [sI_g, if_neg (by unfold scr rlv at hs; omega), sI_g, if_neg (by unfold scr rlv at hs; omega)], fun _ _ _ => rfl, fun _ _ => rfl, rfl⟩
        by_cases hn0 : n = 0
        · have hs1 : s = 1 := by
            rw [hs, hn0]
            exact sur_z 4 _
          refine ⟨_, M, _, hX, ?_, R_fr (fr M) h⟩
          rw [m1, if_neg h0, if_pos (by rw [hn0]; rfl)]
          have := hM M
          rw [hs1] at this
          exact this
        · obtain ⟨N, g1, g2⟩ := fSure hN.2.1 hS2 (show 1 ≤ n by omega) hn
          rw [← hs] at g1
          refine ⟨_, M, _, hX, ?_, R_fr (FR_tr (LF_FR g2) (fr N)) h⟩
          rw [m1, if_neg h0, if_neg (by rw [o_eql (by omega) (by omega)]; exact hn0), g1, bd_s, hM]
    · refine ⟨-1, M, M, ?_, ?_, h⟩
      · unfold f_X11_surest
        rw [within_e, bd_s, if_pos hx, if_neg (by decide), within_e, bd_s, if_neg hy, if_pos rfl]
      · unfold f_X12_surest
        rw [in_e, bd_s, if_pos hx, if_neg (by decide), isSd_e, bd_s, if_neg hy, if_pos rfl]
  · refine ⟨-1, M, M, ?_, ?_, h⟩
    · unfold f_X11_surest
      rw [within_e, bd_s, if_neg hx, if_pos rfl]
    · unfold f_X12_surest
      rw [in_e, bd_s, if_neg hx, if_pos rfl]
