/-! ===== the pure layer: a trial; judge ===== -/
def stA (nw : Nat) (pl wy lw : Nat → Int32) (rn : Int32) (x : Int32) (r : k_r) : Option k_r := if 0 ≤ x ∧ x ≤ 12 then stp nw pl wy lw rn x.toNatClampNeg r else none
section
variable {M : k_M} {w np nw : Nat} {r q r' : k_r} {lw pl wy : Nat → Int32} {rn : Int32}
theorem stA_in {a : Nat} (ha : a ≤ 12) : stA nw pl wy lw rn (Int32.ofNat a) r = stp nw pl wy lw rn a r := by
  unfold stA
  rw [if_pos ⟨o_nn (by omega), by rw [o_lel (by omega) (by omega)]; omega⟩, o_nat (by omega)]
theorem stA_out {x : Int32} (hx : ¬ (0 ≤ x ∧ x ≤ 12)) : stA nw pl wy lw rn x r = none := if_neg hx
theorem attA (hW : WX w M lw rn) (hL : LX w M np nw pl wy) (h : Sd np nw pl wy lw r) (x : Int32) : (∃ (g : Int32) (r' : k_r), stA nw pl wy lw rn x r = some r' ∧ f_X10_attempt w x (stX M w r) = some (g, stX M w r') ∧ g ≠ -1) ∨ (stA nw pl wy lw rn x r = none ∧ f_X10_attempt w x (stX M w r) = some (-1, stX M w r)) := by
  by_cases hx : 0 ≤ x ∧ x ≤ 12
  · obtain ⟨a, ha, rfl⟩ := ex_o (n := 12) (by omega) hx.1 hx.2
    rw [stA_in ha]
    rcases attX (act := a) hW hL h (by omega) with ⟨g, r', h1, h2, h3, -⟩ | h1
    · exact .inl ⟨g, r', h1, h2, h3⟩
    · exact .inr h1
  · exact .inr ⟨stA_out hx, attOut hL h.1.2.1 hx⟩
theorem stA_Sd (h : Sd np nw pl wy lw r) {x : Int32} (hs : stA nw pl wy lw rn x r = some r') : Sd np nw pl wy lw r' := by
  unfold stA at hs
  split at hs
  · exact (stp_Sd h hs).1
  · cases hs
theorem stA_cg (hS : Sd np nw pl wy lw r) (h : rEq np nw r q) (x : Int32) : (stA nw pl wy lw rn x r = none ∧ stA nw pl wy lw rn x q = none) ∨ ∃ r' q', stA nw pl wy lw rn x r = some r' ∧ stA nw pl wy lw rn x q = some q' ∧ rEq np nw r' q' := by
  unfold stA
  by_cases hx : 0 ≤ x ∧ x ≤ 12
  · rw [if_pos hx, if_pos hx]
    exact stp_cg hS h _
  · rw [if_neg hx, if_neg hx]
    exact .inl ⟨rfl, rfl⟩
end
/-- the trial is laid -/
theorem trial {M : k_M} {np nw nr : Nat} (h : R M) (hH : Here M np nw nr) : ∃ X, f_X10_copyFrom 43 3 M = some ((), X) ∧ (∀ a j, ¬ (43 ≤ a ∧ a < 63) → X.1 a j = M.1 a j) ∧ X.2.1 = M.2.1 ∧ FR M X ∧ WX 43 X (M.1 79) (M.1 76 6) ∧ LX 43 X np nw (M.1 77) (M.1 78) ∧ Sd np nw (M.1 77) (M.1 78) (M.1 79) (rwX X 43) ∧ rEq np nw (rwX X 43) (rwM M 0) := by
  have h01 := th_01 h
  obtain ⟨hN, hW, hL, hS, hS2, hq⟩ := hH
  have hWR := hN.2.2.2
  have hWR' := hWR
  obtain ⟨h1, h2, h3, h4, h5, h6, h7, h8, h9⟩ := hWR
  obtain ⟨X, x1, x2, x3, x4, x5, x6⟩ := copyW (w := 43) (v := 3) (by unfold dsj; omega) M (by rw [h5]; exact h01) h9.2.2.2
  have xe : ∀ a j, ¬ (43 ≤ a ∧ a < 63) → X.1 a j = M.1 a j := fun a j ha => x2.2 a j (fun i e hk => by unfold KW KL at hk; omega)
  have w43 := WR_cp (w := 43) (v := 3) (by omega) x2 x4 x5 hWR'
  obtain ⟨g1, g2, g3, g4, g5, g6, g7, g8, g9⟩ := w43
  have eq := RX_rEq h1.1 g8
  have np8 := h1.1
  have nw12 := h1.2.1
  have k25 : ∀ k, k < 25 → M.1 82 k = rwM M 0 k := fun k hk => by rw [rwM_e _ _ hk, Nat.mul_zero, Nat.zero_add]
  have hq2 : rEq np nw (M.1 82) (rwM M 0) := ⟨fun k hk => k25 k (by omega), fun v hv => k25 _ (by omega)⟩
  have hq3 := rEq_tr eq hq2
  refine ⟨X, x1, xe, x3, ⟨fun a j hs => xe a j (by unfold scr at hs; omega), fun a j _ => by rw [x3], fun a ha => ?_, x4⟩, g4, g2, Sd_cg (rEq_sym hq3) hS2, hq3⟩
  funext i
  exact x6 _ _ (by omega)
/-- rows of the reference above the first may change -/
def TB (B N : k_M) : Prop := (∀ a j, ¬ (a = 82 ∧ 25 ≤ j) → N.1 a j = B.1 a j) ∧ N.2 = B.2
theorem TB_rfl (B : k_M) : TB B B := ⟨fun _ _ _ => rfl, rfl⟩
theorem TB_stR {B N : k_M} (h : TB B N) (d : Nat) (r : k_r) : TB B (stR N (d + 1) r) := ⟨fun a j hh => by rw [stR_o _ _ _ (by omega)]; exact h.1 a j hh, h.2⟩
theorem TB_c {B N : k_M} (h : TB B N) {a : Nat} (ha : a ≠ 82) : N.1 a = B.1 a := funext fun j => h.1 a j (by omega)
theorem TB_FR {B N : k_M} (h : TB B N) : FR B N := ⟨fun a j hs => h.1 a j (by unfold scr at hs; omega), fun _ _ _ => by rw [h.2], fun _ _ => by rw [h.2], by rw [h.2]⟩
theorem stX_FR43 (X : k_M) (r : k_r) : FR X (stX X 43 r) := ⟨fun a j hs => stX_o (by unfold scr at hs; unfold onX; omega), fun _ _ _ => rfl, fun _ _ => rfl, rfl⟩
/-- the reference's act from row d, within its range -/
theorem goesA {N : k_M} {d np nw : Nat} {x : Int32} (hd : d ≤ 42) (hw : N.1 76 2 = Int32.ofNat nw) (hS : Sd np nw (N.1 77) (N.1 78) (N.1 79) (rwM N d)) (hx : 0 ≤ x ∧ x ≤ 12) : (stA nw (N.1 77) (N.1 78) (N.1 79) (N.1 76 6) x (rwM N d) = none ∧ ∃ r', f_X12_goes (Int32.ofNat d) x 2 N = some (0, stR N (d + 1) r')) ∨ (∃ (r' : k_r) (e : Nat), stA nw (N.1 77) (N.1 78) (N.1 79) (N.1 76 6) x (rwM N d) = some r' ∧ f_X12_goes (Int32.ofNat d) x 2 N = some (Int32.ofNat e, stR N (d + 1) r') ∧ 1 ≤ e ∧ e ≤ 4) := by
  obtain ⟨a, ha, rfl⟩ := ex_o (n := 12) (by omega) hx.1 hx.2
  rw [stA_in ha]
  obtain ⟨r', g1, g2⟩ := goesN (act := a) hd hw hS (by omega)
  cases hh : stp nw (N.1 77) (N.1 78) (N.1 79) (N.1 76 6) a (rwM N d) with
  | none =>
    rw [hh] at g1
    exact .inl ⟨rfl, r', g1⟩
  | some r1 =>
    obtain ⟨e, d1, d2, d3⟩ := dys_c hS hh
    rw [hh, d3, Option.isSome_some, if_pos rfl, g2 r1 hh] at g1
    exact .inr ⟨r1, e, rfl, g1, d1, d2⟩
def jd (nw : Nat) (pl wy lw : Nat → Int32) (rn : Int32) (rw : Nat → Int32) : Nat → Nat → k_r → Nat
  | 0, _, _ => 0
  | m + 1, i, r => match stA nw pl wy lw rn (rw (3 * i)) r with
    | none => i + 1
    | some r' => if r' 0 = rw (3 * i + 1) ∧ wth lw r' = rw (3 * i + 2) then jd nw pl wy lw rn rw m (i + 1) r' else i + 1
section
variable {X B : k_M} {np nw n : Nat} {r q : k_r} {lw pl wy rw : Nat → Int32} {rn : Int32}
theorem jd_cg : ∀ (m i : Nat) (r q : k_r), Sd np nw pl wy lw r → rEq np nw r q → jd nw pl wy lw rn rw m i r = jd nw pl wy lw rn rw m i q
  | 0, _, _, _, _, _ => rfl
  | m + 1, i, r, q, hS, h => by
    unfold jd
    rcases stA_cg (rn := rn) hS h (rw (3 * i)) with ⟨h1, h2⟩ | ⟨r', q', h1, h2, h3⟩
    · rw [h1, h2]
    · rw [h1, h2]
      simp only
      rw [← h3.1 0 (by omega), ← wth_cg h3, jd_cg m (i + 1) r' q' (stA_Sd hS h1) h3]
theorem judgeX (hW : WX 43 X lw rn) (hL : LX 43 X np nw pl wy) (hn : n ≤ 6) (h6 : X.1 0 6 = Int32.ofNat n) (h63 : ∀ j, j < 3 * n → X.1 63 j = rw j) : ∀ (m k i : Nat) (r : k_r), i + m = n → m < k → Sd np nw pl wy lw r → ∃ r', f_X11_judge_26 k (Int32.ofNat i) (stX X 43 r) (fun l1_ M_ => f_X11_judge_53 l1_ M_) (fun l1_ M_ => f_X11_judge_97 l1_ M_) (fun M_ => f_X11_judge_107 M_) = some (Int32.ofNat (jd nw pl wy lw rn rw m i r), stX X 43 r')
  | 0, k, i, r, hi, hk, hS => by
    obtain ⟨k, rfl⟩ : ∃ q, k = q + 1 := ⟨k - 1, by omega⟩
    refine ⟨r, ?_⟩
    have c6 : (stX X 43 r).1 0 6 = Int32.ofNat n := by rw [stX_o (by unfold onX; omega)]; exact h6
    rw [f_X11_judge_26, c6, if_pos (by rw [o_le (by omega) (by omega)]; omega)]
    rfl
  | m + 1, k, i, r, hi, hk, hS => by
    obtain ⟨k, rfl⟩ : ∃ q, k = q + 1 := ⟨k - 1, by omega⟩
    have c6 : (stX X 43 r).1 0 6 = Int32.ofNat n := by rw [stX_o (by unfold onX; omega)]; exact h6
    have c63 : ∀ r j, j < 3 * n → (stX X 43 r).1 63 j = rw j := fun r j hj => by rw [stX_o (by unfold onX; omega)]; exact h63 j hj
    have e3 : Int32.ofNat i * 3 = Int32.ofNat (i * 3) := o_mull i 3
    unfold jd
    rw [f_X11_judge_26, c6, if_neg (by rw [o_le (by omega) (by omega)]; omega), e3, rdI_o (by omega) (by omega), c63 _ _ (by omega), show i * 3 = 3 * i by omega]
    rcases attA hW hL hS (rw (3 * i)) with ⟨g, r', h1, h2, h3⟩ | ⟨h1, h2⟩
    · rw [h1, h2, bd_s, if_neg h3, o_addl, rdI_o (by omega) (by omega), c63 _ _ (by omega), stX_4]
      by_cases ha : r' 0 = rw (3 * i + 1)
      · rw [if_pos ha, worth_e hW, bd_s, o_addl, rdI_o (by omega) (by omega), c63 _ _ (by omega)]
        by_cases hb : wth lw r' = rw (3 * i + 2)
        · obtain ⟨r2, ih⟩ := judgeX hW hL hn h6 h63 m k (i + 1) r' (by omega) (by omega) (stA_Sd hS h1)
          refine ⟨r2, ?_⟩
          rw [if_pos hb, o_addl, ih]
          simp only
          rw [if_pos ⟨ha, hb⟩]
        · refine ⟨r', ?_⟩
          rw [if_neg hb]
          simp only
          rw [if_neg (fun hx => hb hx.2)]
          unfold f_X11_judge_97
          rw [o_addl]
      · refine ⟨r', ?_⟩
        rw [if_neg ha]
        simp only
        rw [if_neg (fun hx => ha hx.1)]
        unfold f_X11_judge_97
        rw [o_addl]
    · refine ⟨r, ?_⟩
      rw [h1, h2, bd_s, if_pos rfl]
      simp only
      unfold f_X11_judge_53
      rw [o_addl]
end
theorem judgeM {B : k_M} {np nw n : Nat} {rw : Nat → Int32} (hw : B.1 76 2 = Int32.ofNat nw) (hn : n ≤ 6) (h6 : B.1 76 36 = Int32.ofNat n) (h95 : ∀ j, j < 3 * n → B.1 95 j = rw j) : ∀ (m k i : Nat) (N : k_M), i + m = n → m < k → TB B N → Sd np nw (B.1 77) (B.1 78) (B.1 79) (rwM N i) → ∃ N', f_X12_judge_12 k (Int32.ofNat i) N (fun l1_ M_ => f_X12_judge_93 l1_ M_) (fun M_ => f_X12_judge_103 M_) = some (Int32.ofNat (jd nw (B.1 77) (B.1 78) (B.1 79) (B.1 76 6) rw m i (rwM N i)), N') ∧ TB B N'
  | 0, k, i, N, hi, hk, hT, hS => by
    obtain ⟨k, rfl⟩ : ∃ q, k = q + 1 := ⟨k - 1, by omega⟩
    refine ⟨N, ?_, hT⟩
    rw [f_X12_judge_12, TB_c hT (by omega), h6, if_pos (by rw [o_le (by omega) (by omega)]; omega)]
    rfl
  | m + 1, k, i, N, hi, hk, hT, hS => by
    obtain ⟨k, rfl⟩ : ∃ q, k = q + 1 := ⟨k - 1, by omega⟩
    have e3 : (3 : Int32) * Int32.ofNat i = Int32.ofNat (3 * i) := o_lmul i 3
    unfold jd
    rw [f_X12_judge_12, TB_c hT (show 76 ≠ 82 by omega), h6, if_neg (by rw [o_le (by omega) (by omega)]; omega), e3, rdI_o (by omega) (by omega), TB_c hT (show 95 ≠ 82 by omega), h95 _ (by omega), in_e, bd_s]
    by_cases hx : 0 ≤ rw (3 * i) ∧ rw (3 * i) ≤ 12
    · rw [if_pos hx, if_neg (show ¬ (1 : Int32) = 0 by decide)]
      have hS' : Sd np nw (N.1 77) (N.1 78) (N.1 79) (rwM N i) := by rw [TB_c hT (show 77 ≠ 82 by omega), TB_c hT (show 78 ≠ 82 by omega), TB_c hT (show 79 ≠ 82 by omega)]; exact hS
      have hG := goesA (d := i) (x := rw (3 * i)) (by omega) (by rw [TB_c hT (show 76 ≠ 82 by omega)]; exact hw) hS' hx
      rw [TB_c hT (show 77 ≠ 82 by omega), TB_c hT (show 78 ≠ 82 by omega), TB_c hT (show 79 ≠ 82 by omega), TB_c hT (show 76 ≠ 82 by omega)] at hG
      rcases hG with ⟨g1, r', g2⟩ | ⟨r', e, g1, g2, g3, g4⟩
      · refine ⟨stR N (i + 1) r', ?_, TB_stR hT _ _⟩
        rw [g1, g2, bd_s, if_pos rfl]
        simp only
        unfold f_X12_judge_93
        rw [o_addl]
      · have hT' := TB_stR hT i r'
        have e25 : (25 : Int32) * Int32.ofNat (i + 1) = Int32.ofNat (25 * (i + 1)) := o_lmul (i + 1) 25
        rw [g1, g2, bd_s, if_neg (by rw [o_eql (by omega) (by omega)]; omega), o_addl, rdI_o (by omega) (by omega), TB_c hT' (show 95 ≠ 82 by omega), h95 _ (by omega), o_addl, e25, rdI_o (by omega) (by omega), stR_in0]
        have er : rwM (stR N (i + 1) r') (i + 1) = fun k => if k < 25 then r' k else 0 := by
          funext k
          unfold rwM
          by_cases hk : k < 25
          · rw [if_pos hk, if_pos hk, stR_in _ _ _ hk]
          · rw [if_neg hk, if_neg hk]
        have hq : rEq np nw r' (rwM (stR N (i + 1) r') (i + 1)) := by
          have np8 := hS.1.1
          have nw12 := hS.1.2.1
          rw [er]
          exact ⟨fun k hk => (if_pos (show k < 25 by omega)).symm, fun v hv => (if_pos (show 13 + v < 25 by omega)).symm⟩
        have hS2 := stA_Sd hS g1
        have hS3 := Sd_cg hq hS2
        by_cases ha : r' 0 = rw (3 * i + 1)
        · rw [if_pos ha.symm, o_addl, rdI_o (by omega) (by omega), TB_c hT' (show 95 ≠ 82 by omega), h95 _ (by omega), worthAt_e _ (by omega), bd_s, TB_c hT' (show 79 ≠ 82 by omega), ← wth_cg hq]
          by_cases hb : wth (B.1 79) r' = rw (3 * i + 2)
          · obtain ⟨N2, ih, ih2⟩ := judgeM hw hn h6 h95 m k (i + 1) (stR N (i + 1) r') (by omega) (by omega) hT' hS3
            refine ⟨N2, ?_, ih2⟩
            rw [if_pos hb.symm, ih]
            simp only
            rw [if_pos ⟨ha, hb⟩, jd_cg m (i + 1) _ _ hS2 hq]
          · refine ⟨_, ?_, hT'⟩
            rw [if_neg (fun hh => hb hh.symm)]
            simp only
            rw [if_neg (fun hx => hb hx.2)]
            unfold f_X12_judge_93
            rw [o_addl]
        · refine ⟨_, ?_, hT'⟩
          rw [if_neg (fun hh => ha hh.symm)]
          simp only
          rw [if_neg (fun hx => ha hx.1)]
          unfold f_X12_judge_93
          rw [o_addl]
    · refine ⟨N, ?_, hT⟩
      rw [if_neg hx, if_pos rfl, stA_out hx]
      simp only
      unfold f_X12_judge_93
      rw [o_addl]
theorem c_judge : Call f_X11_judge f_X12_judge := by
  intro M h
  have ht := there_e h
  by_cases h0 : M.1 76 7 = 0
  · refine ⟨-4, M, M, ?_, ?_, h⟩
    · unfold f_X11_judge
      rw [if_pos (by rw [ht]; exact h0)]
    · unfold f_X12_judge
      rw [if_pos h0]
  · obtain ⟨np, nw, nr, hH⟩ := here_of h h0
    obtain ⟨X, x1, x2, x3, x4, x5, x6, x7, x8⟩ := trial h hH
    obtain ⟨n, n6, w1, w2, w3⟩ := h.2.2.2.1
    obtain ⟨r', e1⟩ := judgeX (rw := M.1 95) x5 x6 n6 (by rw [x2 _ _ (by omega)]; exact w1) (fun j hj => by rw [x2 _ _ (by omega)]; exact w3 j hj) n k_fu 0 (rwX X 43) (by omega) (by unfold k_fu; omega) x7
    rw [← stX_self] at e1
    obtain ⟨B, hB⟩ : ∃ B, B = stX X 43 r' := ⟨_, rfl⟩
    have be : ∀ a j, ¬ (43 ≤ a ∧ a < 63) → B.1 a j = M.1 a j := fun a j ha => by rw [hB, stX_o (by unfold onX; omega)]; exact x2 a j ha
    have bc : ∀ a, ¬ (43 ≤ a ∧ a < 63) → B.1 a = M.1 a := fun a ha => funext fun j => be a j ha
    have er : rwM B 0 = rwM M 0 := by
      unfold rwM
      rw [bc 82 (by omega)]
    obtain ⟨N, e2, e3⟩ := judgeM (B := B) (np := np) (nw := nw) (rw := M.1 95) (by rw [bc 76 (by omega)]; exact hH.1.2.1) n6 (by rw [bc 76 (by omega)]; exact w2) (fun j hj => by rw [bc 95 (by omega)]) n k_fu 0 B (by omega) (by unfold k_fu; omega) (TB_rfl B) (by rw [bc 77 (by omega), bc 78 (by omega), bc 79 (by omega), er]; exact hH.2.2.2.2.1)
    rw [bc 77 (by omega), bc 78 (by omega), bc 79 (by omega), bc 76 (by omega), er, ← jd_cg n 0 _ _ x7 x8] at e2
    refine ⟨Int32.ofNat (jd nw (M.1 77) (M.1 78) (M.1 79) (M.1 76 6) (M.1 95) n 0 (rwX X 43)), B, N, ?_, ?_, R_fr (FR_tr x4 (FR_tr (by rw [hB]; exact stX_FR43 X r') (TB_FR e3))) h⟩
    · unfold f_X11_judge
      rw [if_neg (by rw [ht]; exact h0), x1, bd_s, hB]
      exact e1
    · unfold f_X12_judge
      rw [bc 76 (by omega), if_neg h0]
      exact e2
