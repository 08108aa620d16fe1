/-! ===== the pure layer: round ===== -/
def rd (nw : Nat) (pl wy lw : Nat → Int32) (rn : Int32) (it : Nat → Int32) : Nat → Nat → k_r → Nat × k_r
  | 0, i, r => (i, r)
  | m + 1, i, r => match stA nw pl wy lw rn (it i) r with
    | none => (i, r)
    | some r' => rd nw pl wy lw rn it m (i + 1) r'
section
variable {X : k_M} {np nw n s : Nat} {lw pl wy it : Nat → Int32} {rn : Int32}
theorem rd_le : ∀ (m i : Nat) (r : k_r), (rd nw pl wy lw rn it m i r).1 ≤ i + m
  | 0, i, r => Nat.le_refl _
  | m + 1, i, r => by
    unfold rd
    cases stA nw pl wy lw rn (it i) r with
    | none => exact Nat.le_add_right _ _
    | some r' =>
      have := rd_le m (i + 1) r'
      simp only
      omega
theorem rd_cg : ∀ (m i : Nat) (r q : k_r), Sd np nw pl wy lw r → rEq np nw r q → (rd nw pl wy lw rn it m i r).1 = (rd nw pl wy lw rn it m i q).1 ∧ rEq np nw (rd nw pl wy lw rn it m i r).2 (rd nw pl wy lw rn it m i q).2
  | 0, _, _, _, _, h => ⟨rfl, h⟩
  | m + 1, i, r, q, hS, h => by
    unfold rd
    rcases stA_cg (rn := rn) hS h (it i) with ⟨h1, h2⟩ | ⟨r', q', h1, h2, h3⟩
    · rw [h1, h2]
      exact ⟨rfl, h⟩
    · rw [h1, h2]
      exact rd_cg m (i + 1) r' q' (stA_Sd hS h1) h3
theorem roundX (hW : WX 43 X lw rn) (hL : LX 43 X np nw pl wy) (hs : s < 4) (hn : n ≤ 40) (hj : ∀ j, j < n → (X.2.1 (67 + s) j).toInt32 = it j) (l2 : Int32) (kx : Int32 → Int32 → Int32 → k_M → Option (Int32 × k_M)) : ∀ (m k i : Nat) (r : k_r), i + m = n → m < k → Sd np nw pl wy lw r → f_X11_round_79 k (Int32.ofNat s) l2 (Int32.ofNat n) (Int32.ofNat i) (stX X 43 r) kx = kx l2 (Int32.ofNat n) (Int32.ofNat (rd nw pl wy lw rn it m i r).1) (stX X 43 (rd nw pl wy lw rn it m i r).2)
  | 0, k, i, r, hi, hk, hS => by
    obtain ⟨k, rfl⟩ : ∃ q, k = q + 1 := ⟨k - 1, by omega⟩
    rw [f_X11_round_79, if_pos (by rw [o_le (by omega) (by omega)]; omega)]
    rfl
  | m + 1, k, i, r, hi, hk, hS => by
    obtain ⟨k, rfl⟩ : ∃ q, k = q + 1 := ⟨k - 1, by omega⟩
    have cj : (stX X 43 r).2.1 (67 + s) i = X.2.1 (67 + s) i := rfl
    have e66 : 66 + (s + 1) = 67 + s := by omega
    unfold rd
    rw [f_X11_round_79, if_neg (by rw [o_le (by omega) (by omega)]; omega), rdLL_o hs, e66, rdJ_o (by omega) (by omega), cj, hj i (by omega)]
    rcases attA hW hL hS (it i) with ⟨g, r', h1, h2, h3⟩ | ⟨h1, h2⟩
    · rw [h1, h2, bd_s, if_neg h3, o_addl]
      exact roundX hW hL hs hn hj l2 kx m k (i + 1) r' (by omega) (by omega) (stA_Sd hS h1)
    · rw [h1, h2, bd_s, if_pos rfl]
end
theorem roundM {B : k_M} {np nw n s : Nat} {it : Nat → Int32} (hw : B.1 76 2 = Int32.ofNat nw) (hs : s < 4) (hn : n ≤ 40) (h6 : B.1 97 s = Int32.ofNat n) (hj : ∀ j, j < n → (B.2.1 98 (40 * s + j)).toInt32 = it j) (l2 : Int32) : ∀ (m k i : Nat) (N : k_M), i + m = n → m + 1 < k → TB B N → Sd np nw (B.1 77) (B.1 78) (B.1 79) (rwM N i) → ∃ N', (∀ kx, f_X12_round_45 k (Int32.ofNat s) l2 (Int32.ofNat i) 1 N kx = kx l2 (Int32.ofNat (rd nw (B.1 77) (B.1 78) (B.1 79) (B.1 76 6) it m i (rwM N i)).1) (if (rd nw (B.1 77) (B.1 78) (B.1 79) (B.1 76 6) it m i (rwM N i)).1 = n then 1 else 0) N') ∧ TB B N' ∧ ((rd nw (B.1 77) (B.1 78) (B.1 79) (B.1 76 6) it m i (rwM N i)).1 = n → rEq np nw (rd nw (B.1 77) (B.1 78) (B.1 79) (B.1 76 6) it m i (rwM N i)).2 (rwM N' n))
  | 0, k, i, N, hi, hk, hT, hS => by
    obtain ⟨k, rfl⟩ : ∃ q, k = q + 1 := ⟨k - 1, by omega⟩
    have hin : i = n := by omega
    subst hin
    refine ⟨N, fun kx => ?_, hT, fun _ => rEq_rfl _⟩
    rw [f_X12_round_45, if_neg (show ¬ (1 : Int32) = 0 by decide), rdI_o (by omega) (by omega), TB_c hT (show 97 ≠ 82 by omega), h6, if_pos (by rw [o_le (by omega) (by omega)]; omega)]
    unfold rd
    rw [if_pos rfl]
  | m + 1, k, i, N, hi, hk, hT, hS => by
    obtain ⟨k, rfl⟩ : ∃ q, k = q + 1 := ⟨k - 1, by omega⟩
    obtain ⟨k, rfl⟩ : ∃ q, k = q + 1 := ⟨k - 1, by omega⟩
    have e40 : (40 : Int32) * Int32.ofNat s + Int32.ofNat i = Int32.ofNat (40 * s + i) := by
      have : (40 : Int32) * Int32.ofNat s = Int32.ofNat (40 * s) := o_lmul s 40
      rw [this, o_add]
    have cj : N.2.1 98 (40 * s + i) = B.2.1 98 (40 * s + i) := by rw [hT.2]
    have st : ∀ kx, f_X12_round_45 (k + 1 + 1) (Int32.ofNat s) l2 (Int32.ofNat i) 1 N kx = bd (f_X12_in (it i) 0 12 N) (fun r4 M5 => if r4 = 0 then f_X12_round_103 (Int32.ofNat s) l2 (Int32.ofNat i) M5 ((fun l1_ l2_ l4_ l5_ M_ => f_X12_round_45 (k + 1) l1_ l2_ l4_ l5_ M_ kx)) kx else bd (f_X12_goes (Int32.ofNat i) (it i) 2 M5) (fun r6 M7 => if r6 ≤ 0 then f_X12_round_103 (Int32.ofNat s) l2 (Int32.ofNat i) M7 ((fun l1_ l2_ l4_ l5_ M_ => f_X12_round_45 (k + 1) l1_ l2_ l4_ l5_ M_ kx)) kx else f_X12_round_104 (Int32.ofNat s) l2 (Int32.ofNat i) 1 M7 ((fun l1_ l2_ l4_ l5_ M_ => f_X12_round_45 (k + 1) l1_ l2_ l4_ l5_ M_ kx)) kx)) := fun kx => by
      rw [f_X12_round_45, if_neg (show ¬ (1 : Int32) = 0 by decide), rdI_o (by omega) (by omega), TB_c hT (show 97 ≠ 82 by omega), h6, if_neg (by rw [o_le (by omega) (by omega)]; omega), e40, rdJ_o (by omega) (by omega), cj, bN_e, hj i (by omega)]
    have off : ∀ kx N2, f_X12_round_103 (Int32.ofNat s) l2 (Int32.ofNat i) N2 ((fun l1_ l2_ l4_ l5_ M_ => f_X12_round_45 (k + 1) l1_ l2_ l4_ l5_ M_ kx)) kx = kx l2 (Int32.ofNat i) 0 N2 := fun kx N2 => by
      unfold f_X12_round_103 f_X12_round_104 f_X12_round_118
      rw [if_pos rfl, bN_e, Int32.add_zero]
      show f_X12_round_45 (k + 1) (Int32.ofNat s) l2 (Int32.ofNat i) 0 N2 kx = _
      rw [f_X12_round_45, if_pos rfl]
    unfold rd
    by_cases hx : 0 ≤ it i ∧ it i ≤ 12
    · have hS' : Sd np nw (N.1 77) (N.1 78) (N.1 79) (rwM N i) := by rw [TB_c hT (show 77 ≠ 82 by omega), TB_c hT (show 78 ≠ 82 by omega), TB_c hT (show 79 ≠ 82 by omega)]; exact hS
      have hG := goesA (d := i) (x := it i) (by omega) (by rw [TB_c hT (show 76 ≠ 82 by omega)]; exact hw) hS' hx
      rw [TB_c hT (show 77 ≠ 82 by omega), TB_c hT (show 78 ≠ 82 by omega), TB_c hT (show 79 ≠ 82 by omega), TB_c hT (show 76 ≠ 82 by omega)] at hG
      rcases hG with ⟨g1, r', g2⟩ | ⟨r', e, g1, g2, g3, g4⟩
      · refine ⟨stR N (i + 1) r', fun kx => ?_, TB_stR hT _ _, ?_⟩
        · rw [st, in_e, bd_s, if_pos hx, if_neg (show ¬ (1 : Int32) = 0 by decide), g1, g2, bd_s, if_pos (show (0 : Int32) ≤ 0 by decide), off]
          simp only
          rw [if_neg (show ¬ i = n by omega)]
        · rw [g1]
          intro hin
          have hin' : i = n := hin
          omega
      · have hT' := TB_stR hT i r'
        have er : rwM (stR N (i + 1) r') (i + 1) = fun k => if k < 25 then r' k else 0 := by
          funext k
          unfold rwM
          by_cases hk : k < 25
          · rw [if_pos hk, if_pos hk, stR_in _ _ _ hk]
          · rw [if_neg hk, if_neg hk]
        have hq : rEq np nw r' (rwM (stR N (i + 1) r') (i + 1)) := by
          have np8 := hS.1.1
          have nw12 := hS.1.2.1
          rw [er]
          exact ⟨fun k hk => (if_pos (show k < 25 by omega)).symm, fun v hv => (if_pos (show 13 + v < 25 by omega)).symm⟩
        have hS2 := stA_Sd hS g1
        have hS3 := Sd_cg hq hS2
        obtain ⟨N2, ih, ih2, ih3⟩ := roundM hw hs hn h6 hj l2 m (k + 1) (i + 1) (stR N (i + 1) r') (by omega) (by omega) hT' hS3
        have hc := rd_cg (rn := B.1 76 6) (it := it) m (i + 1) _ _ hS2 hq
        rw [g1]
        refine ⟨N2, fun kx => ?_, ih2, fun hin => ?_⟩
        · rw [st, in_e, bd_s, if_pos hx, if_neg (show ¬ (1 : Int32) = 0 by decide), g2, bd_s, if_neg (by rw [o_lel (by omega) (by omega)]; omega)]
          unfold f_X12_round_104 f_X12_round_118
          rw [if_neg (show ¬ (1 : Int32) = 0 by decide), bN_e, o_addl]
          show f_X12_round_45 (k + 1) (Int32.ofNat s) l2 (Int32.ofNat (i + 1)) 1 _ kx = _
          rw [ih kx]
          simp only
          rw [hc.1]
        · have hin' : (rd nw (B.1 77) (B.1 78) (B.1 79) (B.1 76 6) it m (i + 1) r').1 = n := hin
          rw [hc.1] at hin'
          exact rEq_tr hc.2 (ih3 hin')
    · refine ⟨N, fun kx => ?_, hT, ?_⟩
      · rw [st, in_e, bd_s, if_neg hx, if_pos rfl, stA_out hx, off]
        simp only
        rw [if_neg (show ¬ i = n by omega)]
      · rw [stA_out hx]
        intro hin
        have hin' : i = n := hin
        omega
/-- for ever: not worse than now -/
def nwP (np nw : Nat) (r q : k_r) : Prop := r 0 = q 0 ∧ (∀ k, 2 ≤ k → k < 5 + np → q k ≤ r k) ∧ (∀ v, v < nw → q (13 + v) ≤ r (13 + v))
theorem noneL {a1 n1 a2 n2 n : Nat} (M : k_M) (h1 : n ≤ n1) (h2 : n ≤ n2) (h3 : n1 ≤ 100) (h4 : n2 ≤ 100) : ∀ (m k j : Nat), j + m = n → m < k → ∃ b : Int32, f_X10_noneLess_2 a1 n1 a2 n2 k (Int32.ofNat n) (Int32.ofNat j) M (fun M_ => f_X10_noneLess_16 a1 n1 a2 n2 M_) (fun M_ => f_X10_noneLess_24 a1 n1 a2 n2 M_) = some (b, M) ∧ (b = 0 ∨ b = 1) ∧ (b = 1 ↔ ∀ i, j ≤ i → i < n → M.1 a2 i ≤ M.1 a1 i)
  | 0, k, j, hj, hk => by
    obtain ⟨k, rfl⟩ : ∃ q, k = q + 1 := ⟨k - 1, by omega⟩
    refine ⟨1, ?_, .inr rfl, ⟨fun _ i q1 q2 => by omega, fun _ => rfl⟩⟩
    rw [f_X10_noneLess_2, if_pos (by rw [o_le (by omega) (by omega)]; omega)]
    rfl
  | m + 1, k, j, hj, hk => by
    obtain ⟨k, rfl⟩ : ∃ q, k = q + 1 := ⟨k - 1, by omega⟩
    rw [f_X10_noneLess_2, if_neg (by rw [o_le (by omega) (by omega)]; omega), rdI_o (by omega) (by omega), rdI_o (by omega) (by omega)]
    by_cases hh : M.1 a2 j ≤ M.1 a1 j
    · obtain ⟨b, g1, g2, g3⟩ := noneL (a1 := a1) (a2 := a2) M h1 h2 h3 h4 m k (j + 1) (by omega) (by omega)
      refine ⟨b, ?_, g2, ?_⟩
      · rw [if_pos hh, o_addl]
        exact g1
      · rw [g3]
        refine ⟨fun q i q1 q2 => ?_, fun q i q1 q2 => q i (by omega) q2⟩
        by_cases hij : i = j
        · subst hij; exact hh
        · exact q i (by omega) q2
    · refine ⟨0, ?_, .inl rfl, ⟨fun hx => absurd hx (by decide), fun q => absurd (q j (by omega) (by omega)) hh⟩⟩
      rw [if_neg hh]
      rfl
theorem noneL0 {a1 n1 a2 n2 n : Nat} (M : k_M) (h1 : n ≤ n1) (h2 : n ≤ n2) (h3 : n1 ≤ 100) (h4 : n2 ≤ 100) : ∃ b : Int32, f_X10_noneLess a1 n1 a2 n2 (Int32.ofNat n) M = some (b, M) ∧ (b = 0 ∨ b = 1) ∧ (b = 1 ↔ ∀ i, i < n → M.1 a2 i ≤ M.1 a1 i) := by
  obtain ⟨b, g1, g2, g3⟩ := noneL (a1 := a1) (a2 := a2) M h1 h2 h3 h4 n k_fu 0 (by omega) (by unfold k_fu; omega)
  exact ⟨b, g1, g2, g3.trans ⟨fun q i hi => q i (by omega) hi, fun q i _ hi => q i hi⟩⟩
theorem noWorse {M : k_M} {w v np nw : Nat} (hp : M.1 (w + 1) 0 = Int32.ofNat np) (hw : M.1 (w + 1) 7 = Int32.ofNat nw) (hnp : np ≤ 8) (hnw : nw ≤ 12) : ∃ b : Int32, f_X10_isNoWorseThan w v M = some (b, M) ∧ (b = 0 ∨ b = 1) ∧ (b = 1 ↔ nwP np nw (rwX M w) (rwX M v)) := by
  obtain ⟨b1, g1, g2, g3⟩ := noneL0 (a1 := w + 17) (n1 := 3) (a2 := v + 17) (n2 := 3) (n := 3) M (by omega) (by omega) (by omega) (by omega)
  obtain ⟨b2, g4, g5, g6⟩ := noneL0 (a1 := w + 5) (n1 := 8) (a2 := v + 5) (n2 := 8) (n := np) M (by omega) (by omega) (by omega) (by omega)
  obtain ⟨b3, g7, g8, g9⟩ := noneL0 (a1 := w + 12) (n1 := 12) (a2 := v + 12) (n2 := 12) (n := nw) M (by omega) (by omega) (by omega) (by omega)
  have e3 : (3 : Int32) = Int32.ofNat 3 := rfl
  have hs : ∀ (u i : Nat), i < 3 → rwX M u (2 + i) = M.1 (u + 17) i := fun u i hi => by
    unfold rwX
    rw [if_neg (by omega), if_neg (by omega), if_pos (by omega), Nat.add_sub_cancel_left]
  have hl : ∀ (u i : Nat), i < 8 → rwX M u (5 + i) = M.1 (u + 5) i := fun u i hi => by
    unfold rwX
    rw [if_neg (by omega), if_neg (by omega), if_neg (by omega), if_pos (by omega), Nat.add_sub_cancel_left]
  have hb : ∀ (u i : Nat), rwX M u (13 + i) = M.1 (u + 12) i := fun u i => by
    unfold rwX
    rw [if_neg (by omega), if_neg (by omega), if_neg (by omega), if_neg (by omega), Nat.add_sub_cancel_left]
  have key : nwP np nw (rwX M w) (rwX M v) ↔ M.1 w 4 = M.1 v 4 ∧ b1 = 1 ∧ b2 = 1 ∧ b3 = 1 := by
    rw [g3, g6, g9]
    unfold nwP
    constructor
    · rintro ⟨q1, q2, q3⟩
      refine ⟨q1, fun i hi => ?_, fun i hi => ?_, fun i hi => ?_⟩
      · have := q2 (2 + i) (by omega) (by omega)
        rw [hs w i hi, hs v i hi] at this
        exact this
      · have := q2 (5 + i) (by omega) (by omega)
        rw [hl w i (by omega), hl v i (by omega)] at this
        exact this
      · have := q3 i hi
        rw [hb w i, hb v i] at this
        exact this
    · rintro ⟨q1, q2, q3, q4⟩
      refine ⟨q1, fun k hk1 hk2 => ?_, fun i hi => ?_⟩
      · by_cases hk5 : k < 5
        · have := q2 (k - 2) (by omega)
          rw [← hs w (k - 2) (by omega), ← hs v (k - 2) (by omega), show 2 + (k - 2) = k by omega] at this
          exact this
        · have := q3 (k - 5) (by omega)
          rw [← hl w (k - 5) (by omega), ← hl v (k - 5) (by omega), show 5 + (k - 5) = k by omega] at this
          exact this
      · rw [hb w i, hb v i]
        exact q4 i hi
  unfold f_X10_isNoWorseThan
  by_cases h4 : M.1 w 4 = M.1 v 4
  · rw [if_pos h4, e3, g1, bd_s]
    rcases g2 with g2 | g2
    · refine ⟨0, ?_, .inl rfl, ⟨fun hx => absurd hx (by decide), fun q => ?_⟩⟩
      · rw [if_pos g2]
      · have := (key.mp q).2.1
        rw [g2] at this
        exact absurd this (by decide)
    · rw [if_neg (by rw [g2]; decide), hp, g4, bd_s]
      rcases g5 with g5 | g5
      · refine ⟨0, ?_, .inl rfl, ⟨fun hx => absurd hx (by decide), fun q => ?_⟩⟩
        · rw [if_pos g5]
        · have := (key.mp q).2.2.1
          rw [g5] at this
          exact absurd this (by decide)
      · rw [if_neg (by rw [g5]; decide), hw, g7, bd_s]
        rcases g8 with g8 | g8
        · refine ⟨0, ?_, .inl rfl, ⟨fun hx => absurd hx (by decide), fun q => ?_⟩⟩
          · rw [if_pos g8]
          · have := (key.mp q).2.2.2
            rw [g8] at this
            exact absurd this (by decide)
        · refine ⟨1, ?_, .inr rfl, ⟨fun _ => key.mpr ⟨h4, g2, g5, g8⟩, fun _ => rfl⟩⟩
          rw [if_neg (by rw [g8]; decide)]
  · refine ⟨0, ?_, .inl rfl, ⟨fun hx => absurd hx (by decide), fun q => absurd (key.mp q).1 h4⟩⟩
    rw [if_neg h4]
theorem everL {M : k_M} {np nw d : Nat} (hp : M.1 76 0 = Int32.ofNat np) (hw : M.1 76 2 = Int32.ofNat nw) (hnp : np ≤ 8) (hnw : nw ≤ 12) (hd : d ≤ 42) : ∀ (m k j : Nat) (t : Int32), j + m = 13 + nw → m < k → (t = 0 ∨ t = 1) → ∃ b : Int32, f_X12_isForEver_26 k (Int32.ofNat d) t (Int32.ofNat j) M (fun l2_ M_ => f_X12_isForEver_89 l2_ M_) = some (b, M) ∧ (b = 0 ∨ b = 1) ∧ (b = 1 ↔ t = 1 ∧ ∀ i, j ≤ i → i < 13 + nw → (i < 5 + np ∨ 13 ≤ i) → M.1 82 i ≤ M.1 82 (25 * d + i))
  | 0, k, j, t, hj, hk, ht => by
    obtain ⟨k, rfl⟩ : ∃ q, k = q + 1 := ⟨k - 1, by omega⟩
    refine ⟨t, ?_, ht, ⟨fun q => ⟨q, fun i q1 q2 => by omega⟩, fun q => q.1⟩⟩
    have e13 : (13 : Int32) + Int32.ofNat nw = Int32.ofNat (13 + nw) := o_ladd nw 13
    rw [f_X12_isForEver_26, hw, e13, if_pos (by rw [o_le (by omega) (by omega)]; omega)]
    unfold f_X12_isForEver_89 ckZ
    rw [if_pos ht]
  | m + 1, k, j, t, hj, hk, ht => by
    obtain ⟨k, rfl⟩ : ∃ q, k = q + 1 := ⟨k - 1, by omega⟩
    have e13 : (13 : Int32) + Int32.ofNat nw = Int32.ofNat (13 + nw) := o_ladd nw 13
    have e5 : (5 : Int32) + Int32.ofNat np = Int32.ofNat (5 + np) := o_ladd np 5
    have e25 : (25 : Int32) * Int32.ofNat d + Int32.ofNat j = Int32.ofNat (25 * d + j) := by
      have : (25 : Int32) * Int32.ofNat d = Int32.ofNat (25 * d) := o_lmul d 25
      rw [this, o_add]
    obtain ⟨b0, z1, z2, z3⟩ := everL hp hw hnp hnw hd m k (j + 1) 0 (by omega) (by omega) (.inl rfl)
    obtain ⟨b1, y1, y2, y3⟩ := everL hp hw hnp hnw hd m k (j + 1) 1 (by omega) (by omega) (.inr rfl)
    have f81 : f_X12_isForEver_81 (Int32.ofNat d) (Int32.ofNat j) M ((fun l1_ l2_ l3_ M_ => f_X12_isForEver_26 k l1_ l2_ l3_ M_ (fun l2_ M_ => f_X12_isForEver_89 l2_ M_))) (fun l2_ M_ => f_X12_isForEver_89 l2_ M_) = some (b0, M) := by
      unfold f_X12_isForEver_81 f_X12_isForEver_82
      rw [o_addl]
      exact z1
    have f77 : f_X12_isForEver_77 (Int32.ofNat d) (Int32.ofNat j) M ((fun l1_ l2_ l3_ M_ => f_X12_isForEver_26 k l1_ l2_ l3_ M_ (fun l2_ M_ => f_X12_isForEver_89 l2_ M_))) (fun l2_ M_ => f_X12_isForEver_89 l2_ M_) = some (b1, M) := by
      unfold f_X12_isForEver_77 f_X12_isForEver_82
      rw [o_addl]
      exact y1
    have b0n : ¬ b0 = 1 := fun hx => absurd (z3.mp hx).1 (by decide)
    rw [f_X12_isForEver_26, hw, e13, if_neg (by rw [o_le (by omega) (by omega)]; omega)]
    by_cases h0 : t = 0
    · refine ⟨b0, ?_, z2, ⟨fun hx => absurd hx b0n, fun q => ?_⟩⟩
      · rw [if_pos h0]
        exact f81
      · rw [h0] at q
        exact absurd q.1 (by decide)
    · have h1 : t = 1 := ht.resolve_left h0
      rw [if_neg h0, e25, rdI_o (by omega) (by omega), rdI_o (by omega) (by omega)]
      by_cases hh : M.1 82 j ≤ M.1 82 (25 * d + j)
      · refine ⟨b1, ?_, y2, ?_⟩
        · rw [if_pos hh]
          exact f77
        · rw [y3]
          refine ⟨fun q => ⟨h1, fun i q1 q2 q3 => ?_⟩, fun q => ⟨rfl, fun i q1 q2 q3 => q.2 i (by omega) q2 q3⟩⟩
          by_cases hij : i = j
          · subst hij; exact hh
          · exact q.2 i (by omega) q2 q3
      · rw [if_neg hh, hp, e5]
        by_cases hr : j < 5 + np
        · refine ⟨b0, ?_, z2, ⟨fun hx => absurd hx b0n, fun q => absurd (q.2 j (by omega) (by omega) (.inl hr)) hh⟩⟩
          rw [if_pos (by rw [o_lt (by omega) (by omega)]; exact hr)]
          exact f81
        · rw [if_neg (by rw [o_lt (by omega) (by omega)]; exact hr)]
          by_cases hr2 : 13 ≤ j
          · refine ⟨b0, ?_, z2, ⟨fun hx => absurd hx b0n, fun q => absurd (q.2 j (by omega) (by omega) (.inr hr2)) hh⟩⟩
            rw [if_pos (by rw [o_lle (by omega) (by omega)]; exact hr2)]
            exact f81
          · refine ⟨b1, ?_, y2, ?_⟩
            · rw [if_neg (by rw [o_lle (by omega) (by omega)]; exact hr2)]
              exact f77
            · rw [y3]
              refine ⟨fun q => ⟨h1, fun i q1 q2 q3 => ?_⟩, fun q => ⟨rfl, fun i q1 q2 q3 => q.2 i (by omega) q2 q3⟩⟩
              by_cases hij : i = j
              · subst hij; omega
              · exact q.2 i (by omega) q2 q3
theorem everM {M : k_M} {np nw d : Nat} (hp : M.1 76 0 = Int32.ofNat np) (hw : M.1 76 2 = Int32.ofNat nw) (hnp : np ≤ 8) (hnw : nw ≤ 12) (hd : d ≤ 42) : ∃ b : Int32, f_X12_isForEver (Int32.ofNat d) M = some (b, M) ∧ (b = 0 ∨ b = 1) ∧ (b = 1 ↔ nwP np nw (rwM M d) (rwM M 0)) := by
  have e25 : (25 : Int32) * Int32.ofNat d = Int32.ofNat (25 * d) := o_lmul d 25
  have r0 : ∀ k, k < 25 → rwM M 0 k = M.1 82 k := fun k hk => by rw [rwM_e _ _ hk, Nat.mul_zero, Nat.zero_add]
  have rd' : ∀ k, k < 25 → rwM M d k = M.1 82 (25 * d + k) := fun k hk => rwM_e _ _ hk
  have key : nwP np nw (rwM M d) (rwM M 0) ↔ M.1 82 (25 * d) = M.1 82 0 ∧ ∀ i, 2 ≤ i → i < 13 + nw → (i < 5 + np ∨ 13 ≤ i) → M.1 82 i ≤ M.1 82 (25 * d + i) := by
    unfold nwP
    rw [r0 0 (by omega), rd' 0 (by omega), Nat.add_zero]
    constructor
    · rintro ⟨q1, q2, q3⟩
      refine ⟨q1, fun i hi hi2 hi3 => ?_⟩
      rw [← r0 i (by omega), ← rd' i (by omega)]
      rcases hi3 with hi3 | hi3
      · exact q2 i hi hi3
      · have := q3 (i - 13) (by omega)
        rw [show 13 + (i - 13) = i by omega] at this
        exact this
    · rintro ⟨q1, q2⟩
      refine ⟨q1, fun k hk1 hk2 => ?_, fun v hv => ?_⟩
      · rw [r0 k (by omega), rd' k (by omega)]
        exact q2 k hk1 (by omega) (.inl hk2)
      · rw [r0 _ (by omega), rd' _ (by omega)]
        exact q2 _ (by omega) (by omega) (.inr (by omega))
  unfold f_X12_isForEver
  rw [e25, rdI_o (by omega) (by omega), rdI_l (by omega) (by omega)]
  have e2 : (2 : Int32) = Int32.ofNat 2 := rfl
  by_cases h : M.1 82 (25 * d) = M.1 82 0
  · obtain ⟨b, g1, g2, g3⟩ := everL hp hw hnp hnw hd (11 + nw) k_fu 2 1 (by omega) (by unfold k_fu; omega) (.inr rfl)
    refine ⟨b, ?_, g2, ?_⟩
    · rw [if_pos h]
      unfold f_X12_isForEver_23
      rw [e2]
      exact g1
    · rw [g3, key]
      exact ⟨fun q => ⟨h, q.2⟩, fun q => ⟨rfl, q.2⟩⟩
  · obtain ⟨b, g1, g2, g3⟩ := everL hp hw hnp hnw hd (11 + nw) k_fu 2 0 (by omega) (by unfold k_fu; omega) (.inl rfl)
    refine ⟨b, ?_, g2, ?_⟩
    · rw [if_neg h]
      unfold f_X12_isForEver_23
      rw [e2]
      exact g1
    · rw [g3, key]
      exact ⟨fun q => absurd q.1 (by decide), fun q => absurd q.1 h⟩
theorem nwP_cg {np nw : Nat} {r r' q q' : k_r} (h : rEq np nw r r') (g : rEq np nw q q') : nwP np nw r q ↔ nwP np nw r' q' := by
  unfold nwP
  rw [h.1 0 (by omega), g.1 0 (by omega)]
  constructor
  · rintro ⟨q1, q2, q3⟩
    exact ⟨q1, fun k a b => by rw [← h.1 k b, ← g.1 k b]; exact q2 k a b, fun v hv => by rw [← h.2 v hv, ← g.2 v hv]; exact q3 v hv⟩
  · rintro ⟨q1, q2, q3⟩
    exact ⟨q1, fun k a b => by rw [h.1 k b, g.1 k b]; exact q2 k a b, fun v hv => by rw [h.2 v hv, g.2 v hv]; exact q3 v hv⟩
