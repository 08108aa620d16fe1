/-! ===== the pure layer: the law's loop ===== -/
theorem rdX_o {β : Type} {L n : Nat} {xs : Nat → Int32} {k : Int32 → Option β} (h : n < L) (hl : L < 2147483648) : rdX L xs (Int32.ofNat n) k = k (xs n) := by
  unfold rdX
  rw [if_pos (ix_o h hl), o_nat (by omega)]
theorem and63 (x : Int32) : ∃ d, d ≤ 63 ∧ x &&& 63 = Int32.ofNat d := by
  refine ⟨(x.toBitVec &&& 63#32).toNat, ?_, ?_⟩
  · rw [BitVec.toNat_and]
    exact Nat.and_le_right
  · apply Int32.toBitVec_inj.mp
    rw [Int32.toBitVec_and]
    show _ = BitVec.ofNat 32 _
    rw [BitVec.ofNat_toNat, BitVec.setWidth_eq]
    rfl
theorem six_lt {L i : Nat} (hL : L < 1000000) (hi : i < 1000000) : (Int32.ofNat L - 6 < Int32.ofNat i) = (L < i + 6) := by
  apply propext
  rw [Int32.lt_iff_toInt_lt, Int32.toInt_sub, o_int (by omega), o_int (by omega)]
  have e : ((L : Int) - (6 : Int32).toInt).bmod (2 ^ 32) = (L : Int) - 6 := by
    show ((L : Int) - 6).bmod (2 ^ 32) = (L : Int) - 6
    rw [Int.bmod_eq_of_le] <;> omega
  rw [e]
  omega
theorem law_c {x m : k_M → Option (Int32 × k_M)} (hc : Call x m) {M : k_M} (hM : R M) {F : k_M → Option (Int32 × k_M)} (ih : ∀ N, R N → ∃ M1, F N = some (1, M1)) : ∃ M1, bd (x M) (fun r Ma => bd (m Ma) (fun r' Mb => if r = r' then F Mb else some (0, Mb))) = some (1, M1) := by
  obtain ⟨v, A, B, h1, h2, h3⟩ := hc M hM
  obtain ⟨M1, h4⟩ := ih B h3
  refine ⟨M1, ?_⟩
  rw [h1, bd_s, h2, bd_s, if_pos rfl, h4]
theorem law_e {L : Nat} (hL : L ≤ 384) (xs : Nat → Int32) : ∀ (n t : Nat) (M : k_M), n + t = 100 → t ≤ 64 → R M → ∃ M1, f_law L xs n (Int32.ofNat (6 * t)) M = some (1, M1)
  | 0, t, M, hn, ht, _ => by omega
  | n + 1, t, M, hn, ht, hM => by
    rw [f_law]
    by_cases hx : L < 6 * t + 6
    · rw [if_pos (by rw [six_lt (by omega) (by omega)]; exact hx)]
      exact ⟨M, rfl⟩
    · have ih : ∀ N, R N → ∃ M1, f_law L xs n (Int32.ofNat (6 * t + 6)) N = some (1, M1) := fun N hN => law_e hL xs n (t + 1) N (by omega) (by omega) hN
      obtain ⟨i, hi⟩ : ∃ i, i = 6 * t := ⟨_, rfl⟩
      rw [← hi] at hx ih ⊢
      rw [if_neg (by rw [six_lt (by omega) (by omega)]; exact hx), rdX_o (by omega) (by omega)]
      obtain ⟨d, hd, ed⟩ := and63 (xs i)
      rw [ed, tsw_o (by omega)]
      by_cases h40 : d < 40
      · rw [if_pos h40]
        by_cases h0 : d = 0
        · rw [if_pos h0]
          simp (disch := omega) only [o_addl, rdX_o]
          exact law_c (F := fun N => f_law L xs n (Int32.ofNat (i + 6)) N) (c_feed _ _) hM ih
        rw [if_neg h0]
        by_cases h1 : d = 1
        · rw [if_pos h1]
          simp (disch := omega) only [o_addl, rdX_o]
          exact law_c (F := fun N => f_law L xs n (Int32.ofNat (i + 6)) N) (c_plain) hM ih
        rw [if_neg h1]
        by_cases h2 : d = 2
        · rw [if_pos h2]
          simp (disch := omega) only [o_addl, rdX_o]
          exact law_c (F := fun N => f_law L xs n (Int32.ofNat (i + 6)) N) (c_place _ _ _) hM ih
        rw [if_neg h2]
        by_cases h3 : d = 3
        · rw [if_pos h3]
          simp (disch := omega) only [o_addl, rdX_o]
          exact law_c (F := fun N => f_law L xs n (Int32.ofNat (i + 6)) N) (c_way _ _ _ _ _) hM ih
        rw [if_neg h3]
        by_cases h4 : d = 4
        · rw [if_pos h4]
          simp (disch := omega) only [o_addl, rdX_o]
          exact law_c (F := fun N => f_law L xs n (Int32.ofNat (i + 6)) N) (c_placeOf _ _) hM ih
        rw [if_neg h4]
        by_cases h5 : d = 5
        · rw [if_pos h5]
          simp (disch := omega) only [o_addl, rdX_o]
          exact law_c (F := fun N => f_law L xs n (Int32.ofNat (i + 6)) N) (c_wayOf _ _) hM ih
        rw [if_neg h5]
        by_cases h6 : d = 6
        · rw [if_pos h6]
          simp (disch := omega) only [o_addl, rdX_o]
          exact law_c (F := fun N => f_law L xs n (Int32.ofNat (i + 6)) N) (c_set _ _) hM ih
        rw [if_neg h6]
        by_cases h7 : d = 7
        · rw [if_pos h7]
          simp (disch := omega) only [o_addl, rdX_o]
          exact law_c (F := fun N => f_law L xs n (Int32.ofNat (i + 6)) N) (c_rain _) hM ih
        rw [if_neg h7]
        by_cases h8 : d = 8
        · rw [if_pos h8]
          simp (disch := omega) only [o_addl, rdX_o]
          exact law_c (F := fun N => f_law L xs n (Int32.ofNat (i + 6)) N) (c_city _ _ _ _) hM ih
        rw [if_neg h8]
        by_cases h9 : d = 9
        · rw [if_pos h9]
          simp (disch := omega) only [o_addl, rdX_o]
          exact law_c (F := fun N => f_law L xs n (Int32.ofNat (i + 6)) N) (c_cityOf _) hM ih
        rw [if_neg h9]
        by_cases h10 : d = 10
        · rw [if_pos h10]
          simp (disch := omega) only [o_addl, rdX_o]
          exact law_c (F := fun N => f_law L xs n (Int32.ofNat (i + 6)) N) (c_may _) hM ih
        rw [if_neg h10]
        by_cases h11 : d = 11
        · rw [if_pos h11]
          simp (disch := omega) only [o_addl, rdX_o]
          exact law_c (F := fun N => f_law L xs n (Int32.ofNat (i + 6)) N) (c_does _) hM ih
        rw [if_neg h11]
        by_cases h12 : d = 12
        · rw [if_pos h12]
          simp (disch := omega) only [o_addl, rdX_o]
          exact law_c (F := fun N => f_law L xs n (Int32.ofNat (i + 6)) N) (c_stuck) hM ih
        rw [if_neg h12]
        by_cases h13 : d = 13
        · rw [if_pos h13]
          simp (disch := omega) only [o_addl, rdX_o]
          exact law_c (F := fun N => f_law L xs n (Int32.ofNat (i + 6)) N) (c_best _ _) hM ih
        rw [if_neg h13]
        by_cases h14 : d = 14
        · rw [if_pos h14]
          simp (disch := omega) only [o_addl, rdX_o]
          exact law_c (F := fun N => f_law L xs n (Int32.ofNat (i + 6)) N) (c_last) hM ih
        rw [if_neg h14]
        by_cases h15 : d = 15
        · rw [if_pos h15]
          simp (disch := omega) only [o_addl, rdX_o]
          exact law_c (F := fun N => f_law L xs n (Int32.ofNat (i + 6)) N) (c_surest _ _) hM ih
        rw [if_neg h15]
        by_cases h16 : d = 16
        · rw [if_pos h16]
          simp (disch := omega) only [o_addl, rdX_o]
          exact law_c (F := fun N => f_law L xs n (Int32.ofNat (i + 6)) N) (c_light _) hM ih
        rw [if_neg h16]
        by_cases h17 : d = 17
        · rw [if_pos h17]
          simp (disch := omega) only [o_addl, rdX_o]
          exact law_c (F := fun N => f_law L xs n (Int32.ofNat (i + 6)) N) (c_far _ _) hM ih
        rw [if_neg h17]
        by_cases h18 : d = 18
        · rw [if_pos h18]
          simp (disch := omega) only [o_addl, rdX_o]
          exact law_c (F := fun N => f_law L xs n (Int32.ofNat (i + 6)) N) (c_meet _) hM ih
        rw [if_neg h18]
        by_cases h19 : d = 19
        · rw [if_pos h19]
          simp (disch := omega) only [o_addl, rdX_o]
          exact law_c (F := fun N => f_law L xs n (Int32.ofNat (i + 6)) N) (c_party _) hM ih
        rw [if_neg h19]
        by_cases h20 : d = 20
        · rw [if_pos h20]
          simp (disch := omega) only [o_addl, rdX_o]
          exact law_c (F := fun N => f_law L xs n (Int32.ofNat (i + 6)) N) (c_gate _ _) hM ih
        rw [if_neg h20]
        by_cases h21 : d = 21
        · rw [if_pos h21]
          simp (disch := omega) only [o_addl, rdX_o]
          exact law_c (F := fun N => f_law L xs n (Int32.ofNat (i + 6)) N) (c_round _ _) hM ih
        rw [if_neg h21]
        by_cases h22 : d = 22
        · rw [if_pos h22]
          simp (disch := omega) only [o_addl, rdX_o]
          exact law_c (F := fun N => f_law L xs n (Int32.ofNat (i + 6)) N) (c_rule _ _) hM ih
        rw [if_neg h22]
        by_cases h23 : d = 23
        · rw [if_pos h23]
          simp (disch := omega) only [o_addl, rdX_o]
          exact law_c (F := fun N => f_law L xs n (Int32.ofNat (i + 6)) N) (c_ruleOf _ _) hM ih
        rw [if_neg h23]
        by_cases h24 : d = 24
        · rw [if_pos h24]
          simp (disch := omega) only [o_addl, rdX_o]
          exact law_c (F := fun N => f_law L xs n (Int32.ofNat (i + 6)) N) (c_next _) hM ih
        rw [if_neg h24]
        by_cases h25 : d = 25
        · rw [if_pos h25]
          simp (disch := omega) only [o_addl, rdX_o]
          exact law_c (F := fun N => f_law L xs n (Int32.ofNat (i + 6)) N) (c_follow _ _) hM ih
        rw [if_neg h25]
        by_cases h26 : d = 26
        · rw [if_pos h26]
          simp (disch := omega) only [o_addl, rdX_o]
          exact law_c (F := fun N => f_law L xs n (Int32.ofNat (i + 6)) N) (c_prove _) hM ih
        rw [if_neg h26]
        by_cases h27 : d = 27
        · rw [if_pos h27]
          simp (disch := omega) only [o_addl, rdX_o]
          exact law_c (F := fun N => f_law L xs n (Int32.ofNat (i + 6)) N) (c_row _ _) hM ih
        rw [if_neg h27]
        by_cases h28 : d = 28
        · rw [if_pos h28]
          simp (disch := omega) only [o_addl, rdX_o]
          exact law_c (F := fun N => f_law L xs n (Int32.ofNat (i + 6)) N) (c_alterRow _ _ _) hM ih
        rw [if_neg h28]
        by_cases h29 : d = 29
        · rw [if_pos h29]
          simp (disch := omega) only [o_addl, rdX_o]
          exact law_c (F := fun N => f_law L xs n (Int32.ofNat (i + 6)) N) (c_judge) hM ih
        rw [if_neg h29]
        by_cases h30 : d = 30
        · rw [if_pos h30]
          simp (disch := omega) only [o_addl, rdX_o]
          exact law_c (F := fun N => f_law L xs n (Int32.ofNat (i + 6)) N) (c_sheet _ _ _) hM ih
        rw [if_neg h30]
        by_cases h31 : d = 31
        · rw [if_pos h31]
          simp (disch := omega) only [o_addl, rdX_o]
          exact law_c (F := fun N => f_law L xs n (Int32.ofNat (i + 6)) N) (c_put _ _ _) hM ih
        rw [if_neg h31]
        by_cases h32 : d = 32
        · rw [if_pos h32]
          simp (disch := omega) only [o_addl, rdX_o]
          exact law_c (F := fun N => f_law L xs n (Int32.ofNat (i + 6)) N) (c_item _ _ _) hM ih
        rw [if_neg h32]
        by_cases h33 : d = 33
        · rw [if_pos h33]
          simp (disch := omega) only [o_addl, rdX_o]
          exact law_c (F := fun N => f_law L xs n (Int32.ofNat (i + 6)) N) (c_shelf _ _ _) hM ih
        rw [if_neg h33]
        by_cases h34 : d = 34
        · rw [if_pos h34]
          simp (disch := omega) only [o_addl, rdX_o]
          exact law_c (F := fun N => f_law L xs n (Int32.ofNat (i + 6)) N) (c_taken _ _) hM ih
        rw [if_neg h34]
        by_cases h35 : d = 35
        · rw [if_pos h35]
          simp (disch := omega) only [o_addl, rdX_o]
          exact law_c (F := fun N => f_law L xs n (Int32.ofNat (i + 6)) N) (c_act _ _ _) hM ih
        rw [if_neg h35]
        by_cases h36 : d = 36
        · rw [if_pos h36]
          simp (disch := omega) only [o_addl, rdX_o]
          exact law_c (F := fun N => f_law L xs n (Int32.ofNat (i + 6)) N) (c_trace _) hM ih
        rw [if_neg h36]
        by_cases h37 : d = 37
        · rw [if_pos h37]
          simp (disch := omega) only [o_addl, rdX_o]
          exact law_c (F := fun N => f_law L xs n (Int32.ofNat (i + 6)) N) (c_many _) hM ih
        rw [if_neg h37]
        by_cases h38 : d = 38
        · rw [if_pos h38]
          simp (disch := omega) only [o_addl, rdX_o]
          exact law_c (F := fun N => f_law L xs n (Int32.ofNat (i + 6)) N) (c_keep) hM ih
        rw [if_neg h38]
        by_cases h39 : d = 39
        · rw [if_pos h39]
          simp (disch := omega) only [o_addl, rdX_o]
          exact law_c (F := fun N => f_law L xs n (Int32.ofNat (i + 6)) N) (c_again) hM ih
        rw [if_neg h39]
        omega
      · rw [if_neg h40, o_addl]
        exact ih M hM
