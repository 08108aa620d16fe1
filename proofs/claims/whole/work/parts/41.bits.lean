/-! ===== the pure layer: a bit of the rain; an act keeps a row sound ===== -/
theorem amtS : ∀ k : Fin 32, ((Int32.ofNat k.val &&& 31).toBitVec.smod 32).toNat = k.val := by decide +kernel
theorem amtU : ∀ k : Fin 32, (UInt32.mod ((Int32.ofNat k.val).toUInt32 &&& Int32.toUInt32 31) 32).toBitVec.toNat = k.val := by decide +kernel
theorem and31 : ∀ n : Fin 1024, Int32.ofNat n.val &&& 31 = Int32.ofNat (n.val % 32) := by decide +kernel
theorem bit0_e (x : Int32) {k : Nat} (hk : k < 32) : (ushr x (Int32.ofNat k)) &&& 1 = (x >>> (Int32.ofNat k &&& 31)) &&& 1 := by
  apply Int32.toBitVec.inj
  show (x.toBitVec >>> (UInt32.mod ((Int32.ofNat k).toUInt32 &&& Int32.toUInt32 31) 32).toBitVec.toNat) &&& 1#32 = (x.toBitVec.sshiftRight ((Int32.ofNat k &&& 31).toBitVec.smod 32).toNat) &&& 1#32
  rw [amtS ⟨k, hk⟩, amtU ⟨k, hk⟩]
  apply BitVec.eq_of_getLsbD_eq
  intro i hi
  rw [BitVec.getLsbD_and, BitVec.getLsbD_and, BitVec.getLsbD_ushiftRight, BitVec.getLsbD_sshiftRight, BitVec.getLsbD_one]
  by_cases h : i = 0
  · subst h
    have h1 : ¬ 32 ≤ 0 := by omega
    have h2 : k + 0 < 32 := by omega
    simp only [h1, h2, decide_false, Bool.not_false, Bool.true_and, if_true]
  · simp only [h, decide_false, Bool.and_false]
theorem rains_e {M : k_M} {w n : Nat} {r : k_r} (h : r 1 = Int32.ofNat n) (hn : n ≤ 999) : f_X10_rains w (stX M w r) = some (wtR (M.1 w 2) (r 1), stX M w r) := by
  have e1 : (stX M w r).1 w 2 = M.1 w 2 := stX_z (by omega)
  have e2 : Int32.ofNat n &&& 31 = Int32.ofNat (n % 32) := and31 ⟨n, by omega⟩
  unfold f_X10_rains wtR
  rw [stX_5, e1, h, o_rem (by omega) (by omega), e2, bit0_e _ (by omega)]
  split <;> rfl
theorem o_sub_neg {a b : Nat} (ha : a < 1000000) (hb : b < 1000000) : (Int32.ofNat a - Int32.ofNat b < 0) = (a < b) := by
  apply propext
  rw [Int32.lt_iff_toInt_lt, Int32.toInt_sub, o_int (by omega), o_int (by omega)]
  have e : ((a : Int) - (b : Int)).bmod (2 ^ 32) = (a : Int) - b := by
    rw [Int.bmod_eq_of_le] <;> omega
  rw [e]
  show (a : Int) - b < 0 ↔ a < b
  omega
theorem mn2_o {a b : Nat} (ha : a < 1000000) (hb : b < 1000000) : mn2 (Int32.ofNat a) (Int32.ofNat b) = Int32.ofNat (min a b) := by
  unfold mn2
  simp (disch := omega) only [o_le]
  by_cases h : a ≤ b
  · rw [if_pos h, Nat.min_eq_left h]
  · rw [if_neg h, Nat.min_eq_right (by omega)]
theorem amt_o {m a b : Nat} (hm : m < 1000000) (ha : a < 1000000) (hb : b < 1000000) : amt (Int32.ofNat m) (Int32.ofNat a - Int32.ofNat b) = Int32.ofNat (min m (a - b)) := by
  unfold amt
  by_cases h : b ≤ a
  · rw [o_sub h, if_pos (o_nn (by omega))]
    simp (disch := omega) only [o_le]
    by_cases h1 : a - b ≤ m
    · rw [if_pos h1, Nat.min_eq_right h1]
    · rw [if_neg h1, Nat.min_eq_left (by omega)]
  · rw [if_neg, show a - b = 0 by omega, Nat.min_zero]
    · rfl
    · rw [Int32.not_le, o_sub_neg ha hb]
      omega
theorem Bn_mono {x : Int32} {a b : Nat} (h : Bn x a) (hab : a ≤ b) : Bn x b := by
  obtain ⟨k, h1, h2⟩ := h
  exact ⟨k, by omega, h2⟩
/-- a shed behind eating -/
theorem Bn_eat {x y : Int32} {n : Nat} (hn : n < 100000) (hx : Bn x n) (hy : Bn y 100000) (h : ¬ x - y < 0) : Bn (x - y) n := by
  obtain ⟨a, h1, rfl⟩ := hx
  obtain ⟨b, h2, rfl⟩ := hy
  rw [o_sub_neg (by omega) (by omega)] at h
  exact ⟨a - b, by omega, o_sub (by omega)⟩
theorem Bn_mul {x y : Int32} {m n : Nat} (hx : Bn x m) (hy : Bn y n) : Bn (x * y) (m * n) := by
  obtain ⟨a, h1, rfl⟩ := hx
  obtain ⟨b, h2, rfl⟩ := hy
  exact ⟨a * b, Nat.mul_le_mul h1 h2, o_mul a b⟩
theorem Bn_add {x y : Int32} {m n : Nat} (hx : Bn x m) (hy : Bn y n) : Bn (x + y) (m + n) := by
  obtain ⟨a, h1, rfl⟩ := hx
  obtain ⟨b, h2, rfl⟩ := hy
  exact ⟨a + b, by omega, o_add a b⟩
section
variable {np nw p : Nat} {r : k_r} {lw pl wy : Nat → Int32}
theorem offd_Bn {k g d wt : Int32} (h : Bn g 9) : Bn (offd k g d wt) 18 := by
  obtain ⟨x, h1, rfl⟩ := h
  unfold offd
  rw [o_lmul]
  split
  · split
    · exact ⟨0, by omega, rfl⟩
    · exact ⟨x, by omega, rfl⟩
  · split
    · split
      · exact ⟨2 * x, by omega, rfl⟩
      · exact ⟨x, by omega, rfl⟩
    · exact ⟨x, by omega, rfl⟩
theorem WFw_le (hW : WFw lw) {i : Nat} (hi : i < 13) : Bn (lw i) 20 := by
  refine Bn_mono (hW i hi) ?_
  have : ∀ i : Fin 13, lmx i.val ≤ 20 := by decide
  exact this ⟨i, hi⟩
theorem WFr_eat (hWw : WFw lw) (hR : WFr np nw wy r) {f : Nat} (hf : f ≤ 3) {d : Int32} (hd : Bn d 4) (h : eOK (eatR lw f d r)) : WFr np nw wy (eatR lw f d r) := by
  obtain ⟨h1, h2, h3, h4⟩ := hR
  unfold eOK at h
  rw [eatR_1, eatR_2, eatR_3, eatR_4] at h
  refine ⟨?_, fun s hs => ?_, fun p hp => ?_, fun v hv => ?_⟩
  · rw [eatR_1]
    obtain ⟨a, a1, a2⟩ := Bn_add h1 hd
    rw [a2] at h ⊢
    have := h.2.2.2
    rw [o_lel (by omega) (by omega)] at this
    exact ⟨a, this, rfl⟩
  · have hc : s = 0 ∨ s = 1 ∨ s = 2 := by omega
    rcases hc with rfl | rfl | rfl
    · exact Bn_eat (by omega) (h2 0 (by omega)) (Bn_mono (Bn_mul hd (WFw_le hWw (i := f) (by omega))) (by omega)) h.1
    · exact Bn_eat (by omega) (h2 1 (by omega)) (Bn_mono (Bn_mul hd (Bn_add (WFw_le hWw (i := f + 1) (by omega)) (WFw_le hWw (i := 7) (by omega)))) (by omega)) h.2.1
    · exact Bn_eat (by omega) (h2 2 (by omega)) (Bn_mono (Bn_mul hd (WFw_le hWw (i := f + 2) (by omega))) (by omega)) h.2.2.1
  · rw [eatR_o _ _ _ _ (by omega)]
    exact h3 p hp
  · rw [eatR_o _ _ _ _ (by omega)]
    exact h4 v hv
theorem WFr_get (hWw : WFw lw) (hA : At np nw pl wy r p) (wt : Int32) : WFr np nw wy (getR pl lw wt p r) := by
  obtain ⟨hp, h0, hF, hR⟩ := hA
  obtain ⟨k, k5, hk⟩ := (hF.2.2.1 p hp).1
  have np8 := hF.1
  unfold getR
  rcases shk_c k5 with ⟨rfl, h⟩ | ⟨hk0, s, hs, h⟩
  · rw [hk, h, if_neg (by decide)]
    exact hR
  · rw [hk, h, if_pos (o_nn (by omega)), o_nat (by omega)]
    obtain ⟨h1, h2, h3, h4⟩ := hR
    obtain ⟨l, l1, l2⟩ := h3 p hp
    obtain ⟨o, o1, o2⟩ := offd_Bn (k := pl (3 * p)) (d := r 1) (wt := wt) (hF.2.2.1 p hp).2.1
    obtain ⟨m, m1, m2⟩ := hWw 6 (by omega)
    obtain ⟨c, c1, c2⟩ := h2 s hs
    have m3 : m ≤ 20 := m1
    have ht : thr (Int32.ofNat k) (Int32.ofNat l) = Int32.ofNat (if k = 5 then l / 2 else l) := by
      unfold thr
      simp (disch := omega) only [o_eql, o_divl]
      split <;> rfl
    have ht2 : (if k = 5 then l / 2 else l) ≤ l := by split <;> omega
    have hg : gotR pl lw wt p r = Int32.ofNat (min (min (if k = 5 then l / 2 else l) o) (m - c)) := by
      unfold gotR
      rw [o2, hk, l2, h, o_nat (by omega), m2, c2, ht, mn2_o (by omega) (by omega), amt_o (by omega) (by omega) (by omega)]
    rw [hg]
    refine ⟨?_, fun s' hs' => ?_, fun p' hp' => ?_, fun v hv => ?_⟩
    · rw [k_up_ne _ _ (by omega), k_up_ne _ _ (by omega)]
      exact h1
    · rw [k_up_ne _ _ (by omega)]
      by_cases hss : s' = s
      · subst hss
        rw [k_up_self, c2, o_add]
        exact ⟨_, by omega, rfl⟩
      · rw [k_up_ne _ _ (by omega)]
        exact h2 s' hs'
    · by_cases hpp : p' = p
      · subst hpp
        rw [k_up_self, l2]
        have hu : ∃ u, u ≤ l ∧ usd (Int32.ofNat k) (Int32.ofNat (min (min (if k = 5 then l / 2 else l) o) (m - c))) = Int32.ofNat u := by
          unfold usd
          simp (disch := omega) only [o_eql, o_lmul]
          by_cases q1 : k = 1
          · exact ⟨0, by omega, by rw [if_pos q1]; rfl⟩
          · by_cases q4 : k = 4
            · exact ⟨0, by omega, by rw [if_neg q1, if_pos q4]; rfl⟩
            · by_cases q5 : k = 5
              · refine ⟨_, ?_, by rw [if_neg q1, if_neg q4, if_pos q5]⟩
                rw [if_pos q5]
                omega
              · refine ⟨min (min (if k = 5 then l / 2 else l) o) (m - c), by omega, ?_⟩
                rw [if_neg q1, if_neg q4, if_neg q5]
        obtain ⟨u, u1, u2⟩ := hu
        rw [u2, o_sub u1]
        exact ⟨l - u, by omega, rfl⟩
      · rw [k_up_ne _ _ (by omega), k_up_ne _ _ (by omega)]
        exact h3 p' hp'
    · rw [k_up_ne _ _ (by omega), k_up_ne _ _ (by omega)]
      exact h4 v hv
theorem WFr_go (hF : WFl np nw pl wy) (hR : WFr np nw wy r) {v : Nat} (hg : gOK nw wy v r) : WFr np nw wy (goR wy v r) ∧ ∃ q, q < np ∧ goR wy v r 0 = Int32.ofNat q := by
  obtain ⟨a, b, d, a1, a2, a3, a4, a5, a6, a7, a8⟩ := hF.2.2.2 v hg.1
  have np8 := hF.1
  have nw12 := hF.2.1
  obtain ⟨h1, h2, h3, h4⟩ := hR
  unfold goR
  refine ⟨⟨?_, fun s hs => ?_, fun p' hp' => ?_, fun v' hv' => ?_⟩, ?_⟩
  · rw [k_up_ne _ _ (by omega), k_up_ne _ _ (by omega)]
    exact h1
  · rw [k_up_ne _ _ (by omega), k_up_ne _ _ (by omega)]
    exact h2 s hs
  · rw [k_up_ne _ _ (by omega), k_up_ne _ _ (by omega)]
    exact h3 p' hp'
  · by_cases hvv : v' = v
    · subst hvv
      rw [k_up_self]
      obtain ⟨⟨c, c1, c2⟩, c3⟩ := h4 v' hv'
      by_cases h9 : wy (5 * v' + 3) = 9
      · rw [if_pos h9, Int32.sub_zero]
        exact h4 v' hv'
      · have hc : 0 < c := by
          have := hg.2.1
          rw [c2, o_llt (by omega) (by omega)] at this
          exact this
        have hc9 : c ≠ 9 := fun hh => h9 (c3.mp (by rw [c2, hh]; rfl))
        rw [if_neg h9, c2, o_subl (by omega)]
        refine ⟨⟨c - 1, by omega, rfl⟩, ?_⟩
        rw [o_eql (by omega) (by omega)]
        exact ⟨fun hh => by omega, fun hh => absurd hh h9⟩
    · rw [k_up_ne _ _ (by omega), k_up_ne _ _ (by omega)]
      exact h4 v' hv'
  · rw [k_up_ne _ _ (by omega), k_up_self, a5, a6]
    split
    · exact ⟨b, a2, rfl⟩
    · exact ⟨a, by omega, rfl⟩
end
