/-! ===== the pure layer: words for small numbers, reads and writes at them ===== -/
theorem o_nat {n : Nat} (h : n < 2147483648) : (Int32.ofNat n).toNatClampNeg = n := Int32.toNatClampNeg_ofNat_of_lt (by omega)
theorem o_int {n : Nat} (h : n < 2147483648) : (Int32.ofNat n).toInt = n := Int32.toInt_ofNat_of_lt (by omega)
theorem o_nn {n : Nat} (h : n < 2147483648) : 0 ≤ Int32.ofNat n := Int32.zero_le_ofNat_of_lt (by omega)
theorem o_lit (n : Nat) : (no_index (OfNat.ofNat n : Int32)) = Int32.ofNat n := rfl
theorem o_le {a b : Nat} (ha : a < 2147483648) (hb : b < 2147483648) : (Int32.ofNat a ≤ Int32.ofNat b) = (a ≤ b) := propext (Int32.ofNat_le_iff_le (by omega) (by omega))
theorem o_lt {a b : Nat} (ha : a < 2147483648) (hb : b < 2147483648) : (Int32.ofNat a < Int32.ofNat b) = (a < b) := propext (Int32.ofNat_lt_iff_lt (by omega) (by omega))
theorem o_inj {a b : Nat} (ha : a < 2147483648) (hb : b < 2147483648) (h : Int32.ofNat a = Int32.ofNat b) : a = b := by
  have h1 := congrArg Int32.toNatClampNeg h
  rw [o_nat ha, o_nat hb] at h1
  exact h1
theorem o_eq {a b : Nat} (ha : a < 2147483648) (hb : b < 2147483648) : (Int32.ofNat a = Int32.ofNat b) = (a = b) := propext ⟨o_inj ha hb, fun h => by rw [h]⟩
theorem o_lel {a k : Nat} (ha : a < 2147483648) (hb : (OfNat.ofNat k : Nat) < 2147483648) : (Int32.ofNat a ≤ no_index (OfNat.ofNat k : Int32)) = (a ≤ OfNat.ofNat k) := o_le ha hb
theorem o_lle {a k : Nat} (ha : a < 2147483648) (hb : (OfNat.ofNat k : Nat) < 2147483648) : ((no_index (OfNat.ofNat k : Int32)) ≤ Int32.ofNat a) = (OfNat.ofNat k ≤ a) := o_le hb ha
theorem o_ltl {a k : Nat} (ha : a < 2147483648) (hb : (OfNat.ofNat k : Nat) < 2147483648) : (Int32.ofNat a < no_index (OfNat.ofNat k : Int32)) = (a < OfNat.ofNat k) := o_lt ha hb
theorem o_llt {a k : Nat} (ha : a < 2147483648) (hb : (OfNat.ofNat k : Nat) < 2147483648) : ((no_index (OfNat.ofNat k : Int32)) < Int32.ofNat a) = (OfNat.ofNat k < a) := o_lt hb ha
theorem o_eql {a k : Nat} (ha : a < 2147483648) (hb : (OfNat.ofNat k : Nat) < 2147483648) : (Int32.ofNat a = no_index (OfNat.ofNat k : Int32)) = (a = OfNat.ofNat k) := o_eq ha hb
theorem o_add (a b : Nat) : Int32.ofNat a + Int32.ofNat b = Int32.ofNat (a + b) := (Int32.ofNat_add a b).symm
theorem o_mul (a b : Nat) : Int32.ofNat a * Int32.ofNat b = Int32.ofNat (a * b) := (Int32.ofNat_mul a b).symm
theorem o_addl (a k : Nat) : Int32.ofNat a + no_index (OfNat.ofNat k : Int32) = Int32.ofNat (a + OfNat.ofNat k) := o_add a k
theorem o_ladd (a k : Nat) : (no_index (OfNat.ofNat k : Int32)) + Int32.ofNat a = Int32.ofNat (OfNat.ofNat k + a) := o_add k a
theorem o_mull (a k : Nat) : Int32.ofNat a * no_index (OfNat.ofNat k : Int32) = Int32.ofNat (a * OfNat.ofNat k) := o_mul a k
theorem o_lmul (a k : Nat) : (no_index (OfNat.ofNat k : Int32)) * Int32.ofNat a = Int32.ofNat (OfNat.ofNat k * a) := o_mul k a
theorem o_sub {a b : Nat} (h : b ≤ a) : Int32.ofNat a - Int32.ofNat b = Int32.ofNat (a - b) := (Int32.ofNat_sub a b h).symm
theorem o_subl {a k : Nat} (h : (OfNat.ofNat k : Nat) ≤ a) : Int32.ofNat a - no_index (OfNat.ofNat k : Int32) = Int32.ofNat (a - OfNat.ofNat k) := o_sub h
theorem o_div {a b : Nat} (ha : a < 2147483648) (hb : b < 2147483648) : Int32.ofNat a / Int32.ofNat b = Int32.ofNat (a / b) := (Int32.ofNat_div (by omega) (by omega)).symm
theorem o_divl {a k : Nat} (ha : a < 2147483648) (hb : (OfNat.ofNat k : Nat) < 2147483648) : Int32.ofNat a / no_index (OfNat.ofNat k : Int32) = Int32.ofNat (a / OfNat.ofNat k) := o_div ha hb
theorem o_rem {a k : Nat} (ha : a < 2147483648) (hb : (OfNat.ofNat k : Nat) < 2147483648) : Int32.ofNat a - Int32.ofNat a / no_index (OfNat.ofNat k : Int32) * no_index (OfNat.ofNat k : Int32) = Int32.ofNat (a % OfNat.ofNat k) := by
  rw [o_divl ha hb, o_mull, o_sub (Nat.div_mul_le_self a _)]
  congr 1
  have h := Nat.mod_add_div a (OfNat.ofNat k)
  rw [Nat.mul_comm] at h
  omega
/-- a checked number is a small one -/
theorem ex_o {x : Int32} {n : Nat} (hn : n < 2147483648) (h0 : 0 ≤ x) (h : x ≤ Int32.ofNat n) : ∃ k : Nat, k ≤ n ∧ x = Int32.ofNat k := by
  refine ⟨x.toNatClampNeg, ?_, (Int32.ofNat_toNatClampNeg x h0).symm⟩
  rw [← Int32.ofNat_toNatClampNeg x h0] at h
  rw [o_le (by have := Int32.toNatClampNeg_lt x; omega) hn] at h
  exact h
theorem ex_lt {x : Int32} {n : Nat} (hn : n < 2147483648) (h0 : 0 ≤ x) (h : x < Int32.ofNat n) : ∃ k : Nat, k < n ∧ x = Int32.ofNat k := by
  refine ⟨x.toNatClampNeg, ?_, (Int32.ofNat_toNatClampNeg x h0).symm⟩
  rw [← Int32.ofNat_toNatClampNeg x h0] at h
  rw [o_lt (by have := Int32.toNatClampNeg_lt x; omega) hn] at h
  exact h
/-- below n, or at most n - 1 -/
theorem le_pr {x : Int32} {n : Nat} (hn : n < 2147483648) : (x ≤ Int32.ofNat n - 1) = (x < Int32.ofNat n) := by
  apply propext
  rw [Int32.le_iff_toInt_le, Int32.lt_iff_toInt_lt, Int32.toInt_sub, o_int hn]
  have e : ((n : Int) - (1 : Int32).toInt).bmod (2 ^ 32) = (n : Int) - 1 := by
    show ((n : Int) - 1).bmod (2 ^ 32) = (n : Int) - 1
    rw [Int.bmod_eq_of_le] <;> omega
  rw [e]
  omega
theorem pr_lt {x : Int32} {n : Nat} (hn : n < 2147483648) : (Int32.ofNat n - 1 < x) = (Int32.ofNat n ≤ x) := by
  apply propext
  rw [← Int32.not_le, le_pr hn, Int32.not_lt]
theorem ix_o {n len : Nat} (h : n < len) (hl : len < 2147483648) : ix (Int32.ofNat n) len = true := by
  unfold ix
  rw [decide_eq_true_iff, o_nat (by omega)]
  rintro (h1 | h1)
  · exact (Int32.not_lt.mpr (o_nn (by omega))) h1
  · omega
theorem rdI_o {β : Type} {M : k_M} {a len n : Nat} {k : Int32 → Option β} (h : n < len) (hl : len < 2147483648) : rdI M a len (Int32.ofNat n) k = k (M.1 a n) := by
  unfold rdI
  rw [if_pos (ix_o h hl), o_nat (by omega)]
theorem rdI_l {β : Type} {M : k_M} {a len n : Nat} {k : Int32 → Option β} (h : (OfNat.ofNat n : Nat) < len) (hl : len < 2147483648) : rdI M a len (no_index (OfNat.ofNat n : Int32)) k = k (M.1 a (OfNat.ofNat n)) := rdI_o h hl
theorem wrI_o {β : Type} {M : k_M} {a len n : Nat} {v : Int32} {k : k_M → Option β} (h : n < len) (hl : len < 2147483648) : wrI M a len (Int32.ofNat n) v k = k (sI M a n v) := by
  unfold wrI
  rw [if_pos (ix_o h hl), o_nat (by omega)]
theorem wrI_l {β : Type} {M : k_M} {a len n : Nat} {v : Int32} {k : k_M → Option β} (h : (OfNat.ofNat n : Nat) < len) (hl : len < 2147483648) : wrI M a len (no_index (OfNat.ofNat n : Int32)) v k = k (sI M a (OfNat.ofNat n) v) := wrI_o h hl
theorem rdJ_o {β : Type} {M : k_M} {a len n : Nat} {k : Int64 → Option β} (h : n < len) (hl : len < 2147483648) : rdJ M a len (Int32.ofNat n) k = k (M.2.1 a n) := by
  unfold rdJ
  rw [if_pos (ix_o h hl), o_nat (by omega)]
theorem wrJ_o {β : Type} {M : k_M} {a len n : Nat} {v : Int64} {k : k_M → Option β} (h : n < len) (hl : len < 2147483648) : wrJ M a len (Int32.ofNat n) v k = k (sJ M a n v) := by
  unfold wrJ
  rw [if_pos (ix_o h hl), o_nat (by omega)]
theorem rdLL_o {β : Type} {a n : Nat} {k : Nat → Option β} (h : n < 4) : rdLL a (Int32.ofNat n) k = k (a + (n + 1)) := by
  unfold rdLL
  rw [if_pos (ix_o h (by omega)), o_nat (by omega)]
theorem rdR_o {β : Type} {M : k_M} {a len n : Nat} {k : Option Nat → Option β} (h : n < len) (hl : len < 2147483648) : rdR M a len (Int32.ofNat n) k = k (M.2.2.1 a n) := by
  unfold rdR
  rw [if_pos (ix_o h hl), o_nat (by omega)]
theorem wrR_o {β : Type} {M : k_M} {a len n : Nat} {q : Option Nat} {k : k_M → Option β} (h : n < len) (hl : len < 2147483648) (hq : okRb M q = true) : wrR M a len (Int32.ofNat n) q k = k (sR M a n q) := by
  unfold wrR
  rw [ix_o h hl, hq, o_nat (by omega)]
  rfl
theorem rdT_o {β : Type} {t n : Nat} {k : Int32 → Option β} (h : n < (k_stN t).2.2) (hl : (k_stN t).2.2 < 2147483648) : rdT t (Int32.ofNat n) k = k ((k_stV t).getD n 0) := by
  unfold rdT
  rw [if_pos (ix_o h hl), o_nat (by omega)]
theorem tsw_o {β : Type} {m n : Nat} {f : Nat → β} {d : β} (hm : m < 2147483648) : tsw (Int32.ofNat m) 0 n f d = if m < n then f m else d := by
  unfold tsw
  rw [o_int hm]
  by_cases h : m < n
  · rw [if_neg (by omega), if_pos h]
    congr 1 <;> omega
  · rw [if_pos (by omega), if_neg h]
theorem tsw_no {β : Type} {x : Int32} {n : Nat} {f : Nat → β} {d : β} (hn : n < 2147483647) (hx : ¬ (0 ≤ x ∧ x ≤ Int32.ofNat n)) : tsw x 0 (n + 1) f d = d := by
  unfold tsw
  rw [if_pos]
  rw [Int32.le_iff_toInt_le, Int32.le_iff_toInt_le, o_int (by omega)] at hx
  have e : (0 : Int32).toInt = 0 := rfl
  rw [e] at hx
  omega
/-- reads behind writes -/
theorem sI_g (M : k_M) (a j b i : Nat) (v : Int32) : (sI M a j v).1 b i = if b = a ∧ i = j then v else M.1 b i := by
  unfold sI k_up
  by_cases h : b = a
  · subst h
    by_cases h2 : i = j
    · simp [h2]
    · simp [h2]
  · simp [h]
theorem sI_c (M : k_M) (a j b : Nat) (v : Int32) : (sI M a j v).1 b = if b = a then k_up (M.1 a) j v else M.1 b := rfl
theorem sI_2 (M : k_M) (a j : Nat) (v : Int32) : (sI M a j v).2 = M.2 := rfl
theorem sJ_g (M : k_M) (a j b i : Nat) (v : Int64) : (sJ M a j v).2.1 b i = if b = a ∧ i = j then v else M.2.1 b i := by
  unfold sJ k_up
  by_cases h : b = a
  · subst h
    by_cases h2 : i = j
    · simp [h2]
    · simp [h2]
  · simp [h]
theorem sJ_1 (M : k_M) (a j : Nat) (v : Int64) : (sJ M a j v).1 = M.1 := rfl
theorem sJ_22 (M : k_M) (a j : Nat) (v : Int64) : (sJ M a j v).2.2 = M.2.2 := rfl
theorem sR_1 (M : k_M) (a j : Nat) (v : Option Nat) : (sR M a j v).1 = M.1 := rfl
theorem sR_21 (M : k_M) (a j : Nat) (v : Option Nat) : (sR M a j v).2.1 = M.2.1 := rfl
theorem sR_3 (M : k_M) (a j : Nat) (v : Option Nat) : (sR M a j v).2.2.2 = M.2.2.2 := rfl
theorem sR_g (M : k_M) (a j b i : Nat) (v : Option Nat) : (sR M a j v).2.2.1 b i = if b = a ∧ i = j then v else M.2.2.1 b i := by
  unfold sR k_up
  by_cases h : b = a
  · subst h
    by_cases h2 : i = j
    · simp [h2]
    · simp [h2]
  · simp [h]
theorem kM_ext {M N : k_M} (h1 : ∀ a j, M.1 a j = N.1 a j) (h2 : M.2 = N.2) : M = N := by
  obtain ⟨f, r⟩ := M
  obtain ⟨g, s⟩ := N
  have : f = g := by funext a j; exact h1 a j
  subst this
  simp only at h2
  rw [h2]
theorem bd_s {α β : Type} (a : α) (M : k_M) (k : α → k_M → Option β) : bd (some (a, M)) k = k a M := rfl
theorem ckZ_b {β : Type} {c : Prop} [Decidable c] {k : Option β} : ckZ (if c then 1 else 0) k = k := by
  unfold ckZ
  by_cases h : c
  · rw [if_pos h, if_pos (Or.inr rfl)]
  · rw [if_neg h, if_pos (Or.inl rfl)]
theorem in_e (p a b : Int32) (M : k_M) : f_X12_in p a b M = some (if a ≤ p ∧ p ≤ b then 1 else 0, M) := by
  unfold f_X12_in
  by_cases h : p < a
  · rw [if_pos h, if_neg]
    rintro ⟨h1, -⟩
    exact Int32.not_lt.mpr h1 h
  · by_cases h2 : b < p
    · rw [if_neg h, if_pos h2, if_neg]
      rintro ⟨-, h1⟩
      exact Int32.not_lt.mpr h1 h2
    · rw [if_neg h, if_neg h2, if_pos ⟨Int32.not_lt.mp h, Int32.not_lt.mp h2⟩]
theorem within_e (p a b : Int32) (M : k_M) : f_X11_within p a b M = some (if a ≤ p ∧ p ≤ b then 1 else 0, M) := in_e p a b M
theorem b_z {c : Prop} [Decidable c] : ((if c then (1 : Int32) else 0) = 0) = ¬ c := by
  by_cases h : c
  · simp [h]
  · simp [h]
theorem fu_ge {n : Nat} (h : n ≤ 1000000000) : n ≤ k_fu := h
theorem i1z : ((1 : Int32) = 0) = False := by decide
theorem i0z : ((0 : Int32) = 0) = True := by decide
theorem n_tt : (¬ True) = False := by decide
theorem n_ff : (¬ False) = True := by decide
