/-! ===== the pure layer: the rule Near ===== -/
def lsh (r : k_r) : Nat := if r (2 + (if r 2 ≤ r 3 then 0 else 1)) ≤ r 4 then (if r 2 ≤ r 3 then 0 else 1) else 2
theorem lsh_lt (r : k_r) : lsh r < 3 := by
  unfold lsh
  repeat' split
  all_goals omega
theorem leastX {N : k_M} : f_X10_leastShed 3 N = some (Int32.ofNat (lsh (rwX N 3)), N) := by
  have hs : ∀ i, i < 3 → N.1 (3 + 17) i = rwX N 3 (2 + i) := fun i hi => by
    unfold rwX
    rw [if_neg (by omega), if_neg (by omega), if_pos (by omega), Nat.add_sub_cancel_left]
  have hk : k_fu = 999999997 + 1 + 1 + 1 := rfl
  have e3 : ∀ n l1 M kx, f_X10_leastShed_4 3 (n + 1) l1 (Int32.ofNat 3) M kx = kx l1 M := fun n l1 M kx => by
    rw [f_X10_leastShed_4, if_pos (by decide)]
  have st : ∀ (n a b : Nat) (kx : Int32 → k_M → Option (Int32 × k_M)), a < 3 → b < 3 → f_X10_leastShed_4 3 (n + 1) (Int32.ofNat a) (Int32.ofNat b) N kx = f_X10_leastShed_4 3 n (Int32.ofNat (if rwX N 3 (2 + a) ≤ rwX N 3 (2 + b) then a else b)) (Int32.ofNat (b + 1)) N kx := fun n a b kx ha hb => by
    rw [f_X10_leastShed_4, if_neg (by rw [o_lle (by omega) (by omega)]; omega), rdI_o (by omega) (by omega), rdI_o (by omega) (by omega), hs a ha, hs b hb]
    unfold f_X10_leastShed_26
    rw [o_addl]
    by_cases hh : rwX N 3 (2 + a) ≤ rwX N 3 (2 + b)
    · rw [if_pos hh, if_pos hh]
    · rw [if_neg hh, if_neg hh]
  unfold f_X10_leastShed
  have e1 : (1 : Int32) = Int32.ofNat 1 := rfl
  rw [hk, e0z, e1, st _ 0 1 _ (by omega) (by omega), st _ _ 2 _ (by split <;> omega) (by omega), e3]
  unfold f_X10_leastShed_32 lsh
  rfl
theorem leastM {N : k_M} (kx : Int32 → k_M → Option (Int32 × k_M)) : f_X12_nearAct_4 k_fu 0 1 N kx = kx (Int32.ofNat (lsh (rwM N 0))) N := by
  have hs : ∀ i, i < 3 → N.1 82 (2 + i) = rwM N 0 (2 + i) := fun i hi => by rw [rwM_e _ _ (by omega), Nat.mul_zero, Nat.zero_add]
  have hk : k_fu = 999999997 + 1 + 1 + 1 := rfl
  have e3 : ∀ n l1 M kx, f_X12_nearAct_4 (n + 1) l1 (Int32.ofNat 3) M kx = kx l1 M := fun n l1 M kx => by
    rw [f_X12_nearAct_4, if_pos (by decide)]
  have e2 : ∀ a : Nat, (2 : Int32) + Int32.ofNat a = Int32.ofNat (2 + a) := fun a => o_ladd a 2
  have st : ∀ (n a b : Nat) (kx : Int32 → k_M → Option (Int32 × k_M)), a < 3 → b < 3 → f_X12_nearAct_4 (n + 1) (Int32.ofNat a) (Int32.ofNat b) N kx = f_X12_nearAct_4 n (Int32.ofNat (if rwM N 0 (2 + a) ≤ rwM N 0 (2 + b) then a else b)) (Int32.ofNat (b + 1)) N kx := fun n a b kx ha hb => by
    rw [f_X12_nearAct_4, if_neg (by rw [o_lle (by omega) (by omega)]; omega), e2, e2, rdI_o (by omega) (by omega), rdI_o (by omega) (by omega), hs a ha, hs b hb]
    unfold f_X12_nearAct_33
    rw [o_addl]
    by_cases hh : rwM N 0 (2 + a) ≤ rwM N 0 (2 + b)
    · rw [if_pos hh, if_pos hh]
    · rw [if_neg hh, if_neg hh]
  have e1 : (1 : Int32) = Int32.ofNat 1 := rfl
  rw [hk, e0z, e1, st _ 0 1 _ (by omega) (by omega), st _ _ 2 _ (by split <;> omega) (by omega), e3]
  rfl
/-- the nearest place for a shed -/
def gls (D : Nat → Nat) (g : Option Nat) : Nat := match g with
  | none => 10000
  | some j => D j
def gid (g : Option Nat) : Int32 := match g with
  | none => -1
  | some j => Int32.ofNat j
def nst (pl : Nat → Int32) (D : Nat → Nat) (s : Nat) : Nat → Nat → Option Nat → Option Nat
  | 0, _, g => g
  | t + 1, i, g => nst pl D s t (i + 1) (if shk (pl (3 * i)) = Int32.ofNat s ∧ D i < gls D g then some i else g)
theorem nst_ok {pl : Nat → Int32} {D : Nat → Nat} {s np : Nat} : ∀ (t i : Nat) (g : Option Nat), i + t = np → (∀ j, g = some j → j < np ∧ D j < 10000) → ∀ j, nst pl D s t i g = some j → j < np ∧ D j < 10000
  | 0, i, g, hi, h => h
  | t + 1, i, g, hi, h => by
    refine nst_ok t (i + 1) _ (by omega) (fun j hj => ?_)
    split at hj
    · rename_i hc
      cases hj
      refine ⟨by omega, ?_⟩
      have h2 := hc.2
      unfold gls at h2
      cases g with
      | none => exact h2
      | some j' =>
        have := (h j' rfl).2
        have h3 : D i < D j' := h2
        omega
    · exact h j hj
theorem nearX {N : k_M} {np nw s : Nat} {pl wy : Nat → Int32} {D : Nat → Nat} (hL : LX 3 N np nw pl wy) (hF : WFl np nw pl wy) (hs : s < 3) (h17 : ∀ v, v < np → N.1 17 v = Int32.ofNat (D v)) (hD : ∀ v, D v ≤ 10000) : ∀ (t k i : Nat) (g : Option Nat), i + t = np → t < k → f_X3_nearestFor_19 3 k (Int32.ofNat s) (gid g) (Int32.ofNat (gls D g)) (Int32.ofNat i) N (fun l3_ M_ => f_X3_nearestFor_73 3 l3_ M_) = some (gid (nst pl D s t i g), N)
  | 0, k, i, g, hi, hk => by
    obtain ⟨k, rfl⟩ : ∃ q, k = q + 1 := ⟨k - 1, by omega⟩
    have np8 := hF.1
    rw [f_X3_nearestFor_19, hL.1, if_pos (by rw [o_le (by omega) (by omega)]; omega)]
    rfl
  | t + 1, k, i, g, hi, hk => by
    obtain ⟨k, rfl⟩ : ∃ q, k = q + 1 := ⟨k - 1, by omega⟩
    have np8 := hF.1
    obtain ⟨kd, k5, hkd⟩ := (hF.2.2.1 i (by omega)).1
    have hgl : gls D g ≤ 10000 := by
      cases g with
      | none => exact Nat.le_refl _
      | some j => exact hD j
    have hDi := hD i
    have ih := fun g => nearX hL hF hs h17 hD t k (i + 1) g (by omega) (by omega)
    have keep : f_X3_nearestFor_67 3 (Int32.ofNat s) (gid g) (Int32.ofNat (gls D g)) (Int32.ofNat i) N ((fun l1_ l3_ l4_ l5_ M_ => f_X3_nearestFor_19 3 k l1_ l3_ l4_ l5_ M_ (fun l3_ M_ => f_X3_nearestFor_73 3 l3_ M_))) (fun l3_ M_ => f_X3_nearestFor_73 3 l3_ M_) = some (gid (nst pl D s t (i + 1) g), N) := by
      unfold f_X3_nearestFor_67
      rw [o_addl]
      exact ih g
    rw [f_X3_nearestFor_19, hL.1, if_neg (by rw [o_le (by omega) (by omega)]; omega), rdI_o (by omega) (by omega), (hL.2.2.1 i (by omega)).1, hkd, rdT2_e k5, nst, hkd]
    by_cases hc : shk (Int32.ofNat kd) = Int32.ofNat s
    · rw [if_pos hc, rdI_o (by omega) (by omega), h17 i (by omega)]
      by_cases hd : gls D g ≤ D i
      · rw [if_pos (by rw [o_le (by omega) (by omega)]; exact hd), if_neg (fun q => by omega)]
        exact keep
      · rw [if_neg (by rw [o_le (by omega) (by omega)]; exact hd), if_pos ⟨hc, by omega⟩, rdI_o (by omega) (by omega), h17 i (by omega)]
        unfold f_X3_nearestFor_67
        rw [o_addl]
        exact ih (some i)
    · rw [if_neg hc, if_neg (fun q => hc q.1)]
      exact keep
theorem nearM {N : k_M} {np nw s p : Nat} {pl wy : Nat → Int32} {D : Nat → Nat} (h0 : N.1 76 0 = Int32.ofNat np) (h77 : N.1 77 = pl) (hF : WFl np nw pl wy) (hs : s < 3) (hp : p < np) (h94 : ∀ v, v < np → N.1 94 (8 * p + v) = enc (D v)) (hD : ∀ v, D v ≤ 10000) (kx : Int32 → Int32 → k_M → Option (Int32 × k_M)) : ∀ (t k i : Nat) (g : Option Nat), i + t = np → t < k → (∀ j, g = some j → j < np ∧ D j < 10000) → f_X12_nearAct_56 k (Int32.ofNat s) (Int32.ofNat p) (gid g) (Int32.ofNat i) N kx = kx (Int32.ofNat p) (gid (nst pl D s t i g)) N
  | 0, k, i, g, hi, hk, hg => by
    obtain ⟨k, rfl⟩ : ∃ q, k = q + 1 := ⟨k - 1, by omega⟩
    have np8 := hF.1
    rw [f_X12_nearAct_56, h0, if_pos (by rw [o_le (by omega) (by omega)]; omega)]
    rfl
  | t + 1, k, i, g, hi, hk, hg => by
    obtain ⟨k, rfl⟩ : ∃ q, k = q + 1 := ⟨k - 1, by omega⟩
    have np8 := hF.1
    obtain ⟨kd, k5, hkd⟩ := (hF.2.2.1 i (by omega)).1
    have hDi := hD i
    have ih := fun g hg => nearM h0 h77 hF hs hp h94 hD kx t k (i + 1) g (by omega) (by omega) hg
    have keep : f_X12_nearAct_143 (Int32.ofNat s) (Int32.ofNat p) (gid g) (Int32.ofNat i) N ((fun l1_ l2_ l3_ l4_ M_ => f_X12_nearAct_56 k l1_ l2_ l3_ l4_ M_ kx)) kx = kx (Int32.ofNat p) (gid (nst pl D s t (i + 1) g)) N := by
      unfold f_X12_nearAct_143 f_X12_nearAct_144
      rw [o_addl]
      exact ih g hg
    have take : D i < 10000 → f_X12_nearAct_138 (Int32.ofNat s) (Int32.ofNat p) (Int32.ofNat i) N ((fun l1_ l2_ l3_ l4_ M_ => f_X12_nearAct_56 k l1_ l2_ l3_ l4_ M_ kx)) kx = kx (Int32.ofNat p) (gid (nst pl D s t (i + 1) (some i))) N := fun hf => by
      unfold f_X12_nearAct_138 f_X12_nearAct_144
      rw [o_addl]
      exact ih (some i) (fun j hj => by cases hj; exact ⟨by omega, hf⟩)
    have i0 : f_X12_its (Int32.ofNat i) 0 N = some (Int32.ofNat kd, N) := by
      have := its_e (N := N) (p := i) (j := 0) (by omega) (by omega)
      rw [h77, Nat.add_zero, hkd] at this
      exact this
    rw [f_X12_nearAct_56, h0, if_neg (by rw [o_le (by omega) (by omega)]; omega), i8, rdI_o (by omega) (by omega), h94 i (by omega), i0, bd_s, shedOf_e, bd_s, nst, hkd]
    by_cases hc : shk (Int32.ofNat kd) = Int32.ofNat s
    · rw [if_pos hc]
      by_cases hf : D i = 10000
      · rw [if_pos (by rw [enc_lt hDi]; exact hf), if_neg (fun q => by
          have := q.2
          cases g with
          | none => have h3 : D i < 10000 := this; omega
          | some j => have h3 : D i < D j := this; have := (hg j rfl).2; omega)]
        unfold f_X12_nearAct_102 f_X12_nearAct_103
        rw [if_pos rfl]
        exact keep
      · rw [if_neg (by rw [enc_lt hDi]; exact hf)]
        unfold f_X12_nearAct_103
        rw [if_neg (show ¬ (1 : Int32) = 0 by decide)]
        cases g with
        | none =>
          rw [if_pos (show gid none < 0 by decide), if_pos ⟨hc, show D i < 10000 by omega⟩]
          exact take (by omega)
        | some j =>
          obtain ⟨j1, j2⟩ := hg j rfl
          have ej : gid (some j) = Int32.ofNat j := rfl
          rw [if_neg (by rw [ej]; exact Int32.not_lt.mpr (o_nn (by omega))), if_pos (by rw [ej]; exact o_nn (by omega))]
          unfold f_X12_nearAct_133
          have e8 : (8 : Int32) * Int32.ofNat p + gid (some j) = Int32.ofNat (8 * p + j) := by rw [ej]; exact i8 p j
          rw [e8, rdI_o (by omega) (by omega), h94 j j1, enc_f (show ¬ D j = 10000 by omega), enc_f hf]
          by_cases hd : D j ≤ D i
          · rw [if_pos (by rw [o_le (by omega) (by omega)]; exact hd), if_neg (fun q => by have h3 : D i < D j := q.2; omega)]
            exact keep
          · rw [if_neg (by rw [o_le (by omega) (by omega)]; exact hd), if_pos ⟨hc, show D i < D j by omega⟩]
            exact take (by omega)
    · rw [if_neg hc, if_neg (fun q => hc q.1)]
      unfold f_X12_nearAct_102 f_X12_nearAct_103
      rw [if_pos rfl]
      exact keep
