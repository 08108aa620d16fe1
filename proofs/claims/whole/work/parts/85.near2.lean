/-! ===== the pure layer: the rule Near, the way ===== -/
def oth (wy : Nat → Int32) (p v : Nat) : Nat := if wy (5 * v) = Int32.ofNat p then (wy (5 * v + 1)).toNatClampNeg else (wy (5 * v)).toNatClampNeg
def wdy (wy : Nat → Int32) (v : Nat) : Nat := (wy (5 * v + 2)).toNatClampNeg
def tch (wy : Nat → Int32) (p v : Nat) : Bool := wy (5 * v) == Int32.ofNat p || wy (5 * v + 1) == Int32.ofNat p
def cW (wy : Nat → Int32) (D : Nat → Nat) (p v : Nat) : Bool := decide (wdy wy v + D (oth wy p v) = D p)
section
variable {N : k_M} {np nw p g : Nat} {pl wy : Nat → Int32} {D : Nat → Nat}
theorem tch_c {v : Nat} (hF : WFl np nw pl wy) (hp : p < np) (hv : v < nw) : ∃ a b d, a < b ∧ b < np ∧ 1 ≤ d ∧ d ≤ 4 ∧ wy (5 * v) = Int32.ofNat a ∧ wy (5 * v + 1) = Int32.ofNat b ∧ wy (5 * v + 2) = Int32.ofNat d ∧ wdy wy v = d ∧ (tch wy p v = true ↔ (a = p ∨ b = p)) ∧ oth wy p v = (if a = p then b else a) := by
  have np8 := hF.1
  obtain ⟨a, b, d, a1, a2, a3, a4, a5, a6, a7, -⟩ := hF.2.2.2 v hv
  refine ⟨a, b, d, a1, a2, a3, a4, a5, a6, a7, ?_, ?_, ?_⟩
  · unfold wdy
    rw [a7, o_nat (by omega)]
  · unfold tch
    rw [a5, a6, Bool.or_eq_true, beq_iff_eq, beq_iff_eq, o_eq (by omega) (by omega), o_eq (by omega) (by omega)]
  · unfold oth
    rw [a5, a6, o_nat (by omega), o_nat (by omega)]
    by_cases h : a = p
    · rw [if_pos (by rw [h]), if_pos h]
    · rw [if_neg (by rw [o_eq (by omega) (by omega)]; exact h), if_neg h]
theorem towX (hL : LX 3 N np nw pl wy) (hF : WFl np nw pl wy) (hp : p < np) (h18 : ∀ v, v < np → N.1 18 v = Int32.ofNat (D v)) (hD : ∀ v, D v ≤ 10000) (kx62 : Int32 → k_M → Option (Int32 × k_M)) (kx71 : k_M → Option (Int32 × k_M)) : ∀ (l : List Nat) (k i : Nat), (wls nw wy p).drop i = l → i ≤ (wls nw wy p).length → l.length < k → f_X3_wayTowards_11 3 k (Int32.ofNat p) (Int32.ofNat i) N kx62 kx71 = match l.find? (cW wy D p) with
    | some v => kx62 (Int32.ofNat v) N
    | none => kx71 N
  | [], k, i, hl, hi, hk => by
    obtain ⟨k, rfl⟩ : ∃ q, k = q + 1 := ⟨k - 1, by omega⟩
    have np8 := hF.1
    have h4 : (wls nw wy p).length ≤ 4 := (hF.2.2.1 p hp).2.2.2
    have hle : (wls nw wy p).length ≤ i := List.drop_eq_nil_iff.mp hl
    rw [f_X3_wayTowards_11, rdI_o (by omega) (by omega), (hL.2.2.1 p hp).2.2.2.1, if_pos (by rw [o_le (by omega) (by omega)]; exact hle)]
    rfl
  | v :: t, k, i, hl, hi, hk => by
    obtain ⟨k, rfl⟩ : ∃ q, k = q + 1 := ⟨k - 1, by omega⟩
    have np8 := hF.1
    have nw12 := hF.2.1
    have h4 : (wls nw wy p).length ≤ 4 := (hF.2.2.1 p hp).2.2.2
    obtain ⟨h1, h2, h3⟩ := drop_c hl
    have hmem : v ∈ wls nw wy p := List.mem_of_mem_drop (i := i) (by rw [hl]; exact List.mem_cons_self)
    have hv : v < nw := List.mem_range.mp (List.mem_filter.mp hmem).1
    have ht : tch wy p v = true := (List.mem_filter.mp hmem).2
    obtain ⟨a, b, d, a1, a2, a3, a4, a5, a6, a7, a8, a9, a10⟩ := tch_c hF hp hv
    have hab := a9.mp ht
    have e4 : Int32.ofNat p * 4 + Int32.ofNat i = Int32.ofNat (4 * p + i) := by
      have : Int32.ofNat p * 4 = Int32.ofNat (p * 4) := o_mull p 4
      rw [this, o_add, Nat.mul_comm]
    have hwa := (hL.2.2.1 p hp).2.2.2.2 i h1
    rw [h2] at hwa
    obtain ⟨l1, l2, -⟩ := hL.2.2.2 v hv
    have hfe : f_X3_farEnd 3 (Int32.ofNat v) (Int32.ofNat p) N = some (Int32.ofNat (oth wy p v), N) := by
      unfold f_X3_farEnd
      rw [rdI_o (by omega) (by omega), rdI_o (by omega) (by omega), rdI_o (by omega) (by omega), a10]
      rcases l1 with ⟨q1, q2⟩ | ⟨q1, q2⟩
      · rw [q1, q2, a5, a6]
        by_cases h : a = p
        · rw [if_pos (by rw [h]), if_pos h]
        · rw [if_neg (by rw [o_eq (by omega) (by omega)]; exact h), if_neg h]
      · rw [q1, q2, a5, a6]
        by_cases h : a = p
        · rw [if_neg (by rw [o_eq (by omega) (by omega)]; omega), if_pos h]
        · rw [if_pos (by rw [o_eq (by omega) (by omega)]; omega), if_neg h]
    have ho : oth wy p v < np := by
      rw [a10]
      split <;> omega
    have hDo := hD (oth wy p v)
    have hDp := hD p
    rw [List.length_cons] at hk
    have ih := towX hL hF hp h18 hD kx62 kx71 t k (i + 1) h3 (by omega) (by omega)
    rw [f_X3_wayTowards_11, rdI_o (by omega) (by omega), (hL.2.2.1 p hp).2.2.2.1, if_neg (by rw [o_le (by omega) (by omega)]; omega), e4, rdI_o (by omega) (by omega), hwa, rdI_o (by omega) (by omega), l2, a7, hfe, bd_s, rdI_o (by omega) (by omega), h18 _ ho, rdI_o (by omega) (by omega), h18 _ hp, o_add, List.find?_cons]
    by_cases hc : d + D (oth wy p v) = D p
    · have ec : cW wy D p v = true := decide_eq_true (by rw [a8]; exact hc)
      rw [if_pos (by rw [hc]), ec]
    · have ec : cW wy D p v = false := decide_eq_false (by rw [a8]; exact hc)
      rw [if_neg (by rw [o_eq (by omega) (by omega)]; exact hc), ec, o_addl]
      exact ih
theorem leadsM (h78 : N.1 78 = wy) (hF : WFl np nw pl wy) (hp : p < np) (hg : g < np) (h94 : ∀ a, a < np → N.1 94 (8 * a + g) = enc (D a)) (hD : ∀ v, D v ≤ 10000) (hfin : D p < 10000) {v : Nat} (hv : v < nw) : f_X12_leads (Int32.ofNat v) (Int32.ofNat p) (Int32.ofNat g) N = some (if (tch wy p v && cW wy D p v) = true then 1 else 0, N) := by
  have np8 := hF.1
  have nw12 := hF.2.1
  obtain ⟨a, b, d, a1, a2, a3, a4, a5, a6, a7, a8, a9, a10⟩ := tch_c hF hp hv
  have its : ∀ j, j < 5 → f_X12_wayIts (Int32.ofNat v) (Int32.ofNat j) N = some (wy (5 * v + j), N) := fun j hj => by
    unfold f_X12_wayIts
    have : (5 : Int32) * Int32.ofNat v = Int32.ofNat (5 * v) := o_lmul v 5
    rw [this, o_add, rdI_o (by omega) (by omega), h78]
  have i0 : f_X12_wayIts (Int32.ofNat v) 0 N = some (Int32.ofNat a, N) := by rw [← a5]; exact its 0 (by omega)
  have i1 : f_X12_wayIts (Int32.ofNat v) 1 N = some (Int32.ofNat b, N) := by rw [← a6]; exact its 1 (by omega)
  have i2 : f_X12_wayIts (Int32.ofNat v) 2 N = some (Int32.ofNat d, N) := by rw [← a7]; exact its 2 (by omega)
  have ho : oth wy p v < np := by
    rw [a10]
    split <;> omega
  have hDo := hD (oth wy p v)
  have e47 : tch wy p v = true → f_X12_leads_47 (Int32.ofNat v) (Int32.ofNat p) (Int32.ofNat g) (Int32.ofNat (oth wy p v)) N = some (if (tch wy p v && cW wy D p v) = true then 1 else 0, N) := fun ht => by
    unfold f_X12_leads_47
    rw [i8, rdI_o (by omega) (by omega), h94 _ ho, ht, Bool.true_and]
    by_cases hi : D (oth wy p v) = 10000
    · have ec : cW wy D p v = false := decide_eq_false (by rw [a8]; omega)
      rw [if_pos (by rw [enc_lt hDo]; exact hi), ec]
      rfl
    · rw [if_neg (by rw [enc_lt hDo]; exact hi), i2, bd_s, rdI_o (by omega) (by omega), h94 _ ho, i8, rdI_o (by omega) (by omega), h94 _ hp, enc_f hi, enc_f (show ¬ D p = 10000 by omega), o_add]
      by_cases hc : d + D (oth wy p v) = D p
      · have ec : cW wy D p v = true := decide_eq_true (by rw [a8]; exact hc)
        rw [if_pos (by rw [hc]), ec]
        rfl
      · have ec : cW wy D p v = false := decide_eq_false (by rw [a8]; exact hc)
        rw [if_neg (by rw [o_eq (by omega) (by omega)]; exact hc), ec]
        rfl
  have e22 : tch wy p v = true → f_X12_leads_22 (Int32.ofNat v) (Int32.ofNat p) (Int32.ofNat g) N = some (if (tch wy p v && cW wy D p v) = true then 1 else 0, N) := fun ht => by
    have := e47 ht
    unfold f_X12_leads_22
    rw [i0, bd_s]
    by_cases h : a = p
    · rw [a10, if_pos h] at this
      rw [if_pos (by rw [h]), i1, bd_s]
      exact this
    · rw [a10, if_neg h] at this
      rw [if_neg (by rw [o_eq (by omega) (by omega)]; exact h), i0, bd_s]
      exact this
  unfold f_X12_leads
  rw [i0, bd_s]
  by_cases h : a = p
  · rw [if_pos (by rw [h])]
    exact e22 (a9.mpr (.inl h))
  · rw [if_neg (by rw [o_eq (by omega) (by omega)]; exact h), i1, bd_s]
    by_cases h2 : b = p
    · rw [if_pos (by rw [h2])]
      exact e22 (a9.mpr (.inr h2))
    · have et : tch wy p v = false := by
        cases hh : tch wy p v with
        | false => rfl
        | true => rcases a9.mp hh with q | q <;> contradiction
      rw [if_neg (by rw [o_eq (by omega) (by omega)]; exact h2), et]
      rfl
theorem towM (h78 : N.1 78 = wy) (hF : WFl np nw pl wy) (hp : p < np) (hg : g < np) (h94 : ∀ a, a < np → N.1 94 (8 * a + g) = enc (D a)) (hD : ∀ v, D v ≤ 10000) (hfin : D p < 10000) {v0 : Nat} (kx : Int32 → k_M → Option (Int32 × k_M)) : ∀ (m k v : Nat), v + m = nw → m < k → (List.range' v m).find? (fun v => tch wy p v && cW wy D p v) = some v0 → f_X12_nearAct_165 k (Int32.ofNat p) (Int32.ofNat g) (Int32.ofNat v) N kx = kx (Int32.ofNat v0) N
  | 0, k, v, hv, hk, hf => by
    rw [List.range'_zero] at hf
    cases hf
  | m + 1, k, v, hv, hk, hf => by
    obtain ⟨k, rfl⟩ : ∃ q, k = q + 1 := ⟨k - 1, by omega⟩
    rw [List.range'_succ, List.find?_cons] at hf
    rw [f_X12_nearAct_165, leadsM h78 hF hp hg h94 hD hfin (show v < nw by omega), bd_s]
    cases hc : (tch wy p v && cW wy D p v) with
    | true =>
      rw [hc] at hf
      cases hf
      rw [if_pos rfl, if_neg (by decide)]
    | false =>
      rw [hc] at hf
      rw [if_neg Bool.false_ne_true, if_pos rfl, o_addl]
      exact towM h78 hF hp hg h94 hD hfin kx m k (v + 1) (by omega) (by omega) hf
end
