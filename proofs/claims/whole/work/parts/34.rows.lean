/-! ===== the pure layer: a city as one row of numbers, and what an act makes of it ===== -/
abbrev k_r : Type := Nat → Int32
def shk (k : Int32) : Int32 := if k = 2 then 0 else if k = 5 then 0 else if k = 1 then 1 else if k = 4 then 1 else if k = 3 then 2 else -1
def mth (d : Int32) : Int32 := d / 3 - d / 3 / 12 * 12
def offd (k g d wt : Int32) : Int32 := if k = 3 then (if wt = 0 then 0 else g) else if k = 4 then (if mth d - mth d / 2 * 2 = 0 then 2 * g else g) else g
def thr (k l : Int32) : Int32 := if k = 5 then l / 2 else l
def mn2 (t o : Int32) : Int32 := if t ≤ o then t else o
def amt (m rm : Int32) : Int32 := if 0 ≤ rm then (if rm ≤ m then rm else m) else 0
def usd (k g : Int32) : Int32 := if k = 1 then 0 else if k = 4 then 0 else if k = 5 then 2 * g else g
def gotR (pl lw : Nat → Int32) (wt : Int32) (p : Nat) (r : k_r) : Int32 := amt (mn2 (thr (pl (3 * p)) (r (5 + p))) (offd (pl (3 * p)) (pl (3 * p + 1)) (r 1) wt)) (lw 6 - r (2 + (shk (pl (3 * p))).toNatClampNeg))
def getR (pl lw : Nat → Int32) (wt : Int32) (p : Nat) (r : k_r) : k_r := if 0 ≤ shk (pl (3 * p)) then k_up (k_up r (2 + (shk (pl (3 * p))).toNatClampNeg) (r (2 + (shk (pl (3 * p))).toNatClampNeg) + gotR pl lw wt p r)) (5 + p) (r (5 + p) - usd (pl (3 * p)) (gotR pl lw wt p r)) else r
def eatR (lw : Nat → Int32) (f : Nat) (d : Int32) (r : k_r) : k_r := k_up (k_up (k_up (k_up r 1 (r 1 + d)) 2 (r 2 - d * lw f)) 3 (r 3 - d * (lw (f + 1) + lw 7))) 4 (r 4 - d * lw (f + 2))
def goR (wy : Nat → Int32) (v : Nat) (r : k_r) : k_r := k_up (k_up r 0 (if wy (5 * v) = r 0 then wy (5 * v + 1) else wy (5 * v))) (13 + v) (r (13 + v) - (if wy (5 * v + 3) = 9 then 0 else 1))
abbrev eOK (r : k_r) : Prop := ¬ r 2 < 0 ∧ ¬ r 3 < 0 ∧ ¬ r 4 < 0 ∧ r 1 ≤ 999
abbrev gOK (nw : Nat) (wy : Nat → Int32) (v : Nat) (r : k_r) : Prop := v < nw ∧ 0 < r (13 + v) ∧ (wy (5 * v + 4) >>> (mth (r 1) &&& 31)) &&& 1 = 1 ∧ (wy (5 * v) = r 0 ∨ wy (5 * v + 1) = r 0)
def stS (pl lw : Nat → Int32) (wt : Int32) (r : k_r) : Option k_r := if eOK (eatR lw 0 1 (getR pl lw wt (r 0).toNatClampNeg r)) then some (eatR lw 0 1 (getR pl lw wt (r 0).toNatClampNeg r)) else none
def stG (nw : Nat) (wy lw : Nat → Int32) (v : Nat) (r : k_r) : Option k_r := if gOK nw wy v r then (if eOK (eatR lw 3 (wy (5 * v + 2)) (goR wy v r)) then some (eatR lw 3 (wy (5 * v + 2)) (goR wy v r)) else none) else none
def wtR (rn d : Int32) : Int32 := if (rn >>> ((d &&& 31) &&& 31)) &&& 1 = 1 then 1 else 0
def wtM (rn wet d : Int32) : Int32 := if wet = 2 then wtR rn d else if wet = 1 then 1 else 0
def stW (nw : Nat) (pl wy lw : Nat → Int32) (rn wet : Int32) (act : Nat) (r : k_r) : Option k_r := if act = 0 then stS pl lw (wtM rn wet (r 1)) r else stG nw wy lw (act - 1) r
def dys (wy : Nat → Int32) (act : Nat) : Int32 := if act = 0 then 1 else wy (5 * (act - 1) + 2)
/-- the reference's memory with another row at d -/
def stR (M : k_M) (d : Nat) (r : k_r) : k_M := (fun a j => if a = 82 ∧ 25 * d ≤ j ∧ j < 25 * d + 25 then r (j - 25 * d) else M.1 a j, M.2)
theorem stR_in (M : k_M) (d : Nat) (r : k_r) {k : Nat} (h : k < 25) : (stR M d r).1 82 (25 * d + k) = r k := by
  show (if _ then _ else _) = _
  rw [if_pos (by omega)]
  congr 1
  omega
theorem stR_o (M : k_M) (d : Nat) (r : k_r) {a j : Nat} (h : ¬ (a = 82 ∧ 25 * d ≤ j ∧ j < 25 * d + 25)) : (stR M d r).1 a j = M.1 a j := if_neg h
theorem stR_c (M : k_M) (d : Nat) (r : k_r) {a j : Nat} (h : a ≠ 82) : (stR M d r).1 a j = M.1 a j := if_neg (by omega)
theorem stR_2 (M : k_M) (d : Nat) (r : k_r) : (stR M d r).2 = M.2 := rfl
theorem stR_w (M : k_M) (d : Nat) (r : k_r) {k : Nat} (v : Int32) (h : k < 25) : sI (stR M d r) 82 (25 * d + k) v = stR M d (k_up r k v) := by
  refine kM_ext (fun a j => ?_) rfl
  rw [sI_g]
  by_cases h1 : a = 82 ∧ j = 25 * d + k
  · rw [if_pos h1, h1.1, h1.2, stR_in _ _ _ h, k_up_self]
  · rw [if_neg h1]
    by_cases h2 : a = 82 ∧ 25 * d ≤ j ∧ j < 25 * d + 25
    · show (if _ then _ else _) = (if _ then _ else _)
      rw [if_pos h2, if_pos h2, k_up_ne _ _ (by omega)]
    · rw [stR_o _ _ _ h2, stR_o _ _ _ h2]
theorem stR_stR (M : k_M) (d : Nat) (r r' : k_r) : stR (stR M d r) d r' = stR M d r' := by
  refine kM_ext (fun a j => ?_) rfl
  by_cases h2 : a = 82 ∧ 25 * d ≤ j ∧ j < 25 * d + 25
  · show (if _ then _ else _) = (if _ then _ else _)
    rw [if_pos h2, if_pos h2]
  · rw [stR_o _ _ _ h2, stR_o _ _ _ h2, stR_o _ _ _ h2]
def rwM (M : k_M) (d : Nat) : k_r := fun k => if k < 25 then M.1 82 (25 * d + k) else 0
theorem rwM_e (M : k_M) (d : Nat) {k : Nat} (h : k < 25) : rwM M d k = M.1 82 (25 * d + k) := if_pos h
theorem goes_cp (d : Nat) (hd : d ≤ 42) (l2 l3 : Int32) (kx : Int32 → Int32 → Int32 → k_M → Option (Int32 × k_M)) : ∀ (m n j : Nat) (M0 M : k_M), j + m = 25 → m < n → (∀ k, k < j → M.1 82 (25 * (d + 1) + k) = M0.1 82 (25 * d + k)) → (∀ a i, ¬ (a = 82 ∧ 25 * (d + 1) ≤ i ∧ i < 25 * (d + 1) + 25) → M.1 a i = M0.1 a i) → M.2 = M0.2 →
    f_X12_goes_16 n l2 l3 (Int32.ofNat (25 * d)) (Int32.ofNat (25 * (d + 1))) (Int32.ofNat j) M kx = kx l2 l3 (Int32.ofNat (25 * (d + 1))) (stR M0 (d + 1) (rwM M0 d))
  | 0, n, j, M0, M, hj, hn, h1, h2, h3 => by
    obtain ⟨n, rfl⟩ : ∃ k, n = k + 1 := ⟨n - 1, by omega⟩
    have e : M = stR M0 (d + 1) (rwM M0 d) := by
      refine kM_ext (fun a i => ?_) h3
      by_cases h : a = 82 ∧ 25 * (d + 1) ≤ i ∧ i < 25 * (d + 1) + 25
      · obtain ⟨rfl, h4, h5⟩ := h
        obtain ⟨k, rfl⟩ : ∃ k, i = 25 * (d + 1) + k := ⟨i - 25 * (d + 1), by omega⟩
        rw [stR_in _ _ _ (by omega), h1 k (by omega), rwM_e _ _ (by omega)]
      · rw [stR_o _ _ _ h]
        exact h2 a i h
    show (if _ then _ else _) = _
    rw [if_pos (by rw [o_lle (by omega) (by omega)]; omega), e]
  | m + 1, n, j, M0, M, hj, hn, h1, h2, h3 => by
    obtain ⟨n, rfl⟩ : ∃ k, n = k + 1 := ⟨n - 1, by omega⟩
    show (if _ then _ else _) = _
    rw [if_neg (by rw [o_lle (by omega) (by omega)]; omega)]
    simp (disch := omega) only [o_add, rdI_o, wrI_o, o_addl]
    refine goes_cp d hd l2 l3 kx m n (j + 1) M0 _ (by omega) (by omega) (fun k hk => ?_) (fun a i h => ?_) h3
    · rw [sI_g]
      by_cases hkj : k = j
      · subst hkj
        rw [if_pos (by omega)]
        exact h2 _ _ (by omega)
      · rw [if_neg (by omega)]
        exact h1 k (by omega)
    · rw [sI_g, if_neg (by omega)]
      exact h2 a i h
theorem goes_cp0 (d : Nat) (hd : d ≤ 42) (l2 l3 : Int32) (M : k_M) : f_X12_goes (Int32.ofNat d) l2 l3 M = f_X12_goes_49 l2 l3 (Int32.ofNat (25 * (d + 1))) (stR M (d + 1) (rwM M d)) := by
  unfold f_X12_goes
  have e1 : (25 : Int32) * Int32.ofNat d = Int32.ofNat (25 * d) := o_lmul d 25
  have e2 : Int32.ofNat (25 * d) + 25 = Int32.ofNat (25 * (d + 1)) := o_addl (25 * d) 25
  simp only [bN]
  rw [e1, e2]
  exact goes_cp d hd l2 l3 _ 25 k_fu 0 M M (by omega) (fu_ge (by omega)) (fun k hk => by omega) (fun _ _ _ => rfl) rfl
