/-! ===== the pure layer: the reference's act ===== -/
theorem stR_in0 (M : k_M) (d : Nat) (r : k_r) : (stR M d r).1 82 (25 * d) = r 0 := stR_in M d r (k := 0) (by omega)
theorem stR_w0 (M : k_M) (d : Nat) (r : k_r) (v : Int32) : sI (stR M d r) 82 (25 * d) v = stR M d (k_up r 0 v) := stR_w M d r (k := 0) v (by omega)
theorem mEnd_e (k : Int32) (M : k_M) : f_X12_isEndless k M = some (if k = 1 ∨ k = 4 then 1 else 0, M) := by
  unfold f_X12_isEndless f_X12_isEndless_10
  by_cases h1 : k = 1
  · simp [h1]
  · by_cases h2 : k = 4
    · simp [h2]
    · simp [h1, h2]
theorem shedOf_e (k : Int32) (M : k_M) : f_X12_shedOf k M = some (shk k, M) := by
  unfold f_X12_shedOf f_X12_shedOf_10 shk
  by_cases h2 : k = 2
  · simp [h2]
  · by_cases h5 : k = 5
    · simp [h5]
    · by_cases h1 : k = 1
      · simp [h1, mEnd_e, bd]
      · by_cases h4 : k = 4
        · simp [h4, mEnd_e, bd]
        · by_cases h3 : k = 3
          · simp [h3, mEnd_e, bd]
          · simp [h1, h2, h3, h4, h5, mEnd_e, bd]
theorem byLeft35_e (l t : Int32) (M : k_M) : f_X12_byLeft_35 l t M = some (mn2 t l, M) := by
  unfold f_X12_byLeft_35 mn2
  split <;> rfl
section
variable {M : k_M} {D p s : Nat} {r : k_r}
theorem byLeft_e (hD : D ≤ 43) (hp : p < 8) (m : Int32) : f_X12_byLeft (Int32.ofNat (25 * D)) (Int32.ofNat p) m (stR M D r) = some (mn2 (thr (M.1 77 (3 * p)) (r (5 + p))) m, stR M D r) := by
  unfold f_X12_byLeft f_X12_its thr
  simp (disch := omega) only [o_lmul, o_addl, Nat.add_zero, rdI_o, bd_s, stR_c, o_add, Nat.add_assoc, stR_in, byLeft35_e]
  split <;> rfl
theorem byRoom_e (hD : D ≤ 43) (hs : s < 3) (m : Int32) : f_X12_byRoom (Int32.ofNat (25 * D)) (Int32.ofNat s) m (stR M D r) = some (amt m (M.1 79 6 - r (2 + s)), stR M D r) := by
  unfold f_X12_byRoom amt bN
  simp (disch := omega) only [o_addl, rdI_o, rdI_l, stR_c, o_add, Nat.add_assoc, stR_in]
  split
  · split <;> rfl
  · rfl
theorem gets95_e (hD : D ≤ 43) (hp : p < 8) (hs : s < 3) {k : Int32} (hk : M.1 77 (3 * p) = k) (t0 : Int32) : f_X12_gets_95 (Int32.ofNat (25 * D)) (Int32.ofNat p) k (Int32.ofNat s) t0 (stR M D r) = some ((), stR M D (k_up (k_up r (2 + s) (r (2 + s) + amt (mn2 (thr k (r (5 + p))) t0) (M.1 79 6 - r (2 + s)))) (5 + p) (r (5 + p) - usd k (amt (mn2 (thr k (r (5 + p))) t0) (M.1 79 6 - r (2 + s)))))) := by
  unfold f_X12_gets_95
  simp (disch := omega) only [byLeft_e hD hp, hk, bd_s, byRoom_e hD hs, o_addl, o_add, rdI_o, wrI_o, Nat.add_assoc, stR_in, stR_w, mEnd_e, f_X12_gets_168, k_up_ne]
  unfold usd
  by_cases h1 : k = 1
  · simp [h1]
  · by_cases h4 : k = 4
    · simp [h4]
    · by_cases h5 : k = 5
      · simp [h5]
      · simp [h1, h4, h5]
theorem isWet_e (d wet : Int32) : f_X12_isWet d wet (stR M D r) = some (wtM (M.1 76 6) wet d, stR M D r) := by
  unfold f_X12_isWet wtM wtR
  rw [stR_c _ _ _ (by omega)]
  split
  · split <;> rfl
  · split <;> rfl
theorem mMonth_e (d : Int32) (N : k_M) : f_X12_monthOf d N = some (mth d, N) := rfl
theorem gets_e (hD : D ≤ 43) (hp : p < 8) (h0 : r 0 = Int32.ofNat p) (hk : Bn (M.1 77 (3 * p)) 5) (wet : Int32) : f_X12_gets (Int32.ofNat (25 * D)) wet (stR M D r) = some ((), stR M D (getR (M.1 77) (M.1 79) (wtM (M.1 76 6) wet (r 1)) p r)) := by
  obtain ⟨k, k5, hk⟩ := hk
  have hv : Int32.ofNat k = M.1 77 (3 * p) := hk.symm
  unfold f_X12_gets f_X12_its
  simp (disch := omega) only [rdI_o, stR_in0, h0, o_lmul, o_addl, Nat.add_zero, bd_s, stR_c, shedOf_e, stR_in, hk]
  have hc : k = 0 ∨ k = 1 ∨ k = 2 ∨ k = 3 ∨ k = 4 ∨ k = 5 := by omega
  have g95 := fun (s : Nat) (hs : s < 3) (t : Int32) => gets95_e (M := M) (D := D) (p := p) (s := s) (r := r) hD hp hs hk t
  unfold getR gotR offd
  rw [hk]
  rcases hc with rfl | rfl | rfl | rfl | rfl | rfl
  · rfl
  · exact g95 1 (by omega) _
  · exact g95 0 (by omega) _
  · refine Eq.trans (b := f_X12_gets_71 (Int32.ofNat (25 * D)) wet (Int32.ofNat p) (Int32.ofNat 3) (Int32.ofNat 2) (r 1) (M.1 77 (3 * p + 1)) (stR M D r)) rfl ?_
    unfold f_X12_gets_71
    rw [if_pos (show Int32.ofNat 3 = 3 from rfl), isWet_e, bd_s]
    by_cases hw : wtM (M.1 76 6) wet (r 1) = 0
    · simp only [hw, if_true]
      exact g95 2 (by omega) _
    · simp only [hw, if_false]
      exact g95 2 (by omega) _
  · refine Eq.trans (b := if mth (r 1) - mth (r 1) / 2 * 2 = 0 then f_X12_gets_71 (Int32.ofNat (25 * D)) wet (Int32.ofNat p) (Int32.ofNat 4) (Int32.ofNat 1) (r 1) (2 * M.1 77 (3 * p + 1)) (stR M D r) else f_X12_gets_71 (Int32.ofNat (25 * D)) wet (Int32.ofNat p) (Int32.ofNat 4) (Int32.ofNat 1) (r 1) (M.1 77 (3 * p + 1)) (stR M D r)) rfl ?_
    by_cases hw : mth (r 1) - mth (r 1) / 2 * 2 = 0
    · simp only [hw, if_true]
      exact g95 1 (by omega) _
    · simp only [hw, if_false]
      exact g95 1 (by omega) _
  · exact g95 0 (by omega) _
end
