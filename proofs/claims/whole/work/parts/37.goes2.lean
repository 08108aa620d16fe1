/-! ===== the pure layer: the reference's act, whole ===== -/
section
variable {M : k_M} {D p f s : Nat} {r : k_r}
theorem eats_e (hf : f ≤ 3) (hs : s < 3) : f_X12_eats (Int32.ofNat f) (Int32.ofNat s) (stR M D r) = some (M.1 79 (f + s) + (if s = 1 then M.1 79 7 else 0), stR M D r) := by
  unfold f_X12_eats f_X12_eats_24
  simp (disch := omega) only [o_add, rdI_o, rdI_l, stR_c, o_eql]
  by_cases h : s = 1
  · simp only [h, if_true]
  · simp only [h, if_false]
theorem goes317_s (hD : D ≤ 43) (hf : f ≤ 3) (hs : s < 3) (d t : Int32) (n : Nat) (kx : Int32 → Int32 → k_M → Option (Int32 × k_M)) {v : Int32} (hv : v = r (2 + s) - d * (M.1 79 (f + s) + (if s = 1 then M.1 79 7 else 0))) : f_X12_goes_317 (n + 1) (Int32.ofNat (25 * D)) d (Int32.ofNat f) t (Int32.ofNat s) (stR M D r) kx = f_X12_goes_317 n (Int32.ofNat (25 * D)) d (Int32.ofNat f) (if ¬ t = 0 ∧ ¬ v < 0 then 1 else 0) (Int32.ofNat (s + 1)) (stR M D (k_up r (2 + s) v)) kx := by
  have h3 : ¬ 3 ≤ s := by omega
  rw [f_X12_goes_317]
  simp (disch := omega) only [f_X12_goes_373, f_X12_goes_374, o_lle, h3, if_false, o_addl, o_add, Nat.add_assoc, rdI_o, wrI_o, stR_in, stR_w, eats_e hf hs, bd_s, k_up_self, ← hv]
  by_cases h1 : t = 0
  · simp only [h1, if_true, not_true_eq_false, false_and, if_false]
  · by_cases h2 : v < 0
    · simp only [h1, h2, if_true, if_false, not_true_eq_false, and_false]
    · simp only [h1, h2, if_true, if_false, not_false_eq_true, and_self]
theorem goes317_e (hD : D ≤ 43) (hf : f ≤ 3) (d t : Int32) (n : Nat) (kx : Int32 → Int32 → k_M → Option (Int32 × k_M)) : f_X12_goes_317 (n + 4) (Int32.ofNat (25 * D)) d (Int32.ofNat f) t (Int32.ofNat 0) (stR M D r) kx = kx d (if ¬ t = 0 ∧ ¬ r 2 - d * M.1 79 f < 0 ∧ ¬ r 3 - d * (M.1 79 (f + 1) + M.1 79 7) < 0 ∧ ¬ r 4 - d * M.1 79 (f + 2) < 0 then 1 else 0) (stR M D (k_up (k_up (k_up r 2 (r 2 - d * M.1 79 f)) 3 (r 3 - d * (M.1 79 (f + 1) + M.1 79 7))) 4 (r 4 - d * M.1 79 (f + 2)))) := by
  refine (goes317_s (s := 0) (v := r 2 - d * M.1 79 f) hD hf (by omega) d t (n + 3) kx (by rw [if_neg (by omega), Int32.add_zero]; rfl)).trans ?_
  refine (goes317_s (s := 1) (r := k_up r 2 (r 2 - d * M.1 79 f)) (v := r 3 - d * (M.1 79 (f + 1) + M.1 79 7)) hD hf (by omega) d _ (n + 2) kx rfl).trans ?_
  refine (goes317_s (s := 2) (r := k_up (k_up r 2 (r 2 - d * M.1 79 f)) 3 (r 3 - d * (M.1 79 (f + 1) + M.1 79 7))) (v := r 4 - d * M.1 79 (f + 2)) hD hf (by omega) d _ (n + 1) kx (by rw [if_neg (by omega), Int32.add_zero]; rfl)).trans ?_
  rw [f_X12_goes_317, if_pos (show (3 : Int32) ≤ Int32.ofNat (2 + 1) from by decide)]
  congr 1
  by_cases h1 : t = 0
  · simp only [h1, if_true, if_false, i1z, i0z, not_true_eq_false, false_and]
  · by_cases h2 : r 2 - d * M.1 79 f < 0
    · simp only [h1, h2, if_true, if_false, i1z, i0z, not_true_eq_false, false_and, and_false]
    · by_cases h3 : r 3 - d * (M.1 79 (f + 1) + M.1 79 7) < 0
      · simp only [h1, h2, h3, if_true, if_false, i1z, i0z, not_true_eq_false, false_and, and_false, not_false_eq_true, true_and]
      · simp only [h1, h2, h3, if_true, if_false, i1z, i0z, not_true_eq_false, false_and, and_false, not_false_eq_true, true_and, and_self]
theorem goes275_e (hD : D ≤ 43) (hf : f ≤ 3) (d : Int32) : f_X12_goes_275 (Int32.ofNat (25 * D)) d (Int32.ofNat f) (stR M D r) = some (if eOK (eatR (M.1 79) f d r) then d else 0, stR M D (eatR (M.1 79) f d r)) := by
  have hk : k_fu = 999999996 + 4 := rfl
  have e0 : ∀ t N, f_X12_goes_298 (Int32.ofNat (25 * D)) d (Int32.ofNat f) t N = rdI N 82 1100 (Int32.ofNat (25 * D) + 1) (fun v1 => wrI N 82 1100 (Int32.ofNat (25 * D) + 1) (v1 + d) (fun M2 => f_X12_goes_317 (999999996 + 4) (Int32.ofNat (25 * D)) d (Int32.ofNat f) t (Int32.ofNat 0) M2 (fun l6_ l9_ M_ => f_X12_goes_382 l6_ l9_ M_))) := fun _ _ => rfl
  unfold f_X12_goes_275
  simp (disch := omega) only [e0, o_addl, rdI_o, wrI_o, stR_in, stR_w, goes317_e hD hf, f_X12_goes_382]
  have e1 : ∀ a : Int32, k_up r 1 a 2 = r 2 := fun _ => rfl
  have e2 : ∀ a : Int32, k_up r 1 a 3 = r 3 := fun _ => rfl
  have e3 : ∀ a : Int32, k_up r 1 a 4 = r 4 := fun _ => rfl
  have e4 : k_up (k_up (k_up (k_up r 1 (r 1 + d)) 2 (r 2 - d * M.1 79 f)) 3 (r 3 - d * (M.1 79 (f + 1) + M.1 79 7))) 4 (r 4 - d * M.1 79 (f + 2)) = eatR (M.1 79) f d r := rfl
  rw [e1, e2, e3, e4]
  unfold eOK
  rw [eatR_1, eatR_2, eatR_3, eatR_4]
  by_cases h1 : 999 < r 1 + d
  · have h1' : ¬ r 1 + d ≤ 999 := by rw [Int32.not_le]; exact h1
    simp only [h1, h1', if_true, i0z, not_true_eq_false, false_and, and_false, if_false]
  · have h1' : r 1 + d ≤ 999 := Int32.not_lt.mp h1
    simp only [h1, h1', if_false, i1z, not_false_eq_true, true_and, and_true]
    by_cases h2 : ¬ r 2 - d * M.1 79 f < 0 ∧ ¬ r 3 - d * (M.1 79 (f + 1) + M.1 79 7) < 0 ∧ ¬ r 4 - d * M.1 79 (f + 2) < 0
    · simp only [h2, not_false_eq_true, and_self, if_true, i1z, if_false]
    · simp only [h2, if_false, i0z, if_true]
end
theorem opt_res {c : Prop} [Decidable c] {d : Int32} {N : k_r → k_M} {x : k_r} : ∃ r' : k_r, some (if c then d else 0, N x) = some (if (if c then some x else none : Option k_r).isSome = true then d else 0, N r') ∧ ∀ r1, (if c then some x else none : Option k_r) = some r1 → r' = r1 := by
  refine ⟨x, ?_, ?_⟩
  · by_cases h : c
    · rw [if_pos h, if_pos h]; rfl
    · rw [if_neg h, if_neg h]; rfl
  · intro r1 h
    by_cases hc : c
    · rw [if_pos hc] at h; cases h; rfl
    · rw [if_neg hc] at h; cases h
theorem isPl_e {M : k_M} {n : Nat} (hn : n ≤ 100) (h : M.1 76 0 = Int32.ofNat n) (x : Int32) : f_X12_isPlace x M = some (if 0 ≤ x ∧ x < Int32.ofNat n then 1 else 0, M) := by
  unfold f_X12_isPlace
  simp (disch := omega) only [in_e, bd_s, h, le_pr, ckZ_b]
theorem isWy_e {M : k_M} {n : Nat} (hn : n ≤ 100) (h : M.1 76 2 = Int32.ofNat n) (x : Int32) : f_X12_isWay x M = some (if 0 ≤ x ∧ x < Int32.ofNat n then 1 else 0, M) := by
  unfold f_X12_isWay
  simp (disch := omega) only [in_e, bd_s, h, le_pr, ckZ_b]
theorem wIts_e {M : k_M} {D v k : Nat} {r : k_r} (hv : v < 12) (hk : k < 5) : f_X12_wayIts (Int32.ofNat v) (Int32.ofNat k) (stR M D r) = some (M.1 78 (5 * v + k), stR M D r) := by
  unfold f_X12_wayIts
  simp (disch := omega) only [o_lmul, o_add, rdI_o, stR_c]
section
variable {M : k_M} {D v nw : Nat} {r : k_r}
theorem goes241_e (hD : D ≤ 43) (hv : v < 12) (d x : Int32) : f_X12_goes_241 (Int32.ofNat (25 * D)) d 3 (Int32.ofNat v) (Int32.ofNat (25 * D)) x (stR M D r) = some (if eOK (eatR (M.1 79) 3 d (k_up (k_up r 0 x) (13 + v) (r (13 + v) - (if M.1 78 (5 * v + 3) = 9 then 0 else 1)))) then d else 0, stR M D (eatR (M.1 79) 3 d (k_up (k_up r 0 x) (13 + v) (r (13 + v) - (if M.1 78 (5 * v + 3) = 9 then 0 else 1))))) := by
  have e3 : ∀ N, f_X12_wayIts (Int32.ofNat v) 3 N = f_X12_wayIts (Int32.ofNat v) (Int32.ofNat 3) N := fun _ => rfl
  have g : ∀ r, f_X12_goes_275 (Int32.ofNat (25 * D)) d 3 (stR M D r) = _ := fun r => goes275_e (f := 3) (r := r) hD (by omega) d
  unfold f_X12_goes_241 f_X12_goes_273
  simp (disch := omega) only [wrI_o, stR_w0, o_addl, o_add, Nat.add_assoc, rdI_o, stR_in, k_up_ne, e3, wIts_e, bd_s, stR_w, g]
  split <;> rfl
theorem goes194_e (hD : D ≤ 43) (hv : v < 12) : f_X12_goes_194 (Int32.ofNat (25 * D)) (Int32.ofNat v) (r 0) (stR M D r) = some (if eOK (eatR (M.1 79) 3 (M.1 78 (5 * v + 2)) (goR (M.1 78) v r)) then M.1 78 (5 * v + 2) else 0, stR M D (eatR (M.1 79) 3 (M.1 78 (5 * v + 2)) (goR (M.1 78) v r))) := by
  have e0 : ∀ N, f_X12_wayIts (Int32.ofNat v) 0 N = f_X12_wayIts (Int32.ofNat v) (Int32.ofNat 0) N := fun _ => rfl
  have e1 : ∀ N, f_X12_wayIts (Int32.ofNat v) 1 N = f_X12_wayIts (Int32.ofNat v) (Int32.ofNat 1) N := fun _ => rfl
  have e2 : ∀ N, f_X12_wayIts (Int32.ofNat v) 2 N = f_X12_wayIts (Int32.ofNat v) (Int32.ofNat 2) N := fun _ => rfl
  unfold f_X12_goes_194 goR
  simp (disch := omega) only [e0, e1, e2, wIts_e, bd_s, Nat.add_zero, goes241_e hD hv]
  split <;> rfl
theorem goesW_e (hD : D ≤ 43) (hnw : nw ≤ 12) (hw : M.1 76 2 = Int32.ofNat nw) (wet : Int32) (hv : v ≤ 100) : ∃ r' : k_r, f_X12_goes_49 (Int32.ofNat (v + 1)) wet (Int32.ofNat (25 * D)) (stR M D r) = some (if (stG nw (M.1 78) (M.1 79) v r).isSome = true then M.1 78 (5 * v + 2) else 0, stR M D r') ∧ ∀ r1, stG nw (M.1 78) (M.1 79) v r = some r1 → r' = r1 := by
  have hv1 : ¬ v + 1 = 0 := by omega
  unfold f_X12_goes_49
  simp (disch := omega) only [bN, o_subl, Nat.add_sub_cancel, o_eql, hv1, if_false, rdI_o, stR_in0, isWy_e (M := stR M D r) (n := nw) (by omega) (by rw [stR_c _ _ _ (by omega)]; exact hw), bd_s, o_nn, true_and, o_lt]
  by_cases hvn : v < nw
  · simp (disch := omega) only [hvn, if_true, i1z, if_false, f_X12_goes_116, o_addl, o_add, Nat.add_assoc, rdI_o, stR_in]
    have e4 : ∀ N, f_X12_wayIts (Int32.ofNat v) 4 N = f_X12_wayIts (Int32.ofNat v) (Int32.ofNat 4) N := fun _ => rfl
    have e0 : ∀ N, f_X12_wayIts (Int32.ofNat v) 0 N = f_X12_wayIts (Int32.ofNat v) (Int32.ofNat 0) N := fun _ => rfl
    have e1 : ∀ N, f_X12_wayIts (Int32.ofNat v) 1 N = f_X12_wayIts (Int32.ofNat v) (Int32.ofNat 1) N := fun _ => rfl
    unfold stG gOK
    by_cases hb : r (13 + v) ≤ 0
    · have hb' : ¬ 0 < r (13 + v) := Int32.not_lt.mpr hb
      simp only [hb, hb', if_true, false_and, and_false, if_false]
      exact ⟨r, rfl, fun _ h => by cases h⟩
    · have hb' : 0 < r (13 + v) := Int32.not_le.mp hb
      simp (disch := omega) only [hb, hb', if_false, hvn, true_and, f_X12_goes_133, e4, wIts_e, bd_s, o_addl, rdI_o, stR_in, mMonth_e]
      by_cases hm : (M.1 78 (5 * v + 4) >>> (mth (r 1) &&& 31)) &&& 1 = 1
      · simp (disch := omega) only [hm, if_true, true_and, f_X12_goes_161, i1z, if_false, e0, e1, wIts_e, bd_s, Nat.add_zero, goes194_e hD (show v < 12 by omega)]
        by_cases h0 : M.1 78 (5 * v) = r 0
        · simp only [h0, if_true, true_or]
          exact opt_res
        · by_cases h1 : M.1 78 (5 * v + 1) = r 0
          · simp only [h0, h1, if_true, if_false, or_true]
            exact opt_res
          · simp only [h0, h1, if_false, or_self]
            exact ⟨r, rfl, fun _ h => by cases h⟩
      · simp only [hm, if_false, false_and, f_X12_goes_160, f_X12_goes_161, if_true]
        exact ⟨r, rfl, fun _ h => by cases h⟩
  · simp only [hvn, if_false, i0z, if_true, f_X12_goes_160, f_X12_goes_161]
    have hs : stG nw (M.1 78) (M.1 79) v r = none := by
      unfold stG gOK
      exact if_neg (fun h => hvn h.1)
    rw [hs]
    exact ⟨r, rfl, fun _ h => by cases h⟩
end
/-- the reference's act: from row d to row d + 1 -/
theorem goes_e {M : k_M} {d p nw act : Nat} {wet : Int32} (hd : d ≤ 42) (hp : p < 8) (h0 : M.1 82 (25 * d) = Int32.ofNat p) (hk : Bn (M.1 77 (3 * p)) 5) (hnw : nw ≤ 12) (hw : M.1 76 2 = Int32.ofNat nw) (ha : act ≤ 100) :
    ∃ r' : k_r, f_X12_goes (Int32.ofNat d) (Int32.ofNat act) wet M = some (if (stW nw (M.1 77) (M.1 78) (M.1 79) (M.1 76 6) wet act (rwM M d)).isSome = true then dys (M.1 78) act else 0, stR M (d + 1) r') ∧ ∀ r1, stW nw (M.1 77) (M.1 78) (M.1 79) (M.1 76 6) wet act (rwM M d) = some r1 → r' = r1 := by
  rw [goes_cp0 d hd]
  have hr0 : rwM M d 0 = Int32.ofNat p := (rwM_e M d (by omega)).trans h0
  cases act with
  | zero =>
    have e : f_X12_goes_49 (Int32.ofNat 0) wet (Int32.ofNat (25 * (d + 1))) (stR M (d + 1) (rwM M d)) = bd (f_X12_gets (Int32.ofNat (25 * (d + 1))) wet (stR M (d + 1) (rwM M d))) (fun _ M6 => f_X12_goes_275 (Int32.ofNat (25 * (d + 1))) 1 (Int32.ofNat 0) M6) := rfl
    rw [e, gets_e (by omega) hp hr0 hk, bd_s, goes275_e (by omega) (by omega)]
    unfold stW stS dys
    rw [if_pos rfl, if_pos rfl, hr0, o_nat (by omega)]
    exact opt_res
  | succ v =>
    have h := goesW_e (M := M) (D := d + 1) (v := v) (r := rwM M d) (by omega) hnw hw wet (by omega)
    have e1 : stW nw (M.1 77) (M.1 78) (M.1 79) (M.1 76 6) wet (v + 1) (rwM M d) = stG nw (M.1 78) (M.1 79) v (rwM M d) := rfl
    have e2 : dys (M.1 78) (v + 1) = M.1 78 (5 * v + 2) := rfl
    rw [e1, e2]
    exact h
