/-! ===== the pure layer: looking ahead in the reference ===== -/
theorem worthAt_s (D s : Nat) (hD : D ≤ 43) (hs : s < 3) (M : k_M) (n : Nat) (b : Int32) (kx : Int32 → k_M → Option (Int32 × k_M)) : f_X12_worthAt_18 (n + 1) (Int32.ofNat D) b (Int32.ofNat s) M kx = f_X12_worthAt_18 n (Int32.ofNat D) (b + M.1 82 (25 * D + (2 + s)) * M.1 79 (8 + s)) (Int32.ofNat (s + 1)) M kx := by
  have h3 : ¬ 3 ≤ s := by omega
  rw [f_X12_worthAt_18]
  simp (disch := omega) only [o_lle, h3, if_false, o_lmul, o_addl, o_add, o_ladd, Nat.add_assoc, rdI_o, bN]
theorem worthAt_4 (D : Nat) (hD : D ≤ 43) (M : k_M) (n : Nat) (b : Int32) (kx : Int32 → k_M → Option (Int32 × k_M)) : f_X12_worthAt_18 (n + 4) (Int32.ofNat D) b (Int32.ofNat 0) M kx = kx (b + M.1 82 (25 * D + 2) * M.1 79 8 + M.1 82 (25 * D + 3) * M.1 79 9 + M.1 82 (25 * D + 4) * M.1 79 10) M := by
  refine (worthAt_s D 0 hD (by omega) M (n + 3) _ _).trans ?_
  refine (worthAt_s D 1 hD (by omega) M (n + 2) _ _).trans ?_
  refine (worthAt_s D 2 hD (by omega) M (n + 1) _ _).trans ?_
  rw [f_X12_worthAt_18, if_pos (show (3 : Int32) ≤ Int32.ofNat (2 + 1) from by decide)]
theorem worthAt_e (D : Nat) (hD : D ≤ 43) (M : k_M) : f_X12_worthAt (Int32.ofNat D) M = some (wth (M.1 79) (rwM M D), M) := by
  have hk : k_fu = 999999996 + 4 := rfl
  have e0 : (0 : Int32) = Int32.ofNat 0 := rfl
  unfold f_X12_worthAt
  simp (disch := omega) only [rdI_l, bN]
  rw [hk, e0, worthAt_4 D hD]
  unfold wth f_X12_worthAt_55
  rw [rwM_e _ _ (by omega), rwM_e _ _ (by omega), rwM_e _ _ (by omega)]
theorem goesN {N : k_M} {d np nw act : Nat} (hd : d ≤ 42) (hw : N.1 76 2 = Int32.ofNat nw) (hS : Sd np nw (N.1 77) (N.1 78) (N.1 79) (rwM N d)) (ha : act ≤ 100) : ∃ r' : k_r, f_X12_goes (Int32.ofNat d) (Int32.ofNat act) 2 N = some (if (stp nw (N.1 77) (N.1 78) (N.1 79) (N.1 76 6) act (rwM N d)).isSome = true then dys (N.1 78) act else 0, stR N (d + 1) r') ∧ ∀ r1, stp nw (N.1 77) (N.1 78) (N.1 79) (N.1 76 6) act (rwM N d) = some r1 → r' = r1 := by
  have h := goesM (M := N) (d := d) (q := rwM N (d + 1)) hd hw hS ha 2
  rw [← stR_self N (d + 1)] at h
  exact h
/-- the best of all, where a row is told from its beginning -/
def gws (pre : List Nat) (c : Nat → Int32 × List Nat) (s : Int32 × List Nat) (a : Nat) : Int32 × List Nat := if (c a).1 ≤ s.1 then s else ((c a).1, pre ++ a :: (c a).2)
def cmb (pre : List Nat) (s : Int32 × List Nat) (o : Int32 × List Nat) : Int32 × List Nat := if o.1 ≤ s.1 then s else (o.1, pre ++ o.2)
theorem cmb_fold (pre : List Nat) (c : Nat → Int32 × List Nat) (s0 : Int32 × List Nat) : ∀ (l : List Nat) (o : Int32 × List Nat), l.foldl (gws pre c) (cmb pre s0 o) = cmb pre s0 (l.foldl (ows c) o)
  | [], o => rfl
  | a :: l, o => by
    rw [List.foldl_cons, List.foldl_cons, ← cmb_fold pre c s0 l]
    congr 1
    unfold gws ows cmb
    by_cases h1 : o.1 ≤ s0.1
    · simp only [h1, if_true]
      by_cases h2 : (c a).1 ≤ o.1
      · have h3 := Int32.le_trans h2 h1
        simp only [h2, h3, h1, if_true]
      · simp only [h2, if_false]
    · simp only [h1, if_false]
      by_cases h2 : (c a).1 ≤ o.1
      · simp only [h2, h1, if_true, if_false]
      · have h3 : ¬ (c a).1 ≤ s0.1 := fun hh => h2 (Int32.le_trans hh (Int32.le_of_lt (Int32.not_le.mp h1)))
        simp only [h2, h3, if_false]
theorem fold_gws (pre : List Nat) (c : Nat → Int32 × List Nat) (s0 : Int32 × List Nat) (h : -1 ≤ s0.1) (l : List Nat) : l.foldl (gws pre c) s0 = cmb pre s0 (l.foldl (ows c) (-1, [])) := by
  rw [← cmb_fold]
  congr 1
  unfold cmb
  rw [if_pos h]
theorem gws_ge {pre : List Nat} {c : Nat → Int32 × List Nat} {s : Int32 × List Nat} {a : Nat} (h : -1 ≤ s.1) : -1 ≤ (gws pre c s a).1 := by
  unfold gws
  by_cases hc : (c a).1 ≤ s.1
  · rw [if_pos hc]; exact h
  · rw [if_neg hc]
    exact Int32.le_trans h (Int32.le_of_lt (Int32.not_le.mp hc))
/-- what the look writes -/
def dsc (a j : Nat) : Prop := (a = 82 ∧ 25 ≤ j) ∨ a = 87 ∨ a = 88 ∨ (a = 76 ∧ j = 26)
def DI (M N : k_M) (d : Nat) (rr : Nat → k_r) (tr : Nat → Nat) (P : List Nat) : Prop :=
  (∀ a j, ¬ dsc a j → N.1 a j = M.1 a j) ∧ N.2 = M.2 ∧ (∀ k, k ≤ d → rwM N k = rr k) ∧ (∀ k, k < d → N.1 87 k = Int32.ofNat (tr k)) ∧ N.1 76 26 = Int32.ofNat P.length ∧ P.length ≤ 7 ∧ ∀ i, i < P.length → N.1 88 i = Int32.ofNat (P.getD i 0)
theorem DI_FR {M N : k_M} {d : Nat} {rr : Nat → k_r} {tr : Nat → Nat} {P : List Nat} (h : DI M N d rr tr P) : FR M N := ⟨fun a j hs => h.1 a j (by unfold scr rlv at hs; unfold dsc; omega), fun _ _ _ => by rw [h.2.1], fun _ _ => by rw [h.2.1], by rw [h.2.1]⟩
theorem rwM_stR_ne (M : k_M) {d k : Nat} (r : k_r) (h : k ≠ d) : rwM (stR M d r) k = rwM M k := by
  funext j
  by_cases hj : j < 25
  · rw [rwM_e _ _ hj, rwM_e _ _ hj, stR_o _ _ _ (by omega)]
  · unfold rwM
    rw [if_neg hj, if_neg hj]
theorem rwM_sI (M : k_M) {a j : Nat} (v : Int32) (h : a ≠ 82) (k : Nat) : rwM (sI M a j v) k = rwM M k := by
  funext i
  by_cases hi : i < 25
  · rw [rwM_e _ _ hi, rwM_e _ _ hi, sI_g, if_neg (by omega)]
  · unfold rwM
    rw [if_neg hi, if_neg hi]
theorem DI_stR {M N : k_M} {d : Nat} {rr : Nat → k_r} {tr : Nat → Nat} {P : List Nat} (h : DI M N d rr tr P) (r : k_r) : DI M (stR N (d + 1) r) d rr tr P := by
  obtain ⟨h1, h2, h3, h4, h5, h6, h7⟩ := h
  exact ⟨fun a j hs => by rw [stR_o _ _ _ (by unfold dsc at hs; omega)]; exact h1 a j hs, h2, fun k hk => by rw [rwM_stR_ne _ _ (by omega)]; exact h3 k hk, fun k hk => by rw [stR_c _ _ _ (by omega)]; exact h4 k hk, by rw [stR_c _ _ _ (by omega)]; exact h5, h6, fun i hi => by rw [stR_c _ _ _ (by omega)]; exact h7 i hi⟩
theorem DI_tr {M N : k_M} {d e : Nat} {rr : Nat → k_r} {tr : Nat → Nat} {P : List Nat} (h : DI M N d rr tr P) (v : Int32) (he : d ≤ e) : DI M (sI N 87 e v) d rr tr P := by
  obtain ⟨h1, h2, h3, h4, h5, h6, h7⟩ := h
  exact ⟨fun a j hs => by rw [sI_g, if_neg (by unfold dsc at hs; omega)]; exact h1 a j hs, h2, fun k hk => by rw [rwM_sI _ _ (by omega)]; exact h3 k hk, fun k hk => by rw [sI_g, if_neg (by omega)]; exact h4 k hk, by rw [sI_g, if_neg (by omega)]; exact h5, h6, fun i hi => by rw [sI_g, if_neg (by omega)]; exact h7 i hi⟩
/-- the row of acts is written down -/
theorem copyB (b e : Int32) (d : Nat) (hd : d ≤ 6) : ∀ (m n j : Nat) (N0 N : k_M), j + m = d + 1 → m < n → (∀ k, k < j → N.1 88 k = N0.1 87 k) → (∀ a i, a ≠ 88 → N.1 a i = N0.1 a i) → N.2 = N0.2 → ∃ N', (∀ kx, f_X12_findBest_165 n b (Int32.ofNat d) e (Int32.ofNat j) N kx = kx b (Int32.ofNat d) e N') ∧ (∀ k, k ≤ d → N'.1 88 k = N0.1 87 k) ∧ (∀ a i, a ≠ 88 → N'.1 a i = N0.1 a i) ∧ N'.2 = N0.2
  | 0, n, j, N0, N, hj, hn, h1, h2, h3 => by
    obtain ⟨n, rfl⟩ : ∃ k, n = k + 1 := ⟨n - 1, by omega⟩
    refine ⟨N, fun kx => ?_, fun k hk => h1 k (by omega), h2, h3⟩
    rw [f_X12_findBest_165, if_pos (by rw [o_lt (by omega) (by omega)]; omega)]
  | m + 1, n, j, N0, N, hj, hn, h1, h2, h3 => by
    obtain ⟨n, rfl⟩ : ∃ k, n = k + 1 := ⟨n - 1, by omega⟩
    obtain ⟨N', g1, g2⟩ := copyB b e d hd m n (j + 1) N0 (sI N 88 j (N.1 87 j)) (by omega) (by omega) (fun k hk => by
      rw [sI_g]
      by_cases hkj : k = j
      · subst hkj
        rw [if_pos (by omega)]
        exact h2 _ _ (by omega)
      · rw [if_neg (by omega)]
        exact h1 k (by omega)) (fun a i h => by
      rw [sI_g, if_neg (by omega)]
      exact h2 a i h) h3
    refine ⟨N', fun kx => ?_, g2⟩
    rw [f_X12_findBest_165, if_neg (by rw [o_lt (by omega) (by omega)]; omega)]
    simp (disch := omega) only [rdI_o, wrI_o, o_addl]
    exact g1 kx
theorem DI_in {M N : k_M} {d : Nat} {rr : Nat → k_r} {tr : Nat → Nat} {P : List Nat} (h : DI M N d rr tr P) {r : k_r} (a : Nat) (hr : rwM N (d + 1) = r) (ha : N.1 87 d = Int32.ofNat a) : DI M N (d + 1) (fun k => if k = d + 1 then r else rr k) (fun k => if k = d then a else tr k) P := by
  obtain ⟨h1, h2, h3, h4, h5, h6, h7⟩ := h
  refine ⟨h1, h2, fun k hk => ?_, fun k hk => ?_, h5, h6, h7⟩
  · by_cases hh : k = d + 1
    · subst hh
      simp only [if_true]
      exact hr
    · simp only [hh, if_false]
      exact h3 k (by omega)
  · by_cases hh : k = d
    · subst hh
      simp only [if_true]
      exact ha
    · simp only [hh, if_false]
      exact h4 k (by omega)
theorem DI_out {M N : k_M} {d : Nat} {rr : Nat → k_r} {tr : Nat → Nat} {P : List Nat} {r : k_r} {a : Nat} (h : DI M N (d + 1) (fun k => if k = d + 1 then r else rr k) (fun k => if k = d then a else tr k) P) : DI M N d rr tr P ∧ N.1 87 d = Int32.ofNat a := by
  obtain ⟨h1, h2, h3, h4, h5, h6, h7⟩ := h
  refine ⟨⟨h1, h2, fun k hk => ?_, fun k hk => ?_, h5, h6, h7⟩, ?_⟩
  · have := h3 k (by omega)
    simp only [show ¬ k = d + 1 by omega, if_false] at this
    exact this
  · have := h4 k (by omega)
    simp only [show ¬ k = d by omega, if_false] at this
    exact this
  · have := h4 d (by omega)
    simp only [if_true] at this
    exact this
theorem prf_s {d a : Nat} {tr : Nat → Nat} : (List.range (d + 1)).map (fun k => if k = d then a else tr k) = (List.range d).map tr ++ [a] := by
  rw [List.range_succ, List.map_append]
  congr 1
  · apply List.map_congr_left
    intro k hk
    rw [if_neg (by have := List.mem_range.mp hk; omega)]
  · simp only [List.map_cons, List.map_nil, if_true]
