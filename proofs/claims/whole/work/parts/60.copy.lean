/-! ===== the pure layer: copies ===== -/
theorem copy_e {a1 a2 n : Nat} (hn : n ≤ 100) (M : k_M) : ∃ M', f_X3_copy a1 n a2 n M = some ((), M') ∧ (∀ j, j < n → M'.1 a2 j = M.1 a1 j) ∧ (∀ a j, ¬ (a = a2 ∧ j < n) → M'.1 a j = M.1 a j) ∧ M'.2 = M.2 := by
  have hm : mnI (Int32.ofNat n) (Int32.ofNat n) = Int32.ofNat n := by
    unfold mnI
    rw [if_neg Int32.lt_irrefl]
  unfold f_X3_copy acp
  rw [hm]
  have z : (0 : Int32).toNatClampNeg = 0 := by decide
  rw [z, o_nat (by omega), if_pos]
  · refine ⟨_, rfl, fun j hj => ?_, fun a j hh => ?_, rfl⟩
    · show (if a2 = a2 then va_cpy (M.1 a1) (M.1 a2) 0 0 n else M.1 a2) j = _
      rw [if_pos rfl]
      unfold va_cpy
      rw [if_pos (by omega), Nat.sub_zero, Nat.zero_add]
    · show (if a = a2 then va_cpy (M.1 a1) (M.1 a2) 0 0 n else M.1 a) j = _
      by_cases ha : a = a2
      · rw [if_pos ha]
        unfold va_cpy
        rw [if_neg (by omega), ha]
      · rw [if_neg ha]
  · refine ⟨⟨by decide, by decide, Int32.not_lt.mpr (o_nn (by omega))⟩, by omega, by omega⟩
/-- the World at w holds, at the places K, what the one at v held -/
def CP (w v : Nat) (K : Nat → Nat → Prop) (M M' : k_M) : Prop := (∀ i j, K i j → M'.1 (w + i) j = M.1 (v + i) j) ∧ (∀ a j, (∀ i, a = w + i → ¬ K i j) → M'.1 a j = M.1 a j)
def dsj (w v : Nat) : Prop := v + 20 ≤ w ∨ w + 20 ≤ v
section
variable {w v : Nat} {K : Nat → Nat → Prop} {M M1 : k_M}
theorem CP_0 : CP w v (fun _ _ => False) M M := ⟨fun _ _ h => h.elim, fun _ _ _ => rfl⟩
theorem CP_src (hd : dsj w v) (hK : ∀ i j, K i j → i < 20) (h : CP w v K M M1) {i j : Nat} (hi : i < 20) : M1.1 (v + i) j = M.1 (v + i) j := h.2 _ _ (fun i' e hk => by have := hK i' j hk; unfold dsj at hd; omega)
theorem CP_c (hd : dsj w v) (hK : ∀ i j, K i j → i < 20) (h : CP w v K M M1) (i n : Nat) (hi : i < 20) (hn : n ≤ 100) : ∃ M2, f_X3_copy (v + i) n (w + i) n M1 = some ((), M2) ∧ CP w v (fun i' j => K i' j ∨ (i' = i ∧ j < n)) M M2 ∧ (∀ i' j, (K i' j ∨ (i' = i ∧ j < n)) → i' < 20) ∧ M2.2 = M1.2 := by
  obtain ⟨M2, g1, g2, g3, g4⟩ := copy_e (a1 := v + i) (a2 := w + i) hn M1
  refine ⟨M2, g1, ⟨fun i' j hk => ?_, fun a j ha => ?_⟩, fun i' j hk => ?_, g4⟩
  · by_cases hh : i' = i ∧ j < n
    · rw [hh.1, g2 j hh.2, CP_src hd hK h hi]
    · rw [g3 _ _ (by omega)]
      exact h.1 i' j (hk.resolve_right hh)
  · rw [g3 _ _ (fun hh => ha i hh.1 (.inr ⟨rfl, hh.2⟩))]
    exact h.2 a j (fun i' e hk => ha i' e (.inl hk))
  · rcases hk with hk | hk
    · exact hK i' j hk
    · omega
theorem CP_s (hd : dsj w v) (hK : ∀ i j, K i j → i < 20) (h : CP w v K M M1) (i j0 : Nat) (hi : i < 20) : CP w v (fun i' j => K i' j ∨ (i' = i ∧ j = j0)) M (sI M1 (w + i) j0 (M1.1 (v + i) j0)) ∧ (∀ i' j, (K i' j ∨ (i' = i ∧ j = j0)) → i' < 20) := by
  refine ⟨⟨fun i' j hk => ?_, fun a j ha => ?_⟩, fun i' j hk => ?_⟩
  · rw [sI_g]
    by_cases hh : i' = i ∧ j = j0
    · rw [if_pos (by omega), hh.1, hh.2, CP_src hd hK h hi]
    · rw [if_neg (by omega)]
      exact h.1 i' j (hk.resolve_right hh)
  · rw [sI_g, if_neg (fun hh => ha i hh.1 (.inr ⟨rfl, hh.2⟩))]
    exact h.2 a j (fun i' e hk => ha i' e (.inl hk))
  · rcases hk with hk | hk
    · exact hK i' j hk
    · omega
end
/-- what a Land's copy covers -/
def KL (i j : Nat) : Prop := (i = 1 ∧ (j = 0 ∨ j = 7)) ∨ (2 ≤ i ∧ i < 7 ∧ j < 8) ∨ (i = 7 ∧ j < 32) ∨ (8 ≤ i ∧ i < 14 ∧ j < 12)
theorem CP_iff {w v : Nat} {K K' : Nat → Nat → Prop} {M M' : k_M} (hk : ∀ i j, K i j ↔ K' i j) (h : CP w v K M M') : CP w v K' M M' := ⟨fun i j q => h.1 i j ((hk i j).mpr q), fun a j q => h.2 a j (fun i e q2 => q i e ((hk i j).mp q2))⟩
theorem copyL {w v : Nat} (hd : dsj w v) (M : k_M) : ∃ M', f_X3_copyFrom w v M = some ((), M') ∧ CP w v KL M M' ∧ M'.2 = M.2 := by
  have c0 := CP_0 (w := w) (v := v) (M := M)
  obtain ⟨c1, k1⟩ := CP_s hd (fun _ _ h => h.elim) c0 1 0 (by omega)
  obtain ⟨M2, e2, c2, k2, d2⟩ := CP_c hd k1 c1 2 8 (by omega) (by omega)
  obtain ⟨M3, e3, c3, k3, d3⟩ := CP_c hd k2 c2 3 8 (by omega) (by omega)
  obtain ⟨M4, e4, c4, k4, d4⟩ := CP_c hd k3 c3 4 8 (by omega) (by omega)
  obtain ⟨M5, e5, c5, k5, d5⟩ := CP_c hd k4 c4 5 8 (by omega) (by omega)
  obtain ⟨M6, e6, c6, k6, d6⟩ := CP_c hd k5 c5 6 8 (by omega) (by omega)
  obtain ⟨M7, e7, c7, k7, d7⟩ := CP_c hd k6 c6 7 32 (by omega) (by omega)
  obtain ⟨c8, k8⟩ := CP_s hd k7 c7 1 7 (by omega)
  obtain ⟨M9, e9, c9, k9, d9⟩ := CP_c hd k8 c8 8 12 (by omega) (by omega)
  obtain ⟨M10, e10, c10, k10, d10⟩ := CP_c hd k9 c9 9 12 (by omega) (by omega)
  obtain ⟨M11, e11, c11, k11, d11⟩ := CP_c hd k10 c10 10 12 (by omega) (by omega)
  obtain ⟨M12, e12, c12, k12, d12⟩ := CP_c hd k11 c11 11 12 (by omega) (by omega)
  obtain ⟨M13, e13, c13, k13, d13⟩ := CP_c hd k12 c12 12 12 (by omega) (by omega)
  obtain ⟨M14, e14, c14, k14, d14⟩ := CP_c hd k13 c13 13 12 (by omega) (by omega)
  refine ⟨M14, ?_, CP_iff (fun i j => ?_) c14, ?_⟩
  · unfold f_X3_copyFrom
    rw [bN_e, e2, bd_s, e3, bd_s, e4, bd_s, e5, bd_s, e6, bd_s, e7, bd_s, bN_e, e9, bd_s, e10, bd_s, e11, bd_s, e12, bd_s, e13, bd_s, e14, bd_s]
  · unfold KL
    simp only [false_or]
    omega
  · rw [d14, d13, d12, d11, d10, d9, sI_2, d7, d6, d5, d4, d3, d2, sI_2]
/-- what a World's copy covers -/
def KW (i j : Nat) : Prop := KL i j ∨ (i = 16 ∧ j < 13) ∨ (i = 0 ∧ (j = 2 ∨ j = 3 ∨ j = 4 ∨ j = 5 ∨ j = 7)) ∨ (i = 17 ∧ j < 3) ∨ (i = 19 ∧ j < 4)
theorem copyR {w v : Nat} (hd : dsj w v) : ∀ (m n j : Nat) (M : k_M), j + m = 4 → m < n → (∀ i, i < 4 → okRb M (M.2.2.1 (v + 18) i) = true) → ∃ M', (∀ kx, f_X10_copyFrom_75 w v n (Int32.ofNat j) M kx = kx M') ∧ M'.1 = M.1 ∧ M'.2.1 = M.2.1 ∧ M'.2.2.2 = M.2.2.2 ∧ (∀ i, j ≤ i → i < 4 → M'.2.2.1 (w + 18) i = M.2.2.1 (v + 18) i) ∧ (∀ a i, ¬ (a = w + 18 ∧ j ≤ i ∧ i < 4) → M'.2.2.1 a i = M.2.2.1 a i)
  | 0, n, j, M, hj, hn, _ => by
    obtain ⟨n, rfl⟩ : ∃ k, n = k + 1 := ⟨n - 1, by omega⟩
    refine ⟨M, fun kx => ?_, rfl, rfl, rfl, fun i h1 h2 => by omega, fun _ _ _ => rfl⟩
    rw [f_X10_copyFrom_75, if_pos (by rw [o_lle (by omega) (by omega)]; omega)]
  | m + 1, n, j, M, hj, hn, hok => by
    obtain ⟨n, rfl⟩ : ∃ k, n = k + 1 := ⟨n - 1, by omega⟩
    have hs : ∀ i, (sR M (w + 18) j (M.2.2.1 (v + 18) j)).2.2.1 (v + 18) i = M.2.2.1 (v + 18) i := fun i => by rw [sR_g, if_neg (by unfold dsj at hd; omega)]
    obtain ⟨M', g1, g2, g3, g4, g5, g6⟩ := copyR hd m n (j + 1) (sR M (w + 18) j (M.2.2.1 (v + 18) j)) (by omega) (by omega) (fun i hi => by rw [hs]; exact hok i hi)
    refine ⟨M', fun kx => ?_, g2, g3, g4, fun i h1 h2 => ?_, fun a i ha => ?_⟩
    · rw [f_X10_copyFrom_75, if_neg (by rw [o_lle (by omega) (by omega)]; omega), rdR_o (by omega) (by omega), wrR_o (by omega) (by omega) (hok j (by omega)), o_addl]
      exact g1 kx
    · by_cases hij : i = j
      · subst hij
        rw [g6 _ _ (by omega), sR_g, if_pos ⟨rfl, rfl⟩]
      · rw [g5 i (by omega) h2, hs]
    · rw [g6 a i (by omega), sR_g, if_neg (by omega)]
theorem copyW {w v : Nat} (hd : dsj w v) (M : k_M) (hz : M.1 v 3 = 0 ∨ M.1 v 3 = 1) (hok : ∀ i, i < 4 → okRb M (M.2.2.1 (v + 18) i) = true) : ∃ M', f_X10_copyFrom w v M = some ((), M') ∧ CP w v KW M M' ∧ M'.2.1 = M.2.1 ∧ M'.2.2.2 = M.2.2.2 ∧ (∀ i, i < 4 → M'.2.2.1 (w + 18) i = M.2.2.1 (v + 18) i) ∧ (∀ a i, ¬ (a = w + 18 ∧ i < 4) → M'.2.2.1 a i = M.2.2.1 a i) := by
  obtain ⟨M1, e1, c1, d1⟩ := copyL hd M
  have k1 : ∀ i j, KL i j → i < 20 := fun i j h => by unfold KL at h; omega
  obtain ⟨M2, e2, c2, k2, d2⟩ := CP_c hd k1 c1 16 13 (by omega) (by omega)
  obtain ⟨c3, k3⟩ := CP_s hd k2 c2 0 2 (by omega)
  obtain ⟨c4, k4⟩ := CP_s hd k3 c3 0 3 (by omega)
  obtain ⟨c5, k5⟩ := CP_s hd k4 c4 0 4 (by omega)
  obtain ⟨c6, k6⟩ := CP_s hd k5 c5 0 5 (by omega)
  obtain ⟨M7, e7, c7, k7, d7⟩ := CP_c hd k6 c6 17 3 (by omega) (by omega)
  obtain ⟨c8, k8⟩ := CP_s hd k7 c7 0 7 (by omega)
  simp only [Nat.add_zero] at c3 c4 c5 c6 c7 c8 e7
  have rz : (sI M2 w 2 (M2.1 v 2)).1 v 3 = M.1 v 3 := by
    have := CP_src hd k3 c3 (i := 0) (j := 3) (by omega)
    rw [Nat.add_zero] at this
    exact this
  have d8 : (sI M7 w 7 (M7.1 v 7)).2 = M.2 := by rw [sI_2, d7, sI_2, sI_2, sI_2, sI_2, d2, d1]
  obtain ⟨M9, g1, g2, g3, g4, g5, g6⟩ := copyR (w := w) (v := v) hd 4 k_fu 0 (sI M7 w 7 (M7.1 v 7)) (by omega) (by unfold k_fu; omega) (fun i hi => by
    unfold okRb
    rw [d8]
    exact hok i hi)
  have c9 : CP w v _ M M9 := ⟨fun i j h => by rw [g2]; exact c8.1 i j h, fun a j h => by rw [g2]; exact c8.2 a j h⟩
  obtain ⟨M10, e10, c10, k10, d10⟩ := CP_c hd k8 c9 19 4 (by omega) (by omega)
  refine ⟨M10, ?_, CP_iff (fun i j => ?_) c10, ?_, ?_, fun i hi => ?_, fun a i ha => ?_⟩
  · unfold f_X10_copyFrom
    rw [e1, bd_s, e2, bd_s, bN_e, rz]
    unfold ckZ
    rw [if_pos hz, ← rz, bN_e, bN_e, bN_e, e7, bd_s, bN_e, e0z, g1]
    unfold f_X10_copyFrom_98
    rw [e10, bd_s]
  · unfold KW KL
    omega
  · rw [d10, g3, d8]
  · rw [d10, g4, d8]
  · rw [d10, g5 i (by omega) hi, d8]
  · rw [d10, g6 a i (by omega), d8]
