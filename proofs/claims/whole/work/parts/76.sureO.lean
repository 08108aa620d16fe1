/-! ===== the pure layer: surest, acts and nodes ===== -/
section
variable {np nw : Nat} {lw pl wy : Nat → Int32} {rn : Int32}
theorem sFin {d a b v : Nat} (N : k_M) : LF d N (sI (sI (sI N 90 d (Int32.ofNat (Nat.max b v))) 91 d (Int32.ofNat (a + 1))) 93 d 0) := LF_tr (LF_tr (LF_sI N _ (by omega)) (LF_sI _ _ (by omega))) (LF_sI _ _ (by omega))
theorem odd_e {d ph : Nat} {l3 l4 t0 : Int32} {N : k_M} (hd : d ≤ 4) (hph : ph = 1 ∨ ph = 3) (h93 : N.1 93 d = Int32.ofNat ph) (kb : Int32 → Int32 → k_M → Option (Int32 × k_M)) (kx : k_M → Option (Int32 × k_M)) : f_X12_findSurest_110 (Int32.ofNat d) l3 l4 t0 N kb kx = f_X12_findSurest_170 (Int32.ofNat d) l3 t0 N kb kx := by
  unfold f_X12_findSurest_110
  rw [rdI_o (by omega) (by omega), h93]
  rcases hph with rfl | rfl
  · rw [if_neg (by decide)]
  · rw [if_neg (by decide)]
theorem actM {N : k_M} {d n a b f : Nat} (hE : EN N nw pl wy lw rn) (hdn : d + n ≤ 4) (hn1 : 1 ≤ n) (hS : Sd np nw pl wy lw (rwM N d)) (h89 : N.1 89 d = Int32.ofNat n) (h90 : N.1 90 d = Int32.ofNat b) (hb : b ≤ 256) (h91 : N.1 91 d = Int32.ofNat a) (ha : a ≤ nw) (h93 : N.1 93 d = Int32.ofNat 0) (hc : ∀ n', 1 ≤ n' → n' < n → NodeS np nw pl wy lw rn (f + 1) n') :
    ∃ t N', t ≤ 6 + 2 * 105 ^ (n - 1) ∧ LF d N N' ∧ N'.1 89 d = Int32.ofNat n ∧ N'.1 90 d = Int32.ofNat (Nat.max b (vla nw pl wy lw (sur nw pl wy lw (f + 1)) n (rwM N d) a)) ∧ N'.1 91 d = Int32.ofNat (a + 1) ∧ N'.1 93 d = Int32.ofNat 0 ∧ ∀ k kx, f_X12_findSurest_32 (k + t) (Int32.ofNat d) (-1) N kx = f_X12_findSurest_32 k (Int32.ofNat d) (-1) N' kx := by
  have c1 : 4 ^ n ≤ 4 ^ 4 := Nat.pow_le_pow_right (by omega) (by omega)
  have c2 : (4 : Nat) ^ 4 = 256 := rfl
  have hsl : ∀ n' r', Sd np nw pl wy lw r' → sur nw pl wy lw (f + 1) n' r' ≤ 4 ^ n' := fun n' r' h => sur_le (f + 1) n' r' h
  have dle : ∀ wt, dvl nw pl wy lw rn (sur nw pl wy lw (f + 1)) n (rwM N d) a wt ≤ 256 := fun wt => Nat.le_trans (dvl_le hS hsl) (by omega)
  obtain ⟨t1, N1, k1, k2, k3⟩ := evalM (f := f + 1) hE hdn hn1 hS h89 h91 ha (.inl rfl) h93 hc
  rw [if_neg (show ¬ 0 = 2 by omega)] at k3
  have F1 : LF d N N1 := LF_tr (LF_sI N _ (by omega)) (LG_LF k2)
  have hE1 := EN_F F1 hE
  have er1 : rwM N1 d = rwM N d := LF_row F1 (Nat.le_refl _)
  have hS1 : Sd np nw pl wy lw (rwM N1 d) := by rw [er1]; exact hS
  have q89 : N1.1 89 d = Int32.ofNat n := by rw [k2.1 _ _ (by omega) (by omega), sI_g, if_neg (by omega)]; exact h89
  have q90 : N1.1 90 d = Int32.ofNat b := by rw [k2.1 _ _ (by omega) (by omega), sI_g, if_neg (by omega)]; exact h90
  have q91 : N1.1 91 d = Int32.ofNat a := by rw [k2.1 _ _ (by omega) (by omega), sI_g, if_neg (by omega)]; exact h91
  have q93 : N1.1 93 d = Int32.ofNat 1 := by rw [k2.1 _ _ (by omega) (by omega), sI_g, if_pos ⟨rfl, rfl⟩]
  by_cases hm : a = 0 ∧ pl (3 * (rwM N d 0).toNatClampNeg) = 3
  · obtain ⟨h0, hm3⟩ := hm
    subst h0
    have em : mdw pl 0 (rwM N d) = 1 := if_pos ⟨rfl, hm3⟩
    obtain ⟨D0, hD0⟩ : ∃ D0, D0 = dvl nw pl wy lw rn (sur nw pl wy lw (f + 1)) n (rwM N d) 0 0 := ⟨_, rfl⟩
    rw [← hD0] at k3
    obtain ⟨N2, hN2⟩ : ∃ N2, N2 = sI (sI N1 92 d (Int32.ofNat D0)) 93 d (Int32.ofNat 2) := ⟨_, rfl⟩
    have F2 : LF d N1 N2 := by rw [hN2]; exact LF_tr (LF_sI N1 _ (by omega)) (LF_sI _ _ (by omega))
    have hE2 := EN_F F2 hE1
    have er2 : rwM N2 d = rwM N d := (LF_row F2 (Nat.le_refl _)).trans er1
    have w89 : N2.1 89 d = Int32.ofNat n := by rw [hN2, sI_g, if_neg (by omega), sI_g, if_neg (by omega)]; exact q89
    have w90 : N2.1 90 d = Int32.ofNat b := by rw [hN2, sI_g, if_neg (by omega), sI_g, if_neg (by omega)]; exact q90
    have w91 : N2.1 91 d = Int32.ofNat 0 := by rw [hN2, sI_g, if_neg (by omega), sI_g, if_neg (by omega)]; exact q91
    have w92 : N2.1 92 d = Int32.ofNat D0 := by rw [hN2, sI_g, if_neg (by omega), sI_g, if_pos ⟨rfl, rfl⟩]
    have w93 : N2.1 93 d = Int32.ofNat 2 := by rw [hN2, sI_g, if_pos ⟨rfl, rfl⟩]
    have hS2 : Sd np nw pl wy lw (rwM N2 d) := by rw [er2]; exact hS
    obtain ⟨t2, N3, l1, l2, l3⟩ := evalM (f := f + 1) hE2 hdn hn1 hS2 w89 w91 ha (.inr rfl) w93 hc
    rw [if_pos (show 2 = 2 from rfl), er2] at l3
    obtain ⟨D1, hD1⟩ : ∃ D1, D1 = dvl nw pl wy lw rn (sur nw pl wy lw (f + 1)) n (rwM N d) 0 1 := ⟨_, rfl⟩
    rw [← hD1] at l3
    have F3 : LF d N2 N3 := LF_tr (LF_sI N2 _ (by omega)) (LG_LF l2)
    have hE3 := EN_F F3 hE2
    have er3 : rwM N3 d = rwM N d := (LF_row F3 (Nat.le_refl _)).trans er2
    have hS3 : Sd np nw pl wy lw (rwM N3 d) := by rw [er3]; exact hS
    have z89 : N3.1 89 d = Int32.ofNat n := by rw [l2.1 _ _ (by omega) (by omega), sI_g, if_neg (by omega)]; exact w89
    have z90 : N3.1 90 d = Int32.ofNat b := by rw [l2.1 _ _ (by omega) (by omega), sI_g, if_neg (by omega)]; exact w90
    have z91 : N3.1 91 d = Int32.ofNat 0 := by rw [l2.1 _ _ (by omega) (by omega), sI_g, if_neg (by omega)]; exact w91
    have z92 : N3.1 92 d = Int32.ofNat D0 := by rw [l2.1 _ _ (by omega) (by omega), sI_g, if_neg (by omega)]; exact w92
    have z93 : N3.1 93 d = Int32.ofNat 3 := by rw [l2.1 _ _ (by omega) (by omega), sI_g, if_pos ⟨rfl, rfl⟩]
    obtain ⟨o, ho, ho1, ho2⟩ := o12 hS
    have e79 : N3.1 79 12 = Int32.ofNat o := by rw [hE3.2.2.1]; exact ho1
    have s0le := sdy_le (S := sur nw pl wy lw (f + 1)) hS hn1 (fun n' r' _ h => hsl n' r' h) 0
    have s1le := sdy_le (S := sur nw pl wy lw (f + 1)) hS hn1 (fun n' r' _ h => hsl n' r' h) 1
    have c3 : 4 ^ (n - 1) ≤ 4 ^ 4 := Nat.pow_le_pow_right (by omega) (by omega)
    have ev : (Int32.ofNat D0 * (4 - Int32.ofNat o) + Int32.ofNat D1 * Int32.ofNat o) / 4 = Int32.ofNat (vla nw pl wy lw (sur nw pl wy lw (f + 1)) n (rwM N d) 0) := by
      have := mean_e (K := 1) ho (by omega) (show sdy pl lw (sur nw pl wy lw (f + 1)) n (rwM N d) 1 ≤ 256 by omega) (show sdy pl lw (sur nw pl wy lw (f + 1)) n (rwM N d) 0 ≤ 256 by omega)
      rw [Nat.mul_one, Nat.one_mul, ← dvl_0 (rn := rn) hn1 wtM1, ← dvl_0 (rn := rn) hn1 wtM0, ← hD0, ← hD1, Int32.mul_comm (Int32.ofNat o), Int32.mul_comm (4 - Int32.ofNat o), Int32.add_comm] at this
      rw [this]
      unfold vla sst
      rw [if_pos hm3, ho2]
    have vle : vla nw pl wy lw (sur nw pl wy lw (f + 1)) n (rwM N d) 0 ≤ 256 := Nat.le_trans (sst_le hS hn1 (fun n' r' _ h => hsl n' r' h)) (by omega)
    refine ⟨t1 + 1 + t2 + 1, sI (sI (sI N3 90 d (Int32.ofNat (Nat.max b (vla nw pl wy lw (sur nw pl wy lw (f + 1)) n (rwM N d) 0)))) 91 d (Int32.ofNat (0 + 1))) 93 d 0, by omega, LF_tr F1 (LF_tr F2 (LF_tr F3 (sFin N3))), ?_, ?_, ?_, ?_, fun k kx => ?_⟩
    · rw [sI_g, if_neg (by omega), sI_g, if_neg (by omega), sI_g, if_neg (by omega)]; exact z89
    · rw [sI_g, if_neg (by omega), sI_g, if_neg (by omega), sI_g, if_pos ⟨rfl, rfl⟩]
    · rw [sI_g, if_neg (by omega), sI_g, if_pos ⟨rfl, rfl⟩]
    · rw [sI_g, if_pos ⟨rfl, rfl⟩]
      rfl
    · rw [show k + (t1 + 1 + t2 + 1) = k + 1 + t2 + 1 + t1 by omega, k3, head_e hE1 (by omega) hS1 q91 ha, er1, em, odd_e (by omega) (.inl rfl) q93]
      unfold f_X12_findSurest_170
      rw [bN_e, if_neg (by decide), rdI_o (by omega) (by omega), q93, if_pos (by decide), wrI_o (by omega) (by omega), wrI_o (by omega) (by omega)]
      have eN2 : sI (sI N1 92 d (Int32.ofNat D0)) 93 d 2 = N2 := hN2.symm
      rw [eN2]
      show f_X12_findSurest_32 (k + 1 + t2) (Int32.ofNat d) (-1) N2 kx = _
      rw [l3, head_e hE3 (by omega) hS3 z91 ha, er3, em, odd_e (by omega) (.inr rfl) z93]
      unfold f_X12_findSurest_170
      rw [bN_e, if_neg (by decide), rdI_o (by omega) (by omega), z93, if_neg (by decide)]
      unfold f_X12_findSurest_208
      rw [if_neg (by decide), rdI_o (by omega) (by omega), z92, rdI_l (by omega) (by omega), e79, rdI_l (by omega) (by omega), e79, ev, fin_e (by omega) z90 z91 hb vle]
  · have em : mdw pl a (rwM N d) = 0 := if_neg hm
    have ev : dvl nw pl wy lw rn (sur nw pl wy lw (f + 1)) n (rwM N d) a 0 = vla nw pl wy lw (sur nw pl wy lw (f + 1)) n (rwM N d) a := by
      cases a with
      | zero =>
        rw [dvl_0 hn1 wtM0]
        unfold vla sst
        rw [if_neg (fun h => hm ⟨rfl, h⟩)]
      | succ v => rfl
    have vle := dle 0
    rw [ev] at k3 vle
    refine ⟨t1 + 1, sI (sI (sI N1 90 d (Int32.ofNat (Nat.max b (vla nw pl wy lw (sur nw pl wy lw (f + 1)) n (rwM N d) a)))) 91 d (Int32.ofNat (a + 1))) 93 d 0, by omega, LF_tr F1 (sFin N1), ?_, ?_, ?_, ?_, fun k kx => ?_⟩
    · rw [sI_g, if_neg (by omega), sI_g, if_neg (by omega), sI_g, if_neg (by omega)]; exact q89
    · rw [sI_g, if_neg (by omega), sI_g, if_neg (by omega), sI_g, if_pos ⟨rfl, rfl⟩]
    · rw [sI_g, if_neg (by omega), sI_g, if_pos ⟨rfl, rfl⟩]
    · rw [sI_g, if_pos ⟨rfl, rfl⟩]
      rfl
    · rw [show k + (t1 + 1) = k + 1 + t1 by omega, k3, head_e hE1 (by omega) hS1 q91 ha, er1, em, odd_e (by omega) (.inl rfl) q93]
      unfold f_X12_findSurest_170
      rw [bN_e, if_pos rfl]
      unfold f_X12_findSurest_208
      rw [if_pos rfl, fin_e (by omega) q90 q91 hb vle]
theorem vla_le {n f a : Nat} {r : k_r} (hS : Sd np nw pl wy lw r) (hn1 : 1 ≤ n) : vla nw pl wy lw (sur nw pl wy lw f) n r a ≤ 4 ^ n := by
  cases a with
  | zero => exact sst_le hS hn1 (fun n' r' _ h => sur_le f n' r' h)
  | succ v => exact swy_le hS (fun n' r' _ h => sur_le f n' r' h) v
theorem actsM {d n f : Nat} (hdn : d + n ≤ 4) (hn1 : 1 ≤ n) (hc : ∀ n', 1 ≤ n' → n' < n → NodeS np nw pl wy lw rn (f + 1) n') : ∀ (m a b : Nat) (N : k_M), a + m = nw + 1 → EN N nw pl wy lw rn → Sd np nw pl wy lw (rwM N d) → N.1 89 d = Int32.ofNat n → N.1 90 d = Int32.ofNat b → b ≤ 4 ^ n → N.1 91 d = Int32.ofNat a → N.1 93 d = Int32.ofNat 0 →
    ∃ t N', t ≤ m * (6 + 2 * 105 ^ (n - 1)) ∧ LF d N N' ∧ N'.1 89 d = Int32.ofNat n ∧ N'.1 90 d = Int32.ofNat ((List.range' a m).foldl (fun s v => Nat.max s (vla nw pl wy lw (sur nw pl wy lw (f + 1)) n (rwM N d) v)) b) ∧ N'.1 91 d = Int32.ofNat (nw + 1) ∧ ∀ k kx, f_X12_findSurest_32 (k + t) (Int32.ofNat d) (-1) N kx = f_X12_findSurest_32 k (Int32.ofNat d) (-1) N' kx
  | 0, a, b, N, ham, hE, hS, h89, h90, hb, h91, h93 => by
    refine ⟨0, N, by omega, ⟨fun _ _ _ _ => rfl, rfl⟩, h89, ?_, by rw [h91, show a = nw + 1 by omega], fun k kx => rfl⟩
    rw [List.range'_zero, List.foldl_nil]
    exact h90
  | m + 1, a, b, N, ham, hE, hS, h89, h90, hb, h91, h93 => by
    have c1 : 4 ^ n ≤ 4 ^ 4 := Nat.pow_le_pow_right (by omega) (by omega)
    have c2 : (4 : Nat) ^ 4 = 256 := rfl
    obtain ⟨t1, N1, g1, g2, g3, g4, g5, g6, g7⟩ := actM hE hdn hn1 hS h89 h90 (by omega) h91 (by omega) h93 hc
    have er : rwM N1 d = rwM N d := LF_row g2 (Nat.le_refl _)
    obtain ⟨t2, N2, l1, l2, l3, l4, l5, l6⟩ := actsM hdn hn1 hc m (a + 1) _ N1 (by omega) (EN_F g2 hE) (by rw [er]; exact hS) g3 g4 (Nat.max_le.mpr ⟨hb, vla_le hS hn1⟩) g5 g6
    have hmul : (m + 1) * (6 + 2 * 105 ^ (n - 1)) = m * (6 + 2 * 105 ^ (n - 1)) + (6 + 2 * 105 ^ (n - 1)) := Nat.succ_mul _ _
    refine ⟨t2 + t1, N2, by omega, LF_tr g2 l2, l3, ?_, l5, fun k kx => ?_⟩
    · rw [List.range'_succ, List.foldl_cons, ← er]
      rw [← er] at l4
      exact l4
    · rw [← Nat.add_assoc, g7, l6]
theorem fold_vla {f n : Nat} {r : k_r} (hn : ¬ n = 0) : (List.range' 0 (nw + 1)).foldl (fun s v => Nat.max s (vla nw pl wy lw (sur nw pl wy lw f) n r v)) 0 = sur nw pl wy lw (f + 1) n r := by
  rw [sur_s, if_neg hn, ← List.range_eq_range', List.range_succ_eq_map, List.foldl_cons, List.foldl_map]
  have : Nat.max 0 (vla nw pl wy lw (sur nw pl wy lw f) n r 0) = sst pl lw (sur nw pl wy lw f) n r := Nat.max_eq_right (Nat.zero_le _)
  rw [this]
  rfl
theorem scost (n : Nat) (m : Nat) (hn : 1 ≤ n) (hm : m ≤ 13) : m * (6 + 2 * 105 ^ (n - 1)) ≤ 105 ^ n := by
  obtain ⟨k, rfl⟩ : ∃ k, n = k + 1 := ⟨n - 1, by omega⟩
  have h1 : 1 ≤ 105 ^ k := Nat.one_le_pow _ _ (by omega)
  have h2 : m * (6 + 2 * 105 ^ (k + 1 - 1)) ≤ 13 * (6 + 2 * 105 ^ (k + 1 - 1)) := Nat.mul_le_mul_right _ hm
  rw [Nat.add_sub_cancel] at h2 ⊢
  rw [Nat.pow_succ]
  omega
theorem nodeS : ∀ (f n : Nat), 1 ≤ n → n ≤ f + 1 → NodeS np nw pl wy lw rn (f + 2) n
  | f, n, hn1, hnf => by
    intro d N hdn hE hS h89 h90 h91 h93
    have nw12 := hS.1.2.1
    have hc : ∀ n', 1 ≤ n' → n' < n → NodeS np nw pl wy lw rn (f + 1) n' := fun n' q1 q2 => by
      cases f with
      | zero => omega
      | succ f => exact nodeS f n' q1 (by omega)
    obtain ⟨t, N', g1, g2, g3, g4, g5, g6⟩ := actsM hdn hn1 hc (nw + 1) 0 0 N (by omega) hE hS h89 h90 (Nat.zero_le _) h91 h93
    rw [fold_vla (by omega)] at g4
    exact ⟨t, N', Nat.le_trans g1 (scost n (nw + 1) hn1 (by omega)), g2, g3, g4, g5, g6⟩
end
