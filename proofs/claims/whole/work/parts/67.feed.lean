/-! ===== the pure layer: feed ===== -/
theorem amtS8 : ∀ k : Fin 8, (((Int32.ofNat (8 * k.val)).toInt64 &&& 63).toBitVec.smod 64).toNat = 8 * k.val := by decide +kernel
theorem amtU8 : ∀ k : Fin 8, (UInt64.mod ((Int32.ofNat (8 * k.val)).toInt64.toUInt64 &&& Int64.toUInt64 63) 64).toBitVec.toNat = 8 * k.val := by decide +kernel
theorem b255a : ∀ i : Fin 32, (255#32).getLsbD i.val = decide (i.val < 8) := by decide
theorem b255b : ∀ i : Fin 32, (255#64).getLsbD i.val = decide (i.val < 8) := by decide
theorem byte_e (e : Int64) {k : Nat} (hk : k < 8) : (ushrL e (Int32.ofNat (8 * k))).toInt32 &&& 255 = ((e >>> ((Int32.ofNat (8 * k)).toInt64 &&& 63)) &&& 255).toInt32 := by
  apply Int32.toBitVec.inj
  show ((e.toBitVec >>> (UInt64.mod ((Int32.ofNat (8 * k)).toInt64.toUInt64 &&& Int64.toUInt64 63) 64).toBitVec.toNat).signExtend 32) &&& 255#32 = ((e.toBitVec.sshiftRight (((Int32.ofNat (8 * k)).toInt64 &&& 63).toBitVec.smod 64).toNat) &&& 255#64).signExtend 32
  rw [amtS8 ⟨k, hk⟩, amtU8 ⟨k, hk⟩]
  apply BitVec.eq_of_getLsbD_eq
  intro i hi
  rw [BitVec.getLsbD_and, BitVec.getLsbD_signExtend, BitVec.getLsbD_signExtend, BitVec.getLsbD_ushiftRight, BitVec.getLsbD_and, BitVec.getLsbD_sshiftRight, b255a ⟨i, hi⟩, b255b ⟨i, hi⟩]
  have h64 : i < 64 := by omega
  have hn : ¬ 64 ≤ i := by omega
  by_cases h8 : i < 8
  · have h2 : 8 * k + i < 64 := by omega
    simp only [hi, h64, hn, h8, h2, decide_true, decide_false, Bool.not_false, Bool.true_and, Bool.and_true, if_true]
  · simp only [hi, h64, h8, decide_true, decide_false, Bool.true_and, Bool.and_false, if_true]
theorem and255 (y : Int32) : Bn (y &&& 255) 255 := by
  refine ⟨(y &&& 255).toBitVec.toNat, ?_, ?_⟩
  · show (y.toBitVec &&& 255#32).toNat ≤ 255
    rw [BitVec.toNat_and]
    exact Nat.and_le_right
  · apply Int32.toBitVec.inj
    show _ = BitVec.ofNat 32 _
    rw [BitVec.ofNat_toNat, BitVec.setWidth_eq]
def byt (e : Int64) (k : Nat) : Int32 := (ushrL e (Int32.ofNat (8 * k))).toInt32 &&& 255
theorem takesX (e : Int64) : ∀ (m n j N c : Nat) (M : k_M), j + m = N → N ≤ 8 → c + m ≤ 200 → m < n → M.1 1 1 = Int32.ofNat c → ∃ M', (∀ kx, f_X7_takes_17 n e (Int32.ofNat N) (Int32.ofNat j) M kx = kx M') ∧ M'.1 1 1 = Int32.ofNat (c + m) ∧ (∀ k, k < m → M'.1 2 (c + k) = byt e (j + k)) ∧ (∀ a i, ¬ (a = 1 ∧ i = 1) → ¬ (a = 2 ∧ c ≤ i ∧ i < c + m) → M'.1 a i = M.1 a i) ∧ M'.2 = M.2
  | 0, n, j, N, c, M, hj, hN, hc, hn, hM => by
    obtain ⟨n, rfl⟩ : ∃ k, n = k + 1 := ⟨n - 1, by omega⟩
    refine ⟨M, fun kx => ?_, hM, fun k hk => by omega, fun _ _ _ _ => rfl, rfl⟩
    rw [f_X7_takes_17, if_pos (by rw [o_le (by omega) (by omega)]; omega)]
  | m + 1, n, j, N, c, M, hj, hN, hc, hn, hM => by
    obtain ⟨n, rfl⟩ : ∃ k, n = k + 1 := ⟨n - 1, by omega⟩
    have e1 : (sI M 2 c (byt e j)).1 1 1 = Int32.ofNat c := by rw [sI_g, if_neg (by omega)]; exact hM
    obtain ⟨M', g1, g2, g3, g4, g5⟩ := takesX e m n (j + 1) N (c + 1) (sI (sI M 2 c (byt e j)) 1 1 (Int32.ofNat (c + 1))) (by omega) hN (by omega) (by omega) (by rw [sI_g, if_pos ⟨rfl, rfl⟩])
    refine ⟨M', fun kx => ?_, by rw [g2]; congr 1; omega, fun k hk => ?_, fun a i q1 q2 => ?_, g5⟩
    · rw [f_X7_takes_17, if_neg (by rw [o_le (by omega) (by omega)]; omega), hM, wrI_o (by omega) (by omega), o_lmul, bN_e]
      have eb : (ushrL e (Int32.ofNat (8 * j))).toInt32 &&& 255 = byt e j := rfl
      rw [eb, e1, o_addl, o_addl]
      exact g1 kx
    · by_cases hk0 : k = 0
      · subst hk0
        rw [g4 _ _ (by omega) (by omega), sI_g, if_neg (by omega), sI_g, if_pos ⟨rfl, by omega⟩]
        rfl
      · have := g3 (k - 1) (by omega)
        rw [show c + 1 + (k - 1) = c + k by omega, show j + 1 + (k - 1) = j + k by omega] at this
        exact this
    · rw [g4 a i q1 (by omega), sI_g, if_neg q1, sI_g, if_neg (by omega)]
theorem takesM (e : Int64) : ∀ (m n j N c : Nat) (M : k_M), j + m = N → N ≤ 8 → c + m ≤ 200 → m < n → M.1 76 12 = Int32.ofNat c → ∃ M', (∀ kx, f_X12_feed_30 n e (Int32.ofNat N) (Int32.ofNat j) M kx = kx M') ∧ M'.1 76 12 = Int32.ofNat (c + m) ∧ (∀ k, k < m → M'.1 83 (c + k) = byt e (j + k)) ∧ (∀ a i, ¬ (a = 76 ∧ i = 12) → ¬ (a = 83 ∧ c ≤ i ∧ i < c + m) → M'.1 a i = M.1 a i) ∧ M'.2 = M.2
  | 0, n, j, N, c, M, hj, hN, hc, hn, hM => by
    obtain ⟨n, rfl⟩ : ∃ k, n = k + 1 := ⟨n - 1, by omega⟩
    refine ⟨M, fun kx => ?_, hM, fun k hk => by omega, fun _ _ _ _ => rfl, rfl⟩
    rw [f_X12_feed_30, if_pos (by rw [o_le (by omega) (by omega)]; omega)]
  | m + 1, n, j, N, c, M, hj, hN, hc, hn, hM => by
    obtain ⟨n, rfl⟩ : ∃ k, n = k + 1 := ⟨n - 1, by omega⟩
    have e1 : (sI M 83 c (byt e j)).1 76 12 = Int32.ofNat c := by rw [sI_g, if_neg (by omega)]; exact hM
    obtain ⟨M', g1, g2, g3, g4, g5⟩ := takesM e m n (j + 1) N (c + 1) (sI (sI M 83 c (byt e j)) 76 12 (Int32.ofNat (c + 1))) (by omega) hN (by omega) (by omega) (by rw [sI_g, if_pos ⟨rfl, rfl⟩])
    refine ⟨M', fun kx => ?_, by rw [g2]; congr 1; omega, fun k hk => ?_, fun a i q1 q2 => ?_, g5⟩
    · rw [f_X12_feed_30, if_neg (by rw [o_le (by omega) (by omega)]; omega), hM, wrI_o (by omega) (by omega), o_lmul, bN_e]
      have eb : ((e >>> ((Int32.ofNat (8 * j)).toInt64 &&& 63)) &&& 255).toInt32 = byt e j := (byte_e e (by omega)).symm
      rw [eb, e1, o_addl, o_addl]
      exact g1 kx
    · by_cases hk0 : k = 0
      · subst hk0
        rw [g4 _ _ (by omega) (by omega), sI_g, if_neg (by omega), sI_g, if_pos ⟨rfl, by omega⟩]
        rfl
      · have := g3 (k - 1) (by omega)
        rw [show c + 1 + (k - 1) = c + k by omega, show j + 1 + (k - 1) = j + k by omega] at this
        exact this
    · rw [g4 a i q1 (by omega), sI_g, if_neg q1, sI_g, if_neg (by omega)]
theorem c_feed (e : Int64) (x : Int32) : Call (f_X11_feed e x) (f_X12_feed e x) := by
  intro M h
  obtain ⟨c, c200, t1, t2, t3⟩ := h.2.2.1
  by_cases hx : 1 ≤ x ∧ x ≤ 8
  · obtain ⟨n, hn, rfl⟩ := ex_o (n := 8) (by omega) (Int32.le_trans (by decide) hx.1) hx.2
    have x1 : f_X11_feed e (Int32.ofNat n) M = bd (f_X7_takes e (Int32.ofNat n) M) (fun r1 M2 => if r1 = 0 then some (-2, M2) else some (M2.1 1 1, M2)) := by
      unfold f_X11_feed
      rw [if_neg (Int32.not_lt.mpr hx.1), if_pos hx.2]
    by_cases hf : c + n ≤ 200
    · obtain ⟨X, g1, g2, g3, g4, g5⟩ := takesX e n k_fu 0 n c M (by omega) hn hf (by unfold k_fu; omega) t1
      have x12 : X.1 76 12 = Int32.ofNat c := by rw [g4 _ _ (by omega) (by omega)]; exact t2
      obtain ⟨Y, k1, k2, k3, k4, k5⟩ := takesM e n k_fu 0 n c X (by omega) hn hf (by unfold k_fu; omega) x12
      refine ⟨Int32.ofNat (c + n), X, Y, ?_, ?_, ?_⟩
      · rw [x1]
        unfold f_X7_takes
        rw [t1, o_add, if_pos (by rw [o_lel (by omega) (by omega)]; exact hf), e0z, g1]
        unfold f_X7_takes_60
        rw [bd_s, if_neg (by decide), g2]
      · unfold f_X12_feed
        rw [in_e, bd_s, if_pos hx, if_neg (by decide), x12, o_add, if_pos (by rw [o_lel (by omega) (by omega)]; exact hf), e0z, k1]
        unfold f_X12_feed_73
        rw [k2]
      · have yl : ∀ a i, ¬ (a = 1 ∧ i = 1) → ¬ (a = 2 ∧ c ≤ i ∧ i < c + n) → ¬ (a = 76 ∧ i = 12) → ¬ (a = 83 ∧ c ≤ i ∧ i < c + n) → Y.1 a i = M.1 a i := fun a i q1 q2 q3 q4 => by rw [k4 a i q3 q4, g4 a i q1 q2]
        refine R_P (fun a j => locT a j) h (fun a j _ q => yl a j (by unfold locT at q; omega) (by unfold locT at q; omega) (by unfold locT at q; omega) (by unfold locT at q; omega)) (k5.trans g5) (.inl fun a j hp => by unfold locT at hp; unfold chN rlv; omega) (.inl fun n a j hp => by unfold locT at hp; unfold locK; omega) (.inr ?_) (.inl fun a j hp => by unfold locT at hp; unfold locW; omega) (.inl fun a j hp => by unfold locT at hp; unfold locS; omega) (.inl fun a j hp => by unfold locT at hp; unfold locF; omega) (.inl fun a j hp => by unfold locT at hp; unfold locA; omega) (fun j => by unfold locT; omega)
        refine ⟨c + n, hf, by rw [k4 _ _ (by omega) (by omega)]; exact g2, k2, fun i hi => ?_⟩
        by_cases hic : i < c
        · rw [yl 2 i (by omega) (by omega) (by omega) (by omega), yl 83 i (by omega) (by omega) (by omega) (by omega)]
          exact t3 i hic
        · have q1 := g3 (i - c) (by omega)
          have q2 := k3 (i - c) (by omega)
          rw [show c + (i - c) = i by omega] at q1 q2
          rw [k4 2 i (by omega) (by omega), q1, q2]
          exact ⟨rfl, and255 _⟩
    · refine ⟨-2, M, M, ?_, ?_, h⟩
      · rw [x1]
        unfold f_X7_takes
        rw [t1, o_add, if_neg (by rw [o_lel (by omega) (by omega)]; exact hf), bd_s, if_pos rfl]
      · unfold f_X12_feed
        rw [in_e, bd_s, if_pos hx, if_neg (by decide), t2, o_add, if_neg (by rw [o_lel (by omega) (by omega)]; exact hf)]
  · refine ⟨-1, M, M, ?_, ?_, h⟩
    · unfold f_X11_feed
      by_cases h1 : x < 1
      · rw [if_pos h1]
      · rw [if_neg h1, if_neg (fun h2 => hx ⟨Int32.not_lt.mp h1, h2⟩)]
    · unfold f_X12_feed
      rw [in_e, bd_s, if_neg hx, if_pos rfl]
