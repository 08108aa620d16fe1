/-! ===== the pure layer: the reference's step, its loops ===== -/
def wdJ (f : Nat → Nat) (s : Nat) : Nat → Nat → Int64 → Int64
  | 0, _, x => x
  | m + 1, i, x => wdJ f s m (i + 1) (if 8 ≤ i - s then -1 else 27 * x + (Int32.ofNat (f i)).toInt64 - 96)
def nmM (f : Nat → Nat) (s : Nat) : Nat → Nat → Int32 → Int32
  | 0, _, x => x
  | m + 1, i, x => nmM f s m (i + 1) (if 2 ≤ i - s then -1 else 10 * x + Int32.ofNat (f i) - 48)
theorem byteM {f : Nat → Nat} {n i : Nat} {M : k_M} (hB : BM M f n) (hi : i ≤ 200) : f_X12_byteAt (Int32.ofNat i) M = some (if i < n then Int32.ofNat (f i) else -1, M) := by
  have hn := hB.1
  unfold f_X12_byteAt
  rw [hB.2.1]
  by_cases h : i < n
  · rw [if_neg (by rw [o_le (by omega) (by omega)]; omega), rdI_o (by omega) (by omega), (hB.2.2 i h).1, if_pos h]
  · rw [if_pos (by rw [o_le (by omega) (by omega)]; omega), if_neg h]
theorem letM {c : Nat} (hc : c ≤ 255) (M : k_M) : f_X12_isLetter (Int32.ofNat c) M = some (if srt c = 1 then 1 else 0, M) := by
  have : ∀ c, c ≤ 255 → (if (97 : Int32) ≤ Int32.ofNat c ∧ Int32.ofNat c ≤ 122 then (1 : Int32) else 0) = if srt c = 1 then 1 else 0 := by decide +kernel
  unfold f_X12_isLetter
  rw [in_e, bd_s, ckZ_b, this c hc]
theorem digM {c : Nat} (hc : c ≤ 255) (M : k_M) : f_X12_isDigit (Int32.ofNat c) M = some (if srt c = 2 then 1 else 0, M) := by
  have : ∀ c, c ≤ 255 → (if (48 : Int32) ≤ Int32.ofNat c ∧ Int32.ofNat c ≤ 57 then (1 : Int32) else 0) = if srt c = 2 then 1 else 0 := by decide +kernel
  unfold f_X12_isDigit
  rw [in_e, bd_s, ckZ_b, this c hc]
theorem adv8 {f : Nat → Nat} {n : Nat} : ∀ (m k e : Nat) (M : k_M), BM M f n → M.1 76 14 = Int32.ofNat e → e + m = n → m < k → ∃ M', (∀ kx, f_X12_advance_8 k M kx = kx M') ∧ M'.1 76 14 = Int32.ofNat (skp f n m e) ∧ (∀ a j, ¬ (a = 76 ∧ j = 14) → M'.1 a j = M.1 a j) ∧ M'.2 = M.2
  | 0, k, e, M, hB, h4, he, hk => by
    obtain ⟨k, rfl⟩ : ∃ q, k = q + 1 := ⟨k - 1, by omega⟩
    have hn := hB.1
    refine ⟨M, fun kx => ?_, h4, fun _ _ _ => rfl, rfl⟩
    rw [f_X12_advance_8, h4, byteM hB (by omega), bd_s, if_neg (show ¬ e < n by omega), if_neg (by decide)]
  | m + 1, k, e, M, hB, h4, he, hk => by
    obtain ⟨k, rfl⟩ : ∃ q, k = q + 1 := ⟨k - 1, by omega⟩
    have hn := hB.1
    obtain ⟨b1, b2⟩ := hB.2.2 e (by omega)
    unfold skp
    by_cases hc : f e = 32
    · have c1 : ∀ a j, ¬ (a = 76 ∧ j = 14) → (sI M 76 14 (Int32.ofNat (e + 1))).1 a j = M.1 a j := fun a j q => by rw [sI_g, if_neg q]
      obtain ⟨M', g1, g2, g3, g4⟩ := adv8 m k (e + 1) (sI M 76 14 (Int32.ofNat (e + 1))) ⟨hn, by rw [c1 _ _ (by omega)]; exact hB.2.1, fun i hi => by rw [c1 _ _ (by omega)]; exact hB.2.2 i hi⟩ (by rw [sI_g, if_pos ⟨rfl, rfl⟩]) (by omega) (by omega)
      refine ⟨M', fun kx => ?_, by rw [if_pos ⟨by omega, hc⟩]; exact g2, fun a j q => by rw [g3 a j q, c1 a j q], g4⟩
      rw [f_X12_advance_8, h4, byteM hB (by omega), bd_s, if_pos (show e < n by omega), if_pos (by rw [hc]; rfl), bN_e, h4, o_addl]
      exact g1 kx
    · refine ⟨M, fun kx => ?_, by rw [if_neg (fun q => hc q.2)]; exact h4, fun _ _ _ => rfl, rfl⟩
      rw [f_X12_advance_8, h4, byteM hB (by omega), bd_s, if_pos (show e < n by omega), if_neg (by rw [o_eql (by omega) (by omega)]; exact hc)]
