/-! ===== the pure layer: the word that stands here, on both tapes ===== -/
def tS (f : Nat → Nat) (n s : Nat) : Nat := if s < n then srt (f s) else 0
def tE (f : Nat → Nat) (n s : Nat) : Nat := if s < n then wEnd f n s else n
def nx (f : Nat → Nat) (n s : Nat) : Nat := skp f n (n - tE f n s) (tE f n s)
def TX (M : k_M) (f : Nat → Nat) (n s : Nat) : Prop := BX M f n ∧ s ≤ n ∧ M.1 1 3 = Int32.ofNat s ∧ M.1 1 2 = Int32.ofNat (tS f n s) ∧ M.1 1 4 = Int32.ofNat (tE f n s) ∧ (tS f n s = 2 → M.1 1 5 = wVal f s (tE f n s))
def TM (M : k_M) (f : Nat → Nat) (n s : Nat) : Prop := BM M f n ∧ s ≤ n ∧ M.1 76 14 = Int32.ofNat s ∧ M.1 76 13 = Int32.ofNat (tS f n s) ∧ M.1 76 15 = Int32.ofNat (tE f n s) ∧ (tS f n s = 2 → M.1 76 17 = nmM f s (tE f n s - s) s 0) ∧ (tS f n s = 1 → M.2.1 76 16 = wdJ f s (tE f n s - s) s 0) ∧ (tS f n s = 3 → M.1 76 17 = Int32.ofNat (f s))
theorem tE_b (f : Nat → Nat) {n s : Nat} (h : s ≤ n) : s ≤ tE f n s ∧ tE f n s ≤ n ∧ (s < n → s < tE f n s) := by
  unfold tE
  by_cases hs : s < n
  · have := wEnd_b f hs
    rw [if_pos hs]
    omega
  · rw [if_neg hs]
    omega
theorem nx_b (f : Nat → Nat) {n s : Nat} (h : s ≤ n) : s ≤ nx f n s ∧ nx f n s ≤ n ∧ (s < n → s < nx f n s) := by
  have h1 := tE_b f h
  have h2 := skp_b f n (n - tE f n s) (tE f n s) (by omega)
  unfold nx
  omega
theorem tS_b (f : Nat → Nat) (n s : Nat) : tS f n s ≤ 3 ∧ (tS f n s = 0 ↔ ¬ s < n) := by
  unfold tS srt
  by_cases hs : s < n
  · rw [if_pos hs]
    repeat' split
    all_goals omega
  · rw [if_neg hs]
    omega
theorem TX_of {f : Nat → Nat} {n e : Nat} {M : k_M} (hB : BX M f n) (h4 : M.1 1 4 = Int32.ofNat e) (he : e ≤ n) : ∃ M', f_X7_step M = some ((), M') ∧ TX M' f n (skp f n (n - e) e) ∧ (∀ a j, ¬ (a = 1 ∧ 2 ≤ j ∧ j ≤ 5) → M'.1 a j = M.1 a j) ∧ M'.2 = M.2 := by
  obtain ⟨M', g1, g2, g3, g4, g5⟩ := stepX hB h4 he
  have sb := skp_b f n (n - e) e (by omega)
  refine ⟨M', g1, ⟨BX_fr hB g2, sb.2, g4, ?_⟩, g2, g3⟩
  unfold tS tE
  rcases g5 with ⟨k1, k2, k3⟩ | ⟨k1, k2, k3, k4⟩
  · rw [if_neg (by omega), if_neg (by omega)]
    exact ⟨k2, k3, fun h => by omega⟩
  · rw [if_pos k1, if_pos k1]
    exact ⟨k2, k3, k4⟩
theorem TM_of {f : Nat → Nat} {n e : Nat} {M : k_M} (hB : BM M f n) (h4 : M.1 76 15 = Int32.ofNat e) (he : e ≤ n) : ∃ M', f_X12_advance M = some ((), M') ∧ TM M' f n (skp f n (n - e) e) ∧ (∀ a j, ¬ (a = 76 ∧ 13 ≤ j ∧ j ≤ 17) → M'.1 a j = M.1 a j) ∧ (∀ a j, a ≠ 76 → M'.2.1 a j = M.2.1 a j) ∧ M'.2.2 = M.2.2 := by
  obtain ⟨M', g1, g2, g3, g3', g4, g5⟩ := advM hB h4 he
  have sb := skp_b f n (n - e) e (by omega)
  refine ⟨M', g1, ⟨BM_fr hB g2, sb.2, g4, ?_⟩, g2, g3, g3'⟩
  unfold tS tE
  rcases g5 with ⟨k1, k2, k3⟩ | ⟨k1, k2, k3, k4, k5, k6⟩
  · rw [if_neg (by omega), if_neg (by omega)]
    exact ⟨k2, k3, fun h => by omega, fun h => by omega, fun h => by omega⟩
  · rw [if_pos k1, if_pos k1]
    exact ⟨k2, k3, k4, k5, k6⟩
theorem TX_step {f : Nat → Nat} {n s : Nat} {M : k_M} (h : TX M f n s) : ∃ M', f_X7_step M = some ((), M') ∧ TX M' f n (nx f n s) ∧ (∀ a j, ¬ (a = 1 ∧ 2 ≤ j ∧ j ≤ 5) → M'.1 a j = M.1 a j) ∧ M'.2 = M.2 := TX_of h.1 h.2.2.2.2.1 (tE_b f h.2.1).2.1
theorem TM_adv {f : Nat → Nat} {n s : Nat} {M : k_M} (h : TM M f n s) : ∃ M', f_X12_advance M = some ((), M') ∧ TM M' f n (nx f n s) ∧ (∀ a j, ¬ (a = 76 ∧ 13 ≤ j ∧ j ≤ 17) → M'.1 a j = M.1 a j) ∧ (∀ a j, a ≠ 76 → M'.2.1 a j = M.2.1 a j) ∧ M'.2.2 = M.2.2 := TM_of h.1 h.2.2.2.2.1 (tE_b f h.2.1).2.1
/-- all bytes of a word are of its sort -/
theorem scn_all (f : Nat → Nat) (n s : Nat) : ∀ m e i, e ≤ i → i < scn f n s m e → srt (f i) = s
  | 0, e, i, h1, h2 => by
    unfold scn at h2
    omega
  | m + 1, e, i, h1, h2 => by
    unfold scn at h2
    by_cases hc : e < n ∧ srt (f e) = s
    · rw [if_pos hc] at h2
      by_cases hi : i = e
      · rw [hi]
        exact hc.2
      · exact scn_all f n s m (e + 1) i (by omega) h2
    · rw [if_neg hc] at h2
      omega
theorem tok_all {f : Nat → Nat} {n s i : Nat} (h3 : tS f n s = 1 ∨ tS f n s = 2) (h1 : s ≤ i) (h2 : i < tE f n s) : srt (f i) = tS f n s := by
  unfold tS at h3 ⊢
  unfold tE at h2
  by_cases hs : s < n
  · rw [if_pos hs] at h3 h2 ⊢
    unfold wEnd at h2
    rw [if_neg (by omega)] at h2
    by_cases hi : i = s
    · rw [hi]
    · exact scn_all f n _ _ (s + 1) i (by omega) h2
  · rw [if_neg hs] at h3
    omega
theorem srt_1 {c : Nat} (h : srt c = 1) : 97 ≤ c ∧ c ≤ 122 := by
  unfold srt at h
  by_cases h1 : 97 ≤ c ∧ c ≤ 122
  · exact h1
  · rw [if_neg h1] at h
    split at h <;> omega
theorem srt_2 {c : Nat} (h : srt c = 2) : 48 ≤ c ∧ c ≤ 57 := by
  unfold srt at h
  by_cases h1 : 97 ≤ c ∧ c ≤ 122
  · rw [if_pos h1] at h
    omega
  · rw [if_neg h1] at h
    by_cases h2 : 48 ≤ c ∧ c ≤ 57
    · exact h2
    · rw [if_neg h2] at h
      omega
