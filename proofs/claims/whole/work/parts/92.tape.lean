/-! ===== the pure layer: the tape: words ===== -/
def skp (f : Nat → Nat) (n : Nat) : Nat → Nat → Nat
  | 0, e => e
  | m + 1, e => if e < n ∧ f e = 32 then skp f n m (e + 1) else e
def srt (c : Nat) : Nat := if 97 ≤ c ∧ c ≤ 122 then 1 else if 48 ≤ c ∧ c ≤ 57 then 2 else 3
def scn (f : Nat → Nat) (n s : Nat) : Nat → Nat → Nat
  | 0, i => i
  | m + 1, i => if i < n ∧ srt (f i) = s then scn f n s m (i + 1) else i
/-- the class's tape -/
def BX (M : k_M) (f : Nat → Nat) (n : Nat) : Prop := n ≤ 200 ∧ M.1 1 1 = Int32.ofNat n ∧ ∀ k, k < n → M.1 2 k = Int32.ofNat (f k) ∧ f k ≤ 255
/-- the reference's tape -/
def BM (M : k_M) (f : Nat → Nat) (n : Nat) : Prop := n ≤ 200 ∧ M.1 76 12 = Int32.ofNat n ∧ ∀ k, k < n → M.1 83 k = Int32.ofNat (f k) ∧ f k ≤ 255
def srI (x : Int32) : Int32 := if x < 97 then (if x < 48 then 3 else if 57 < x then 3 else 2) else if 122 < x then (if x < 48 then 3 else if 57 < x then 3 else 2) else 1
theorem srI_e : ∀ c, c ≤ 255 → srI (Int32.ofNat c) = Int32.ofNat (srt c) := by decide +kernel
theorem sortX {c : Nat} (hc : c ≤ 255) (M : k_M) : f_X7_sortOf (Int32.ofNat c) M = some (Int32.ofNat (srt c), M) := by
  rw [← srI_e c hc]
  unfold f_X7_sortOf f_X7_sortOf_14 f_X7_sortOf_30 srI
  repeat' split
  all_goals rfl
theorem step0X {f : Nat → Nat} {n : Nat} : ∀ (m k e : Nat) (M : k_M), BX M f n → M.1 1 4 = Int32.ofNat e → e + m = n → m < k → ∃ M', (∀ kx, f_X7_step_0 k M kx = kx M') ∧ M'.1 1 4 = Int32.ofNat (skp f n m e) ∧ (∀ a j, ¬ (a = 1 ∧ j = 4) → M'.1 a j = M.1 a j) ∧ M'.2 = M.2
  | 0, k, e, M, hB, h4, he, hk => by
    obtain ⟨k, rfl⟩ : ∃ q, k = q + 1 := ⟨k - 1, by omega⟩
    have hn := hB.1
    refine ⟨M, fun kx => ?_, h4, fun _ _ _ => rfl, rfl⟩
    rw [f_X7_step_0, hB.2.1, h4, if_pos (by rw [o_le (by omega) (by omega)]; omega)]
  | m + 1, k, e, M, hB, h4, he, hk => by
    obtain ⟨k, rfl⟩ : ∃ q, k = q + 1 := ⟨k - 1, by omega⟩
    have hn := hB.1
    obtain ⟨b1, b2⟩ := hB.2.2 e (by omega)
    unfold skp
    by_cases hc : f e = 32
    · have c1 : ∀ a j, ¬ (a = 1 ∧ j = 4) → (sI M 1 4 (Int32.ofNat (e + 1))).1 a j = M.1 a j := fun a j q => by rw [sI_g, if_neg q]
      obtain ⟨M', g1, g2, g3, g4⟩ := step0X m k (e + 1) (sI M 1 4 (Int32.ofNat (e + 1))) ⟨hn, by rw [c1 _ _ (by omega)]; exact hB.2.1, fun i hi => by rw [c1 _ _ (by omega)]; exact hB.2.2 i hi⟩ (by rw [sI_g, if_pos ⟨rfl, rfl⟩]) (by omega) (by omega)
      refine ⟨M', fun kx => ?_, by rw [if_pos ⟨by omega, hc⟩]; exact g2, fun a j q => by rw [g3 a j q, c1 a j q], g4⟩
      rw [f_X7_step_0, hB.2.1, h4, if_neg (by rw [o_le (by omega) (by omega)]; omega), rdI_o (by omega) (by omega), b1, if_pos (by rw [hc]; rfl), bN_e, o_addl]
      exact g1 kx
    · refine ⟨M, fun kx => ?_, by rw [if_neg (fun q => hc q.2)]; exact h4, fun _ _ _ => rfl, rfl⟩
      rw [f_X7_step_0, hB.2.1, h4, if_neg (by rw [o_le (by omega) (by omega)]; omega), rdI_o (by omega) (by omega), b1, if_neg (by rw [o_eql (by omega) (by omega)]; exact hc)]
theorem step89X {f : Nat → Nat} {n s : Nat} (hs : s ≤ 3) (hs3 : s ≠ 3) : ∀ (m k e : Nat) (M : k_M), BX M f n → M.1 1 2 = Int32.ofNat s → M.1 1 4 = Int32.ofNat e → e + m = n → m < k → ∃ M', (∀ kx, f_X7_step_89 k M kx = kx M') ∧ M'.1 1 4 = Int32.ofNat (scn f n s m e) ∧ (∀ a j, ¬ (a = 1 ∧ j = 4) → M'.1 a j = M.1 a j) ∧ M'.2 = M.2
  | 0, k, e, M, hB, h2, h4, he, hk => by
    obtain ⟨k, rfl⟩ : ∃ q, k = q + 1 := ⟨k - 1, by omega⟩
    have hn := hB.1
    refine ⟨M, fun kx => ?_, h4, fun _ _ _ => rfl, rfl⟩
    rw [f_X7_step_89, h2, if_neg (by rw [o_eql (by omega) (by omega)]; exact hs3), hB.2.1, h4, if_pos (by rw [o_le (by omega) (by omega)]; omega)]
  | m + 1, k, e, M, hB, h2, h4, he, hk => by
    obtain ⟨k, rfl⟩ : ∃ q, k = q + 1 := ⟨k - 1, by omega⟩
    have hn := hB.1
    obtain ⟨b1, b2⟩ := hB.2.2 e (by omega)
    have hr : srt (f e) ≤ 3 := by
      unfold srt
      repeat' split
      all_goals omega
    unfold scn
    by_cases hc : srt (f e) = s
    · have c1 : ∀ a j, ¬ (a = 1 ∧ j = 4) → (sI M 1 4 (Int32.ofNat (e + 1))).1 a j = M.1 a j := fun a j q => by rw [sI_g, if_neg q]
      obtain ⟨M', g1, g2, g3, g4⟩ := step89X hs hs3 m k (e + 1) (sI M 1 4 (Int32.ofNat (e + 1))) ⟨hn, by rw [c1 _ _ (by omega)]; exact hB.2.1, fun i hi => by rw [c1 _ _ (by omega)]; exact hB.2.2 i hi⟩ (by rw [c1 _ _ (by omega)]; exact h2) (by rw [sI_g, if_pos ⟨rfl, rfl⟩]) (by omega) (by omega)
      refine ⟨M', fun kx => ?_, by rw [if_pos ⟨by omega, hc⟩]; exact g2, fun a j q => by rw [g3 a j q, c1 a j q], g4⟩
      rw [f_X7_step_89, h2, if_neg (by rw [o_eql (by omega) (by omega)]; exact hs3), hB.2.1, h4, if_neg (by rw [o_le (by omega) (by omega)]; omega), rdI_o (by omega) (by omega), b1, sortX b2, bd_s, h2, if_pos (by rw [hc]), bN_e, h4, o_addl]
      exact g1 kx
    · refine ⟨M, fun kx => ?_, by rw [if_neg (fun q => hc q.2)]; exact h4, fun _ _ _ => rfl, rfl⟩
      rw [f_X7_step_89, h2, if_neg (by rw [o_eql (by omega) (by omega)]; exact hs3), hB.2.1, h4, if_neg (by rw [o_le (by omega) (by omega)]; omega), rdI_o (by omega) (by omega), b1, sortX b2, bd_s, h2, if_neg (by rw [o_eq (by omega) (by omega)]; exact hc)]
