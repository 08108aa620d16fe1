/-! ===== the pure layer: the class's step ===== -/
def nmI (f : Nat → Nat) : Nat → Nat → Int32 → Int32
  | 0, _, x => x
  | m + 1, i, x => nmI f m (i + 1) (x * 10 + Int32.ofNat (f i) - 48)
def wEnd (f : Nat → Nat) (n s : Nat) : Nat := if srt (f s) = 3 then s + 1 else scn f n (srt (f s)) (n - (s + 1)) (s + 1)
def wVal (f : Nat → Nat) (s e : Nat) : Int32 := if e - s ≤ 2 then nmI f (e - s) s 0 else 1000
theorem skp_b (f : Nat → Nat) (n : Nat) : ∀ m e, e + m = n → e ≤ skp f n m e ∧ skp f n m e ≤ n
  | 0, e, h => ⟨Nat.le_refl _, by unfold skp; omega⟩
  | m + 1, e, h => by
    have := skp_b f n m (e + 1) (by omega)
    unfold skp
    split <;> omega
theorem scn_b (f : Nat → Nat) (n s : Nat) : ∀ m e, e + m = n → e ≤ scn f n s m e ∧ scn f n s m e ≤ n
  | 0, e, h => ⟨Nat.le_refl _, by unfold scn; omega⟩
  | m + 1, e, h => by
    have := scn_b f n s m (e + 1) (by omega)
    unfold scn
    split <;> omega
theorem wEnd_b (f : Nat → Nat) {n s : Nat} (hs : s < n) : s < wEnd f n s ∧ wEnd f n s ≤ n := by
  have := scn_b f n (srt (f s)) (n - (s + 1)) (s + 1) (by omega)
  unfold wEnd
  split <;> omega
theorem numX {f : Nat → Nat} {n e : Nat} {M : k_M} (hB : BX M f n) (h4 : M.1 1 4 = Int32.ofNat e) (he : e ≤ n) : ∀ (m k i : Nat) (x : Int32), i + m = e → m < k → f_X7_numberHere_24 k x (Int32.ofNat i) M (fun l1_ M_ => f_X7_numberHere_53 l1_ M_) = some (nmI f m i x, M)
  | 0, k, i, x, hi, hk => by
    obtain ⟨k, rfl⟩ : ∃ q, k = q + 1 := ⟨k - 1, by omega⟩
    have hn := hB.1
    rw [f_X7_numberHere_24, h4, if_pos (by rw [o_le (by omega) (by omega)]; omega)]
    rfl
  | m + 1, k, i, x, hi, hk => by
    obtain ⟨k, rfl⟩ : ∃ q, k = q + 1 := ⟨k - 1, by omega⟩
    have hn := hB.1
    obtain ⟨b1, b2⟩ := hB.2.2 i (by omega)
    rw [f_X7_numberHere_24, h4, if_neg (by rw [o_le (by omega) (by omega)]; omega), rdI_o (by omega) (by omega), b1, bN_e, o_addl]
    exact numX hB h4 he m k (i + 1) _ (by omega) (by omega)
theorem numHX {f : Nat → Nat} {n s e : Nat} {M : k_M} (hB : BX M f n) (h3 : M.1 1 3 = Int32.ofNat s) (h4 : M.1 1 4 = Int32.ofNat e) (hse : s ≤ e) (he : e ≤ n) : f_X7_numberHere M = some (wVal f s e, M) := by
  have hn := hB.1
  unfold f_X7_numberHere wVal
  rw [h4, h3, o_sub hse]
  by_cases h : e - s ≤ 2
  · rw [if_pos (by rw [o_lel (by omega) (by omega)]; exact h), if_pos h, bN_e]
    exact numX hB h4 he (e - s) k_fu s 0 (by omega) (by unfold k_fu; omega)
  · rw [if_neg (by rw [o_lel (by omega) (by omega)]; exact h), if_neg h]
theorem BX_fr {f : Nat → Nat} {n : Nat} {M M' : k_M} (h : BX M f n) (c : ∀ a j, ¬ (a = 1 ∧ 2 ≤ j ∧ j ≤ 5) → M'.1 a j = M.1 a j) : BX M' f n := ⟨h.1, by rw [c _ _ (by omega)]; exact h.2.1, fun k hk => by rw [c _ _ (by omega)]; exact h.2.2 k hk⟩
/-- the class steps on to the next word -/
theorem stepX {f : Nat → Nat} {n e : Nat} {M : k_M} (hB : BX M f n) (h4 : M.1 1 4 = Int32.ofNat e) (he : e ≤ n) : ∃ M', f_X7_step M = some ((), M') ∧ (∀ a j, ¬ (a = 1 ∧ 2 ≤ j ∧ j ≤ 5) → M'.1 a j = M.1 a j) ∧ M'.2 = M.2 ∧ M'.1 1 3 = Int32.ofNat (skp f n (n - e) e) ∧ ((skp f n (n - e) e = n ∧ M'.1 1 2 = Int32.ofNat 0 ∧ M'.1 1 4 = Int32.ofNat n) ∨ (skp f n (n - e) e < n ∧ M'.1 1 2 = Int32.ofNat (srt (f (skp f n (n - e) e))) ∧ M'.1 1 4 = Int32.ofNat (wEnd f n (skp f n (n - e) e)) ∧ (srt (f (skp f n (n - e) e)) = 2 → M'.1 1 5 = wVal f (skp f n (n - e) e) (wEnd f n (skp f n (n - e) e))))) := by
  have hn := hB.1
  obtain ⟨A, a1, a2, a3, a4⟩ := step0X (n - e) k_fu e M hB h4 (by omega) (by unfold k_fu; omega)
  obtain ⟨s, hs⟩ : ∃ s, s = skp f n (n - e) e := ⟨_, rfl⟩
  have sb := skp_b f n (n - e) e (by omega)
  rw [← hs] at a2 sb
  rw [← hs]
  obtain ⟨C, hC⟩ : ∃ C, C = sI A 1 3 (Int32.ofNat s) := ⟨_, rfl⟩
  have c1 : ∀ a j, ¬ (a = 1 ∧ 2 ≤ j ∧ j ≤ 5) → C.1 a j = M.1 a j := fun a j q => by rw [hC, sI_g, if_neg (by omega), a3 a j (by omega)]
  have c3 : C.1 1 3 = Int32.ofNat s := by rw [hC, sI_g, if_pos ⟨rfl, rfl⟩]
  have c4 : C.1 1 4 = Int32.ofNat s := by rw [hC, sI_g, if_neg (by omega)]; exact a2
  have c11 : C.1 1 1 = Int32.ofNat n := by rw [c1 _ _ (by omega)]; exact hB.2.1
  have cd : C.2 = M.2 := by rw [hC, sI_2]; exact a4
  have st : f_X7_step M = if Int32.ofNat s < Int32.ofNat n then rdI C 2 200 (Int32.ofNat s) (fun v2 => bd (f_X7_sortOf v2 C) (fun r3 M4 => bN (sI M4 1 2 r3) (fun M5 => bN (sI M5 1 4 ((M5.1 1 4) + 1)) (fun M6 => f_X7_step_89 k_fu M6 (fun M_ => f_X7_step_140 M_))))) else bN (sI C 1 2 0) (fun M7 => some ((), M7)) := by
    unfold f_X7_step
    rw [a1]
    unfold f_X7_step_38
    rw [a2, bN_e, ← hC, c3, c11]
  by_cases hsn : s < n
  · obtain ⟨b1, b2⟩ := hB.2.2 s hsn
    have hr : srt (f s) ≤ 3 := by
      unfold srt
      repeat' split
      all_goals omega
    obtain ⟨D, hD⟩ : ∃ D, D = sI (sI C 1 2 (Int32.ofNat (srt (f s)))) 1 4 (Int32.ofNat (s + 1)) := ⟨_, rfl⟩
    have d1 : ∀ a j, ¬ (a = 1 ∧ 2 ≤ j ∧ j ≤ 5) → D.1 a j = M.1 a j := fun a j q => by rw [hD, sI_g, if_neg (by omega), sI_g, if_neg (by omega)]; exact c1 a j q
    have d2 : D.1 1 2 = Int32.ofNat (srt (f s)) := by rw [hD, sI_g, if_neg (by omega), sI_g, if_pos ⟨rfl, rfl⟩]
    have d3 : D.1 1 3 = Int32.ofNat s := by rw [hD, sI_g, if_neg (by omega), sI_g, if_neg (by omega)]; exact c3
    have d4 : D.1 1 4 = Int32.ofNat (s + 1) := by rw [hD, sI_g, if_pos ⟨rfl, rfl⟩]
    have dd : D.2 = M.2 := by rw [hD, sI_2, sI_2]; exact cd
    have e4 : (sI C 1 2 (Int32.ofNat (srt (f s)))).1 1 4 = Int32.ofNat s := by rw [sI_g, if_neg (by omega)]; exact c4
    rw [if_pos (by rw [o_lt (by omega) (by omega)]; exact hsn), rdI_o (by omega) (by omega), c1 _ _ (by omega), b1, sortX b2, bd_s, bN_e, bN_e, e4, o_addl, ← hD] at st
    have hE : ∃ E, (∀ kx, f_X7_step_89 k_fu D kx = kx E) ∧ E.1 1 4 = Int32.ofNat (wEnd f n s) ∧ (∀ a j, ¬ (a = 1 ∧ j = 4) → E.1 a j = D.1 a j) ∧ E.2 = D.2 := by
      unfold wEnd
      by_cases h3 : srt (f s) = 3
      · refine ⟨D, fun kx => ?_, by rw [if_pos h3]; exact d4, fun _ _ _ => rfl, rfl⟩
        have hk : k_fu = 999999999 + 1 := rfl
        rw [hk, f_X7_step_89, d2, h3, if_pos (show Int32.ofNat 3 = 3 from rfl)]
      · rw [if_neg h3]
        exact step89X hr h3 (n - (s + 1)) k_fu (s + 1) D (BX_fr hB d1) d2 d4 (by omega) (by unfold k_fu; omega)
    obtain ⟨E, f1, f2, f3, f4⟩ := hE
    have wb := wEnd_b f hsn
    have E1 : ∀ a j, ¬ (a = 1 ∧ 2 ≤ j ∧ j ≤ 5) → E.1 a j = M.1 a j := fun a j q => by rw [f3 a j (by omega)]; exact d1 a j q
    have E2 : E.1 1 2 = Int32.ofNat (srt (f s)) := by rw [f3 _ _ (by omega)]; exact d2
    have E3 : E.1 1 3 = Int32.ofNat s := by rw [f3 _ _ (by omega)]; exact d3
    rw [f1] at st
    unfold f_X7_step_140 at st
    rw [E2] at st
    by_cases h2 : srt (f s) = 2
    · rw [if_pos (by rw [h2]; rfl), numHX (BX_fr hB E1) E3 f2 (by omega) wb.2, bd_s, bN_e] at st
      refine ⟨_, st, fun a j q => by rw [sI_g, if_neg (by omega)]; exact E1 a j q, by rw [sI_2, f4]; exact dd, by rw [sI_g, if_neg (by omega)]; exact E3, .inr ⟨hsn, by rw [sI_g, if_neg (by omega)]; exact E2, by rw [sI_g, if_neg (by omega)]; exact f2, fun _ => by rw [sI_g, if_pos ⟨rfl, rfl⟩]⟩⟩
    · rw [if_neg (by rw [o_eql (by omega) (by omega)]; exact h2)] at st
      exact ⟨E, st, E1, by rw [f4]; exact dd, E3, .inr ⟨hsn, E2, f2, fun q => absurd q h2⟩⟩
  · rw [if_neg (by rw [o_lt (by omega) (by omega)]; exact hsn), bN_e] at st
    refine ⟨_, st, fun a j q => by rw [sI_g, if_neg (by omega)]; exact c1 a j q, by rw [sI_2]; exact cd, by rw [sI_g, if_neg (by omega)]; exact c3, .inl ⟨by omega, by rw [sI_g, if_pos ⟨rfl, rfl⟩]; rfl, by rw [sI_g, if_neg (by omega), c4, show s = n by omega]⟩⟩
