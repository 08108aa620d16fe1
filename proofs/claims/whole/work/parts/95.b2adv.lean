/-! ===== the pure layer: the reference's step, whole ===== -/
theorem scn_1 {f : Nat → Nat} {n s : Nat} (hs : s < n) (h3 : srt (f s) ≠ 3) : scn f n (srt (f s)) (n - s) s = wEnd f n s := by
  obtain ⟨m, hm⟩ : ∃ m, n - s = m + 1 := ⟨n - s - 1, by omega⟩
  unfold wEnd
  rw [if_neg h3, hm, scn, if_pos ⟨hs, rfl⟩, show n - (s + 1) = m by omega]
theorem advM {f : Nat → Nat} {n e : Nat} {M : k_M} (hB : BM M f n) (h15 : M.1 76 15 = Int32.ofNat e) (he : e ≤ n) : ∃ M', f_X12_advance M = some ((), M') ∧ (∀ a j, ¬ (a = 76 ∧ 13 ≤ j ∧ j ≤ 17) → M'.1 a j = M.1 a j) ∧ (∀ a j, a ≠ 76 → M'.2.1 a j = M.2.1 a j) ∧ M'.2.2 = M.2.2 ∧ M'.1 76 14 = Int32.ofNat (skp f n (n - e) e) ∧ ((skp f n (n - e) e = n ∧ M'.1 76 13 = Int32.ofNat 0 ∧ M'.1 76 15 = Int32.ofNat n) ∨ (skp f n (n - e) e < n ∧ M'.1 76 13 = Int32.ofNat (srt (f (skp f n (n - e) e))) ∧ M'.1 76 15 = Int32.ofNat (wEnd f n (skp f n (n - e) e)) ∧ (srt (f (skp f n (n - e) e)) = 2 → M'.1 76 17 = nmM f (skp f n (n - e) e) (wEnd f n (skp f n (n - e) e) - skp f n (n - e) e) (skp f n (n - e) e) 0) ∧ (srt (f (skp f n (n - e) e)) = 1 → M'.2.1 76 16 = wdJ f (skp f n (n - e) e) (wEnd f n (skp f n (n - e) e) - skp f n (n - e) e) (skp f n (n - e) e) 0) ∧ (srt (f (skp f n (n - e) e)) = 3 → M'.1 76 17 = Int32.ofNat (f (skp f n (n - e) e))))) := by
  have hn := hB.1
  obtain ⟨Z, hZ⟩ : ∃ Z, Z = sI M 76 14 (Int32.ofNat e) := ⟨_, rfl⟩
  have z1 : ∀ a j, ¬ (a = 76 ∧ j = 14) → Z.1 a j = M.1 a j := fun a j r => by rw [hZ, sI_g, if_neg r]
  obtain ⟨A, a1, a2, a3, a4⟩ := adv8 (n - e) k_fu e Z (BM_fr hB (fun a j r => z1 a j (by omega))) (by rw [hZ, sI_g, if_pos ⟨rfl, rfl⟩]) (by omega) (by unfold k_fu; omega)
  obtain ⟨s, hs⟩ : ∃ s, s = skp f n (n - e) e := ⟨_, rfl⟩
  have sb := skp_b f n (n - e) e (by omega)
  rw [← hs] at a2 sb
  rw [← hs]
  obtain ⟨C, hC⟩ : ∃ C, C = sI A 76 15 (Int32.ofNat s) := ⟨_, rfl⟩
  have c1 : ∀ a j, ¬ (a = 76 ∧ (j = 14 ∨ j = 15)) → C.1 a j = M.1 a j := fun a j r => by rw [hC, sI_g, if_neg (by omega), a3 a j (by omega)]; exact z1 a j (by omega)
  have c14 : C.1 76 14 = Int32.ofNat s := by rw [hC, sI_g, if_neg (by omega)]; exact a2
  have c15 : C.1 76 15 = Int32.ofNat s := by rw [hC, sI_g, if_pos ⟨rfl, rfl⟩]
  have cd : C.2 = M.2 := by rw [hC, sI_2, a4, hZ]; rfl
  have hBC : BM C f n := BM_fr hB (fun a j r => c1 a j (by omega))
  have st : f_X12_advance M = bd (f_X12_byteAt (Int32.ofNat s) C) (fun r2 M3 => if 0 ≤ r2 then bd (f_X12_isLetter r2 M3) (fun r4 M5 => if r4 = 0 then bd (f_X12_isDigit r2 M5) (fun r6 M7 => if r6 = 0 then f_X12_advance_83 r2 3 M7 else f_X12_advance_83 r2 2 M7) else f_X12_advance_83 r2 1 M5) else f_X12_advance_83 r2 0 M3) := by
    unfold f_X12_advance
    rw [bN_e, h15, ← hZ, a1]
    unfold f_X12_advance_34
    rw [a2, bN_e, ← hC, c14]
  by_cases hsn : s < n
  · obtain ⟨b1, b2⟩ := hB.2.2 s hsn
    have hr : 1 ≤ srt (f s) ∧ srt (f s) ≤ 3 := by
      unfold srt
      repeat' split
      all_goals omega
    obtain ⟨N, g1, g2, g3, g4, g5, g6, g7, g8, g9, g10⟩ := adv83 (l1 := Int32.ofNat (f s)) (s := s) (q := srt (f s)) hBC hr.2 (.inr ⟨hsn, rfl⟩) (by omega) c14 c15
    have st2 : f_X12_advance M = f_X12_advance_83 (Int32.ofNat (f s)) (Int32.ofNat (srt (f s))) C := by
      rw [st, byteM hBC (by omega), bd_s, if_pos hsn, if_pos (o_nn (by omega)), letM b2, bd_s]
      have hc : srt (f s) = 1 ∨ srt (f s) = 2 ∨ srt (f s) = 3 := by omega
      rcases hc with hc | hc | hc
      · rw [hc, if_pos rfl, if_neg (by decide)]
        rfl
      · rw [hc, if_neg (show ¬ 2 = 1 by omega), if_pos rfl, digM b2, bd_s, hc, if_pos rfl, if_neg (show ¬ (1 : Int32) = 0 by decide)]
        rfl
      · rw [hc, if_neg (show ¬ 3 = 1 by omega), if_pos rfl, digM b2, bd_s, hc, if_neg (show ¬ 3 = 2 by omega), if_pos rfl]
        rfl
    have eE : (if srt (f s) = 0 then s else if srt (f s) = 3 then s + 1 else scn f n (srt (f s)) (n - s) s) = wEnd f n s := by
      rw [if_neg (by omega)]
      by_cases h3 : srt (f s) = 3
      · rw [if_pos h3]
        unfold wEnd
        rw [if_pos h3]
      · rw [if_neg h3]
        exact scn_1 hsn h3
    rw [eE] at g7
    refine ⟨N, by rw [st2]; exact g1, fun a j r => by rw [g2 a j r]; exact c1 a j (by omega), fun a j r => by rw [g3 a j r, cd], by rw [g4, cd], g6, .inr ⟨hsn, g5, g7, fun h2 => ?_, fun h2 => ?_, g10⟩⟩
    · have := scn_1 (f := f) hsn (show srt (f s) ≠ 3 by omega)
      rw [h2] at this
      rw [← this]
      exact g8 h2
    · have := scn_1 (f := f) hsn (show srt (f s) ≠ 3 by omega)
      rw [h2] at this
      rw [← this]
      exact g9 h2
  · obtain ⟨N, g1, g2, g3, g4, g5, g6, g7, -⟩ := adv83 (l1 := -1) (s := s) (q := 0) hBC (by omega) (.inl rfl) (by omega) c14 c15
    refine ⟨N, ?_, fun a j r => by rw [g2 a j r]; exact c1 a j (by omega), fun a j r => by rw [g3 a j r, cd], by rw [g4, cd], g6, .inl ⟨by omega, g5, by rw [g7, if_pos rfl, show s = n by omega]⟩⟩
    rw [st, byteM hBC (by omega), bd_s, if_neg hsn, if_neg (by decide)]
    exact g1
