/-! ===== the pure layer: party ===== -/
theorem its_e {N : k_M} {p j : Nat} (hp : p < 8) (hj : j < 3) : f_X12_its (Int32.ofNat p) (Int32.ofNat j) N = some (N.1 77 (3 * p + j), N) := by
  unfold f_X12_its
  have : (3 : Int32) * Int32.ofNat p = Int32.ofNat (3 * p) := o_lmul p 3
  rw [this, o_add, rdI_o (by omega) (by omega)]
theorem c_party (x : Int32) : Call (f_X11_party x) (f_X12_party x) := by
  intro M h
  have ht := there_e h
  obtain ⟨np, nw, G, a1, a2, hF, hL, hG⟩ := plain_of h
  have np8 := hF.1
  have e1 := hasPl_e (M := M) (w := 3) (np := np) (by omega) hL.1
  have e2 := isPl_e (M := M) (n := np) (by omega) a1
  by_cases hx : 0 ≤ x ∧ x < Int32.ofNat np
  · by_cases h0 : M.1 76 7 = 0
    · refine ⟨-4, M, M, ?_, ?_, h⟩
      · unfold f_X11_party
        rw [e1, bd_s, if_pos hx, if_neg (by decide), if_pos (by rw [ht]; exact h0)]
      · unfold f_X12_party
        rw [e2, bd_s, if_pos hx, if_neg (by decide), if_pos h0]
    · obtain ⟨np', nw', nr, hN, hWX, -, hS, hS2, hq⟩ := here_of h h0
      have enp : np' = np := o_inj (by have := hS.1.1; omega) (by omega) (hN.1.symm.trans a1)
      subst enp
      have enw : nw' = nw := o_inj (by have := hS.1.2.1; omega) (by have := hF.2.1; omega) (hN.2.1.symm.trans a2)
      subst enw
      obtain ⟨p, hp, hp0⟩ := hS2.2.2.2
      obtain ⟨b, hb, rfl⟩ := ex_lt (by omega) hx.1 hx.2
      have h34 : M.1 3 4 = Int32.ofNat p := by rw [← hp0, ← hq.1 0 (by omega)]; rfl
      have h82 : M.1 82 0 = Int32.ofNat p := by rw [← hp0, rwM_e _ _ (by omega)]
      obtain ⟨N, g1, g2, g3⟩ := betwX hL hF hG hp hb
      obtain ⟨N', k1, k2, k3, k4⟩ := farsR (N := N) a1 a2 hF hG (fun a ha => funext fun j => g2 a j (by omega))
      have e3 := isPl_e (M := N) (n := np') (by omega) (by rw [g2 _ _ (by omega)]; exact a1)
      have hb10 := hG.2.1 p b
      have fr : FR M N' := FR_tr (FR_17 (fun a j q1 q2 => g2 a j q1) g3) (FR_94 k3 k4)
      have ne : ∀ a j, a ≠ 17 → a ≠ 94 → N'.1 a j = M.1 a j := fun a j q1 q2 => by rw [k3 a j q2, g2 a j q1]
      have nc : ∀ a, a ≠ 17 → a ≠ 94 → N'.1 a = M.1 a := fun a q1 q2 => funext fun j => ne a j q1 q2
      have X1 : f_X11_party (Int32.ofNat b) M = if Int32.ofNat (G p b) = 10000 then some (-3, N) else rdI N 6 8 (Int32.ofNat b) (fun v5 => bd (f_X10_taking 3 (Int32.ofNat b) v5 N) (fun r6 M7 => some (r6, M7))) := by
        unfold f_X11_party
        rw [e1, bd_s, if_pos hx, if_neg (by decide), if_neg (by rw [ht]; exact h0), h34, g1, bd_s]
      have M1 : f_X12_party (Int32.ofNat b) N = if 0 ≤ enc (G p b) then bd (f_X12_its (Int32.ofNat b) 0 N') (fun r7 M8 => bd (f_X12_shedOf r7 M8) (fun r9 M10 => if 0 ≤ r9 then bd (f_X12_its (Int32.ofNat b) 1 M10) (fun r11 M12 => bd (f_X12_byLeft 0 (Int32.ofNat b) r11 M12) (fun r13 M14 => bd (f_X12_byRoom 0 r9 r13 M14) (fun r15 M16 => some (r15, M16)))) else some (0, M10))) else some (-3, N') := by
        unfold f_X12_party
        rw [e3, bd_s, if_pos hx, if_neg (by decide), g2 _ _ (by omega), if_neg h0, k1, bd_s, rdI_l (by omega) (by omega), ne _ _ (by omega) (by omega), h82, i8, rdI_o (by omega) (by omega), k2 p b hp hb]
      by_cases hi : G p b = 10000
      · refine ⟨-3, N, N', ?_, ?_, R_fr fr h⟩
        · rw [X1, if_pos (by rw [hi]; rfl)]
        · rw [M1, hi, if_neg (by decide)]
      · obtain ⟨k, k5, hk⟩ := (hF.2.2.1 b hb).1
        obtain ⟨gv, gv9, hgv⟩ := (hF.2.2.1 b hb).2.1
        have hlx : LX 3 N np' nw' (M.1 77) (M.1 78) := LX_fr (fun i j q1 q2 q3 q4 => g2 _ _ (by omega)) hL
        have hwx : WX 3 N (M.1 79) (M.1 76 6) := WX_fr (fun j => g2 _ _ (by omega)) (g2 _ _ (by omega)) hWX
        have erx : rwX N 3 = rwX M 3 := by
          have gc : ∀ a, a ≠ 17 → N.1 a = M.1 a := fun a q => funext fun j => g2 a j q
          unfold rwX
          rw [gc 3 (by omega), gc (3 + 17) (by omega), gc (3 + 5) (by omega), gc (3 + 12) (by omega)]
        have erm : rwM N' 0 = rwM M 0 := by
          unfold rwM
          rw [nc 82 (by omega) (by omega)]
        have nn : 0 ≤ mn2 (thr (Int32.ofNat k) (rwX M 3 (5 + b))) (Int32.ofNat gv) := mn2_nn (thr_nn (n := 99) (by omega) (hS.2.2.1.2.2.1 b hb)) (o_nn (by omega))
        have tk := taking_e (r := rwX M 3) hwx hlx hb np8 k5 hk (Int32.ofNat gv) nn
        rw [← erx, ← stX_self, erx] at tk
        have hg6 : N.1 6 b = Int32.ofNat gv := by rw [g2 _ _ (by omega), ← hgv]; exact (hL.2.2.1 b hb).2.1
        refine ⟨if 0 ≤ shk (Int32.ofNat k) then amt (mn2 (thr (Int32.ofNat k) (rwX M 3 (5 + b))) (Int32.ofNat gv)) (M.1 79 6 - rwX M 3 (2 + (shk (Int32.ofNat k)).toNatClampNeg)) else 0, N, N', ?_, ?_, R_fr fr h⟩
        · rw [X1, if_neg (by rw [o_eql (by omega) (by omega)]; exact hi), rdI_o (by omega) (by omega), hg6, tk, bd_s]
        · have i0 : f_X12_its (Int32.ofNat b) 0 N' = some (Int32.ofNat k, N') := by
            have := its_e (N := N') (p := b) (j := 0) (by omega) (by omega)
            rw [nc 77 (by omega) (by omega), Nat.add_zero, hk] at this
            exact this
          have i1 : f_X12_its (Int32.ofNat b) 1 N' = some (Int32.ofNat gv, N') := by
            have := its_e (N := N') (p := b) (j := 1) (by omega) (by omega)
            rw [nc 77 (by omega) (by omega), hgv] at this
            exact this
          rw [M1, enc_f hi, if_pos (o_nn (by omega)), i0, bd_s, shedOf_e, bd_s]
          rcases shk_c k5 with ⟨rfl, hsk⟩ | ⟨hk0, s, hs3, hsk⟩
          · rw [hsk, if_neg (by decide), if_neg (by decide)]
          · have bl := byLeft_e (M := N') (D := 0) (p := b) (r := rwM N' 0) (by omega) (by omega) (Int32.ofNat gv)
            have br := byRoom_e (M := N') (D := 0) (s := s) (r := rwM N' 0) (by omega) hs3 (mn2 (thr (Int32.ofNat k) (rwX M 3 (5 + b))) (Int32.ofNat gv))
            rw [← stR_self, nc 77 (by omega) (by omega), hk, erm, ← hq.1 (5 + b) (by omega)] at bl
            rw [← stR_self, nc 79 (by omega) (by omega), erm, ← hq.1 (2 + s) (by omega)] at br
            have bl' : f_X12_byLeft 0 (Int32.ofNat b) (Int32.ofNat gv) N' = _ := bl
            have br' : f_X12_byRoom 0 (Int32.ofNat s) (mn2 (thr (Int32.ofNat k) (rwX M 3 (5 + b))) (Int32.ofNat gv)) N' = _ := br
            rw [hsk, if_pos (o_nn (by omega)), if_pos (o_nn (by omega)), i1, bd_s, bl', bd_s, br', bd_s, o_nat (by omega)]
  · refine ⟨-1, M, M, ?_, ?_, h⟩
    · unfold f_X11_party
      rw [e1, bd_s, if_neg hx, if_pos rfl]
    · unfold f_X12_party
      rw [e2, bd_s, if_neg hx, if_pos rfl]
