/-! ===== the pure layer: how far: over places between ===== -/
def Inv (np : Nat) (G : Nat → Nat → Nat) (m i j : Nat) (F : Nat → Nat → Nat) : Prop := ∀ a b, a < 8 → b < 8 → F a b = if (a < i ∧ b < np) ∨ (a = i ∧ b < j) then Nat.min (G a b) (G a m + G m b) else G a b
def FG (c : Nat) (G : Nat → Nat → Nat) : Prop := (∀ a, G a a = 0) ∧ (∀ a b, G a b ≤ 10000) ∧ ∀ a b, a < 8 → b < 8 → G a b = 10000 ∨ G a b ≤ c
section
variable {M : k_M} {np m c : Nat} {G : Nat → Nat → Nat}
theorem Inv_im {i j : Nat} {F : Nat → Nat → Nat} (hG : FG c G) (h : Inv np G m i j F) {a : Nat} (ha : a < 8) (hm : m < 8) : F a m = G a m := by
  rw [h a m ha hm, hG.1 m, Nat.add_zero]
  split
  · exact Nat.min_eq_left (Nat.le_refl _)
  · rfl
theorem Inv_mj {i j : Nat} {F : Nat → Nat → Nat} (hG : FG c G) (h : Inv np G m i j F) {b : Nat} (hb : b < 8) (hm : m < 8) : F m b = G m b := by
  rw [h m b hm hb, hG.1 m, Nat.zero_add]
  split
  · exact Nat.min_eq_left (Nat.le_refl _)
  · rfl
theorem fars118 (hnp : np ≤ 8) (h0 : M.1 76 0 = Int32.ofNat np) (hm : m < np) (hc : 2 * c < 10000) (hG : FG c G) {i : Nat} (hi : i < np) : ∀ (t k j : Nat) (N : k_M) (F : Nat → Nat → Nat), j + t = np → t < k → AF M N F → Inv np G m i j F → ∃ N' F', (∀ kx, f_X12_findFars_118 k (Int32.ofNat m) (Int32.ofNat i) (Int32.ofNat j) N kx = kx (Int32.ofNat m) (Int32.ofNat i) N') ∧ AF M N' F' ∧ Inv np G m i np F'
  | 0, k, j, N, F, hj, hk, hA, hI => by
    obtain ⟨k, rfl⟩ : ∃ q, k = q + 1 := ⟨k - 1, by omega⟩
    refine ⟨N, F, fun kx => ?_, hA, ?_⟩
    · rw [f_X12_findFars_118, AF_c hA (by omega), h0, if_pos (by rw [o_le (by omega) (by omega)]; omega)]
    · rw [show np = j by omega] at hI ⊢
      exact hI
  | t + 1, k, j, N, F, hj, hk, hA, hI => by
    obtain ⟨k, rfl⟩ : ∃ q, k = q + 1 := ⟨k - 1, by omega⟩
    have fim := Inv_im hG hI (a := i) (by omega) (show m < 8 by omega)
    have fmj := Inv_mj hG hI (b := j) (by omega) (show m < 8 by omega)
    have e1 : (8 : Int32) * Int32.ofNat i + Int32.ofNat m = Int32.ofNat (8 * i + m) := by
      have : (8 : Int32) * Int32.ofNat i = Int32.ofNat (8 * i) := o_lmul i 8
      rw [this, o_add]
    have e2 : (8 : Int32) * Int32.ofNat m + Int32.ofNat j = Int32.ofNat (8 * m + j) := by
      have : (8 : Int32) * Int32.ofNat m = Int32.ofNat (8 * m) := o_lmul m 8
      rw [this, o_add]
    have nx : ∀ N1 F1, AF M N1 F1 → (∀ a b, a < 8 → b < 8 → F1 a b = if a = i ∧ b = j then Nat.min (F a b) (G a m + G m b) else F a b) → ∃ N' F', (∀ kx, f_X12_findFars_118 k (Int32.ofNat m) (Int32.ofNat i) (Int32.ofNat (j + 1)) N1 kx = kx (Int32.ofNat m) (Int32.ofNat i) N') ∧ AF M N' F' ∧ Inv np G m i np F' := fun N1 F1 hA1 hF1 => by
      refine fars118 hnp h0 hm hc hG hi t k (j + 1) N1 F1 (by omega) (by omega) hA1 (fun a b ha hb => ?_)
      rw [hF1 a b ha hb, hI a b ha hb]
      by_cases hh : a = i ∧ b = j
      · obtain ⟨rfl, rfl⟩ := hh
        rw [if_pos ⟨rfl, rfl⟩, if_neg (by omega), if_pos (by omega)]
      · rw [if_neg hh]
        by_cases hq : (a < i ∧ b < np) ∨ (a = i ∧ b < j)
        · rw [if_pos hq, if_pos (by omega)]
        · rw [if_neg hq, if_neg (by omega)]
    have skip : 10000 ≤ G i m + G m j → ∃ N' F', (∀ kx, f_X12_findFars_118 k (Int32.ofNat m) (Int32.ofNat i) (Int32.ofNat (j + 1)) N kx = kx (Int32.ofNat m) (Int32.ofNat i) N') ∧ AF M N' F' ∧ Inv np G m i np F' := fun hs => by
      refine nx N F hA (fun a b ha hb => ?_)
      split
      · rename_i hh
        obtain ⟨rfl, rfl⟩ := hh
        have := hA.2.2.2 a b
        exact (Nat.min_eq_left (by omega)).symm
      · rfl
    have c1 := hA.1 i m (by omega) (by omega)
    have c2 := hA.1 m j (by omega) (by omega)
    rw [fim] at c1
    rw [fmj] at c2
    by_cases h1 : G i m = 10000
    · obtain ⟨N', F', g1, g2, g3⟩ := skip (by omega)
      refine ⟨N', F', fun kx => ?_, g2, g3⟩
      rw [f_X12_findFars_118, AF_c hA (by omega), h0, if_neg (by rw [o_le (by omega) (by omega)]; omega), e1, rdI_o (by omega) (by omega), c1, if_pos (by rw [enc_lt (hG.2.1 _ _)]; exact h1)]
      unfold f_X12_findFars_183
      rw [o_addl]
      exact g1 kx
    · by_cases h2 : G m j = 10000
      · obtain ⟨N', F', g1, g2, g3⟩ := skip (by omega)
        refine ⟨N', F', fun kx => ?_, g2, g3⟩
        rw [f_X12_findFars_118, AF_c hA (by omega), h0, if_neg (by rw [o_le (by omega) (by omega)]; omega), e1, rdI_o (by omega) (by omega), c1, if_neg (by rw [enc_lt (hG.2.1 _ _)]; exact h1), e2, rdI_o (by omega) (by omega), c2, if_pos (by rw [enc_lt (hG.2.1 _ _)]; exact h2)]
        unfold f_X12_findFars_183
        rw [o_addl]
        exact g1 kx
      · have b1 := (hG.2.2 i m (by omega) (by omega)).resolve_left h1
        have b2 := (hG.2.2 m j (by omega) (by omega)).resolve_left h2
        obtain ⟨N1, k1, k2⟩ := nearerM (u := i) (v := j) (x := G i m + G m j) hA (by omega) (by omega) (by omega)
        obtain ⟨N', F', g1, g2, g3⟩ := nx N1 _ k2 (fun a b ha hb => by
          unfold upF
          by_cases hh : a = i ∧ b = j
          · obtain ⟨rfl, rfl⟩ := hh
            rw [if_pos ⟨rfl, rfl⟩]
          · rw [if_neg hh, if_neg hh])
        refine ⟨N', F', fun kx => ?_, g2, g3⟩
        rw [f_X12_findFars_118, AF_c hA (by omega), h0, if_neg (by rw [o_le (by omega) (by omega)]; omega), e1, rdI_o (by omega) (by omega), c1, if_neg (by rw [enc_lt (hG.2.1 _ _)]; exact h1), e2, rdI_o (by omega) (by omega), c2, if_neg (by rw [enc_lt (hG.2.1 _ _)]; exact h2), rdI_o (by omega) (by omega), c1, rdI_o (by omega) (by omega), c2, enc_f h1, enc_f h2, o_add, k1, bd_s]
        unfold f_X12_findFars_183
        rw [o_addl]
        exact g1 kx
theorem fars108 (hnp : np ≤ 8) (h0 : M.1 76 0 = Int32.ofNat np) (hm : m < np) (hc : 2 * c < 10000) (hG : FG c G) : ∀ (t k i : Nat) (N : k_M) (F : Nat → Nat → Nat), i + t = np → t < k → AF M N F → Inv np G m i 0 F → ∃ N' F', (∀ kx, f_X12_findFars_108 k (Int32.ofNat m) (Int32.ofNat i) N kx = kx (Int32.ofNat m) N') ∧ AF M N' F' ∧ Inv np G m np 0 F'
  | 0, k, i, N, F, hi, hk, hA, hI => by
    obtain ⟨k, rfl⟩ : ∃ q, k = q + 1 := ⟨k - 1, by omega⟩
    refine ⟨N, F, fun kx => ?_, hA, ?_⟩
    · rw [f_X12_findFars_108, AF_c hA (by omega), h0, if_pos (by rw [o_le (by omega) (by omega)]; omega)]
    · rw [show i = np by omega] at hI
      exact hI
  | t + 1, k, i, N, F, hi, hk, hA, hI => by
    obtain ⟨k, rfl⟩ : ∃ q, k = q + 1 := ⟨k - 1, by omega⟩
    obtain ⟨N1, F1, g1, g2, g3⟩ := fars118 hnp h0 hm hc hG (i := i) (by omega) np k_fu 0 N F (by omega) (by unfold k_fu; omega) hA hI
    obtain ⟨N', F', k1, k2, k3⟩ := fars108 hnp h0 hm hc hG t k (i + 1) N1 F1 (by omega) (by omega) g2 (fun a b ha hb => by
      rw [g3 a b ha hb]
      by_cases hq : (a < i ∧ b < np) ∨ (a = i ∧ b < np)
      · rw [if_pos hq, if_pos (by omega)]
      · rw [if_neg hq, if_neg (by omega)])
    refine ⟨N', F', fun kx => ?_, k2, k3⟩
    rw [f_X12_findFars_108, AF_c hA (by omega), h0, if_neg (by rw [o_le (by omega) (by omega)]; omega), e0z, g1]
    unfold f_X12_findFars_189
    rw [o_addl]
    exact k1 kx
end
/-- all that the table keeps after m places -/
def FW (np nw : Nat) (wy : Nat → Int32) (m : Nat) (G : Nat → Nat → Nat) : Prop := (∀ a, G a a = 0) ∧ (∀ a b, G a b ≤ 10000) ∧ (∀ a b, a < 8 → b < 8 → G a b = 10000 ∨ (G a b ≤ 4 * 2 ^ m ∧ ∃ n, Wk (edg nw wy) n a b (G a b))) ∧ (∀ u v w, u < 8 → v < 8 → w ≤ 4 → edg nw wy u v w → G u v ≤ w) ∧ ∀ a b k, a < np → b < np → k < m → G a b ≤ G a k + G k b
theorem FW_s {np nw m : Nat} {wy : Nat → Int32} {G F : Nat → Nat → Nat} (hnp : np ≤ 8) (hm : m < np) (h : FW np nw wy m G) (hI : Inv np G m np 0 F) (hF : ∀ a b, F a b ≤ 10000) (hFd : ∀ a, F a a = 0) : FW np nw wy (m + 1) F := by
  obtain ⟨h1, h2, h3, h4, h5⟩ := h
  have e : ∀ a b, a < np → b < np → F a b = Nat.min (G a b) (G a m + G m b) := fun a b ha hb => by
    rw [hI a b (by omega) (by omega), if_pos (by omega)]
  have le : ∀ a b, a < 8 → b < 8 → F a b ≤ G a b := fun a b ha hb => by
    rw [hI a b ha hb]
    split
    · exact Nat.min_le_left _ _
    · exact Nat.le_refl _
  have pw : 2 ^ (m + 1) = 2 * 2 ^ m := by rw [Nat.pow_succ, Nat.mul_comm]
  refine ⟨hFd, hF, fun a b ha hb => ?_, fun u v w hu hv hw he => Nat.le_trans (le u v hu hv) (h4 u v w hu hv hw he), fun a b k ha hb hk => ?_⟩
  · have base : G a b = 10000 ∨ (G a b ≤ 4 * 2 ^ (m + 1) ∧ ∃ n, Wk (edg nw wy) n a b (G a b)) := (h3 a b ha hb).imp id (fun q => ⟨by rw [pw]; omega, q.2⟩)
    rw [hI a b ha hb]
    split
    · by_cases hl : G a b ≤ G a m + G m b
      · rw [show Nat.min (G a b) (G a m + G m b) = G a b from Nat.min_eq_left hl]
        exact base
      · rw [show Nat.min (G a b) (G a m + G m b) = G a m + G m b from Nat.min_eq_right (by omega)]
        have hb0 := h2 a b
        rcases h3 a m ha (by omega) with q1 | ⟨q1, n1, w1⟩
        · omega
        · rcases h3 m b (by omega) hb with q2 | ⟨q2, n2, w2⟩
          · omega
          · obtain ⟨k, hk⟩ := Wk_tr w1 n2 _ b w2
            exact .inr ⟨by rw [pw]; omega, k, hk⟩
    · exact base
  · have m1 : ∀ x y, x < np → y < np → F x y ≤ G x y := fun x y hx hy => le x y (by omega) (by omega)
    have m2 : ∀ x y, x < np → y < np → F x y ≤ G x m + G m y := fun x y hx hy => by rw [e x y hx hy]; exact Nat.min_le_right _ _
    have mc : ∀ x y, x < np → y < np → F x y = G x y ∨ F x y = G x m + G m y := fun x y hx hy => by
      rw [e x y hx hy]
      by_cases hl : G x y ≤ G x m + G m y
      · exact .inl (Nat.min_eq_left hl)
      · exact .inr (Nat.min_eq_right (by omega))
    have hmm := h1 m
    by_cases hkm : k = m
    · subst hkm
      have q1 := m2 a b ha hb
      have q2 := mc a k ha hm
      have q3 := mc k b hm hb
      omega
    · have hk' : k < m := by omega
      have q0 := m1 a b ha hb
      have q1 := m2 a b ha hb
      have t1 := h5 a b k ha hb hk'
      have t2 := h5 m b k hm hb hk'
      have t3 := h5 a m k ha hm hk'
      rcases mc a k ha (by omega) with q2 | q2 <;> rcases mc k b (by omega) hb with q3 | q3 <;> omega
