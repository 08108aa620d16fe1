/-! ===== the pure layer: surest, the reference's nodes ===== -/
section
variable {np nw : Nat} {lw pl wy : Nat → Int32} {rn : Int32} {S : Nat → k_r → Nat}
theorem sdy_cg {r q : k_r} {n : Nat} {wt : Int32} (hSS : ∀ r' q', Sd np nw pl wy lw r' → rEq np nw r' q' → S (n - 1) r' = S (n - 1) q') (hS : Sd np nw pl wy lw r) (h : rEq np nw r q) : sdy pl lw S n r wt = sdy pl lw S n q wt := by
  obtain ⟨p, hA⟩ := Sd_At hS
  unfold sdy
  rcases stS_cg (lw := lw) (wt := wt) hS.1 h hA.1 hA.2.1 with ⟨h1, h2⟩ | ⟨r', q', h1, h2, h3⟩
  · rw [h1, h2]
  · rw [h1, h2]
    exact hSS r' q' (stS_Sd hS h1).1 h3
theorem sur_cg : ∀ (f n : Nat) (r q : k_r), Sd np nw pl wy lw r → rEq np nw r q → sur nw pl wy lw f n r = sur nw pl wy lw f n q
  | 0, _, _, _, _, _ => rfl
  | f + 1, n, r, q, hS, h => by
    have e1 : sst pl lw (sur nw pl wy lw f) n r = sst pl lw (sur nw pl wy lw f) n q := by
      unfold sst
      rw [sdy_cg (fun r' q' a b => sur_cg f (n - 1) r' q' a b) hS h, sdy_cg (fun r' q' a b => sur_cg f (n - 1) r' q' a b) hS h, h.1 0 (by omega)]
    have e2 : (fun s v => Nat.max s (swy nw wy lw (sur nw pl wy lw f) n r v)) = (fun s v => Nat.max s (swy nw wy lw (sur nw pl wy lw f) n q v)) := by
      funext s v
      congr 1
      unfold swy
      rcases stG_cg (wy := wy) (lw := lw) h v with ⟨h1, h2⟩ | ⟨r', q', h1, h2, h3⟩
      · rw [h1, h2]
      · rw [h1, h2]
        simp only
        rw [sur_cg f _ r' q' (stG_Sd hS h1).1 h3]
    rw [sur_s, sur_s, e1, e2]
theorem trim_eq (r : k_r) (np8 : np ≤ 8) (nw12 : nw ≤ 12) : rEq np nw r (fun k => if k < 25 then r k else 0) := ⟨fun k hk => (if_pos (show k < 25 by omega)).symm, fun v hv => (if_pos (show 13 + v < 25 by omega)).symm⟩
theorem dvl_le {r : k_r} {n a : Nat} {wt : Int32} (hS : Sd np nw pl wy lw r) (h : ∀ n' r', Sd np nw pl wy lw r' → S n' r' ≤ 4 ^ n') : dvl nw pl wy lw rn S n r a wt ≤ 4 ^ n := by
  unfold dvl
  cases hs : stW nw pl wy lw rn wt a r with
  | none => exact Nat.zero_le _
  | some r' =>
    simp only
    split
    · rename_i hd
      have h1 : 4 ^ dN wy a * S (n - dN wy a) r' ≤ 4 ^ dN wy a * 4 ^ (n - dN wy a) := Nat.mul_le_mul_left _ (h _ _ (stW_Sd hS hs).1)
      rw [← Nat.pow_add, show dN wy a + (n - dN wy a) = n by omega] at h1
      exact h1
    · exact Nat.le_refl _
theorem m1n : ¬ (0 : Int32) ≤ -1 := by decide
theorem evalM {N : k_M} {d n a ph f : Nat} (hE : EN N nw pl wy lw rn) (hdn : d + n ≤ 4) (hn1 : 1 ≤ n) (hS : Sd np nw pl wy lw (rwM N d)) (h89 : N.1 89 d = Int32.ofNat n) (h91 : N.1 91 d = Int32.ofNat a) (ha : a ≤ nw) (hph : ph = 0 ∨ ph = 2) (h93 : N.1 93 d = Int32.ofNat ph) (hc : ∀ n', 1 ≤ n' → n' < n → NodeS np nw pl wy lw rn f n') :
    ∃ t N', t ≤ 2 + 105 ^ (n - 1) ∧ LG d (sI N 93 d (Int32.ofNat (ph + 1))) N' ∧ ∀ k kx, f_X12_findSurest_32 (k + t) (Int32.ofNat d) (-1) N kx = f_X12_findSurest_32 k (Int32.ofNat d) (Int32.ofNat (dvl nw pl wy lw rn (sur nw pl wy lw f) n (rwM N d) a (if ph = 2 then 1 else 0))) N' kx := by
  have nw12 := hS.1.2.1
  have np8 := hS.1.1
  obtain ⟨wt, hwt⟩ : ∃ wt : Int32, wt = (if ph = 2 then 1 else 0) := ⟨_, rfl⟩
  rw [← hwt]
  have st : ∀ k kx, f_X12_findSurest_32 (k + 1) (Int32.ofNat d) (-1) N kx = bd (f_X12_down (Int32.ofNat d) (Int32.ofNat a) wt N) (fun r1 M2 => rdI M2 93 6 (Int32.ofNat d) (fun v3 => wrI M2 93 6 (Int32.ofNat d) (v3 + 1) (fun M4 => if 0 ≤ r1 then f_X12_findSurest_32 k (Int32.ofNat d) r1 M4 kx else f_X12_findSurest_32 k (Int32.ofNat d + 1) r1 M4 kx))) := fun k kx => by
    rw [head_e hE (by omega) hS h91 ha]
    unfold f_X12_findSurest_110
    rcases hph with rfl | rfl
    · rw [if_neg (by omega)] at hwt
      rw [rdI_o (by omega) (by omega), h93, if_pos (by decide), if_neg m1n, rdI_o (by omega) (by omega), h93, if_neg (by decide), hwt]
      rfl
    · rw [if_pos rfl] at hwt
      rw [rdI_o (by omega) (by omega), h93, if_pos (by decide), if_neg m1n, rdI_o (by omega) (by omega), h93, if_pos (by decide), hwt]
      rfl
  have sIG : ∀ N', LG d N N' → LG d (sI N 93 d (Int32.ofNat (ph + 1))) (sI N' 93 d (Int32.ofNat (ph + 1))) := fun N' h => ⟨fun a j q1 q2 => by
    rw [sI_g, sI_g]
    by_cases hh : a = 93 ∧ j = d
    · rw [if_pos hh, if_pos hh]
    · rw [if_neg hh, if_neg hh]
      exact h.1 a j q1 q2, h.2⟩
  rcases downM (S := sur nw pl wy lw f) (wt := wt) hE (by omega) (by omega) hS h89 ha with ⟨N', v, g1, g2, g3, g4⟩ | ⟨N', r', g1, g2, g3, g4, g5, g6, g7, g8, g9, g10⟩
  · refine ⟨1, sI N' 93 d (Int32.ofNat (ph + 1)), Nat.le_trans (show 1 ≤ 2 by omega) (Nat.le_add_right _ _), sIG N' g3, fun k kx => ?_⟩
    rw [st, g4, bd_s, rdI_o (by omega) (by omega), g3.1 93 d (by omega) (by omega), h93, o_addl, wrI_o (by omega) (by omega), if_pos (o_nn (by omega)), ← g2]
  · obtain ⟨N1, hN1⟩ : ∃ N1, N1 = sI N' 93 d (Int32.ofNat (ph + 1)) := ⟨_, rfl⟩
    have c1 : ∀ a j, ¬ (a = 93 ∧ j = d) → N1.1 a j = N'.1 a j := fun a j q => by rw [hN1, sI_g, if_neg q]
    have hG1 : LG d (sI N 93 d (Int32.ofNat (ph + 1))) N1 := by rw [hN1]; exact sIG N' g4
    have hS' : Sd np nw pl wy lw r' := (stW_Sd hS g1).1
    have rt : rEq np nw r' (rwM N1 (d + 1)) := by
      rw [hN1, rwM_sI _ _ (by omega), g5]
      exact trim_eq r' np8 nw12
    have hE1 : EN N1 nw pl wy lw rn := EN_F (d := d) (LF_tr (LF_sI N _ (by omega)) (LG_LF hG1)) hE
    obtain ⟨t1, N2, k1, k2, k3, k4, k5, k6⟩ := hc (n - dN wy a) (by omega) (by omega) (d + 1) N1 (by omega) hE1 (Sd_cg rt hS') (by rw [c1 _ _ (by omega)]; exact g6) (by rw [c1 _ _ (by omega)]; exact g7) (by rw [c1 _ _ (by omega)]; exact g8) (by rw [c1 _ _ (by omega)]; exact g9)
    rw [← sur_cg f _ _ _ hS' rt] at k4
    have hpw : 105 ^ (n - dN wy a) ≤ 105 ^ (n - 1) := Nat.pow_le_pow_right (by omega) (by omega)
    have hGN : LG d (sI N 93 d (Int32.ofNat (ph + 1))) N2 := LG_tr hG1 (LF_LG k2)
    have v89 : N2.1 89 d = Int32.ofNat n := by rw [hGN.1 _ _ (by omega) (by omega), sI_g, if_neg (by omega)]; exact h89
    have hE2 := EN_F k2 hE1
    refine ⟨1 + t1 + 1, N2, by omega, hGN, fun k kx => ?_⟩
    have ed : dvl nw pl wy lw rn (sur nw pl wy lw f) n (rwM N d) a wt = 4 ^ dN wy a * sur nw pl wy lw f (n - dN wy a) r' := by
      unfold dvl
      rw [g1]
      simp only
      rw [if_pos g3]
    rw [show k + (1 + t1 + 1) = k + 1 + t1 + 1 by omega, st, g10, bd_s, rdI_o (by omega) (by omega), g4.1 93 d (by omega) (by omega), h93, o_addl, wrI_o (by omega) (by omega), if_neg m1n, ← hN1, o_addl, k6, f_X12_findSurest_32, rdI_o (by omega) (by omega), k5, hE2.2.2.2.2, if_neg (by rw [o_le (by omega) (by omega)]; omega), if_neg (by rw [o_eql (by omega) (by omega)]; omega), rdI_o (by omega) (by omega), k4, o_subl (by omega), Nat.add_sub_cancel, rdI_o (by omega) (by omega), v89, rdI_o (by omega) (by omega), k3, o_sub (by omega), show n - (n - dN wy a) = dN wy a by omega, pow_e _ _ (by omega), bd_s, bN_e, o_mul, o_dec, ed, Nat.mul_comm]
/-- an act is weighed -/
theorem fin_e {N : k_M} {d a b v : Nat} (hd : d ≤ 4) (h90 : N.1 90 d = Int32.ofNat b) (h91 : N.1 91 d = Int32.ofNat a) (hb : b ≤ 256) (hv : v ≤ 256) (kb : Int32 → Int32 → k_M → Option (Int32 × k_M)) (kx : k_M → Option (Int32 × k_M)) : f_X12_findSurest_247 (Int32.ofNat d) (-1) (Int32.ofNat v) N kb kx = kb (Int32.ofNat d) (-1) (sI (sI (sI N 90 d (Int32.ofNat (Nat.max b v))) 91 d (Int32.ofNat (a + 1))) 93 d 0) := by
  have g : ∀ x : Nat, f_X12_findSurest_276 (Int32.ofNat d) (-1) (Int32.ofNat d) (Int32.ofNat x) N kb kx = kb (Int32.ofNat d) (-1) (sI (sI (sI N 90 d (Int32.ofNat x)) 91 d (Int32.ofNat (a + 1))) 93 d 0) := fun x => by
    unfold f_X12_findSurest_276
    rw [wrI_o (by omega) (by omega), rdI_o (by omega) (by omega), sI_g, if_neg (by omega), h91, o_addl, wrI_o (by omega) (by omega), wrI_o (by omega) (by omega)]
  unfold f_X12_findSurest_247
  rw [rdI_o (by omega) (by omega), h90]
  by_cases hh : v ≤ b
  · rw [if_pos (by rw [o_le (by omega) (by omega)]; exact hh), rdI_o (by omega) (by omega), h90, g, show Nat.max b v = b from Nat.max_eq_left hh]
  · rw [if_neg (by rw [o_le (by omega) (by omega)]; exact hh), g, show Nat.max b v = v from Nat.max_eq_right (by omega)]
def vla (nw : Nat) (pl wy lw : Nat → Int32) (S : Nat → k_r → Nat) (n : Nat) (r : k_r) : Nat → Nat
  | 0 => sst pl lw S n r
  | v + 1 => swy nw wy lw S n r v
theorem sur_z (f : Nat) (r : k_r) : sur nw pl wy lw (f + 1) 0 r = 1 := by rw [sur_s, if_pos rfl]
theorem wtM0 (d : Int32) : wtM rn 0 d = 0 := by
  unfold wtM
  rw [if_neg (by decide), if_neg (by decide)]
theorem wtM1 (d : Int32) : wtM rn 1 d = 1 := by
  unfold wtM
  rw [if_neg (by decide), if_pos rfl]
theorem dvl_0 {f n : Nat} {r : k_r} {wt : Int32} (hn : 1 ≤ n) (hwt : ∀ d, wtM rn wt d = wt) : dvl nw pl wy lw rn (sur nw pl wy lw (f + 1)) n r 0 wt = 4 * sdy pl lw (sur nw pl wy lw (f + 1)) n r wt := by
  unfold dvl sdy stW
  rw [if_pos rfl, hwt]
  cases stS pl lw wt r with
  | none => rfl
  | some r' =>
    have e1 : dN wy 0 = 1 := rfl
    simp only
    rw [e1]
    by_cases h1 : 1 < n
    · rw [if_pos h1]
    · have : n = 1 := by omega
      subst this
      rw [if_neg h1, sur_z]
theorem dvl_w {n v : Nat} {r : k_r} {wt : Int32} : dvl nw pl wy lw rn S n r (v + 1) wt = swy nw wy lw S n r v := rfl
end
