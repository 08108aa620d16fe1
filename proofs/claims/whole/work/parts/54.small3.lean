/-! ===== the pure layer: set, gate, sheets ===== -/
theorem lmx_t : ∀ i : Fin 13, (k_stV 0).getD i.val 0 = Int32.ofNat (lmx i.val) := by decide
theorem c_set (x y : Int32) : Call (f_X11_set x y) (f_X12_set x y) := by
  intro M h
  obtain ⟨hB1, hB2⟩ := h.2.2.2.2.2.2.2
  by_cases hx : 0 ≤ x ∧ x ≤ Int32.ofNat 12
  · have hx' : 0 ≤ x ∧ x ≤ 12 := hx
    obtain ⟨i, hi, rfl⟩ := ex_o (n := 12) (by omega) hx.1 hx.2
    have x1 : ∀ N : k_M, f_X11_set (Int32.ofNat i) y N = bd (f_X11_within y 0 (Int32.ofNat (lmx i)) N) (fun r2 M3 => if r2 = 0 then some (-1, M3) else rdI M3 19 13 (Int32.ofNat i) (fun v4 => wrI M3 19 13 (Int32.ofNat i) y (fun M5 => some (v4, M5)))) := fun N => by
      unfold f_X11_set
      rw [if_neg (Int32.not_lt.mpr hx.1), if_neg (by rw [o_lle (by omega) (by omega)]; omega), rdT_o (t := 0) (n := i) (show i < 13 by omega) (show 13 < 2147483648 by omega), lmx_t ⟨i, by omega⟩]
    have m1 : ∀ N : k_M, N.1 80 i = Int32.ofNat (lmx i) → f_X12_set (Int32.ofNat i) y N = bd (f_X12_in y 0 (Int32.ofNat (lmx i)) N) (fun r2 M3 => if r2 = 0 then some (-1, M3) else rdI M3 79 13 (Int32.ofNat i) (fun v4 => wrI M3 79 13 (Int32.ofNat i) y (fun M5 => some (v4, M5)))) := fun N hN => by
      unfold f_X12_set f_X12_set_31
      rw [in_e, bd_s, if_pos hx', if_neg (by decide), in_e, bd_s, if_pos hx', if_neg (by decide), rdI_o (by omega) (by omega), hN]
    by_cases hy : 0 ≤ y ∧ y ≤ Int32.ofNat (lmx i)
    · have e80 : (sI M 19 i y).1 80 i = Int32.ofNat (lmx i) := by rw [sI_g, if_neg (by omega)]; exact hB1 i (by omega)
      obtain ⟨np, nw, nr, a1, a2, a3, h1, h2, h3, h4, h5, h6, h7, h8, h9⟩ := h.1
      have e : M.1 19 i = M.1 79 i := h4.1 i (by omega)
      refine ⟨M.1 19 i, sI M 19 i y, sI (sI M 19 i y) 79 i y, ?_, ?_, ?_⟩
      · rw [x1, within_e, bd_s, if_pos hy, if_neg (by decide), rdI_o (by omega) (by omega), wrI_o (by omega) (by omega)]
      · rw [m1 _ e80, in_e, bd_s, if_pos hy, if_neg (by decide), rdI_o (by omega) (by omega), wrI_o (by omega) (by omega), sI_g, if_neg (by omega), e]
      · have c : ∀ a j, ¬ (a = 19 ∨ a = 79) → (sI (sI M 19 i y) 79 i y).1 a j = M.1 a j := fun a j ha => by rw [sI_g, if_neg (by omega), sI_g, if_neg (by omega)]
        have cf : ∀ a, ¬ (a = 19 ∨ a = 79) → (sI (sI M 19 i y) 79 i y).1 a = M.1 a := fun a ha => funext fun j => c a j ha
        refine R_P (fun a _ => a = 19 ∨ a = 79) h (fun a j _ hp => c a j hp) rfl (.inr ?_) (.inl fun n a j hp => by unfold locK; omega) (.inl fun a j hp => by unfold locT; omega) (.inl fun a j hp => by unfold locW; omega) (.inl fun a j hp => by unfold locS; omega) (.inl fun a j hp => by unfold locF; omega) (.inl fun a j hp => by unfold locA; omega) (fun j => by omega)
        refine ⟨np, nw, nr, by rw [c _ _ (by omega)]; exact a1, by rw [c _ _ (by omega)]; exact a2, by rw [c _ _ (by omega)]; exact a3, ?_⟩
        rw [c 76 6 (by omega), c 76 7 (by omega), cf 77 (by omega), cf 78 (by omega), cf 81 (by omega), cf 82 (by omega)]
        have e79 : ∀ j, (sI (sI M 19 i y) 79 i y).1 79 j = if j = i then y else M.1 79 j := fun j => by
          rw [sI_g]
          by_cases hj : j = i
          · rw [if_pos ⟨rfl, hj⟩, if_pos hj]
          · rw [if_neg (fun hh => hj hh.2), if_neg hj, sI_g, if_neg (by omega)]
        have e19 : ∀ j, (sI (sI M 19 i y) 79 i y).1 19 j = if j = i then y else M.1 19 j := fun j => by
          rw [sI_g, if_neg (by omega), sI_g]
          by_cases hj : j = i
          · rw [if_pos ⟨rfl, hj⟩, if_pos hj]
          · rw [if_neg (fun hh => hj hh.2), if_neg hj]
        refine ⟨h1, LX_fr (fun i j _ _ _ _ => c _ _ (by omega)) h2, fun j hj => ?_, ⟨fun j hj => ?_, by rw [c _ _ (by omega)]; exact h4.2⟩, by rw [c _ _ (by omega)]; exact h5, h6, h7, RX_fr h1.1 h1.2.1 (c _ _ (by omega)) (c _ _ (by omega)) (fun i j _ => c _ _ (by omega)) (fun _ _ => rfl) h8, RR_fr (c _ _ (by omega)) (fun j => c _ _ (by omega)) (fun q j _ _ => c _ _ (by omega)) rfl (Nat.le_refl _) h9⟩
        · rw [e79]
          by_cases hj2 : j = i
          · rw [if_pos hj2]
            have hl : lmx i < 2147483648 := by
              have : ∀ i : Fin 13, lmx i.val < 2147483648 := by decide
              exact this ⟨i, by omega⟩
            obtain ⟨k, hk1, hk2⟩ := ex_o hl hy.1 hy.2
            exact ⟨k, by rw [hj2]; exact hk1, hk2⟩
          · rw [if_neg hj2]
            exact h3 j hj
        · show (sI (sI M 19 i y) 79 i y).1 19 j = _
          rw [e79, e19]
          by_cases hj2 : j = i
          · rw [if_pos hj2, if_pos hj2]
          · rw [if_neg hj2, if_neg hj2]
            exact h4.1 j hj
    · refine ⟨-1, M, M, ?_, ?_, h⟩
      · rw [x1, within_e, bd_s, if_neg hy, if_pos rfl]
      · rw [m1 _ (hB1 i (by omega)), in_e, bd_s, if_neg hy, if_pos rfl]
  · have hx' : ¬ (0 ≤ x ∧ x ≤ 12) := hx
    refine ⟨-1, M, M, ?_, ?_, h⟩
    · unfold f_X11_set
      by_cases h0 : x < 0
      · rw [if_pos h0]
      · rw [if_neg h0, if_pos]
        have h2 : ¬ x ≤ Int32.ofNat 12 := fun hh => hx ⟨Int32.not_lt.mp h0, hh⟩
        rw [Int32.le_iff_toInt_le] at h2 ⊢
        have e12 : (Int32.ofNat 12).toInt = 12 := by decide
        have e13 : (13 : Int32).toInt = 13 := by decide
        rw [e12] at h2
        rw [e13]
        omega
    · unfold f_X12_set
      rw [in_e, bd_s, if_neg hx', if_pos rfl]
def gtS (wv : Int32) : Nat → Nat → Int32
  | _, 0 => -3
  | d, m + 1 => if (wv >>> (mth (Int32.ofNat d) &&& 31)) &&& 1 = 1 then Int32.ofNat d else gtS wv (d + 1) m
theorem gateX {M : k_M} {v day : Nat} {wv : Int32} (hv : v < 12) (hwv : M.1 16 v = wv) (hday : day ≤ 999) : ∀ (m k d : Nat), d + m = day + 21 → m < k → f_X11_gate_29 k (Int32.ofNat v) (Int32.ofNat day) (Int32.ofNat d) M (fun l3_ M_ => f_X11_gate_55 l3_ M_) (fun M_ => f_X11_gate_63 M_) = some (gtS wv d m, M)
  | 0, k, d, hd, hk => by
    obtain ⟨k, rfl⟩ : ∃ q, k = q + 1 := ⟨k - 1, by omega⟩
    rw [f_X11_gate_29, o_addl, if_pos (by rw [o_lt (by omega) (by omega)]; omega), gtS]
    rfl
  | m + 1, k, d, hd, hk => by
    obtain ⟨k, rfl⟩ : ∃ q, k = q + 1 := ⟨k - 1, by omega⟩
    have em : f_X10_monthOf (Int32.ofNat d) M = some (mth (Int32.ofNat d), M) := rfl
    rw [f_X11_gate_29, o_addl, if_neg (by rw [o_lt (by omega) (by omega)]; omega), em, bd_s, gtS]
    unfold f_X3_isOpen
    rw [rdI_o (by omega) (by omega), show M.1 (3 + 13) v = wv from hwv]
    by_cases hb : (wv >>> (mth (Int32.ofNat d) &&& 31)) &&& 1 = 1
    · rw [if_pos hb, if_pos hb, bd_s, if_neg (by decide)]
      rfl
    · rw [if_neg hb, if_neg hb, bd_s, if_pos rfl, o_addl]
      exact gateX hv hwv hday m k (d + 1) (by omega) (by omega)
theorem gateM {M : k_M} {v day : Nat} {wv : Int32} (hv : v < 12) (hwv : M.1 78 (5 * v + 4) = wv) (hday : day ≤ 999) : ∀ (m k d : Nat), d + m = day + 21 → m < k → f_X12_gate_23 k (Int32.ofNat v) (Int32.ofNat day) (Int32.ofNat d) M (fun l3_ M_ => f_X12_gate_48 l3_ M_) (fun M_ => f_X12_gate_56 M_) = some (gtS wv d m, M)
  | 0, k, d, hd, hk => by
    obtain ⟨k, rfl⟩ : ∃ q, k = q + 1 := ⟨k - 1, by omega⟩
    rw [f_X12_gate_23, o_addl, if_pos (by rw [o_lt (by omega) (by omega)]; omega), gtS]
    rfl
  | m + 1, k, d, hd, hk => by
    obtain ⟨k, rfl⟩ : ∃ q, k = q + 1 := ⟨k - 1, by omega⟩
    have ew : f_X12_wayIts (Int32.ofNat v) 4 M = some (wv, M) := by
      unfold f_X12_wayIts
      simp (disch := omega) only [o_lmul, o_addl, rdI_o, hwv]
    rw [f_X12_gate_23, o_addl, if_neg (by rw [o_lt (by omega) (by omega)]; omega), ew, bd_s, mMonth_e, bd_s, gtS]
    by_cases hb : (wv >>> (mth (Int32.ofNat d) &&& 31)) &&& 1 = 1
    · rw [if_pos hb, if_pos hb]
      rfl
    · rw [if_neg hb, if_neg hb, o_addl]
      exact gateM hv hwv hday m k (d + 1) (by omega) (by omega)
theorem c_gate (x y : Int32) : Call (f_X11_gate x y) (f_X12_gate x y) := by
  intro M h
  obtain ⟨np, nw, nr, a1, a2, a3, h1, h2, h3, h4, h5, h6, h7, h8, h9⟩ := h.1
  have nw12 := h1.2.1
  have e1 := hasWy_e (M := M) (w := 3) (nw := nw) (by omega) h2.2.1 x
  have e2 := isWy_e (M := M) (n := nw) (by omega) a2 x
  by_cases hx : 0 ≤ x ∧ x < Int32.ofNat nw
  · rw [if_pos hx] at e1 e2
    obtain ⟨v, hv, rfl⟩ := ex_lt (by omega) hx.1 hx.2
    by_cases hy : 0 ≤ y ∧ y ≤ 999
    · obtain ⟨d, hd, rfl⟩ := ex_o (n := 999) (by omega) hy.1 hy.2
      refine ⟨gtS (M.1 78 (5 * v + 4)) d 21, M, M, ?_, ?_, h⟩
      · unfold f_X11_gate
        rw [e1, bd_s, if_neg (by decide), within_e, bd_s, if_pos hy, if_neg (by decide)]
        exact gateX (by omega) (h2.2.2.2 v hv).2.2.2 hd 21 k_fu d (by omega) (by unfold k_fu; omega)
      · unfold f_X12_gate
        rw [e2, bd_s, if_neg (by decide), in_e, bd_s, if_pos hy, if_neg (by decide)]
        exact gateM (by omega) rfl hd 21 k_fu d (by omega) (by unfold k_fu; omega)
    · refine ⟨-1, M, M, ?_, ?_, h⟩
      · unfold f_X11_gate
        rw [e1, bd_s, if_neg (by decide), within_e, bd_s, if_neg hy, if_pos rfl]
      · unfold f_X12_gate
        rw [e2, bd_s, if_neg (by decide), in_e, bd_s, if_neg hy, if_pos rfl]
  · rw [if_neg hx] at e1 e2
    refine ⟨-1, M, M, ?_, ?_, h⟩
    · unfold f_X11_gate
      rw [e1, bd_s, if_pos rfl]
    · unfold f_X12_gate
      rw [e2, bd_s, if_pos rfl]
