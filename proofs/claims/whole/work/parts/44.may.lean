/-! ===== the pure layer: may, does, stuck ===== -/
def NowF (M : k_M) (np nw nr : Nat) : Prop := M.1 76 0 = Int32.ofNat np ∧ M.1 76 2 = Int32.ofNat nw ∧ M.1 76 8 = Int32.ofNat nr ∧ WR 3 M np nw nr (M.1 76 6) (M.1 76 7) (M.1 77) (M.1 78) (M.1 79) (M.1 81) (M.1 82)
/-- the row changes, all else of the plain stays -/
theorem NowF_row {M M' : k_M} {np nw nr : Nat} (h : NowF M np nw nr) (c : ∀ a j : Nat, locN M.2.2.2 a j → ¬ onX 3 a j → ¬ (a = 82 ∧ j < 25) → M'.1 a j = M.1 a j) (hr : M'.2.2.1 21 = M.2.2.1 21) (hn : M.2.2.2 ≤ M'.2.2.2) (hR : WFr np nw (M.1 78) (M'.1 82)) (h0 : M.1 76 7 = 0 ∨ ∃ a : Nat, a < np ∧ M'.1 82 0 = Int32.ofNat a) (hX : RX 3 M' np nw (M'.1 82)) : NowF M' np nw nr := by
  obtain ⟨a1, a2, a3, h1, h2, h3, h4, h5, h6, h7, h8, h9⟩ := h
  have e : ∀ j, rlv j → M'.1 76 j = M.1 76 j := fun j hj => c 76 j (.inr (.inr (.inl ⟨rfl, hj⟩))) (by unfold onX; omega) (by omega)
  have f77 : M'.1 77 = M.1 77 := funext fun j => c _ _ (by unfold locN; omega) (by unfold onX; omega) (by omega)
  have f78 : M'.1 78 = M.1 78 := funext fun j => c _ _ (by unfold locN; omega) (by unfold onX; omega) (by omega)
  have f79 : M'.1 79 = M.1 79 := funext fun j => c _ _ (by unfold locN; omega) (by unfold onX; omega) (by omega)
  have f81 : M'.1 81 = M.1 81 := funext fun j => c _ _ (by unfold locN; omega) (by unfold onX; omega) (by omega)
  refine ⟨by rw [e 0 (by unfold rlv; omega)]; exact a1, by rw [e 2 (by unfold rlv; omega)]; exact a2, by rw [e 8 (by unfold rlv; omega)]; exact a3, ?_⟩
  rw [e 6 (by unfold rlv; omega), e 7 (by unfold rlv; omega), f77, f78, f79, f81]
  refine ⟨h1, LX_fr (fun i j _ _ _ _ => c _ _ (by unfold locN; omega) (by unfold onX; omega) (by omega)) h2, h3, WX_fr (fun j => c _ _ (by unfold locN; omega) (by unfold onX; omega) (by omega)) (c _ _ (by unfold locN; omega) (by unfold onX; omega) (by omega)) h4, by rw [c 3 3 (by unfold locN; omega) (by unfold onX; omega) (by omega)]; exact h5, ?_, hR, hX, RR_fr (c _ _ (by unfold locN; omega) (by unfold onX; omega) (by omega)) (fun j => c _ _ (by unfold locN; omega) (by unfold onX; omega) (by omega)) (fun q j _ _ => c _ _ (by unfold locN; omega) (by unfold onX; omega) (by omega)) hr hn h9⟩
  rcases h6 with h6 | ⟨h6, -⟩
  · exact .inl h6
  · rcases h0 with h0 | h0
    · rw [h6] at h0; exact absurd h0 (by decide)
    · exact .inr ⟨h6, h0⟩
/-- what a call may take of R, where there is a city -/
def Here (M : k_M) (np nw nr : Nat) : Prop := NowF M np nw nr ∧ WX 3 M (M.1 79) (M.1 76 6) ∧ LX 3 M np nw (M.1 77) (M.1 78) ∧ Sd np nw (M.1 77) (M.1 78) (M.1 79) (rwX M 3) ∧ Sd np nw (M.1 77) (M.1 78) (M.1 79) (rwM M 0) ∧ rEq np nw (rwX M 3) (rwM M 0)
theorem here_of {M : k_M} (h : R M) (ht : ¬ M.1 76 7 = 0) : ∃ np nw nr, Here M np nw nr := by
  obtain ⟨np, nw, nr, hN⟩ := h.1
  have hN' : NowF M np nw nr := hN
  obtain ⟨a1, a2, a3, h1, h2, h3, h4, h5, h6, h7, h8, h9⟩ := hN
  have hq := RX_rEq h1.1 h8
  rcases h6 with h6 | ⟨-, h6⟩
  · exact absurd h6 ht
  · have hS : Sd np nw (M.1 77) (M.1 78) (M.1 79) (M.1 82) := ⟨h1, h3, h7, h6⟩
    have hq2 : rEq np nw (M.1 82) (rwM M 0) := by
      have np8 := h1.1
      have nw12 := h1.2.1
      have k25 : ∀ k, k < 25 → M.1 82 k = rwM M 0 k := fun k hk => by rw [rwM_e _ _ hk, Nat.mul_zero, Nat.zero_add]
      exact ⟨fun k hk => k25 k (by omega), fun v hv => k25 _ (by omega)⟩
    exact ⟨np, nw, nr, hN', h4, h2, Sd_cg (rEq_sym hq) hS, Sd_cg hq2 hS, rEq_tr hq hq2⟩
theorem there_e {M : k_M} (h : R M) : M.1 3 3 = M.1 76 7 := by
  obtain ⟨np, nw, nr, a1, a2, a3, h1, h2, h3, h4, h5, h6⟩ := h.1
  exact h5
theorem dys_c {np nw act : Nat} {pl wy lw : Nat → Int32} {rn : Int32} {r r' : k_r} (hS : Sd np nw pl wy lw r) (h : stp nw pl wy lw rn act r = some r') : ∃ d : Nat, 1 ≤ d ∧ d ≤ 4 ∧ dys wy act = Int32.ofNat d := by
  have ha := (stp_Sd hS h).2.2
  cases act with
  | zero => exact ⟨1, by omega, by omega, rfl⟩
  | succ v =>
    obtain ⟨a, b, d, a1, a2, a3, a4, a5, a6, a7, a8⟩ := hS.1.2.2.2 v (by omega)
    exact ⟨d, a3, a4, a7⟩
theorem stR_FR (M : k_M) (d : Nat) (q : k_r) (hd : 1 ≤ d) : FR M (stR M d q) := ⟨fun a j h => stR_o _ _ _ (by unfold scr at h; omega), fun _ _ _ => rfl, fun _ _ => rfl, rfl⟩
/-- the reference's act from row d, over what is left of earlier looks -/
theorem goesM {M : k_M} {d np nw act : Nat} (hd : d ≤ 42) {q : k_r} (hw : M.1 76 2 = Int32.ofNat nw) (hS : Sd np nw (M.1 77) (M.1 78) (M.1 79) (rwM M d)) (ha : act ≤ 100) (wet : Int32) : ∃ r' : k_r, f_X12_goes (Int32.ofNat d) (Int32.ofNat act) wet (stR M (d + 1) q) = some (if (stW nw (M.1 77) (M.1 78) (M.1 79) (M.1 76 6) wet act (rwM M d)).isSome = true then dys (M.1 78) act else 0, stR M (d + 1) r') ∧ ∀ r1, stW nw (M.1 77) (M.1 78) (M.1 79) (M.1 76 6) wet act (rwM M d) = some r1 → r' = r1 := by
  obtain ⟨p, hp, h0, hF, hR⟩ := Sd_At hS
  have np8 := hF.1
  have c : ∀ a, a ≠ 82 → (stR M (d + 1) q).1 a = M.1 a := fun a ha => funext fun j => stR_c _ _ _ ha
  have e : rwM (stR M (d + 1) q) d = rwM M d := by
    funext k
    by_cases hk : k < 25
    · rw [rwM_e _ _ hk, rwM_e _ _ hk, stR_o _ _ _ (by omega)]
    · unfold rwM
      rw [if_neg hk, if_neg hk]
  have e0 : (stR M (d + 1) q).1 82 (25 * d) = Int32.ofNat p := by
    rw [stR_o _ _ _ (by omega), ← h0, rwM_e _ _ (by omega), Nat.add_zero]
  obtain ⟨r', g1, g2⟩ := goes_e (M := stR M (d + 1) q) (d := d) (p := p) (nw := nw) (act := act) (wet := wet) hd (by omega) e0 (by rw [c 77 (by omega)]; exact (hF.2.2.1 p hp).1) hF.2.1 (by rw [c 76 (by omega)]; exact hw) ha
  rw [c 77 (by omega), c 78 (by omega), c 79 (by omega), c 76 (by omega), e, stR_stR] at g1
  rw [c 77 (by omega), c 78 (by omega), c 79 (by omega), c 76 (by omega), e] at g2
  exact ⟨r', g1, g2⟩
theorem stR_self (M : k_M) (d : Nat) : M = stR M d (rwM M d) := by
  refine kM_ext (fun a j => ?_) rfl
  by_cases h : a = 82 ∧ 25 * d ≤ j ∧ j < 25 * d + 25
  · obtain ⟨rfl, h1, h2⟩ := h
    obtain ⟨k, rfl⟩ : ∃ k, j = 25 * d + k := ⟨j - 25 * d, by omega⟩
    rw [stR_in _ _ _ (by omega), rwM_e _ _ (by omega)]
  · rw [stR_o _ _ _ h]
theorem goesM0 {M : k_M} {np nw act : Nat} (hw : M.1 76 2 = Int32.ofNat nw) (hS : Sd np nw (M.1 77) (M.1 78) (M.1 79) (rwM M 0)) (ha : act ≤ 100) : ∃ r' : k_r, f_X12_goes 0 (Int32.ofNat act) 2 M = some (if (stp nw (M.1 77) (M.1 78) (M.1 79) (M.1 76 6) act (rwM M 0)).isSome = true then dys (M.1 78) act else 0, stR M 1 r') ∧ ∀ r1, stp nw (M.1 77) (M.1 78) (M.1 79) (M.1 76 6) act (rwM M 0) = some r1 → r' = r1 := by
  have h := goesM (M := M) (d := 0) (q := rwM M 1) (by omega) hw hS ha 2
  rw [← stR_self M 1] at h
  exact h
theorem stp_iso {np nw act : Nat} {pl wy lw : Nat → Int32} {rn : Int32} {r q : k_r} (hS : Sd np nw pl wy lw r) (h : rEq np nw r q) : (stp nw pl wy lw rn act r).isSome = (stp nw pl wy lw rn act q).isSome := by
  rcases stp_cg (rn := rn) hS h act with ⟨h1, h2⟩ | ⟨r', q', h1, h2, -⟩
  · rw [h1, h2]
  · rw [h1, h2]; rfl
theorem c_may (x : Int32) : Call (f_X11_may x) (f_X12_may x) := by
  intro M h
  have ht := there_e h
  by_cases hx : 0 ≤ x ∧ x ≤ 12
  · by_cases h0 : M.1 76 7 = 0
    · refine ⟨-4, M, M, ?_, ?_, h⟩
      · simp only [f_X11_may, within_e, bd_s, hx, and_self, if_true, i1z, if_false, ht, h0]
      · simp only [f_X12_may, in_e, bd_s, hx, and_self, if_true, i1z, if_false, h0]
    · obtain ⟨np, nw, nr, hN, hW, hL, hS, hS2, hq⟩ := here_of h h0
      obtain ⟨a, ha, rfl⟩ := ex_o (n := 12) (by omega) hx.1 hx.2
      obtain ⟨r', g1, g2⟩ := goesM0 (act := a) hN.2.1 hS2 (by omega)
      have hc := canX (act := a) hW hL hS (by omega)
      rw [← stX_self] at hc
      have hi := stp_iso (act := a) (rn := M.1 76 6) hS hq
      refine ⟨if (stp nw (M.1 77) (M.1 78) (M.1 79) (M.1 76 6) a (rwX M 3)).isSome = true then 1 else 0, M, stR M 1 r', ?_, ?_, R_fr (stR_FR M 1 r' (by omega)) h⟩
      · simp only [f_X11_may, within_e, bd_s, hx, and_self, if_true, i1z, if_false, ht, h0, hc]
        by_cases hh : (stp nw (M.1 77) (M.1 78) (M.1 79) (M.1 76 6) a (rwX M 3)).isSome = true
        · simp only [hh, if_true, i1z, if_false]
        · rw [if_neg hh]; rfl
      · simp only [f_X12_may, in_e, bd_s, hx, and_self, if_true, i1z, if_false, h0, g1]
        rw [hi]
        cases hh : stp nw (M.1 77) (M.1 78) (M.1 79) (M.1 76 6) a (rwM M 0) with
        | none => rfl
        | some r1 =>
          obtain ⟨d, d1, d2, d3⟩ := dys_c hS2 hh
          have : ¬ dys (M.1 78) a ≤ 0 := by rw [d3, o_lel (by omega) (by omega)]; omega
          simp only [Option.isSome_some, if_true, this, if_false]
  · refine ⟨-1, M, M, ?_, ?_, h⟩
    · simp only [f_X11_may, within_e, bd_s, hx, if_false, i0z, if_true]
    · simp only [f_X12_may, in_e, bd_s, hx, if_false, i0z, if_true]
theorem becomes_cp (kx : k_M → Option (Unit × k_M)) : ∀ (m n j : Nat) (M0 M : k_M), j + m = 25 → m < n → (∀ k, k < 25 → M.1 82 (25 + k) = M0.1 82 (25 + k)) → (∀ k, k < j → M.1 82 k = M0.1 82 (25 + k)) → (∀ a i, ¬ (a = 82 ∧ i < 25) → M.1 a i = M0.1 a i) → M.2 = M0.2 →
    f_X12_becomes_2 n 1 (Int32.ofNat j) M kx = kx (stR M0 0 (rwM M0 1))
  | 0, n, j, M0, M, hj, hn, h0, h1, h2, h3 => by
    obtain ⟨n, rfl⟩ : ∃ k, n = k + 1 := ⟨n - 1, by omega⟩
    have e : M = stR M0 0 (rwM M0 1) := by
      refine kM_ext (fun a i => ?_) h3
      by_cases h : a = 82 ∧ i < 25
      · obtain ⟨rfl, h4⟩ := h
        have := stR_in M0 0 (rwM M0 1) (k := i) h4
        rw [Nat.mul_zero, Nat.zero_add] at this
        rw [this, rwM_e _ _ h4]
        exact h1 i (by omega)
      · rw [stR_o _ _ _ (by omega)]
        exact h2 a i h
    show (if _ then _ else _) = _
    rw [if_pos (by rw [o_lle (by omega) (by omega)]; omega), e]
  | m + 1, n, j, M0, M, hj, hn, h0, h1, h2, h3 => by
    obtain ⟨n, rfl⟩ : ∃ k, n = k + 1 := ⟨n - 1, by omega⟩
    show (if _ then _ else _) = _
    rw [if_neg (by rw [o_lle (by omega) (by omega)]; omega)]
    have e25 : (25 : Int32) * 1 + Int32.ofNat j = Int32.ofNat (25 + j) := o_ladd j 25
    rw [e25]
    simp (disch := omega) only [rdI_o, wrI_o, o_addl]
    refine becomes_cp kx m n (j + 1) M0 _ (by omega) (by omega) (fun k hk => ?_) (fun k hk => ?_) (fun a i h => ?_) h3
    · rw [sI_g, if_neg (by omega)]
      exact h0 k hk
    · rw [sI_g]
      by_cases hkj : k = j
      · subst hkj
        rw [if_pos (by omega)]
        exact h0 _ (by omega)
      · rw [if_neg (by omega)]
        exact h1 k (by omega)
    · rw [sI_g, if_neg (by omega)]
      exact h2 a i h
