/-! ===== the pure layer: follow, the loops ===== -/
def fl (np nw : Nat) (pl wy lw : Nat → Int32) (rn : Int32) (G : Nat → Nat → Nat) (k a : Nat) : Nat → Nat → k_r → Int32 → Nat × k_r × Int32
  | 0, c, r, v => (c, r, v)
  | t + 1, c, r, v => match stA nw pl wy lw rn (cho np nw pl wy lw rn G k a v r) r with
    | none => (c, r, v)
    | some r' => fl np nw pl wy lw rn G k a t (c + 1) r' (v + 1)
section
variable {np nw k a : Nat} {pl wy lw : Nat → Int32} {rn : Int32} {G : Nat → Nat → Nat}
theorem fl_cg : ∀ (t c : Nat) (r q : k_r) (v : Int32), Sd np nw pl wy lw r → rEq np nw r q → (fl np nw pl wy lw rn G k a t c r v).1 = (fl np nw pl wy lw rn G k a t c q v).1 ∧ rEq np nw (fl np nw pl wy lw rn G k a t c r v).2.1 (fl np nw pl wy lw rn G k a t c q v).2.1 ∧ (fl np nw pl wy lw rn G k a t c r v).2.2 = (fl np nw pl wy lw rn G k a t c q v).2.2
  | 0, c, r, q, v, hS, h => ⟨rfl, h, rfl⟩
  | t + 1, c, r, q, v, hS, h => by
    unfold fl
    rw [← cho_cg hS h]
    rcases stA_cg (rn := rn) hS h (cho np nw pl wy lw rn G k a v r) with ⟨h1, h2⟩ | ⟨r', q', h1, h2, h3⟩
    · rw [h1, h2]
      exact ⟨rfl, h, rfl⟩
    · rw [h1, h2]
      exact fl_cg t (c + 1) r' q' (v + 1) (stA_Sd hS h1) h3
theorem fl_Sd : ∀ (t c : Nat) (r : k_r) (v : Int32), Sd np nw pl wy lw r → Sd np nw pl wy lw (fl np nw pl wy lw rn G k a t c r v).2.1
  | 0, c, r, v, hS => hS
  | t + 1, c, r, v, hS => by
    unfold fl
    cases h : stA nw pl wy lw rn (cho np nw pl wy lw rn G k a v r) r with
    | none => exact hS
    | some r' => exact fl_Sd t (c + 1) r' (v + 1) (stA_Sd hS h)
/-- what the class's loop leaves alone -/
def FI (M N : k_M) (i : Nat) : Prop := (∀ b j, b ≠ 17 → b ≠ 18 → ¬ (b = 22 ∧ j = i) → ¬ onX 3 b j → N.1 b j = M.1 b j) ∧ N.2 = M.2
theorem follX {M : k_M} {q i T : Nat} (hT : T ≤ 20) (hq : 105 ≤ q) (hqn : q < M.2.2.2) (h3 : M.1 q 3 = Int32.ofNat k) (hk1 : 1 ≤ k) (hk5 : k ≤ 5) (h2 : M.1 q 2 = Int32.ofNat a) (ha : a ≤ 65535) (h1 : M.1 q 1 = Int32.ofNat i) (hi : i < 4) (hW : WX 3 M lw rn) (hL : LX 3 M np nw pl wy) (hG : FW np nw wy np G) : ∀ (t n c : Nat) (N : k_M) (v : Int32), c + t = T → t < n → FI M N i → N.1 22 i = v → Sd np nw pl wy lw (rwX N 3) → ∃ N', f_X11_follow_41 n (Int32.ofNat T) q (Int32.ofNat c) N (fun l4_ M_ => f_X11_follow_88 l4_ M_) = some (Int32.ofNat (fl np nw pl wy lw rn G k a t c (rwX N 3) v).1, N') ∧ FI M N' i ∧ N'.1 22 i = (fl np nw pl wy lw rn G k a t c (rwX N 3) v).2.2 ∧ rEq np nw (rwX N' 3) (fl np nw pl wy lw rn G k a t c (rwX N 3) v).2.1
  | 0, n, c, N, v, hc, hn, hF, hv, hS => by
    obtain ⟨n, rfl⟩ : ∃ q, n = q + 1 := ⟨n - 1, by omega⟩
    refine ⟨N, ?_, hF, hv, rEq_rfl _⟩
    rw [f_X11_follow_41, if_pos (by rw [o_le (by omega) (by omega)]; omega)]
    rfl
  | t + 1, n, c, N, v, hc, hn, hF, hv, hS => by
    obtain ⟨n, rfl⟩ : ∃ q, n = q + 1 := ⟨n - 1, by omega⟩
    have np8 := hS.1.1
    have nw12 := hS.1.2.1
    have wl : ∀ N1 : k_M, FI M N1 i → WX 3 N1 lw rn ∧ LX 3 N1 np nw pl wy := fun N1 h => ⟨WX_fr (fun j => h.1 _ _ (by omega) (by omega) (by omega) (by unfold onX; omega)) (h.1 _ _ (by omega) (by omega) (by omega) (by unfold onX; omega)) hW, LX_fr (fun i j q1 q2 q3 q4 => h.1 _ _ (by omega) (by omega) (by omega) (by unfold onX; omega)) hL⟩
    have qc : ∀ N1 : k_M, FI M N1 i → ∀ j, N1.1 q j = M.1 q j := fun N1 h j => h.1 _ _ (by omega) (by omega) (by omega) (by unfold onX; omega)
    obtain ⟨W0, L0⟩ := wl N hF
    obtain ⟨N1, g1, g2, g3⟩ := choX (N := N) (v := v) (G := G) hq (by rw [hF.2]; exact hqn) (by rw [qc N hF]; exact h3) hk1 hk5 (by rw [qc N hF]; exact h2) ha (by rw [qc N hF]; exact h1) hi hv W0 L0 hG hS
    have F1 : FI M N1 i := ⟨fun b j r1 r2 r3 r4 => by rw [g2 b j r1 r2]; exact hF.1 b j r1 r2 r3 r4, by rw [g3]; exact hF.2⟩
    have er1 : rwX N1 3 = rwX N 3 := by
      have gc : ∀ b, b ≠ 17 → b ≠ 18 → N1.1 b = N.1 b := fun b r1 r2 => funext fun j => g2 b j r1 r2
      unfold rwX
      rw [gc 3 (by omega) (by omega), gc (3 + 17) (by omega) (by omega), gc (3 + 5) (by omega) (by omega), gc (3 + 12) (by omega) (by omega)]
    obtain ⟨W1, L1⟩ := wl N1 F1
    have hS1 : Sd np nw pl wy lw (rwX N1 3) := by rw [er1]; exact hS
    have hA := attA W1 L1 hS1 (cho np nw pl wy lw rn G k a v (rwX N 3))
    rw [← stX_self, er1] at hA
    have v1 : N1.1 22 i = v := by rw [g2 _ _ (by omega) (by omega)]; exact hv
    unfold fl
    rw [f_X11_follow_41, if_neg (by rw [o_le (by omega) (by omega)]; omega), g1, bd_s]
    rcases hA with ⟨g, r', s1, s2, s3⟩ | ⟨s1, s2⟩
    · rw [s1, s2, bd_s, if_neg s3]
      obtain ⟨N2, hN2⟩ : ∃ N2, N2 = stX N1 3 r' := ⟨_, rfl⟩
      have n2 : ∀ b j, ¬ onX 3 b j → N2.1 b j = N1.1 b j := fun b j r => by rw [hN2, stX_o r]
      have n22 : N2.2 = N1.2 := by rw [hN2]; rfl
      obtain ⟨N3, hN3⟩ : ∃ N3, N3 = sI N2 22 i (v + 1) := ⟨_, rfl⟩
      have F3 : FI M N3 i := ⟨fun b j r1 r2 r3 r4 => by rw [hN3, sI_g, if_neg r3, n2 b j r4]; exact F1.1 b j r1 r2 r3 r4, by rw [hN3, sI_2, n22]; exact F1.2⟩
      have er3 : rwX N3 3 = rwX N2 3 := by
        have gc : ∀ b, b ≠ 22 → N3.1 b = N2.1 b := fun b r => funext fun j => by rw [hN3, sI_g, if_neg (fun h => r h.1)]
        unfold rwX
        rw [gc 3 (by omega), gc (3 + 17) (by omega), gc (3 + 5) (by omega), gc (3 + 12) (by omega)]
      have rq : rEq np nw r' (rwX N3 3) := by
        rw [er3, hN2]
        exact rEq_sym (RX_rEq np8 (rEq_RX np8 nw12 (rEq_rfl r')))
      have hS' := stA_Sd hS s1
      obtain ⟨N', k1, k2, k3, k4⟩ := follX hT hq hqn h3 hk1 hk5 h2 ha h1 hi hW hL hG t n (c + 1) N3 (v + 1) (by omega) (by omega) F3 (by rw [hN3, sI_g, if_pos ⟨rfl, rfl⟩]) (Sd_cg rq hS')
      obtain ⟨c1, c2, c3⟩ := fl_cg (rn := rn) (G := G) (k := k) (a := a) t (c + 1) r' (rwX N3 3) (v + 1) hS' rq
      have q1 : (stX N1 3 r').1 q 1 = Int32.ofNat i := by rw [stX_o (by unfold onX; omega), qc N1 F1]; exact h1
      have w22 : (stX N1 3 r').1 22 i = v := by rw [stX_o (by unfold onX; omega)]; exact v1
      refine ⟨N', ?_, k2, ?_, ?_⟩
      · rw [gRl_e hq (by rw [← hN2, n22, F1.2]; exact hqn), q1, rdI_o (by omega) (by omega), w22, wrI_o (by omega) (by omega), o_addl, ← hN2, ← hN3, k1, c1]
      · rw [k3]
        exact c3.symm
      · exact rEq_tr k4 (rEq_sym c2)
    · rw [s1, s2, bd_s, if_pos rfl]
      refine ⟨N1, rfl, F1, v1, ?_⟩
      rw [er1]
      exact rEq_rfl _
end
