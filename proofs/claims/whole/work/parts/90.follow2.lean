/-! ===== the pure layer: follow, the reference and the call ===== -/
/-- what the reference's loop leaves alone -/
def FJ (B N : k_M) (i : Nat) : Prop := (∀ b j, ¬ csc b j → ¬ (b = 82 ∧ j < 50) → ¬ (b = 81 ∧ j = 3 * i + 2) → N.1 b j = B.1 b j) ∧ (∀ b j, b ≠ 76 → N.2.1 b j = B.2.1 b j) ∧ (∀ b, b ≠ 61 → N.2.2.1 b = B.2.2.1 b) ∧ N.2.2.2 = B.2.2.2
theorem follM {B : k_M} {np nw k a i T : Nat} {G : Nat → Nat → Nat} (hT : T ≤ 20) (h0 : B.1 76 0 = Int32.ofNat np) (hw : B.1 76 2 = Int32.ofNat nw) (hG : FW np nw (B.1 78) np G) (hi : i < 4) (h1 : B.1 81 (3 * i) = Int32.ofNat k) (hk1 : 1 ≤ k) (hk5 : k ≤ 5) (h2 : B.1 81 (3 * i + 1) = Int32.ofNat a) (ha : a ≤ 65535) : ∀ (t n c : Nat) (N : k_M) (v : Int32), c + t = T → t < n → FJ B N i → N.1 81 (3 * i + 2) = v → Sd np nw (B.1 77) (B.1 78) (B.1 79) (rwM N 0) → ∃ N', f_X12_follow_32 n (Int32.ofNat i) (Int32.ofNat T) (Int32.ofNat c) N (fun l3_ M_ => f_X12_follow_69 l3_ M_) = some (Int32.ofNat (fl np nw (B.1 77) (B.1 78) (B.1 79) (B.1 76 6) G k a t c (rwM N 0) v).1, N') ∧ FJ B N' i ∧ N'.1 81 (3 * i + 2) = (fl np nw (B.1 77) (B.1 78) (B.1 79) (B.1 76 6) G k a t c (rwM N 0) v).2.2 ∧ rEq np nw (rwM N' 0) (fl np nw (B.1 77) (B.1 78) (B.1 79) (B.1 76 6) G k a t c (rwM N 0) v).2.1
  | 0, n, c, N, v, hc, hn, hF, hv, hS => by
    obtain ⟨n, rfl⟩ : ∃ q, n = q + 1 := ⟨n - 1, by omega⟩
    refine ⟨N, ?_, hF, hv, rEq_rfl _⟩
    rw [f_X12_follow_32, if_pos (by rw [o_le (by omega) (by omega)]; omega)]
    rfl
  | t + 1, n, c, N, v, hc, hn, hF, hv, hS => by
    obtain ⟨n, rfl⟩ : ∃ q, n = q + 1 := ⟨n - 1, by omega⟩
    have np8 := hS.1.1
    have nw12 := hS.1.2.1
    have fc : ∀ N1 : k_M, FJ B N1 i → N1.1 77 = B.1 77 ∧ N1.1 78 = B.1 78 ∧ N1.1 79 = B.1 79 ∧ N1.1 76 6 = B.1 76 6 ∧ N1.1 76 0 = B.1 76 0 ∧ N1.1 76 2 = B.1 76 2 ∧ N1.1 81 (3 * i) = B.1 81 (3 * i) ∧ N1.1 81 (3 * i + 1) = B.1 81 (3 * i + 1) := fun N1 h => ⟨funext fun j => h.1 _ _ (by unfold csc dsc; omega) (by omega) (by omega), funext fun j => h.1 _ _ (by unfold csc dsc; omega) (by omega) (by omega), funext fun j => h.1 _ _ (by unfold csc dsc; omega) (by omega) (by omega), h.1 _ _ (by unfold csc dsc; omega) (by omega) (by omega), h.1 _ _ (by unfold csc dsc; omega) (by omega) (by omega), h.1 _ _ (by unfold csc dsc; omega) (by omega) (by omega), h.1 _ _ (by unfold csc dsc; omega) (by omega) (by omega), h.1 _ _ (by unfold csc dsc; omega) (by omega) (by omega)⟩
    obtain ⟨e1, e2, e3, e4, e5, e6, e7, e8⟩ := fc N hF
    obtain ⟨N1, g1, g2, g3⟩ := choM (N := N) (np := np) (nw := nw) (i := i) (k := k) (a := a) (v := v) (G := G) (by rw [e5]; exact h0) (by rw [e6]; exact hw) (by rw [e2]; exact hG) (by rw [e1, e2, e3]; exact hS) hi (by rw [e7]; exact h1) hk1 hk5 (by rw [e8]; exact h2) ha hv
    rw [e1, e2, e3, e4] at g1
    have F1 : FJ B N1 i := ⟨fun b j r1 r2 r3 => by rw [g2 b j r1]; exact hF.1 b j r1 r2 r3, fun b j r => by rw [g3.2.1 b j r]; exact hF.2.1 b j r, fun b r => by rw [g3.2.2.1 b r]; exact hF.2.2.1 b r, by rw [g3.2.2.2]; exact hF.2.2.2⟩
    have er1 : rwM N1 0 = rwM N 0 := by
      funext j
      by_cases hj : j < 25
      · rw [rwM_e _ _ hj, rwM_e _ _ hj, g2 _ _ (by unfold csc dsc; omega)]
      · unfold rwM
        rw [if_neg hj, if_neg hj]
    have v1 : N1.1 81 (3 * i + 2) = v := by rw [g2 _ _ (by unfold csc dsc; omega)]; exact hv
    obtain ⟨p1, p2, p3, p4, p5, p6, p7, p8⟩ := fc N1 F1
    obtain ⟨x, hx⟩ : ∃ x, x = cho np nw (B.1 77) (B.1 78) (B.1 79) (B.1 76 6) G k a v (rwM N 0) := ⟨_, rfl⟩
    unfold fl
    rw [f_X12_follow_32, if_neg (by rw [o_le (by omega) (by omega)]; omega), g1, bd_s, ← hx]
    have stF : ∀ q, FJ B (stR N1 1 q) i := fun q => ⟨fun b j r1 r2 r3 => by rw [stR_o _ _ _ (by unfold csc dsc at r1; omega)]; exact F1.1 b j r1 r2 r3, F1.2.1, F1.2.2.1, F1.2.2.2⟩
    have no : stA nw (B.1 77) (B.1 78) (B.1 79) (B.1 76 6) x (rwM N 0) = none → (∃ N2, f_X12_doesIt x N1 = some (0, N2) ∧ FJ B N2 i ∧ N2.1 81 (3 * i + 2) = v ∧ rwM N2 0 = rwM N 0) := fun hs => by
      by_cases hr : 0 ≤ x ∧ x ≤ 12
      · obtain ⟨d, hd, hxd⟩ := ex_o (n := 12) (by omega) hr.1 hr.2
        rw [hxd, stA_in hd] at hs
        rcases doesM (N := N1) (np := np) (nw := nw) (a := d) (by rw [p6]; exact hw) (by rw [p1, p2, p3, er1]; exact hS) hd with ⟨-, q, hE⟩ | ⟨r1, hE, -⟩
        · refine ⟨stR N1 1 q, by rw [hxd]; exact hE, stF q, by rw [stR_c _ _ _ (by omega)]; exact v1, ?_⟩
          rw [rwM_stR_ne _ _ (by omega)]
          exact er1
        · rw [p1, p2, p3, p4, er1, hs] at hE
          cases hE
      · refine ⟨N1, ?_, F1, v1, er1⟩
        unfold f_X12_doesIt
        rw [in_e, bd_s, if_neg hr, if_pos rfl]
        unfold f_X12_doesIt_21
        rw [if_pos (by decide)]
        rfl
    cases hs : stA nw (B.1 77) (B.1 78) (B.1 79) (B.1 76 6) x (rwM N 0) with
    | none =>
      obtain ⟨N2, d1, d2, d3, d4⟩ := no hs
      refine ⟨N2, ?_, d2, d3, ?_⟩
      · rw [d1, bd_s, if_pos (by decide)]
        rfl
      · rw [d4]
        exact rEq_rfl _
    | some r' =>
      have hr : 0 ≤ x ∧ x ≤ 12 := by
        by_cases hr : 0 ≤ x ∧ x ≤ 12
        · exact hr
        · rw [stA_out hr] at hs
          cases hs
      obtain ⟨d, hd, hxd⟩ := ex_o (n := 12) (by omega) hr.1 hr.2
      have hs' := hs
      rw [hxd, stA_in hd] at hs'
      rcases doesM (N := N1) (np := np) (nw := nw) (a := d) (by rw [p6]; exact hw) (by rw [p1, p2, p3, er1]; exact hS) hd with ⟨hE, -⟩ | ⟨r1, hE, hD⟩
      · rw [p1, p2, p3, p4, er1, hs'] at hE
        cases hE
      rw [p1, p2, p3, p4, er1, hs'] at hE
      cases hE
      obtain ⟨dd, d1, d2, d3⟩ := dys_c hS hs'
      rw [p2, d3] at hD
      obtain ⟨N2, hN2⟩ : ∃ N2, N2 = stR (stR N1 1 r') 0 r' := ⟨_, rfl⟩
      have n2 : ∀ b j, ¬ (b = 82 ∧ j < 50) → N2.1 b j = N1.1 b j := fun b j r => by rw [hN2, stR_o _ _ _ (by omega), stR_o _ _ _ (by omega)]
      obtain ⟨N3, hN3⟩ : ∃ N3, N3 = sI N2 81 (3 * i + 2) (v + 1) := ⟨_, rfl⟩
      have F3 : FJ B N3 i := ⟨fun b j r1 r2 r3 => by rw [hN3, sI_g, if_neg r3, n2 b j r2]; exact F1.1 b j r1 r2 r3, fun b j r => by rw [hN3, sI_2, hN2]; exact F1.2.1 b j r, fun b r => by rw [hN3, sI_2, hN2]; exact F1.2.2.1 b r, by rw [hN3, sI_2, hN2]; exact F1.2.2.2⟩
      have rq : rEq np nw r' (rwM N3 0) := by
        rw [hN3, rwM_sI _ _ (by omega), hN2]
        exact rwM_stR_eq _ 0 r' np8 nw12
      have hS' := stA_Sd hS hs
      obtain ⟨N', k1, k2, k3, k4⟩ := follM hT h0 hw hG hi h1 hk1 hk5 h2 ha t n (c + 1) N3 (v + 1) (by omega) (by omega) F3 (by rw [hN3, sI_g, if_pos ⟨rfl, rfl⟩]) (Sd_cg rq hS')
      obtain ⟨c1, c2, c3⟩ := fl_cg (rn := B.1 76 6) (G := G) (k := k) (a := a) t (c + 1) r' (rwM N3 0) (v + 1) hS' rq
      have e3i : (3 : Int32) * Int32.ofNat i = Int32.ofNat (3 * i) := o_lmul i 3
      have w81 : N2.1 81 (3 * i + 2) = v := by rw [n2 _ _ (by omega)]; exact v1
      refine ⟨N', ?_, k2, ?_, ?_⟩
      · rw [hxd, hD, bd_s, if_neg (by rw [o_lel (by omega) (by omega)]; omega), ← hN2, e3i, o_addl, rdI_o (by omega) (by omega), w81, wrI_o (by omega) (by omega), o_addl, ← hN3, k1, c1]
      · rw [k3]
        exact c3.symm
      · exact rEq_tr k4 (rEq_sym c2)
