/-! ===== the pure layer: rules, shelves ===== -/
theorem nul_s {β : Type} (q : Nat) (n : β) (k : Nat → β) : nul (some q) n k = k q := rfl
theorem nul_n {β : Type} (n : β) (k : Nat → β) : nul none n k = n := rfl
theorem gRl_e {β : Type} {M : k_M} {a j : Nat} {k : Int32 → Option β} (h : 105 ≤ a) (h2 : a < M.2.2.2) : gRl M a j k = k (M.1 a j) := if_pos ⟨h, h2⟩
theorem isRl_e {β : Type} {M : k_M} {a : Nat} {k : Option β} (h : 105 ≤ a) (h2 : a < M.2.2.2) : isRl M a k = k := if_pos ⟨h, h2⟩
theorem ruleAt_in {M : k_M} {w nr i : Nat} {rl : Nat → Int32} (h : RR w M nr rl) (hi : i < nr) : ∃ q, f_X10_ruleAt w (Int32.ofNat i) M = some (some q, M) ∧ 105 ≤ q ∧ q < M.2.2.2 ∧ M.1 q 0 = rl (3 * i) ∧ M.1 q 1 = Int32.ofNat i ∧ M.1 q 2 = rl (3 * i + 1) ∧ M.1 q 3 = rl (3 * i) ∧ M.1 (w + 19) i = rl (3 * i + 2) ∧ (∃ k : Nat, 1 ≤ k ∧ k ≤ 5 ∧ rl (3 * i) = Int32.ofNat k) ∧ Bn (rl (3 * i + 1)) 65535 := by
  have h4 := h.1
  obtain ⟨q, b1, b2⟩ := h.2.2.1 i hi
  refine ⟨q, ?_, b2⟩
  unfold f_X10_ruleAt f_X10_ruleAt_22
  rw [if_neg (Int32.not_lt.mpr (o_nn (by omega))), h.2.1, if_neg (by rw [o_le (by omega) (by omega)]; omega), rdR_o (by omega) (by omega), b1]
theorem ruleAt_out {M : k_M} {w nr : Nat} {rl : Nat → Int32} (h : RR w M nr rl) {x : Int32} (hx : ¬ (0 ≤ x ∧ x < Int32.ofNat nr)) : f_X10_ruleAt w x M = some (none, M) := by
  unfold f_X10_ruleAt f_X10_ruleAt_21 f_X10_ruleAt_22
  rw [h.2.1]
  by_cases h1 : x < 0
  · rw [if_pos h1]
  · rw [if_neg h1]
    by_cases h2 : Int32.ofNat nr ≤ x
    · rw [if_pos h2]
    · exact absurd ⟨Int32.not_lt.mp h1, Int32.not_le.mp h2⟩ hx
theorem isRu_e {M : k_M} {n : Nat} (hn : n ≤ 100) (h : M.1 76 8 = Int32.ofNat n) (x : Int32) : f_X12_isRule x M = some (if 0 ≤ x ∧ x < Int32.ofNat n then 1 else 0, M) := by
  unfold f_X12_isRule
  rw [h, in_p _ (by omega), bd_s, ckZ_b]
theorem c_ruleOf (x y : Int32) : Call (f_X11_ruleOf x y) (f_X12_ruleOf x y) := by
  intro M h
  obtain ⟨np, nw, nr, a1, a2, a3, h1, h2, h3, h4, h5, h6, h7, h8, h9⟩ := h.1
  have nr4 := h9.1
  have e2 := isRu_e (M := M) (n := nr) (by omega) a3 x
  by_cases hx : 0 ≤ x ∧ x < Int32.ofNat nr
  · rw [if_pos hx] at e2
    obtain ⟨i, hi, rfl⟩ := ex_lt (by omega) hx.1 hx.2
    obtain ⟨q, q1, q2, q3, q4, q5, q6, q7, q8, q9, q10⟩ := ruleAt_in h9 hi
    by_cases hy : 0 ≤ y ∧ y ≤ Int32.ofNat 2
    · have hy' : 0 ≤ y ∧ y ≤ 2 := hy
      obtain ⟨k, hk, rfl⟩ := ex_o (n := 2) (by omega) hy.1 hy.2
      refine ⟨M.1 81 (3 * i + k), M, M, ?_, ?_, h⟩
      · unfold f_X11_ruleOf
        rw [q1, bd_s, nul_s, tsw_o (by omega), if_pos (by omega)]
        have hc : k = 0 ∨ k = 1 ∨ k = 2 := by omega
        rcases hc with rfl | rfl | rfl
        · rw [if_pos rfl, gRl_e q2 q3, q4, Nat.add_zero]
        · rw [if_neg (by omega), if_pos rfl, gRl_e q2 q3, q6]
        · rw [if_neg (by omega), if_neg (by omega), if_pos rfl, gRl_e q2 q3, q5, rdI_o (by omega) (by omega), show M.1 22 i = M.1 81 (3 * i + 2) from q8]
      · unfold f_X12_ruleOf
        rw [e2, bd_s, if_neg (by decide), in_e, bd_s, if_pos hy', if_neg (by decide), o_lmul, o_add, rdI_o (by omega) (by omega)]
    · have hy' : ¬ (0 ≤ y ∧ y ≤ 2) := hy
      refine ⟨-1, M, M, ?_, ?_, h⟩
      · unfold f_X11_ruleOf
        rw [q1, bd_s, nul_s]
        exact tsw_no (n := 2) (by omega) hy
      · unfold f_X12_ruleOf
        rw [e2, bd_s, if_neg (by decide), in_e, bd_s, if_neg hy', if_pos rfl]
  · rw [if_neg hx] at e2
    refine ⟨-1, M, M, ?_, ?_, h⟩
    · unfold f_X11_ruleOf
      rw [ruleAt_out h9 hx, bd_s, nul_n]
    · unfold f_X12_ruleOf
      rw [e2, bd_s, if_pos rfl]
theorem pFR_e {β : Type} {M : k_M} {a j : Nat} {v : Int32} {k : k_M → Option β} (h : 105 ≤ a) (h2 : a < M.2.2.2) : pFR M a j v k = k (sI M a j v) := if_pos ⟨h, h2⟩
theorem tsw_1 {β : Type} {m n : Nat} {f : Nat → β} {d : β} (hm : m < 2147483648) : tsw (Int32.ofNat m) 1 n f d = if 1 ≤ m ∧ m < n + 1 then f (m - 1) else d := by
  unfold tsw
  rw [o_int hm]
  by_cases h : 1 ≤ m ∧ m < n + 1
  · rw [if_neg (by omega), if_pos h]
    congr 1 <;> omega
  · rw [if_pos (by omega), if_neg h]
/-- a new rule's memory -/
def nRl (M : k_M) (k nm a : Int32) : k_M := sI (sI (sI (aRl M k) M.2.2.2 0 k) M.2.2.2 1 nm) M.2.2.2 2 a
theorem newR_e {M : k_M} {k : Nat} (h1 : 1 ≤ k) (h5 : k ≤ 5) (hn : 105 ≤ M.2.2.2) (nm a : Int32) : f_X11_newRule (Int32.ofNat k) nm a M = some (some M.2.2.2, nRl M (Int32.ofNat k) nm a) := by
  have hp : ∀ t p, f_X6_init M.2.2.2 p nm a (aRl M t) = some ((), sI (sI (sI (aRl M t) M.2.2.2 0 p) M.2.2.2 1 nm) M.2.2.2 2 a) := fun t p => by
    unfold f_X6_init
    rw [pFR_e (M := aRl M t) hn (Nat.lt_succ_self _), pFR_e (M := sI (aRl M t) M.2.2.2 0 p) hn (Nat.lt_succ_self _), pFR_e (M := sI (sI (aRl M t) M.2.2.2 0 p) M.2.2.2 1 nm) hn (Nat.lt_succ_self _)]
  have e2 : ∀ t p, f_X2_init M.2.2.2 p nm a (aRl M t) = _ := fun t p => by unfold f_X2_init; rw [hp, bd_s]
  have e5 : ∀ t p, f_X5_init M.2.2.2 p nm a (aRl M t) = _ := fun t p => by unfold f_X5_init; rw [hp, bd_s]
  have e4 : ∀ t p, f_X4_init M.2.2.2 p nm a (aRl M t) = _ := fun t p => by unfold f_X4_init; rw [hp, bd_s]
  have e1 : ∀ t p, f_X1_init M.2.2.2 p nm a (aRl M t) = _ := fun t p => by unfold f_X1_init; rw [e5, bd_s]
  have e8 : ∀ t p, f_X8_init M.2.2.2 p nm a (aRl M t) = _ := fun t p => by unfold f_X8_init; rw [e4, bd_s]
  have hc : k = 1 ∨ k = 2 ∨ k = 3 ∨ k = 4 ∨ k = 5 := by omega
  unfold f_X11_newRule nwR
  rcases hc with rfl | rfl | rfl | rfl | rfl
  · rw [tsw_1 (by omega), if_pos (by omega), if_pos (by omega)]
    show bd (f_X2_init M.2.2.2 (Int32.ofNat 1) nm a (aRl M 1)) _ = _
    rw [e2, bd_s]
    rfl
  · rw [tsw_1 (by omega), if_pos (by omega), if_neg (by omega), if_pos (by omega)]
    show bd (f_X5_init M.2.2.2 (Int32.ofNat 2) nm a (aRl M 2)) _ = _
    rw [e5, bd_s]
    rfl
  · rw [tsw_1 (by omega), if_pos (by omega), if_neg (by omega), if_neg (by omega), if_pos (by omega)]
    show bd (f_X4_init M.2.2.2 (Int32.ofNat 3) nm a (aRl M 3)) _ = _
    rw [e4, bd_s]
    rfl
  · rw [tsw_1 (by omega), if_pos (by omega), if_neg (by omega), if_neg (by omega), if_neg (by omega), if_pos (by omega)]
    show bd (f_X1_init M.2.2.2 (Int32.ofNat 4) nm a (aRl M 4)) _ = _
    rw [e1, bd_s]
    rfl
  · rw [tsw_1 (by omega), if_neg (by omega)]
    show bd (f_X8_init M.2.2.2 (Int32.ofNat 5) nm a (aRl M 5)) _ = _
    rw [e8, bd_s]
    rfl
theorem c_rule (x y : Int32) : Call (f_X11_rule x y) (f_X12_rule x y) := by
  intro M h
  have hB := h.2.2.2.2.2.2.2.2
  obtain ⟨np, nw, nr, a1, a2, a3, h1, h2, h3, h4, h5, h6, h7, h8, h9⟩ := h.1
  have nr4 := h9.1
  by_cases hx : 1 ≤ x ∧ x ≤ 5
  · by_cases hy : 0 ≤ y ∧ y ≤ 65535
    · by_cases hf : nr < 4
      · obtain ⟨k, hk5, rfl⟩ := ex_o (n := 5) (by omega) (Int32.le_trans (by decide) hx.1) hx.2
        have hk1 : 1 ≤ k := by have := hx.1; rw [o_lle (by omega) (by omega)] at this; exact this
        obtain ⟨N, hN⟩ : ∃ N, N = nRl M (Int32.ofNat k) (Int32.ofNat nr) y := ⟨_, rfl⟩
        have n1 : ∀ b j, b < M.2.2.2 → N.1 b j = M.1 b j := fun b j hb => by
          rw [hN]
          unfold nRl
          rw [sI_g, if_neg (by omega), sI_g, if_neg (by omega), sI_g, if_neg (by omega)]
          show (if b = M.2.2.2 then (fun j => if j = 3 then Int32.ofNat k else 0) else M.1 b) j = _
          rw [if_neg (by omega)]
        have nq : N.1 M.2.2.2 0 = Int32.ofNat k ∧ N.1 M.2.2.2 1 = Int32.ofNat nr ∧ N.1 M.2.2.2 2 = y ∧ N.1 M.2.2.2 3 = Int32.ofNat k := by
          rw [hN]
          unfold nRl
          refine ⟨?_, ?_, ?_, ?_⟩
          · rw [sI_g, if_neg (by omega), sI_g, if_neg (by omega), sI_g, if_pos ⟨rfl, rfl⟩]
          · rw [sI_g, if_neg (by omega), sI_g, if_pos ⟨rfl, rfl⟩]
          · rw [sI_g, if_pos ⟨rfl, rfl⟩]
          · rw [sI_g, if_neg (by omega), sI_g, if_neg (by omega), sI_g, if_neg (by omega)]
            show (if M.2.2.2 = M.2.2.2 then (fun j => if j = 3 then Int32.ofNat k else 0) else M.1 M.2.2.2) 3 = _
            rw [if_pos rfl]
            rfl
        have nj : N.2.1 = M.2.1 := by rw [hN]; rfl
        have nrr : N.2.2.1 = M.2.2.1 := by rw [hN]; rfl
        have nn : N.2.2.2 = M.2.2.2 + 1 := by rw [hN]; rfl
        have okq : okRb N (some M.2.2.2) = true := by
          unfold okRb
          rw [nn, decide_eq_true_eq]
          omega
        have e37 : N.1 3 7 = Int32.ofNat nr := by rw [n1 _ _ (by omega)]; exact h9.2.1
        obtain ⟨M1, hM1⟩ : ∃ M1, M1 = sI (sI (sR N 21 nr (some M.2.2.2)) 22 nr 0) 3 7 (Int32.ofNat (nr + 1)) := ⟨_, rfl⟩
        have m76 : ∀ j, M1.1 76 j = M.1 76 j := fun j => by
          rw [hM1, sI_g, if_neg (by omega), sI_g, if_neg (by omega)]
          exact n1 76 j (by omega)
        obtain ⟨M2, hM2⟩ : ∃ M2, M2 = sI (sI (sI (sI M1 81 (3 * nr) (Int32.ofNat k)) 81 (3 * nr + 1) y) 81 (3 * nr + 2) 0) 76 8 (Int32.ofNat (nr + 1)) := ⟨_, rfl⟩
        have c1 : ∀ b j, b < M.2.2.2 → ¬ (b = 3 ∧ j = 7) → ¬ (b = 22 ∧ j = nr) → ¬ (b = 81 ∧ 3 * nr ≤ j ∧ j < 3 * nr + 3) → ¬ (b = 76 ∧ j = 8) → M2.1 b j = M.1 b j := fun b j hb q1 q2 q3 q4 => by
          rw [hM2, sI_g, if_neg q4, sI_g, if_neg (by omega), sI_g, if_neg (by omega), sI_g, if_neg (by omega), hM1, sI_g, if_neg q1, sI_g, if_neg q2]
          exact n1 b j hb
        have cq : ∀ j, M2.1 M.2.2.2 j = N.1 M.2.2.2 j := fun j => by
          rw [hM2, sI_g, if_neg (by omega), sI_g, if_neg (by omega), sI_g, if_neg (by omega), sI_g, if_neg (by omega), hM1, sI_g, if_neg (by omega), sI_g, if_neg (by omega)]
          rfl
        have r21 : ∀ j, M2.2.2.1 21 j = if j = nr then some M.2.2.2 else M.2.2.1 21 j := fun j => by
          rw [hM2, hM1]
          show (sR N 21 nr (some M.2.2.2)).2.2.1 21 j = _
          rw [sR_g, nrr]
          by_cases hj : j = nr
          · rw [if_pos ⟨rfl, hj⟩, if_pos hj]
          · rw [if_neg (fun hh => hj hh.2), if_neg hj]
        have m2n : M2.2.2.2 = M.2.2.2 + 1 := by rw [hM2, hM1]; exact nn
        refine ⟨Int32.ofNat nr, M1, M2, ?_, ?_, ?_⟩
        · unfold f_X11_rule
          rw [within_e, bd_s, if_pos hx, if_neg (by decide), within_e, bd_s, if_pos hy, if_neg (by decide), h9.2.1, if_pos (by rw [o_ltl (by omega) (by omega)]; exact hf), bN_e, newR_e hk1 hk5 hB, bd_s, ← hN, wrR_o (by omega) (by omega) okq, wrI_o (by omega) (by omega), bN_e]
          have e3 : (sI (sR N 21 nr (some M.2.2.2)) 22 nr 0).1 3 7 = Int32.ofNat nr := by rw [sI_g, if_neg (by omega)]; exact e37
          rw [e3, o_addl, ← hM1]
        · unfold f_X12_rule
          rw [in_e, bd_s, if_pos hx, if_neg (by decide), in_e, bd_s, if_pos hy, if_neg (by decide), m76, a3, if_neg (by rw [o_eql (by omega) (by omega)]; omega), o_lmul, wrI_o (by omega) (by omega)]
          have q8 : ∀ j v, (sI M1 81 j v).1 76 8 = Int32.ofNat nr := fun j v => by rw [sI_g, if_neg (by omega), m76]; exact a3
          have q9 : ∀ j v j' v', (sI (sI M1 81 j v) 81 j' v').1 76 8 = Int32.ofNat nr := fun j v j' v' => by rw [sI_g, if_neg (by omega)]; exact q8 j v
          have q10 : ∀ j v j' v' j2 v2, (sI (sI (sI M1 81 j v) 81 j' v') 81 j2 v2).1 76 8 = Int32.ofNat nr := fun j v j' v' j2 v2 => by rw [sI_g, if_neg (by omega)]; exact q9 j v j' v'
          rw [q8, o_lmul, o_addl, wrI_o (by omega) (by omega), q9, o_lmul, o_addl, wrI_o (by omega) (by omega), bN_e, q10, o_addl, ← hM2]
          have q11 : M2.1 76 8 = Int32.ofNat (nr + 1) := by rw [hM2, sI_g, if_pos ⟨rfl, rfl⟩]
          rw [q11, o_subl (by omega), Nat.add_sub_cancel]
        · refine R_N h (fun a j q1 q2 q3 => c1 a j (by omega) (by unfold chN at q2; omega) (by unfold chN at q2; omega) (by unfold chN at q2; omega) (by unfold chN rlv at q2; omega)) (fun a j _ => by rw [hM2, hM1]; show N.2.1 a j = _; rw [nj]) ?_ (by omega) ?_
          · rw [hM2, hM1]
            show (sR N 21 nr (some M.2.2.2)).2.2.1 41 = _
            rw [sR_ne _ _ _ (by omega), nrr]
          · have e81 : ∀ j, M2.1 81 j = if j = 3 * nr + 2 then 0 else if j = 3 * nr + 1 then y else if j = 3 * nr then Int32.ofNat k else M.1 81 j := fun j => by
              rw [hM2, sI_g, if_neg (by omega), sI_g, sI_g, sI_g]
              simp only [true_and]
              have : M1.1 81 j = M.1 81 j := by
                rw [hM1, sI_g, if_neg (by omega), sI_g, if_neg (by omega)]
                exact n1 81 j (by omega)
              rw [this]
            have cf : ∀ a, a < 105 → a ≠ 3 → a ≠ 22 → a ≠ 81 → a ≠ 76 → M2.1 a = M.1 a := fun a q1 q2 q3 q4 q5 => funext fun j => c1 a j (by omega) (by omega) (by omega) (by omega) (by omega)
            refine ⟨np, nw, nr + 1, by rw [c1 76 0 (by omega) (by omega) (by omega) (by omega) (by omega)]; exact a1, by rw [c1 76 2 (by omega) (by omega) (by omega) (by omega) (by omega)]; exact a2, by rw [hM2, sI_g, if_pos ⟨rfl, rfl⟩], ?_⟩
            rw [c1 76 6 (by omega) (by omega) (by omega) (by omega) (by omega), c1 76 7 (by omega) (by omega) (by omega) (by omega) (by omega), cf 77 (by omega) (by omega) (by omega) (by omega) (by omega), cf 78 (by omega) (by omega) (by omega) (by omega) (by omega), cf 79 (by omega) (by omega) (by omega) (by omega) (by omega), cf 82 (by omega) (by omega) (by omega) (by omega) (by omega)]
            refine ⟨h1, LX_fr (fun i j _ _ _ _ => c1 _ _ (by omega) (by omega) (by omega) (by omega) (by omega)) h2, h3, WX_fr (fun j => c1 _ _ (by omega) (by omega) (by omega) (by omega) (by omega)) (c1 _ _ (by omega) (by omega) (by omega) (by omega) (by omega)) h4, by rw [c1 _ _ (by omega) (by omega) (by omega) (by omega) (by omega)]; exact h5, h6, h7, RX_fr h1.1 h1.2.1 (c1 _ _ (by omega) (by omega) (by omega) (by omega) (by omega)) (c1 _ _ (by omega) (by omega) (by omega) (by omega) (by omega)) (fun i j _ => c1 _ _ (by omega) (by omega) (by omega) (by omega) (by omega)) (fun _ _ => rfl) h8, by omega, ?_, fun i hi => ?_, fun i hi => ?_⟩
            · rw [hM2, sI_g, if_neg (by omega), sI_g, if_neg (by omega), sI_g, if_neg (by omega), sI_g, if_neg (by omega), hM1, sI_g, if_pos ⟨rfl, rfl⟩]
            · by_cases hin : i = nr
              · subst hin
                have e22 : M2.1 22 i = 0 := by
                  rw [hM2, sI_g, if_neg (by omega), sI_g, if_neg (by omega), sI_g, if_neg (by omega), sI_g, if_neg (by omega), hM1, sI_g, if_neg (by omega), sI_g, if_pos ⟨rfl, rfl⟩]
                have v0 : M2.1 81 (3 * i) = Int32.ofNat k := by rw [e81, if_neg (by omega), if_neg (by omega), if_pos rfl]
                have v1 : M2.1 81 (3 * i + 1) = y := by rw [e81, if_neg (by omega), if_pos rfl]
                have v2 : M2.1 81 (3 * i + 2) = 0 := by rw [e81, if_pos rfl]
                obtain ⟨ya, ya1, ya2⟩ := ex_o (n := 65535) (by omega) hy.1 hy.2
                refine ⟨M.2.2.2, by rw [r21, if_pos rfl], hB, by omega, ?_, ?_, ?_, ?_, ?_, ⟨k, hk1, hk5, v0⟩, ⟨ya, ya1, by rw [v1]; exact ya2⟩⟩
                · rw [cq, v0]; exact nq.1
                · rw [cq]; exact nq.2.1
                · rw [cq, v1]; exact nq.2.2.1
                · rw [cq, v0]; exact nq.2.2.2
                · rw [v2]; exact e22
              · obtain ⟨q, b1, b2, b3, b4, b5, b6, b7, b8, b9⟩ := h9.2.2.1 i (by omega)
                have w0 : M2.1 81 (3 * i) = M.1 81 (3 * i) := c1 _ _ (by omega) (by omega) (by omega) (by omega) (by omega)
                have w1 : M2.1 81 (3 * i + 1) = M.1 81 (3 * i + 1) := c1 _ _ (by omega) (by omega) (by omega) (by omega) (by omega)
                have w2 : M2.1 81 (3 * i + 2) = M.1 81 (3 * i + 2) := c1 _ _ (by omega) (by omega) (by omega) (by omega) (by omega)
                have wq : ∀ j, M2.1 q j = M.1 q j := fun j => c1 _ _ b3 (by omega) (by omega) (by omega) (by omega)
                refine ⟨q, by rw [r21, if_neg hin]; exact b1, b2, by omega, ?_⟩
                rw [wq, wq, wq, wq, w0, w1, w2, c1 (3 + 19) i (by omega) (by omega) (by omega) (by omega) (by omega)]
                exact ⟨b4, b5, b6, b7, b8, b9⟩
            · show okRb M2 (M2.2.2.1 21 i) = true
              rw [r21]
              by_cases hin : i = nr
              · rw [if_pos hin]
                unfold okRb
                rw [m2n, decide_eq_true_eq]
                omega
              · rw [if_neg hin]
                exact okRb_fr (by omega) (h9.2.2.2 i hi)
      · have e4 : nr = 4 := by omega
        subst e4
        refine ⟨-2, M, M, ?_, ?_, h⟩
        · unfold f_X11_rule
          rw [within_e, bd_s, if_pos hx, if_neg (by decide), within_e, bd_s, if_pos hy, if_neg (by decide), h9.2.1, if_neg (by decide)]
        · unfold f_X12_rule
          rw [in_e, bd_s, if_pos hx, if_neg (by decide), in_e, bd_s, if_pos hy, if_neg (by decide), a3, if_pos (by decide)]
    · refine ⟨-1, M, M, ?_, ?_, h⟩
      · unfold f_X11_rule
        rw [within_e, bd_s, if_pos hx, if_neg (by decide), within_e, bd_s, if_neg hy, if_pos rfl]
      · unfold f_X12_rule
        rw [in_e, bd_s, if_pos hx, if_neg (by decide), in_e, bd_s, if_neg hy, if_pos rfl]
  · refine ⟨-1, M, M, ?_, ?_, h⟩
    · unfold f_X11_rule
      rw [within_e, bd_s, if_neg hx, if_pos rfl]
    · unfold f_X12_rule
      rw [in_e, bd_s, if_neg hx, if_pos rfl]
theorem c_shelf (x y z : Int32) : Call (f_X11_shelf x y z) (f_X12_shelf x y z) := by
  intro M h
  have hS := h.2.2.2.2.1
  have hF := h.2.2.2.2.2.1
  obtain ⟨np, nw, nr, a1, a2, a3, h1, h2, h3, h4, h5, h6, h7, h8, h9⟩ := h.1
  have nr4 := h9.1
  by_cases hx : 0 ≤ x ∧ x ≤ 3
  · obtain ⟨s, hs, rfl⟩ := ex_o (n := 3) (by omega) hx.1 hx.2
    by_cases hy : 0 ≤ y ∧ y ≤ 2
    · obtain ⟨k, hk, rfl⟩ := ex_o (n := 2) (by omega) hy.1 hy.2
      have x1 : f_X11_shelf (Int32.ofNat s) (Int32.ofNat k) z M = if Int32.ofNat k = 0 then bd (f_X11_shelveRule (Int32.ofNat s) z M) (fun r8 M9 => some (r8, M9)) else if Int32.ofNat k = 1 then bd (f_X11_shelveSheet (Int32.ofNat s) z M) (fun r6 M7 => some (r6, M7)) else wrI M 71 4 (Int32.ofNat s) 0 (fun M5 => some (1, M5)) := by
        unfold f_X11_shelf
        rw [within_e, bd_s, if_pos hx, if_neg (by decide), within_e, bd_s, if_pos hy, if_neg (by decide)]
      have m1 : ∀ N, f_X12_shelf (Int32.ofNat s) (Int32.ofNat k) z N = bd (f_X12_isHeld (Int32.ofNat k) z N) (fun r3 M4 => if r3 = 0 then some (-1, M4) else if Int32.ofNat k = 2 then f_X12_shelf_42 (Int32.ofNat s) (Int32.ofNat k) z (Int32.ofNat s) M4 else if Int32.ofNat k = 1 then rdI M4 96 4 z (fun v5 => if 0 ≤ v5 then f_X12_shelf_46 (Int32.ofNat s) (Int32.ofNat k) z (Int32.ofNat s) M4 else f_X12_shelf_42 (Int32.ofNat s) (Int32.ofNat k) z (Int32.ofNat s) M4) else f_X12_shelf_46 (Int32.ofNat s) (Int32.ofNat k) z (Int32.ofNat s) M4) := fun N => by
        unfold f_X12_shelf
        rw [isSh_e, bd_s, if_pos hx, if_neg (by decide)]
      have fin : ∀ (M2 : k_M), (∀ a j, ¬ (locF a ∧ j = s) → M2.1 a j = M.1 a j) → M2.2 = M.2 → ((M2.1 71 s = 0 ∧ M2.1 99 s = -1) ∨ (M2.1 71 s = 1 ∧ M2.1 99 s = 0 ∧ M2.1 72 s = M2.1 100 s ∧ Bn (M2.1 100 s) 3) ∨ (M2.1 71 s = 2 ∧ M2.1 99 s = 1 ∧ M2.1 72 s = M2.1 100 s ∧ M2.1 73 s = M2.1 101 s ∧ Bn (M2.1 100 s) 3)) → R M2 := fun M2 c d g => by
        refine R_P (fun a j => locF a ∧ j = s) h (fun a j _ hp => c a j hp) d (.inl fun a j hp => by unfold locF at hp; unfold chN; omega) (.inl fun n a j hp => by unfold locF at hp; unfold locK; omega) (.inl fun a j hp => by unfold locF at hp; unfold locT; omega) (.inl fun a j hp => by unfold locF at hp; unfold locW; omega) (.inl fun a j hp => by unfold locF at hp; unfold locS; omega) (.inr fun t ht => ?_) (.inl fun a j hp => by unfold locF at hp; unfold locA; omega) (fun j => by unfold locF; omega)
        by_cases hts : t = s
        · rw [hts]; exact g
        · rw [c 71 t (by omega), c 72 t (by omega), c 73 t (by omega), c 99 t (by omega), c 100 t (by omega), c 101 t (by omega)]
          exact hF t ht
      have hc : k = 0 ∨ k = 1 ∨ k = 2 := by omega
      rcases hc with rfl | rfl | rfl
      · by_cases hz : 0 ≤ z ∧ z < Int32.ofNat nr
        · obtain ⟨i, hi, rfl⟩ := ex_lt (by omega) hz.1 hz.2
          obtain ⟨q, q1, -⟩ := ruleAt_in h9 hi
          obtain ⟨M1, hM1⟩ : ∃ M1, M1 = sI (sI M 71 s 1) 72 s (Int32.ofNat i) := ⟨_, rfl⟩
          have m8 : M1.1 76 8 = Int32.ofNat nr := by rw [hM1, sI_g, if_neg (by omega), sI_g, if_neg (by omega)]; exact a3
          obtain ⟨M2, hM2⟩ : ∃ M2, M2 = sI (sI (sI M1 99 s (Int32.ofNat 0)) 100 s (Int32.ofNat i)) 101 s 0 := ⟨_, rfl⟩
          refine ⟨1, M1, M2, ?_, ?_, fin M2 (fun a j hp => ?_) (by rw [hM2, hM1]; rfl) (.inr (.inl ?_))⟩
          · rw [x1, if_pos (by decide)]
            unfold f_X11_shelveRule
            rw [q1, bd_s, nul_s, wrI_o (by omega) (by omega), wrI_o (by omega) (by omega), ← hM1, bd_s]
          · rw [m1]
            unfold f_X12_isHeld
            rw [if_pos (by decide), isRu_e (by omega) m8, bd_s, if_pos hz]
            unfold ckZ
            rw [if_pos (Or.inr rfl), bd_s, if_neg (by decide), if_neg (by decide), if_neg (by decide)]
            unfold f_X12_shelf_46 f_X12_shelf_47 f_X12_shelf_68 f_X12_shelf_89
            rw [wrI_o (by omega) (by omega), if_neg (by decide), wrI_o (by omega) (by omega), if_neg (by decide), wrI_o (by omega) (by omega), ← hM2]
          · unfold locF at hp
            rw [hM2, sI_g, if_neg (by omega), sI_g, if_neg (by omega), sI_g, if_neg (by omega), hM1, sI_g, if_neg (by omega), sI_g, if_neg (by omega)]
          · have v71 : M2.1 71 s = 1 := by rw [hM2, sI_g, if_neg (by omega), sI_g, if_neg (by omega), sI_g, if_neg (by omega), hM1, sI_g, if_neg (by omega), sI_g, if_pos ⟨rfl, rfl⟩]
            have v99 : M2.1 99 s = 0 := by rw [hM2, sI_g, if_neg (by omega), sI_g, if_neg (by omega), sI_g, if_pos ⟨rfl, rfl⟩]; rfl
            have v72 : M2.1 72 s = Int32.ofNat i := by rw [hM2, sI_g, if_neg (by omega), sI_g, if_neg (by omega), sI_g, if_neg (by omega), hM1, sI_g, if_pos ⟨rfl, rfl⟩]
            have v100 : M2.1 100 s = Int32.ofNat i := by rw [hM2, sI_g, if_neg (by omega), sI_g, if_pos ⟨rfl, rfl⟩]
            exact ⟨v71, v99, v72.trans v100.symm, i, by omega, v100⟩
        · refine ⟨-1, M, M, ?_, ?_, h⟩
          · rw [x1, if_pos (by decide)]
            unfold f_X11_shelveRule
            rw [ruleAt_out h9 hz, bd_s, nul_n, bd_s]
          · rw [m1]
            unfold f_X12_isHeld
            rw [if_pos (by decide), isRu_e (by omega) a3, bd_s, if_neg hz]
            rfl
      · by_cases hz : 0 ≤ z ∧ z ≤ 3
        · obtain ⟨t, ht, rfl⟩ := ex_o (n := 3) (by omega) hz.1 hz.2
          obtain ⟨b1, b2⟩ := hS t (by omega)
          have hsh : ∀ N, f_X12_isHeld (Int32.ofNat 1) (Int32.ofNat t) N = some (1, N) := fun N => by
            unfold f_X12_isHeld
            rw [if_neg (by decide), if_pos (by decide), isSh_e, bd_s, if_pos hz]
            rfl
          have xs : ∀ g : Int32, f_X11_shelveSheet_31 (Int32.ofNat s) (Int32.ofNat t) (Int32.ofNat s) g M = some (1, sI (sI (sI M 71 s g) 72 s (M.1 64 t)) 73 s (M.1 65 t)) := fun g => by
            unfold f_X11_shelveSheet_31
            rw [wrI_o (by omega) (by omega), rdI_o (by omega) (by omega), wrI_o (by omega) (by omega), rdI_o (by omega) (by omega), wrI_o (by omega) (by omega)]
            rw [sI_g, if_neg (by omega), sI_g, if_neg (by omega), sI_g, if_neg (by omega)]
          have ms : ∀ (N : k_M) (g : Int32), f_X12_shelf_47 (Int32.ofNat s) (Int32.ofNat 1) (Int32.ofNat t) (Int32.ofNat s) g N = some (1, sI (sI (sI N 99 s g) 100 s (N.1 96 t)) 101 s (N.1 97 t)) := fun N g => by
            unfold f_X12_shelf_47 f_X12_shelf_68 f_X12_shelf_89
            rw [wrI_o (by omega) (by omega), if_pos (by decide), rdI_o (by omega) (by omega), wrI_o (by omega) (by omega), if_pos (by decide), rdI_o (by omega) (by omega), wrI_o (by omega) (by omega)]
            rw [sI_g, if_neg (by omega), sI_g, if_neg (by omega), sI_g, if_neg (by omega)]
          have go : ∀ (g gm : Int32), f_X11_shelveSheet (Int32.ofNat s) (Int32.ofNat t) M = f_X11_shelveSheet_31 (Int32.ofNat s) (Int32.ofNat t) (Int32.ofNat s) g M → (∀ N : k_M, N.1 96 t = M.1 96 t → f_X12_shelf (Int32.ofNat s) (Int32.ofNat 1) (Int32.ofNat t) N = f_X12_shelf_47 (Int32.ofNat s) (Int32.ofNat 1) (Int32.ofNat t) (Int32.ofNat s) gm N) → ((g = 0 ∧ gm = -1) ∨ (g = 2 ∧ gm = 1 ∧ M.1 65 t = M.1 97 t ∧ Bn (M.1 96 t) 3)) → ∃ (v : Int32) (M1 M2 : k_M), f_X11_shelf (Int32.ofNat s) (Int32.ofNat 1) (Int32.ofNat t) M = some (v, M1) ∧ f_X12_shelf (Int32.ofNat s) (Int32.ofNat 1) (Int32.ofNat t) M1 = some (v, M2) ∧ R M2 := fun g gm q1 q2 q3 => by
            obtain ⟨M1, hM1⟩ : ∃ M1, M1 = sI (sI (sI M 71 s g) 72 s (M.1 64 t)) 73 s (M.1 65 t) := ⟨_, rfl⟩
            have k1 : ∀ a j, a ≠ 71 → a ≠ 72 → a ≠ 73 → M1.1 a j = M.1 a j := fun a j w1 w2 w3 => by rw [hM1, sI_g, if_neg (by omega), sI_g, if_neg (by omega), sI_g, if_neg (by omega)]
            obtain ⟨M2, hM2⟩ : ∃ M2, M2 = sI (sI (sI M1 99 s gm) 100 s (M1.1 96 t)) 101 s (M1.1 97 t) := ⟨_, rfl⟩
            refine ⟨1, M1, M2, ?_, ?_, fin M2 (fun a j hp => ?_) (by rw [hM2, hM1]; rfl) ?_⟩
            · rw [x1, if_neg (by decide), if_pos (by decide), q1, xs, ← hM1, bd_s]
            · rw [q2 _ (k1 _ _ (by omega) (by omega) (by omega)), ms, ← hM2]
            · unfold locF at hp
              rw [hM2, sI_g, if_neg (by omega), sI_g, if_neg (by omega), sI_g, if_neg (by omega), hM1, sI_g, if_neg (by omega), sI_g, if_neg (by omega), sI_g, if_neg (by omega)]
            · have u : ∀ a, a ≠ 99 → a ≠ 100 → a ≠ 101 → M2.1 a s = M1.1 a s := fun a w1 w2 w3 => by rw [hM2, sI_g, if_neg (by omega), sI_g, if_neg (by omega), sI_g, if_neg (by omega)]
              have v71 : M2.1 71 s = g := by rw [u _ (by omega) (by omega) (by omega), hM1, sI_g, if_neg (by omega), sI_g, if_neg (by omega), sI_g, if_pos ⟨rfl, rfl⟩]
              have v72 : M2.1 72 s = M.1 64 t := by rw [u _ (by omega) (by omega) (by omega), hM1, sI_g, if_neg (by omega), sI_g, if_pos ⟨rfl, rfl⟩]
              have v73 : M2.1 73 s = M.1 65 t := by rw [u _ (by omega) (by omega) (by omega), hM1, sI_g, if_pos ⟨rfl, rfl⟩]
              have v99 : M2.1 99 s = gm := by rw [hM2, sI_g, if_neg (by omega), sI_g, if_neg (by omega), sI_g, if_pos ⟨rfl, rfl⟩]
              have v100 : M2.1 100 s = M.1 96 t := by rw [hM2, sI_g, if_neg (by omega), sI_g, if_pos ⟨rfl, rfl⟩, k1 _ _ (by omega) (by omega) (by omega)]
              have v101 : M2.1 101 s = M.1 97 t := by rw [hM2, sI_g, if_pos ⟨rfl, rfl⟩, k1 _ _ (by omega) (by omega) (by omega)]
              rcases q3 with ⟨w1, w2⟩ | ⟨w1, w2, w3, w4⟩
              · exact .inl ⟨v71.trans w1, v99.trans w2⟩
              · exact .inr (.inr ⟨v71.trans w1, v99.trans w2, by rw [v72, v100]; exact b1, by rw [v73, v101]; exact w3, by rw [v100]; exact w4⟩)
          rcases b2 with b2 | ⟨b2, b3, b4, b5⟩
          · refine go 0 (-1) ?_ (fun N hN => ?_) (.inl ⟨rfl, rfl⟩)
            · unfold f_X11_shelveSheet
              rw [within_e, bd_s, if_pos hz, if_neg (by decide), rdI_o (by omega) (by omega), b1, if_pos b2]
            · rw [m1, hsh, bd_s, if_neg (by decide), if_neg (by decide), if_pos (by decide), rdI_o (by omega) (by omega), hN, if_neg (by rw [b2]; decide)]
              rfl
          · have hb2 := b2
            obtain ⟨kk, hkk, ek⟩ := b2
            have hn1 : ¬ M.1 96 t = -1 := by rw [neg_sort (.inr hb2), ek]; intro hh; exact hh (o_nn (by omega))
            refine go 2 1 ?_ (fun N hN => ?_) (.inr ⟨rfl, rfl, b3, hb2⟩)
            · unfold f_X11_shelveSheet
              rw [within_e, bd_s, if_pos hz, if_neg (by decide), rdI_o (by omega) (by omega), b1, if_neg hn1]
            · rw [m1, hsh, bd_s, if_neg (by decide), if_neg (by decide), if_pos (by decide), rdI_o (by omega) (by omega), hN, if_pos (by rw [ek]; exact o_nn (by omega))]
              rfl
        · refine ⟨-1, M, M, ?_, ?_, h⟩
          · rw [x1, if_neg (by decide), if_pos (by decide)]
            unfold f_X11_shelveSheet
            rw [within_e, bd_s, if_neg hz, if_pos rfl, bd_s]
          · rw [m1]
            unfold f_X12_isHeld
            rw [if_neg (by decide), if_pos (by decide), isSh_e, bd_s, if_neg hz]
            rfl
      · obtain ⟨M2, hM2⟩ : ∃ M2, M2 = sI (sI (sI (sI M 71 s 0) 99 s (-1)) 100 s z) 101 s 0 := ⟨_, rfl⟩
        refine ⟨1, sI M 71 s 0, M2, ?_, ?_, fin M2 (fun a j hp => ?_) (by rw [hM2]; rfl) (.inl ⟨?_, ?_⟩)⟩
        · rw [x1, if_neg (by decide), if_neg (by decide), wrI_o (by omega) (by omega)]
        · rw [m1]
          unfold f_X12_isHeld
          rw [if_neg (by decide), if_neg (by decide), if_pos (by decide), bd_s, if_neg (by decide), if_pos (by decide)]
          unfold f_X12_shelf_42 f_X12_shelf_47 f_X12_shelf_68 f_X12_shelf_89
          rw [wrI_o (by omega) (by omega), if_neg (by decide), wrI_o (by omega) (by omega), if_neg (by decide), wrI_o (by omega) (by omega), ← hM2]
        · unfold locF at hp
          rw [hM2, sI_g, if_neg (by omega), sI_g, if_neg (by omega), sI_g, if_neg (by omega), sI_g, if_neg (by omega)]
        · rw [hM2, sI_g, if_neg (by omega), sI_g, if_neg (by omega), sI_g, if_neg (by omega), sI_g, if_pos ⟨rfl, rfl⟩]
        · rw [hM2, sI_g, if_neg (by omega), sI_g, if_neg (by omega), sI_g, if_pos ⟨rfl, rfl⟩]
    · refine ⟨-1, M, M, ?_, ?_, h⟩
      · unfold f_X11_shelf
        rw [within_e, bd_s, if_pos hx, if_neg (by decide), within_e, bd_s, if_neg hy, if_pos rfl]
      · have y0 : ¬ y = 0 := fun hh => hy (by rw [hh]; decide)
        have y1 : ¬ y = 1 := fun hh => hy (by rw [hh]; decide)
        have y2 : ¬ y = 2 := fun hh => hy (by rw [hh]; decide)
        unfold f_X12_shelf f_X12_isHeld
        rw [isSh_e, bd_s, if_pos hx, if_neg (by decide), if_neg y0, if_neg y1, if_neg y2, bd_s, if_pos rfl]
  · refine ⟨-1, M, M, ?_, ?_, h⟩
    · unfold f_X11_shelf
      rw [within_e, bd_s, if_neg hx, if_pos rfl]
    · unfold f_X12_shelf
      rw [isSh_e, bd_s, if_neg hx, if_pos rfl]
