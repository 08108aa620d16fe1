/-! ===== the pure layer: both read the same text ===== -/
def FX (B M : k_M) : Prop := (∀ a j, ¬ (a = 1 ∧ 2 ≤ j ∧ j ≤ 5) → ¬ (44 ≤ a ∧ a ≤ 58) → M.1 a j = B.1 a j) ∧ M.2 = B.2
def FM (B M : k_M) : Prop := (∀ a j, ¬ (a = 76 ∧ 13 ≤ j ∧ j ≤ 20) → ¬ (84 ≤ a ∧ a ≤ 86) → M.1 a j = B.1 a j) ∧ (∀ a j, a ≠ 76 → M.2.1 a j = B.2.1 a j) ∧ M.2.2 = B.2.2
def LQ (np nw : Nat) (Mx Mm : k_M) : Prop := WFl np nw (Mm.1 84) (Mm.1 85) ∧ LX 43 Mx np nw (Mm.1 84) (Mm.1 85) ∧ Mm.1 76 19 = Int32.ofNat np ∧ Mm.1 76 20 = Int32.ofNat nw ∧ (∀ p, p < np → Mm.1 86 p = Int32.ofNat (wls nw (Mm.1 85) p).length) ∧ (∀ p, p < np → Mx.1 48 p = Mm.1 84 (3 * p + 2)) ∧ (∀ v, v < nw → Mx.1 55 v = Mm.1 85 (5 * v + 3))
def Qq (f : Nat → Nat) (n : Nat) (Bx Bm : k_M) (np nw s : Nat) (Mx Mm : k_M) : Prop := TX Mx f n s ∧ TM Mm f n s ∧ Mm.1 76 18 = 1 ∧ LQ np nw Mx Mm ∧ FX Bx Mx ∧ FM Bm Mm
def OutF (Bx Bm Mx Mm : k_M) : Prop := ∃ s, s ≤ 200 ∧ Mx.1 1 3 = Int32.ofNat s ∧ Mm.1 76 14 = Int32.ofNat s ∧ Mm.1 76 18 = 0 ∧ FX Bx Mx ∧ FM Bm Mm
def Out (f : Nat → Nat) (n : Nat) (Bx Bm : k_M) (s0 : Nat) (ox : Option (Int32 × k_M)) (om : Option (Unit × k_M)) : Prop := (∃ Mx' Mm', ox = some (0, Mx') ∧ om = some ((), Mm') ∧ OutF Bx Bm Mx' Mm') ∨ (∃ Mx' Mx2 Mm' np' nw' s', ox = some (1, Mx') ∧ f_X7_step Mx' = some ((), Mx2) ∧ om = some ((), Mm') ∧ Qq f n Bx Bm np' nw' s' Mx2 Mm' ∧ s0 < s')
theorem LQ_fr {np nw : Nat} {Mx Mm Mx' Mm' : k_M} (h : LQ np nw Mx Mm) (cx : ∀ a j, 44 ≤ a → a ≤ 58 → Mx'.1 a j = Mx.1 a j) (cm : ∀ a j, 84 ≤ a → a ≤ 86 → Mm'.1 a j = Mm.1 a j) (c19 : Mm'.1 76 19 = Mm.1 76 19) (c20 : Mm'.1 76 20 = Mm.1 76 20) : LQ np nw Mx' Mm' := by
  have e84 : Mm'.1 84 = Mm.1 84 := funext fun j => cm _ _ (by omega) (by omega)
  have e85 : Mm'.1 85 = Mm.1 85 := funext fun j => cm _ _ (by omega) (by omega)
  obtain ⟨h1, h2, h3, h4, h5, h6, h7⟩ := h
  unfold LQ
  rw [e84, e85, c19, c20]
  exact ⟨h1, LX_fr (fun i j q1 q2 _ _ => cx _ _ (by omega) (by omega)) h2, h3, h4, fun p hp => by rw [cm _ _ (by omega) (by omega)]; exact h5 p hp, fun p hp => by rw [cx _ _ (by omega) (by omega)]; exact h6 p hp, fun v hv => by rw [cx _ _ (by omega) (by omega)]; exact h7 v hv⟩
theorem TX_fr {f : Nat → Nat} {n s : Nat} {M M' : k_M} (h : TX M f n s) (c : ∀ a j, a = 1 ∨ a = 2 → M'.1 a j = M.1 a j) : TX M' f n s := by
  obtain ⟨h1, h2, h3, h4, h5, h6⟩ := h
  refine ⟨⟨h1.1, by rw [c _ _ (by omega)]; exact h1.2.1, fun k hk => by rw [c _ _ (by omega)]; exact h1.2.2 k hk⟩, h2, by rw [c _ _ (by omega)]; exact h3, by rw [c _ _ (by omega)]; exact h4, by rw [c _ _ (by omega)]; exact h5, fun h => by rw [c _ _ (by omega)]; exact h6 h⟩
theorem TM_fr {f : Nat → Nat} {n s : Nat} {M M' : k_M} (h : TM M f n s) (c : ∀ a j, (a = 76 ∧ 12 ≤ j ∧ j ≤ 17) ∨ a = 83 → M'.1 a j = M.1 a j) (d : M'.2 = M.2) : TM M' f n s := by
  obtain ⟨h1, h2, h3, h4, h5, h6, h7, h8⟩ := h
  refine ⟨⟨h1.1, by rw [c _ _ (by omega)]; exact h1.2.1, fun k hk => by rw [c _ _ (by omega)]; exact h1.2.2 k hk⟩, h2, by rw [c _ _ (by omega)]; exact h3, by rw [c _ _ (by omega)]; exact h4, by rw [c _ _ (by omega)]; exact h5, fun h => by rw [c _ _ (by omega)]; exact h6 h, fun h => by rw [d]; exact h7 h, fun h => by rw [c _ _ (by omega)]; exact h8 h⟩
section
variable {f : Nat → Nat} {n np nw s : Nat} {Bx Bm Mx Mm : k_M}
theorem Q_step (h : Qq f n Bx Bm np nw s Mx Mm) : ∃ Mx' Mm', f_X7_step Mx = some ((), Mx') ∧ f_X12_advance Mm = some ((), Mm') ∧ Qq f n Bx Bm np nw (nx f n s) Mx' Mm' := by
  obtain ⟨h1, h2, h3, h4, h5, h6⟩ := h
  obtain ⟨X, x1, x2, x3, x4⟩ := TX_step h1
  obtain ⟨Y, y1, y2, y3, y4, y5⟩ := TM_adv h2
  exact ⟨X, Y, x1, y1, x2, y2, by rw [y3 _ _ (by omega)]; exact h3, LQ_fr h4 (fun a j q1 q2 => x3 _ _ (by omega)) (fun a j q1 q2 => y3 _ _ (by omega)) (y3 _ _ (by omega)) (y3 _ _ (by omega)), ⟨fun a j q1 q2 => by rw [x3 a j q1]; exact h5.1 a j q1 q2, x4.trans h5.2⟩, ⟨fun a j q1 q2 => by rw [y3 a j (by omega)]; exact h6.1 a j q1 q2, fun a j q => by rw [y4 a j q]; exact h6.2.1 a j q, y5.trans h6.2.2⟩⟩
theorem Q_fail (h : Qq f n Bx Bm np nw s Mx Mm) : OutF Bx Bm Mx (sI Mm 76 18 0) := by
  obtain ⟨h1, h2, h3, h4, h5, h6⟩ := h
  have hn := h1.1.1
  have hs := h1.2.1
  exact ⟨s, by omega, h1.2.2.1, by rw [sI_g, if_neg (by omega)]; exact h2.2.2.1, fl_g0 Mm, h5, ⟨fun a j q1 q2 => by rw [sI_g, if_neg (by omega)]; exact h6.1 a j q1 q2, fun a j q => h6.2.1 a j q, h6.2.2⟩⟩
theorem Q_le (h : Qq f n Bx Bm np nw s Mx Mm) : s ≤ n ∧ n ≤ 200 ∧ np ≤ 8 ∧ nw ≤ 12 := ⟨h.1.2.1, h.1.1.1, h.2.2.2.1.1.1, h.2.2.2.1.1.2.1⟩
theorem wP61_f {M : k_M} (h : M.1 76 18 = 0) (a b c : Int32) : f_X12_wantPlace_61 a b c M = some ((), M) := by
  unfold f_X12_wantPlace_61
  rw [wE_f h, bd_s, if_pos h]
theorem place58_l {s0 k g l : Nat} (h : Qq f n Bx Bm np nw s Mx Mm) (hs : s0 ≤ s) (hnp : np < 8) (hk : k ≤ 5) (hg : g ≤ 9) (hl : l ≤ 99) (he : lft (Int32.ofNat k) (Int32.ofNat l) = Int32.ofNat l) : Out f n Bx Bm s0 (f_X7_readPlace_58 43 (Int32.ofNat k) (Int32.ofNat g) (Int32.ofNat l) Mx) (f_X12_wantPlace_61 (Int32.ofNat k) (Int32.ofNat g) (Int32.ofNat l) Mm) := by
  obtain ⟨h1, h2, h3, h4, h5, h6⟩ := id h
  unfold f_X7_readPlace_58 f_X12_wantPlace_61
  by_cases hE : okE f n s
  · have hsn : s < n := by
      have := tS_b f n s
      have := hE.1
      omega
    obtain ⟨k1, k2, k3, k4, k5, k6, k7⟩ := h4
    have nw12 := k1.2.1
    obtain ⟨X, e1, e2, e3, e4, e5, e6, e7, e8, e9⟩ := addP_e (w := 43) hnp k2.1 (Int32.ofNat k) (Int32.ofNat g) (Int32.ofNat l)
    rw [he] at e4 e5
    have tX : TX X f n s := TX_fr h1 (fun a j q => e8 a j (by omega) (by omega))
    obtain ⟨X2, x1, x2, x3, x4⟩ := TX_step tX
    obtain ⟨Y, y1, y2, y3, y4, y5⟩ := TM_adv h2
    have y18 : Y.1 76 18 = 1 := by rw [y3 _ _ (by omega)]; exact h3
    have y19 : Y.1 76 19 = Int32.ofNat np := by rw [y3 _ _ (by omega)]; exact k3
    obtain ⟨A, hA⟩ : ∃ A, A = sI Y 84 (3 * np) (Int32.ofNat k) := ⟨_, rfl⟩
    obtain ⟨B, hB⟩ : ∃ B, B = sI A 84 (3 * np + 1) (Int32.ofNat g) := ⟨_, rfl⟩
    obtain ⟨C, hC⟩ : ∃ C, C = sI B 84 (3 * np + 2) (Int32.ofNat l) := ⟨_, rfl⟩
    obtain ⟨D, hD⟩ : ∃ D, D = sI C 86 np 0 := ⟨_, rfl⟩
    obtain ⟨E, hE'⟩ : ∃ E, E = sI D 76 19 (Int32.ofNat (np + 1)) := ⟨_, rfl⟩
    have A19 : A.1 76 19 = Int32.ofNat np := by rw [hA, sI_g, if_neg (by omega)]; exact y19
    have B19 : B.1 76 19 = Int32.ofNat np := by rw [hB, sI_g, if_neg (by omega)]; exact A19
    have C19 : C.1 76 19 = Int32.ofNat np := by rw [hC, sI_g, if_neg (by omega)]; exact B19
    have D19 : D.1 76 19 = Int32.ofNat np := by rw [hD, sI_g, if_neg (by omega)]; exact C19
    have El : ∀ a j, ¬ (a = 84 ∧ 3 * np ≤ j ∧ j < 3 * np + 3) → ¬ (a = 86 ∧ j = np) → ¬ (a = 76 ∧ j = 19) → E.1 a j = Y.1 a j := fun a j q1 q2 q3 => by rw [hE', sI_g, if_neg q3, hD, sI_g, if_neg q2, hC, sI_g, if_neg (by omega), hB, sI_g, if_neg (by omega), hA, sI_g, if_neg (by omega)]
    have E0 : E.1 84 (3 * np) = Int32.ofNat k := by rw [hE', sI_g, if_neg (by omega), hD, sI_g, if_neg (by omega), hC, sI_g, if_neg (by omega), hB, sI_g, if_neg (by omega), hA, sI_g, if_pos ⟨rfl, rfl⟩]
    have E1 : E.1 84 (3 * np + 1) = Int32.ofNat g := by rw [hE', sI_g, if_neg (by omega), hD, sI_g, if_neg (by omega), hC, sI_g, if_neg (by omega), hB, sI_g, if_pos ⟨rfl, rfl⟩]
    have E2 : E.1 84 (3 * np + 2) = Int32.ofNat l := by rw [hE', sI_g, if_neg (by omega), hD, sI_g, if_neg (by omega), hC, sI_g, if_pos ⟨rfl, rfl⟩]
    have E3 : E.1 86 np = 0 := by rw [hE', sI_g, if_neg (by omega), hD, sI_g, if_pos ⟨rfl, rfl⟩]
    have E19 : E.1 76 19 = Int32.ofNat (np + 1) := by rw [hE', sI_g, if_pos ⟨rfl, rfl⟩]
    have Ed : E.2 = Y.2 := by rw [hE', hD, hC, hB, hA]; rfl
    have e84 : ∀ j, j < 3 * np → E.1 84 j = Mm.1 84 j := fun j hj => by rw [El _ _ (by omega) (by omega) (by omega), y3 _ _ (by omega)]
    have e85 : E.1 85 = Mm.1 85 := funext fun j => by rw [El _ _ (by omega) (by omega) (by omega), y3 _ _ (by omega)]
    have xl : ∀ a j, ¬ (45 ≤ a ∧ a ≤ 49 ∧ j = np) → ¬ (a = 44 ∧ j = 0) → a ≠ 1 → X2.1 a j = Mx.1 a j := fun a j q1 q2 q3 => by rw [x3 a j (by omega), e8 a j (by omega) (by omega)]
    have xn : ∀ a, a ≠ 1 → ∀ j, X2.1 a j = X.1 a j := fun a q j => x3 a j (by omega)
    refine .inr ⟨X, X2, E, np + 1, nw, nx f n s, ?_, x1, ?_, ⟨x2, ?_, ?_, ?_, ?_, ?_⟩, ?_⟩
    · rw [isEndX h1, bd_s, if_pos hE, if_neg (show ¬ (1 : Int32) = 0 by decide), e1, bd_s]
    · rw [wE_ok h3 h2 hE, y1, bd_s, bd_s, y18, if_neg (show ¬ (1 : Int32) = 0 by decide), y19, o_lmul, wrI_o (by omega) (by omega), ← hA, A19, o_lmul, o_addl, wrI_o (by omega) (by omega), ← hB, B19, o_lmul, o_addl, wrI_o (by omega) (by omega), ← hC, C19, wrI_o (by omega) (by omega), ← hD, bN_e, D19, o_addl, ← hE']
    · exact TM_fr y2 (fun a j q => El a j (by omega) (by omega) (by omega)) Ed
    · rw [El _ _ (by omega) (by omega) (by omega)]; exact y18
    · refine ⟨?_, ?_, E19, ?_, fun p hp => ?_, fun p hp => ?_, fun v hv => ?_⟩
      · rw [e85]
        exact WFl_addP k1 hnp ⟨k, hk, rfl⟩ ⟨g, hg, rfl⟩ ⟨l, hl, rfl⟩ e84 E0 E1 E2
      · rw [e85]
        exact LX_addP k1 k2 hnp e84 E0 E1 E2 (by rw [xn _ (by omega)]; exact e2) (by rw [xn _ (by omega)]; exact e3) (by rw [xn _ (by omega)]; exact e4) (by rw [xn _ (by omega)]; exact e6) (by rw [xn _ (by omega)]; exact e7) (fun i j _ _ _ _ q5 q6 => xl _ _ (by omega) (by omega) (by omega))
      · rw [El _ _ (by omega) (by omega) (by omega), y3 _ _ (by omega)]; exact k4
      · rw [e85]
        by_cases hh : p = np
        · rw [hh, E3, wls_nil k1]
          rfl
        · rw [El _ _ (by omega) (by omega) (by omega), y3 _ _ (by omega)]; exact k5 p (by omega)
      · by_cases hh : p = np
        · rw [hh, E2, xn _ (by omega)]; exact e5
        · rw [e84 _ (by omega), xl _ _ (by omega) (by omega) (by omega)]; exact k6 p (by omega)
      · rw [e85, xl _ _ (by omega) (by omega) (by omega)]; exact k7 v hv
    · exact ⟨fun a j q1 q2 => by rw [x3 a j q1, e8 a j (by omega) (by omega)]; exact h5.1 a j q1 q2, by rw [x4, e9]; exact h5.2⟩
    · exact ⟨fun a j q1 q2 => by rw [El a j (by omega) (by omega) (by omega), y3 a j (by omega)]; exact h6.1 a j q1 q2, fun a j q => by rw [Ed, y4 a j q]; exact h6.2.1 a j q, by rw [Ed, y5]; exact h6.2.2⟩
    · have := (nx_b f h1.2.1).2.2 hsn
      omega
  · refine .inl ⟨Mx, sI Mm 76 18 0, ?_, ?_, Q_fail h⟩
    · rw [isEndX h1, bd_s, if_neg hE, if_pos rfl]
    · rw [wE_no h3 h2 hE, bd_s, if_pos (fl_g0 Mm)]
end
