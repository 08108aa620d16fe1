/-! ===== the pure layer: does, stuck ===== -/
theorem stR_cg (M : k_M) (d : Nat) {r q : k_r} (h : ∀ k, k < 25 → r k = q k) : stR M d r = stR M d q := by
  refine kM_ext (fun a j => ?_) rfl
  by_cases hh : a = 82 ∧ 25 * d ≤ j ∧ j < 25 * d + 25
  · show (if _ then _ else _) = (if _ then _ else _)
    rw [if_pos hh, if_pos hh]
    exact h _ (by omega)
  · rw [stR_o _ _ _ hh, stR_o _ _ _ hh]
theorem becomes_e (N : k_M) (r1 : k_r) : f_X12_becomes 1 (stR N 1 r1) = some ((), stR (stR N 1 r1) 0 r1) := by
  have h := becomes_cp (fun M_ => f_X12_becomes_31 M_) 25 k_fu 0 (stR N 1 r1) (stR N 1 r1) (by omega) (fu_ge (by omega)) (fun _ _ => rfl) (fun k hk => by omega) (fun _ _ _ => rfl) rfl
  refine Eq.trans h ?_
  show some ((), _) = _
  rw [stR_cg (stR N 1 r1) 0 (r := rwM (stR N 1 r1) 1) (q := r1) (fun k hk => by rw [rwM_e _ _ hk, stR_in _ _ _ hk])]
theorem doesM {N : k_M} {np nw a : Nat} (hw : N.1 76 2 = Int32.ofNat nw) (hS : Sd np nw (N.1 77) (N.1 78) (N.1 79) (rwM N 0)) (ha : a ≤ 12) : (stp nw (N.1 77) (N.1 78) (N.1 79) (N.1 76 6) a (rwM N 0) = none ∧ ∃ q, f_X12_doesIt (Int32.ofNat a) N = some (0, stR N 1 q)) ∨ (∃ r1, stp nw (N.1 77) (N.1 78) (N.1 79) (N.1 76 6) a (rwM N 0) = some r1 ∧ f_X12_doesIt (Int32.ofNat a) N = some (dys (N.1 78) a, stR (stR N 1 r1) 0 r1)) := by
  obtain ⟨r', g1, g2⟩ := goesM0 (act := a) hw hS (by omega)
  have h1 : 0 ≤ Int32.ofNat a ∧ Int32.ofNat a ≤ 12 := ⟨o_nn (by omega), by rw [o_lel (by omega) (by omega)]; omega⟩
  have e : f_X12_doesIt (Int32.ofNat a) N = bd (f_X12_goes 0 (Int32.ofNat a) 2 N) (fun r3 M4 => f_X12_doesIt_21 r3 M4) := by
    simp only [f_X12_doesIt, in_e, bd_s, h1, and_self, if_true, i1z, if_false]
  rw [e, g1, bd_s]
  cases hh : stp nw (N.1 77) (N.1 78) (N.1 79) (N.1 76 6) a (rwM N 0) with
  | none => exact .inl ⟨rfl, r', rfl⟩
  | some r1 =>
    obtain ⟨d, d1, d2, d3⟩ := dys_c hS hh
    have : ¬ dys (N.1 78) a ≤ 0 := by rw [d3, o_lel (by omega) (by omega)]; omega
    refine .inr ⟨r1, rfl, ?_⟩
    rw [g2 r1 hh, Option.isSome_some, if_pos rfl]
    unfold f_X12_doesIt_21
    rw [if_neg this, becomes_e, bd_s]
    rfl
theorem stX_cell (M : k_M) (w : Nat) (r : k_r) {a : Nat} (h : a ≠ w ∧ a ≠ w + 5 ∧ a ≠ w + 12 ∧ a ≠ w + 17) : (stX M w r).1 a = M.1 a := funext fun j => stX_o (by unfold onX; omega)
theorem R_step {M : k_M} {np nw nr : Nat} {r' r1 q : k_r} (h : R M) (hN : NowF M np nw nr) (hS : Sd np nw (M.1 77) (M.1 78) (M.1 79) r1) (hq : rEq np nw r' r1) : R (stR (stR (stX M 3 r') 1 q) 0 r1) := by
  have np8 := hS.1.1
  have nw12 := hS.1.2.1
  have c : ∀ a j, ¬ (a = 82 ∧ j < 50) → ¬ onX 3 a j → (stR (stR (stX M 3 r') 1 q) 0 r1).1 a j = M.1 a j := fun a j h1 h2 => by rw [stR_o _ _ _ (by omega), stR_o _ _ _ (by omega), stX_o h2]
  have cr : ∀ k, k < 25 → (stR (stR (stX M 3 r') 1 q) 0 r1).1 82 k = r1 k := fun k hk => by
    have := stR_in (stR (stX M 3 r') 1 q) 0 r1 hk
    rw [Nat.mul_zero, Nat.zero_add] at this
    exact this
  refine R_N h (fun a j h1 h2 _ => c a j (by unfold scr at h1; unfold chN at h2; omega) (by unfold chN at h2; unfold onX; omega)) (fun _ _ _ => rfl) rfl (Nat.le_refl _) ⟨np, nw, nr, ?_⟩
  refine NowF_row hN (fun a j h1 h2 h3 => c a j (by unfold locN at h1; omega) h2) rfl (Nat.le_refl _) ?_ (.inr ?_) ?_
  · exact WFr_fr np8 nw12 cr hS.2.2.1
  · obtain ⟨p, hp, h0⟩ := hS.2.2.2
    exact ⟨p, hp, by rw [cr 0 (by omega)]; exact h0⟩
  · have g := rEq_RX (M := M) (w := 3) np8 nw12 hq
    refine RX_fr np8 nw12 ?_ ?_ (fun i j hi => ?_) (fun k hk => cr k hk) g
    · rw [stR_c _ _ _ (by omega), stR_c _ _ _ (by omega)]
    · rw [stR_c _ _ _ (by omega), stR_c _ _ _ (by omega)]
    · rw [stR_c _ _ _ (by omega), stR_c _ _ _ (by omega)]
theorem i31 : ((-1 : Int32) = -1) = True := by decide
theorem c_does (x : Int32) : Call (f_X11_does x) (f_X12_does x) := by
  intro M h
  have ht := there_e h
  by_cases hx : 0 ≤ x ∧ x ≤ 12
  · by_cases h0 : M.1 76 7 = 0
    · refine ⟨-4, M, M, ?_, ?_, h⟩
      · simp only [f_X11_does, within_e, bd_s, hx, and_self, if_true, i1z, if_false, ht, h0]
      · simp only [f_X12_does, in_e, bd_s, hx, and_self, if_true, i1z, if_false, h0]
    · obtain ⟨np, nw, nr, hN, hW, hL, hS, hS2, hq⟩ := here_of h h0
      obtain ⟨a, ha, rfl⟩ := ex_o (n := 12) (by omega) hx.1 hx.2
      have hA := attX (act := a) hW hL hS (by omega)
      rw [← stX_self] at hA
      rcases hA with ⟨g, r', h1, h2, h3, h4⟩ | ⟨h1, h2⟩
      · rcases stp_cg (rn := M.1 76 6) hS hq a with ⟨g1, g2⟩ | ⟨r'', q', g1, g2, g3⟩
        · rw [h1] at g1; cases g1
        rw [h1] at g1
        cases g1
        have e : ∀ b, b ≠ 3 ∧ b ≠ 8 ∧ b ≠ 15 ∧ b ≠ 20 → (stX M 3 r').1 b = M.1 b := fun b hb => stX_cell M 3 r' (by omega)
        have er : rwM (stX M 3 r') 0 = rwM M 0 := by
          unfold rwM
          rw [e 82 (by omega)]
        have hw : (stX M 3 r').1 76 2 = Int32.ofNat nw := by rw [e 76 (by omega)]; exact hN.2.1
        have hS3 : Sd np nw ((stX M 3 r').1 77) ((stX M 3 r').1 78) ((stX M 3 r').1 79) (rwM (stX M 3 r') 0) := by
          rw [e 77 (by omega), e 78 (by omega), e 79 (by omega), er]
          exact hS2
        have hD := doesM (a := a) hw hS3 ha
        rw [e 77 (by omega), e 78 (by omega), e 79 (by omega), e 76 (by omega), er, g2] at hD
        rcases hD with ⟨hD, -⟩ | ⟨r1, hD, hE⟩
        · cases hD
        cases hD
        obtain ⟨d, d1, d2, d3⟩ := dys_c hS h1
        have hd : r' 1 = rwX M 3 1 + dys (M.1 78) a := (stp_Sd hS h1).2.1
        refine ⟨dys (M.1 78) a, stX M 3 r', stR (stR (stX M 3 r') 1 q') 0 q', ?_, ?_, R_step h hN (stp_Sd hS2 g2).1 g3⟩
        · have e5 : M.1 3 5 = rwX M 3 1 := rfl
          simp only [f_X11_does, within_e, bd_s, hx, and_self, if_true, i1z, if_false, ht, h0, h2, bN, h3, stX_5, hd, e5]
          rw [Int32.add_comm, Int32.add_sub_cancel]
        · have hp : ¬ dys (M.1 78) a ≤ 0 := by rw [d3, o_lel (by omega) (by omega)]; omega
          have h07 : ¬ (stX M 3 r').1 76 7 = 0 := by rw [e 76 (by omega)]; exact h0
          simp only [f_X12_does, in_e, bd_s, hx, and_self, if_true, i1z, if_false, h07, hE, hp]
      · rcases stp_cg (rn := M.1 76 6) hS hq a with ⟨g1, g2⟩ | ⟨r'', q', g1, g2, g3⟩
        · rcases doesM (a := a) hN.2.1 hS2 ha with ⟨-, q, hE⟩ | ⟨r1, hE, -⟩
          · refine ⟨-3, M, stR M 1 q, ?_, ?_, R_fr (stR_FR M 1 q (by omega)) h⟩
            · simp only [f_X11_does, within_e, bd_s, hx, and_self, if_true, i1z, if_false, ht, h0, h2, bN, i31]
            · have : (0 : Int32) ≤ 0 := by decide
              simp only [f_X12_does, in_e, bd_s, hx, and_self, if_true, i1z, if_false, h0, hE, this]
          · rw [g2] at hE; cases hE
        · rw [h1] at g1; cases g1
  · refine ⟨-1, M, M, ?_, ?_, h⟩
    · simp only [f_X11_does, within_e, bd_s, hx, if_false, i0z, if_true]
    · simp only [f_X12_does, in_e, bd_s, hx, if_false, i0z, if_true]
section
variable {M : k_M} {np nw p : Nat} {r : k_r} {lw pl wy : Nat → Int32} {rn : Int32}
theorem chs_len (hA : At np nw pl wy r p) : (chs nw wy p).length ≤ 5 := by
  have := (hA.2.2.1.2.2.1 p hA.1).2.2.2
  rw [chs_eq, List.length_cons, List.length_map]
  omega
theorem stuckX (hW : WX 3 M lw rn) (hL : LX 3 M np nw pl wy) (hS : Sd np nw pl wy lw r) (hA : At np nw pl wy r p) (kx ky : k_M → Option (Int32 × k_M)) : ∀ (l : List Nat) (n i : Nat), (chs nw wy p).drop i = l → i ≤ (chs nw wy p).length → l.length < n → f_X11_stuck_15 n (Int32.ofNat i) (stX M 3 r) kx ky = if l.any (fun a => (stp nw pl wy lw rn a r).isSome) = true then kx (stX M 3 r) else ky (stX M 3 r)
  | [], n, i, hl, hi, hn => by
    obtain ⟨n, rfl⟩ : ∃ k, n = k + 1 := ⟨n - 1, by omega⟩
    have hle : (chs nw wy p).length ≤ i := List.drop_eq_nil_iff.mp hl
    have h5 := chs_len hA
    rw [f_X11_stuck_15, choices_e hL hA, bd_s, if_pos (by rw [o_le (by omega) (by omega)]; exact hle)]
    rfl
  | a :: t, n, i, hl, hi, hn => by
    obtain ⟨n, rfl⟩ : ∃ k, n = k + 1 := ⟨n - 1, by omega⟩
    have h5 := chs_len hA
    obtain ⟨h1, h2, h3⟩ := drop_c hl
    have ha : a ≤ nw := chs_mem (List.mem_of_mem_drop (i := i) (by rw [hl]; exact List.mem_cons_self))
    have nw12 := hS.1.2.1
    rw [f_X11_stuck_15, choices_e hL hA, bd_s, if_neg (by rw [o_le (by omega) (by omega)]; omega), choice_e hL hA h1, bd_s, h2, canX hW hL hS (by omega), bd_s]
    cases hh : stp nw pl wy lw rn a r with
    | none =>
      rw [List.length_cons] at hn
      have := stuckX hW hL hS hA kx ky t n (i + 1) h3 (by omega) (by omega)
      rw [o_addl]
      rw [List.any_cons, hh]
      exact this
    | some r1 =>
      rw [List.any_cons, hh]
      rfl
end
theorem stuckM {M : k_M} {np nw : Nat} (hw : M.1 76 2 = Int32.ofNat nw) (hS : Sd np nw (M.1 77) (M.1 78) (M.1 79) (rwM M 0)) (kx ky : k_M → Option (Int32 × k_M)) : ∀ (m n a : Nat) (q : k_r), a + m = nw + 1 → m < n → ∃ q', f_X12_stuck_12 n (Int32.ofNat a) (stR M 1 q) kx ky = if (List.range' a m).any (fun a => (stp nw (M.1 77) (M.1 78) (M.1 79) (M.1 76 6) a (rwM M 0)).isSome) = true then kx (stR M 1 q') else ky (stR M 1 q')
  | 0, n, a, q, ham, hn => by
    obtain ⟨n, rfl⟩ : ∃ k, n = k + 1 := ⟨n - 1, by omega⟩
    have nw12 := hS.1.2.1
    refine ⟨q, ?_⟩
    rw [f_X12_stuck_12, stR_c _ _ _ (by omega), hw, if_pos (by rw [o_lt (by omega) (by omega)]; omega)]
    rfl
  | m + 1, n, a, q, ham, hn => by
    obtain ⟨n, rfl⟩ : ∃ k, n = k + 1 := ⟨n - 1, by omega⟩
    have nw12 := hS.1.2.1
    obtain ⟨r', g1, g2⟩ := goesM (M := M) (d := 0) (q := q) (act := a) (by omega) hw hS (by omega) 2
    have g1' : f_X12_goes 0 (Int32.ofNat a) 2 (stR M 1 q) = _ := g1
    rw [f_X12_stuck_12, stR_c _ _ _ (by omega), hw, if_neg (by rw [o_lt (by omega) (by omega)]; omega), g1', bd_s]
    rw [List.range'_succ, List.any_cons]
    have es : stW nw (M.1 77) (M.1 78) (M.1 79) (M.1 76 6) 2 a (rwM M 0) = stp nw (M.1 77) (M.1 78) (M.1 79) (M.1 76 6) a (rwM M 0) := rfl
    rw [es]
    cases hh : stp nw (M.1 77) (M.1 78) (M.1 79) (M.1 76 6) a (rwM M 0) with
    | none =>
      obtain ⟨q', h⟩ := stuckM hw hS kx ky m n (a + 1) r' (by omega) (by omega)
      refine ⟨q', ?_⟩
      rw [o_addl]
      exact h
    | some r1 =>
      obtain ⟨d, d1, d2, d3⟩ := dys_c hS hh
      have : ¬ dys (M.1 78) a ≤ 0 := by rw [d3, o_lel (by omega) (by omega)]; omega
      refine ⟨r', ?_⟩
      rw [Option.isSome_some, if_pos rfl, if_neg this]
      rfl
theorem any_chs {np nw p : Nat} {pl wy lw : Nat → Int32} {rn : Int32} {r : k_r} (hA : At np nw pl wy r p) : (chs nw wy p).any (fun a => (stp nw pl wy lw rn a r).isSome) = (List.range' 0 (nw + 1)).any (fun a => (stp nw pl wy lw rn a r).isSome) := by
  unfold chs
  rw [List.any_filter, List.range_eq_range']
  congr 1
  funext a
  cases h : atP wy p a with
  | true => rfl
  | false => rw [chs_no hA h]; rfl
theorem c_stuck : Call f_X11_stuck f_X12_stuck := by
  intro M h
  have ht := there_e h
  by_cases h0 : M.1 76 7 = 0
  · refine ⟨-4, M, M, ?_, ?_, h⟩
    · simp only [f_X11_stuck, ht, h0, if_true]
    · simp only [f_X12_stuck, h0, if_true]
  · obtain ⟨np, nw, nr, hN, hW, hL, hS, hS2, hq⟩ := here_of h h0
    obtain ⟨p, hA⟩ := Sd_At hS
    have h5 := chs_len hA
    have e1 := stuckX hW hL hS hA (fun M_ => f_X11_stuck_44 M_) (fun M_ => f_X11_stuck_52 M_) (chs nw (M.1 78) p) k_fu 0 rfl (by omega) (by unfold k_fu; omega)
    rw [← stX_self, any_chs hA] at e1
    have nw12 := hS.1.2.1
    obtain ⟨q', e2⟩ := stuckM hN.2.1 hS2 (fun M_ => f_X12_stuck_30 M_) (fun M_ => f_X12_stuck_38 M_) (nw + 1) k_fu 0 (rwM M 1) (by omega) (by unfold k_fu; omega)
    rw [← stR_self] at e2
    have ei : (fun a => (stp nw (M.1 77) (M.1 78) (M.1 79) (M.1 76 6) a (rwX M 3)).isSome) = (fun a => (stp nw (M.1 77) (M.1 78) (M.1 79) (M.1 76 6) a (rwM M 0)).isSome) := funext fun a => stp_iso hS hq
    rw [ei] at e1
    have f1 : f_X11_stuck M = _ := (if_neg (by rw [ht]; exact h0)).trans e1
    have f2 : f_X12_stuck M = _ := (if_neg h0).trans e2
    by_cases hh : (List.range' 0 (nw + 1)).any (fun a => (stp nw (M.1 77) (M.1 78) (M.1 79) (M.1 76 6) a (rwM M 0)).isSome) = true
    · rw [if_pos hh] at f1 f2
      exact ⟨0, M, _, f1, f2, R_fr (stR_FR M 1 q' (by omega)) h⟩
    · rw [if_neg hh] at f1 f2
      exact ⟨1, M, _, f1, f2, R_fr (stR_FR M 1 q' (by omega)) h⟩
