/-! ===== the pure layer: what a rule chooses; next ===== -/
theorem and15 (x : Int32) : ∃ d, d ≤ 15 ∧ x &&& 15 = Int32.ofNat d := by
  refine ⟨(x.toBitVec &&& 15#32).toNat, ?_, ?_⟩
  · rw [BitVec.toNat_and]
    exact Nat.and_le_right
  · apply Int32.toBitVec_inj.mp
    rw [Int32.toBitVec_and]
    show _ = BitVec.ofNat 32 _
    rw [BitVec.ofNat_toNat, BitVec.setWidth_eq]
    rfl
def dgt (a v : Int32) : Int32 := (a >>> (((v - v / 4 * 4) * 4) &&& 31)) &&& 15
def cho (np nw : Nat) (pl wy lw : Nat → Int32) (rn : Int32) (G : Nat → Nat → Nat) (k a : Nat) (v : Int32) (r : k_r) : Int32 :=
  if k = 1 then 0 else if k = 2 then Int32.ofNat (nac np nw pl wy G r) else if k = 3 then dgt (Int32.ofNat a) v
  else if k = 4 then (match (bwp nw pl wy lw rn 9 (a % 7) r).2 with | [] => Int32.ofNat (nac np nw pl wy G r) | b :: _ => Int32.ofNat b)
  else if (stp nw pl wy lw rn (dgt (Int32.ofNat a) v).toNatClampNeg r).isSome = true then dgt (Int32.ofNat a) v else 0
section
variable {np nw : Nat} {pl wy lw : Nat → Int32} {rn : Int32} {G : Nat → Nat → Nat}
theorem cho_cg {k a : Nat} {v : Int32} {r q : k_r} (hS : Sd np nw pl wy lw r) (h : rEq np nw r q) : cho np nw pl wy lw rn G k a v r = cho np nw pl wy lw rn G k a v q := by
  unfold cho
  rw [nac_cg h, bwp_cg 9 (a % 7) r q hS h, stp_iso hS h]
theorem choX {N : k_M} {q i k a : Nat} {v : Int32} (hq : 105 ≤ q) (hqn : q < N.2.2.2) (h3 : N.1 q 3 = Int32.ofNat k) (hk1 : 1 ≤ k) (hk5 : k ≤ 5) (h2 : N.1 q 2 = Int32.ofNat a) (ha : a ≤ 65535) (h1 : N.1 q 1 = Int32.ofNat i) (hi : i < 4) (h22 : N.1 22 i = v) (hW : WX 3 N lw rn) (hL : LX 3 N np nw pl wy) (hG : FW np nw wy np G) (hS : Sd np nw pl wy lw (rwX N 3)) : ∃ N', vd_Rule_choose q 3 N = some (cho np nw pl wy lw rn G k a v (rwX N 3), N') ∧ (∀ a j, a ≠ 17 → a ≠ 18 → N'.1 a j = N.1 a j) ∧ N'.2 = N.2 := by
  have x4 : f_X4_choose q 3 N = some (dgt (Int32.ofNat a) v, N) := by
    unfold f_X4_choose
    rw [gRl_e hq hqn, h2, gRl_e hq hqn, h1, rdI_o (by omega) (by omega), h22]
    rfl
  have e7 : Int32.ofNat a - Int32.ofNat a / 7 * 7 = Int32.ofNat (a % 7) := o_rem (by omega) (by omega)
  unfold vd_Rule_choose
  rw [isRl_e hq hqn, h3]
  have hc : k = 1 ∨ k = 2 ∨ k = 3 ∨ k = 4 ∨ k = 5 := by omega
  rcases hc with rfl | rfl | rfl | rfl | rfl
  · rw [kt1, if_pos rfl]
    exact ⟨N, rfl, fun _ _ _ _ => rfl, rfl⟩
  · rw [kt2, if_neg (by omega), if_pos rfl]
    exact nearCX q hL hG hS
  · rw [kt3, if_neg (by omega), if_neg (by omega), if_pos rfl]
    exact ⟨N, x4, fun _ _ _ _ => rfl, rfl⟩
  · rw [kt4, if_neg (by omega), if_neg (by omega), if_neg (by omega), if_pos rfl]
    have fx := firstX (n := a % 7) hW hL hS (by omega)
    rw [← stX_self] at fx
    have e4 : cho np nw pl wy lw rn G 4 a v (rwX N 3) = (match (bwp nw pl wy lw rn 9 (a % 7) (rwX N 3)).2 with | [] => Int32.ofNat (nac np nw pl wy G (rwX N 3)) | b :: _ => Int32.ofNat b) := rfl
    unfold f_X1_choose
    rw [gRl_e hq hqn, h2, e7, fx, bd_s, e4]
    by_cases h7 : a % 7 = 0
    · have hn : (bwp nw pl wy lw rn 9 (a % 7) (rwX N 3)).2 = [] := by rw [h7]; exact bwp_0 8 _
      rw [hn, if_pos (show hdA [] = -1 from rfl), isRl_e hq hqn]
      obtain ⟨N', g1, g2, g3⟩ := nearCX q hL hG hS
      refine ⟨N', ?_, g2, g3⟩
      rw [g1, bd_s]
    · rcases bwp_or (nw := nw) (pl := pl) (wy := wy) (lw := lw) (rn := rn) (r := rwX N 3) (f := 8) h7 with hb | ⟨b, t, b1, b2, b3, -⟩
      · have hn : (bwp nw pl wy lw rn 9 (a % 7) (rwX N 3)).2 = [] := congrArg Prod.snd hb
        rw [hn, if_pos (show hdA [] = -1 from rfl), isRl_e hq hqn]
        obtain ⟨N', g1, g2, g3⟩ := nearCX q hL hG hS
        refine ⟨N', ?_, g2, g3⟩
        rw [g1, bd_s]
      · have hn : (bwp nw pl wy lw rn 9 (a % 7) (rwX N 3)).2 = b :: t := b2
        have nw12 := hS.1.2.1
        rw [hn, hdA_c, if_neg (fun hx => by
          have := o_nn (n := b) (by omega)
          rw [hx] at this
          exact absurd this (by decide))]
        exact ⟨N, rfl, fun _ _ _ _ => rfl, rfl⟩
  · rw [kt5, if_neg (by omega), if_neg (by omega), if_neg (by omega), if_neg (by omega)]
    obtain ⟨d, d15, hd⟩ := and15 (Int32.ofNat a >>> (((v - v / 4 * 4) * 4) &&& 31))
    have hd' : dgt (Int32.ofNat a) v = Int32.ofNat d := hd
    have cx := canX (act := d) hW hL hS (by omega)
    rw [← stX_self] at cx
    have e5 : cho np nw pl wy lw rn G 5 a v (rwX N 3) = if (stp nw pl wy lw rn d (rwX N 3)).isSome = true then Int32.ofNat d else 0 := by
      unfold cho
      rw [if_neg (by omega), if_neg (by omega), if_neg (by omega), if_neg (by omega), hd', o_nat (by omega)]
    refine ⟨N, ?_, fun _ _ _ _ => rfl, rfl⟩
    unfold f_X8_choose
    rw [isRl_e hq hqn, x4, bd_s, hd', cx, bd_s, e5]
    by_cases hs : (stp nw pl wy lw rn d (rwX N 3)).isSome = true
    · rw [if_pos hs, if_pos hs, if_neg (by decide)]
    · rw [if_neg hs, if_neg hs, if_pos rfl]
end
/-- what the reference's choice may write -/
def csc (a j : Nat) : Prop := a = 94 ∨ dsc a j
theorem choM {N : k_M} {np nw i k a : Nat} {v : Int32} {G : Nat → Nat → Nat} (h0 : N.1 76 0 = Int32.ofNat np) (hw : N.1 76 2 = Int32.ofNat nw) (hG : FW np nw (N.1 78) np G) (hS : Sd np nw (N.1 77) (N.1 78) (N.1 79) (rwM N 0)) (hi : i < 4) (h1 : N.1 81 (3 * i) = Int32.ofNat k) (hk1 : 1 ≤ k) (hk5 : k ≤ 5) (h2 : N.1 81 (3 * i + 1) = Int32.ofNat a) (ha : a ≤ 65535) (h3 : N.1 81 (3 * i + 2) = v) : ∃ N', f_X12_nextOf (Int32.ofNat i) N = some (cho np nw (N.1 77) (N.1 78) (N.1 79) (N.1 76 6) G k a v (rwM N 0), N') ∧ (∀ a j, ¬ csc a j → N'.1 a j = N.1 a j) ∧ FR N N' := by
  have e3 : (3 : Int32) * Int32.ofNat i = Int32.ofNat (3 * i) := o_lmul i 3
  have e7 : Int32.ofNat a - Int32.ofNat a / 7 * 7 = Int32.ofNat (a % 7) := o_rem (by omega) (by omega)
  have ed : (Int32.ofNat a >>> ((4 * (v - v / 4 * 4)) &&& 31)) &&& 15 = dgt (Int32.ofNat a) v := by
    unfold dgt
    rw [Int32.mul_comm 4]
  have tsw_k : ∀ (f : Nat → Option (Int32 × k_M)) (df : Option (Int32 × k_M)), tsw (Int32.ofNat k) 1 5 f df = f (k - 1) := fun f df => by
    unfold tsw
    rw [o_int (by omega), if_neg (by omega)]
    congr 1
    omega
  have near : ∃ N', f_X12_nearAct N = some (Int32.ofNat (nac np nw (N.1 77) (N.1 78) G (rwM N 0)), N') ∧ (∀ a j, ¬ csc a j → N'.1 a j = N.1 a j) ∧ FR N N' := by
    obtain ⟨N', g1, g2, g3⟩ := nearCM h0 hw hG hS
    exact ⟨N', g1, fun a j q => g2 a j (fun hh => q (.inl hh)), FR_94 g2 g3⟩
  unfold f_X12_nextOf
  rw [e3, rdI_o (by omega) (by omega), h1, o_addl, rdI_o (by omega) (by omega), h2, o_addl, rdI_o (by omega) (by omega), h3, bN_e, ed, tsw_k]
  have hc : k = 1 ∨ k = 2 ∨ k = 3 ∨ k = 4 ∨ k = 5 := by omega
  rcases hc with rfl | rfl | rfl | rfl | rfl
  · exact ⟨N, rfl, fun _ _ _ => rfl, FR_rfl N⟩
  · obtain ⟨N', g1, g2, g3⟩ := near
    refine ⟨N', ?_, g2, g3⟩
    rw [if_neg (by omega), if_pos (by omega), g1, bd_s]
    rfl
  · exact ⟨N, rfl, fun _ _ _ => rfl, FR_rfl N⟩
  · rw [if_neg (by omega), if_neg (by omega), if_neg (by omega), if_pos (by omega), bN_e, e7]
    have e4 : cho np nw (N.1 77) (N.1 78) (N.1 79) (N.1 76 6) G 4 a v (rwM N 0) = (match (bwp nw (N.1 77) (N.1 78) (N.1 79) (N.1 76 6) 9 (a % 7) (rwM N 0)).2 with | [] => Int32.ofNat (nac np nw (N.1 77) (N.1 78) G (rwM N 0)) | b :: _ => Int32.ofNat b) := rfl
    rw [e4]
    by_cases h7 : a % 7 = 0
    · have hn : (bwp nw (N.1 77) (N.1 78) (N.1 79) (N.1 76 6) 9 (a % 7) (rwM N 0)).2 = [] := by rw [h7]; exact bwp_0 8 _
      obtain ⟨N', g1, g2, g3⟩ := near
      refine ⟨N', ?_, g2, g3⟩
      rw [hn, if_pos (by rw [h7]; decide)]
      unfold f_X12_nextOf_140
      rw [g1, bd_s]
    · obtain ⟨N1, n1, n2, n3, n4, n5⟩ := findS (M := N) (N := N) (np := np) (nw := nw) (n := a % 7) (SM_rfl N) hw hS (by omega)
      have eb : bwp nw (N.1 77) (N.1 78) (N.1 79) (N.1 76 6) 9 (a % 7) (rwM N 0) = B9 N nw (a % 7) := B9_f hS (rEq_rfl _) (by omega) (by omega)
      rw [if_neg (by rw [o_lel (by omega) (by omega)]; omega), n1, bd_s, eb]
      rcases bwp_or (nw := nw) (pl := N.1 77) (wy := N.1 78) (lw := N.1 79) (rn := N.1 76 6) (r := rwM N 0) (f := 8) h7 with hb | ⟨b, t, b1, b2, b3, -⟩
      · have hb' : B9 N nw (a % 7) = (-1, []) := eb.symm.trans hb
        have r0 : rwM N1 0 = rwM N 0 := SM_row n2
        have c77 := SM_c n2 (a := 77) (by omega)
        have c78 := SM_c n2 (a := 78) (by omega)
        obtain ⟨N', g1, g2, g3⟩ := nearCM (N := N1) (lw := N.1 79) (np := np) (nw := nw) (G := G) (by rw [n2.1 76 0 (by unfold dsc; omega)]; exact h0) (by rw [n2.1 76 2 (by unfold dsc; omega)]; exact hw) (by rw [c78]; exact hG) (by rw [c77, c78, r0]; exact hS)
        rw [c77, c78, r0] at g1
        refine ⟨N', ?_, fun a j q => by rw [g2 a j (fun hh => q (.inl hh)), n2.1 a j (fun hh => q (.inr hh))], FR_tr n2.2 (FR_94 g2 g3)⟩
        rw [hb', if_pos (show ((-1 : Int32), ([] : List Nat)).1 < 0 by decide)]
        unfold f_X12_nextOf_140
        rw [g1, bd_s]
      · have b2' : (B9 N nw (a % 7)).2 = b :: t := by rw [← eb]; exact b2
        have b3' : 0 ≤ (B9 N nw (a % 7)).1 := by rw [← eb]; exact b3
        have h88 := n5 0 (by rw [b2', List.length_cons]; omega)
        rw [b2'] at h88
        refine ⟨N1, ?_, fun a j q => n2.1 a j (fun hh => q (.inr hh)), n2.2⟩
        rw [if_neg (Int32.not_lt.mpr b3'), rdI_l (by omega) (by omega), h88, b2']
        rfl
  · rw [if_neg (by omega), if_neg (by omega), if_neg (by omega), if_neg (by omega), if_pos (by omega)]
    obtain ⟨d, d15, hd⟩ := and15 (Int32.ofNat a >>> (((v - v / 4 * 4) * 4) &&& 31))
    have hd' : dgt (Int32.ofNat a) v = Int32.ofNat d := hd
    have nw12 := hS.1.2.1
    have e5 : cho np nw (N.1 77) (N.1 78) (N.1 79) (N.1 76 6) G 5 a v (rwM N 0) = if (stp nw (N.1 77) (N.1 78) (N.1 79) (N.1 76 6) d (rwM N 0)).isSome = true then Int32.ofNat d else 0 := by
      unfold cho
      rw [if_neg (by omega), if_neg (by omega), if_neg (by omega), if_neg (by omega), hd', o_nat (by omega)]
    rw [hd', e5]
    by_cases h12 : 12 < d
    · have hno : stp nw (N.1 77) (N.1 78) (N.1 79) (N.1 76 6) d (rwM N 0) = none := by
        cases d with
        | zero => exact absurd h12 (Nat.not_lt_zero _)
        | succ v =>
          rw [stp_s]
          unfold stG
          rw [if_neg (fun hx => by have := hx.1; omega)]
      refine ⟨N, ?_, fun _ _ _ => rfl, FR_rfl N⟩
      rw [if_pos (by rw [o_llt (by omega) (by omega)]; exact h12), hno]
      rfl
    · obtain ⟨r', g1, g2⟩ := goesM0 (act := d) hw hS (by omega)
      refine ⟨stR N 1 r', ?_, fun a j q => stR_o _ _ _ (fun hh => q (.inr (by unfold dsc; omega))), stR_FR N 1 r' (by omega)⟩
      rw [if_neg (by rw [o_llt (by omega) (by omega)]; exact h12), g1, bd_s]
      cases hs : stp nw (N.1 77) (N.1 78) (N.1 79) (N.1 76 6) d (rwM N 0) with
      | none => rfl
      | some r1 =>
        obtain ⟨e, d1, d2, d3⟩ := dys_c hS hs
        rw [Option.isSome_some, if_pos rfl, if_pos rfl, d3, if_neg (by rw [o_lel (by omega) (by omega)]; omega)]
