/-! ===== the pure layer: the rule Near, whole ===== -/
def nwa (nw : Nat) (wy : Nat → Int32) (D : Nat → Nat) (p : Nat) : Nat := match (List.range nw).find? (fun v => tch wy p v && cW wy D p v) with
  | some v => v + 1
  | none => 0
def nac (np nw : Nat) (pl wy : Nat → Int32) (G : Nat → Nat → Nat) (r : k_r) : Nat := match nst pl (G (r 0).toNatClampNeg) (lsh r) np 0 none with
  | none => 0
  | some g => if g = (r 0).toNatClampNeg then 0 else nwa nw wy (G g) (r 0).toNatClampNeg
section
variable {np nw : Nat} {pl wy lw : Nat → Int32} {G : Nat → Nat → Nat}
theorem nac_cg {r q : k_r} (h : rEq np nw r q) : nac np nw pl wy G r = nac np nw pl wy G q := by
  have e : lsh r = lsh q := by
    unfold lsh
    have e2 := h.1 2 (by omega)
    have e3 := h.1 3 (by omega)
    have e4 := h.1 4 (by omega)
    rw [e2, e3, e4]
    by_cases hh : q 2 ≤ q 3
    · rw [if_pos hh, show r (2 + 0) = q (2 + 0) from e2]
    · rw [if_neg hh, show r (2 + 1) = q (2 + 1) from e3]
  unfold nac
  rw [e, h.1 0 (by omega)]
theorem nwa_ex (hF : WFl np nw pl wy) (hG : FW np nw wy np G) {p g : Nat} (hp : p < np) (hg : g < np) (hpg : g ≠ p) (hf : G g p < 10000) : ∃ v, v < nw ∧ (List.range nw).find? (fun v => tch wy p v && cW wy (G g) p v) = some v := by
  have np8 := hF.1
  obtain ⟨u, w, k1, k2, k3, k4, k5⟩ := FW_tight hF hG hg hp hpg hf
  obtain ⟨e, e1, e2, e3⟩ := k4
  obtain ⟨a, b, d, a1, a2, a3, a4, a5, a6, a7, a8, a9, a10⟩ := tch_c hF hp e1
  rw [a7, o_eq (by omega) (by omega)] at e2
  rw [a5, a6, o_eq (by omega) (by omega), o_eq (by omega) (by omega), o_eq (by omega) (by omega), o_eq (by omega) (by omega)] at e3
  have ho : oth wy p e = u := by
    rw [a10]
    split <;> omega
  have hc : (tch wy p e && cW wy (G g) p e) = true := by
    rw [Bool.and_eq_true]
    refine ⟨a9.mpr (by omega), decide_eq_true ?_⟩
    rw [a8, ho]
    omega
  have hs : ((List.range nw).find? (fun v => tch wy p v && cW wy (G g) p v)).isSome = true := List.find?_isSome.mpr ⟨e, List.mem_range.mpr e1, hc⟩
  cases hh : (List.range nw).find? (fun v => tch wy p v && cW wy (G g) p v) with
  | none =>
    rw [hh] at hs
    cases hs
  | some v => exact ⟨v, List.mem_range.mp (List.mem_of_find?_eq_some hh), rfl⟩
theorem nac_le (hF : WFl np nw pl wy) (r : k_r) : nac np nw pl wy G r ≤ nw := by
  unfold nac
  split
  · exact Nat.zero_le _
  · split
    · exact Nat.zero_le _
    · unfold nwa
      split
      · rename_i v hv
        have := List.mem_range.mp (List.mem_of_find?_eq_some hv)
        omega
      · exact Nat.zero_le _
theorem nearCX {N : k_M} (a0 : Nat) (hL : LX 3 N np nw pl wy) (hG : FW np nw wy np G) (hS : Sd np nw pl wy lw (rwX N 3)) : ∃ N', f_X5_choose a0 3 N = some (Int32.ofNat (nac np nw pl wy G (rwX N 3)), N') ∧ (∀ a j, a ≠ 17 → a ≠ 18 → N'.1 a j = N.1 a j) ∧ N'.2 = N.2 := by
  have hF := hS.1
  have np8 := hF.1
  have nw12 := hF.2.1
  obtain ⟨p, hp, hp0⟩ := hS.2.2.2
  have h34 : N.1 3 4 = Int32.ofNat p := hp0
  have ep : (rwX N 3 0).toNatClampNeg = p := by rw [hp0, o_nat (by omega)]
  obtain ⟨N1, g1, g2, g3, g4⟩ := measX (c := 3 + 14) hp (by omega) hL hF (TD_of hF hG hp)
  have hL1 : LX 3 N1 np nw pl wy := LX_fr (fun i j q1 q2 q3 q4 => g3 _ _ (by omega)) hL
  have nf := nearX (D := G p) hL1 hF (lsh_lt (rwX N 3)) (fun v hv => g2 v hv) (fun v => hG.2.1 p v) np k_fu 0 none (by omega) (by unfold k_fu; omega)
  have hok := nst_ok (pl := pl) (D := G p) (s := lsh (rwX N 3)) (np := np) np 0 none (by omega) (fun j hj => by cases hj)
  have n34 : N1.1 3 4 = Int32.ofNat p := by rw [g3 _ _ (by omega)]; exact h34
  have nf' : f_X3_nearestFor 3 (Int32.ofNat (lsh (rwX N 3))) (Int32.ofNat p) N = some (gid (nst pl (G p) (lsh (rwX N 3)) np 0 none), N1) := by
    unfold f_X3_nearestFor
    rw [g1, bd_s, bN_e]
    exact nf
  unfold f_X5_choose nac
  rw [leastX, bd_s, h34, nf', bd_s, n34, ep]
  cases hn : nst pl (G p) (lsh (rwX N 3)) np 0 none with
  | none =>
    refine ⟨N1, ?_, fun a j q1 q2 => g3 a j q1, g4⟩
    rw [if_pos (show gid none < 0 by decide)]
    rfl
  | some g =>
    obtain ⟨hg, hgf⟩ := hok g hn
    have eg : gid (some g) = Int32.ofNat g := rfl
    rw [eg, if_neg (Int32.not_lt.mpr (o_nn (by omega)))]
    by_cases hgp : g = p
    · refine ⟨N1, ?_, fun a j q1 q2 => g3 a j q1, g4⟩
      rw [if_pos (by rw [hgp])]
      simp only
      rw [if_pos hgp]
      rfl
    · obtain ⟨N2, k1, k2, k3, k4⟩ := measX (c := 3 + 15) hg (by omega) hL1 hF (TD_of hF hG hg)
      have hL2 : LX 3 N2 np nw pl wy := LX_fr (fun i j q1 q2 q3 q4 => k3 _ _ (by omega)) hL1
      have hwl : (wls nw wy p).length ≤ 4 := (hF.2.2.1 p hp).2.2.2
      have tw := towX (D := G g) hL2 hF hp (fun v hv => k2 v hv) (fun v => hG.2.1 g v) (fun l4_ M_ => f_X3_wayTowards_62 3 l4_ M_) (fun M_ => f_X3_wayTowards_71 3 M_) (wls nw wy p) k_fu 0 rfl (by omega) (by unfold k_fu; omega)
      have hgp' : G g p < 10000 := by rw [FW_sym hF hG hg hp]; exact hgf
      obtain ⟨v, hv, hfv⟩ := nwa_ex hF hG hp hg hgp hgp'
      have ef : (wls nw wy p).find? (cW wy (G g) p) = some v := by
        unfold wls
        rw [List.find?_filter, ← hfv]
        congr 1
        funext a
        show decide (tch wy p a = true ∧ cW wy (G g) p a = true) = (tch wy p a && cW wy (G g) p a)
        cases tch wy p a <;> cases cW wy (G g) p a <;> rfl
      rw [ef] at tw
      refine ⟨N2, ?_, fun a j q1 q2 => by rw [k3 a j q2, g3 a j q1], by rw [k4, g4]⟩
      rw [if_neg (by rw [o_eq (by omega) (by omega)]; exact hgp)]
      unfold f_X3_wayTowards
      rw [k1, bd_s, e0z, tw]
      unfold f_X3_wayTowards_62
      rw [bd_s, o_addl]
      simp only
      rw [if_neg hgp]
      unfold nwa
      rw [hfv]
theorem nearCM {N : k_M} (h0 : N.1 76 0 = Int32.ofNat np) (h2 : N.1 76 2 = Int32.ofNat nw) (hG : FW np nw (N.1 78) np G) (hS : Sd np nw (N.1 77) (N.1 78) lw (rwM N 0)) : ∃ N', f_X12_nearAct N = some (Int32.ofNat (nac np nw (N.1 77) (N.1 78) G (rwM N 0)), N') ∧ (∀ a j, a ≠ 94 → N'.1 a j = N.1 a j) ∧ N'.2 = N.2 := by
  have hF := hS.1
  have np8 := hF.1
  have nw12 := hF.2.1
  obtain ⟨p, hp, hp0⟩ := hS.2.2.2
  have h82 : N.1 82 0 = Int32.ofNat p := by rw [← hp0, rwM_e _ _ (by omega)]
  have ep : (rwM N 0 0).toNatClampNeg = p := by rw [hp0, o_nat (by omega)]
  obtain ⟨N', f1, f2, f3, f4⟩ := farsR (M := N) (N := N) h0 h2 hF hG (fun a ha => rfl)
  have fc : ∀ a, a ≠ 94 → N'.1 a = N.1 a := fun a q => funext fun j => f3 a j q
  have nf := nearM (N := N') (D := G p) (by rw [fc 76 (by omega)]; exact h0) (fc 77 (by omega)) hF (lsh_lt (rwM N 0)) hp (fun v hv => f2 p v hp hv) (fun v => hG.2.1 p v) (fun l2_ l3_ M_ => f_X12_nearAct_151 l2_ l3_ M_) np k_fu 0 none (by omega) (by unfold k_fu; omega) (fun j hj => by cases hj)
  have hok := nst_ok (pl := N.1 77) (D := G p) (s := lsh (rwM N 0)) (np := np) np 0 none (by omega) (fun j hj => by cases hj)
  refine ⟨N', ?_, f3, f4⟩
  unfold f_X12_nearAct nac
  rw [leastM]
  unfold f_X12_nearAct_40
  have e82 : N'.1 82 0 = Int32.ofNat p := by rw [f3 _ _ (by omega)]; exact h82
  have em : (-1 : Int32) = gid none := rfl
  rw [f1, bd_s, rdI_l (by omega) (by omega), e82, bN_e, em, e0z, nf, ep]
  unfold f_X12_nearAct_151
  cases hn : nst (N.1 77) (G p) (lsh (rwM N 0)) np 0 none with
  | none =>
    rw [if_pos (show gid none < 0 by decide)]
    rfl
  | some g =>
    obtain ⟨hg, hgf⟩ := hok g hn
    have eg : gid (some g) = Int32.ofNat g := rfl
    rw [eg, if_neg (Int32.not_lt.mpr (o_nn (by omega)))]
    by_cases hgp : g = p
    · rw [if_pos (by rw [hgp])]
      simp only
      rw [if_pos hgp]
      rfl
    · have hgp' : G g p < 10000 := by rw [FW_sym hF hG hg hp]; exact hgf
      obtain ⟨v, hv, hfv⟩ := nwa_ex hF hG hp hg hgp hgp'
      rw [List.range_eq_range'] at hfv
      have tm := towM (N := N') (D := G g) (g := g) (fc 78 (by omega)) hF hp hg (fun a ha => by rw [f2 a g ha hg, FW_sym hF hG ha hg]) (fun v => hG.2.1 g v) hgp' (fun l4_ M_ => f_X12_nearAct_182 l4_ M_) nw k_fu 0 (by omega) (by unfold k_fu; omega) hfv
      rw [if_neg (by rw [o_eq (by omega) (by omega)]; exact hgp), e0z, tm]
      unfold f_X12_nearAct_182
      rw [o_addl]
      simp only
      rw [if_neg hgp]
      unfold nwa
      rw [List.range_eq_range', hfv]
end
