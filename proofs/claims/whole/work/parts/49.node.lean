/-! ===== the pure layer: the reference's look ahead, node by node ===== -/
theorem pw1 (n : Nat) : 1 ≤ 30 ^ n := Nat.one_le_pow n 30 (by omega)
/-- the whole of a node costs at most so many turns -/
theorem cost (n m : Nat) (hm : m ≤ 13) : 1 + m * (1 + 30 ^ n) ≤ 30 ^ (n + 1) := by
  have h1 := pw1 n
  have h2 : m * (1 + 30 ^ n) ≤ 13 * (1 + 30 ^ n) := Nat.mul_le_mul_right _ hm
  rw [Nat.pow_succ]
  omega
theorem pw_le {a b : Nat} (h : a ≤ b) : 30 ^ a ≤ 30 ^ b := Nat.pow_le_pow_right (by omega) h
theorem i0z' : (0 : Int32) = 0 := Eq.refl _
theorem e0z : (0 : Int32) = Int32.ofNat 0 := Eq.refl _
theorem em1 : Int32.ofNat 0 - 1 = (-1 : Int32) := by decide
section
variable {M : k_M} {np nw : Nat}
/-- one turn: the next act of a node is tried -/
theorem turn {N : k_M} {d a n x : Nat} {rr : Nat → k_r} {tr : Nat → Nat} {P : List Nat} {b : Int32} {f : Nat} (hw : M.1 76 2 = Int32.ofNat nw) (h1n : 1 ≤ n) (hdn : d + n ≤ 6) (ha : a ≤ nw) (hD : DI M N d rr tr P) (hS : Sd np nw (M.1 77) (M.1 78) (M.1 79) (rr d)) (ht : N.1 87 d = Int32.ofNat a - 1) (hx : rr d 1 = Int32.ofNat x) (hx9 : x ≤ 999) (hb : -1 ≤ b) :
    (∃ N' b' P', DI M N' d rr tr P' ∧ N'.1 87 d = Int32.ofNat a ∧ gws ((List.range d).map tr) (chB nw (M.1 77) (M.1 78) (M.1 79) (M.1 76 6) (bwp nw (M.1 77) (M.1 78) (M.1 79) (M.1 76 6) (f + 1)) n (rr d)) (b, P) a = (b', P') ∧ ∀ k kx, f_X12_findBest_36 (k + 1) b (Int32.ofNat d) (Int32.ofNat (x + n)) N kx = f_X12_findBest_36 k b' (Int32.ofNat d) (Int32.ofNat (x + n)) N' kx) ∨
    (∃ N' r1 q dd, DI M N' (d + 1) (fun k => if k = d + 1 then q else rr k) (fun k => if k = d then a else tr k) P ∧ N'.1 87 (d + 1) = Int32.ofNat 0 - 1 ∧ 1 ≤ dd ∧ dd < n ∧ dN (M.1 78) a = dd ∧ stp nw (M.1 77) (M.1 78) (M.1 79) (M.1 76 6) a (rr d) = some r1 ∧ rEq np nw r1 q ∧ q 1 = Int32.ofNat (x + dd) ∧ ∀ k kx, f_X12_findBest_36 (k + 1) b (Int32.ofNat d) (Int32.ofNat (x + n)) N kx = f_X12_findBest_36 k b (Int32.ofNat (d + 1)) (Int32.ofNat (x + n)) N' kx) := by
  have nw12 := hS.1.2.1
  obtain ⟨dd, d1, d2, d3, d4⟩ := dN_c hS ha
  -- the memory behind tried[d]++
  have hD2 : DI M (sI N 87 d (Int32.ofNat a)) d rr tr P := DI_tr hD _ (Nat.le_refl _)
  have hc : ∀ (N1 : k_M), DI M N1 d rr tr P → ∀ c, c ≠ 76 ∧ c ≠ 82 ∧ c ≠ 87 ∧ c ≠ 88 → N1.1 c = M.1 c := fun N1 h c hc => funext fun j => h.1 c j (by unfold dsc; omega)
  have hc76 : ∀ (N1 : k_M), DI M N1 d rr tr P → ∀ j, j ≠ 26 → N1.1 76 j = M.1 76 j := fun N1 h j hj => h.1 76 j (by unfold dsc; omega)
  have er : rwM (sI N 87 d (Int32.ofNat a)) d = rr d := hD2.2.2.1 d (Nat.le_refl _)
  have hw2 : (sI N 87 d (Int32.ofNat a)).1 76 2 = Int32.ofNat nw := by rw [hc76 _ hD2 2 (by omega)]; exact hw
  obtain ⟨r', g1, g2⟩ := goesN (N := sI N 87 d (Int32.ofNat a)) (d := d) (np := np) (nw := nw) (act := a) (by omega) hw2 (by rw [hc _ hD2 77 (by omega), hc _ hD2 78 (by omega), hc _ hD2 79 (by omega), er]; exact hS) (by omega)
  rw [hc _ hD2 77 (by omega), hc _ hD2 78 (by omega), hc _ hD2 79 (by omega), hc76 _ hD2 6 (by omega), er] at g1 g2
  have ev : (sI N 87 d (Int32.ofNat a)).1 87 d = Int32.ofNat a := by rw [sI_g, if_pos (by omega)]
  -- the step's beginning
  have start : ∀ k kx, f_X12_findBest_36 (k + 1) b (Int32.ofNat d) (Int32.ofNat (x + n)) N kx = bd (some (if (stp nw (M.1 77) (M.1 78) (M.1 79) (M.1 76 6) a (rr d)).isSome = true then dys (M.1 78) a else 0, stR (sI N 87 d (Int32.ofNat a)) (d + 1) r')) (fun r5 M6 => if r5 = 0 then f_X12_findBest_36 k b (Int32.ofNat d) (Int32.ofNat (x + n)) M6 kx else rdI M6 82 1100 ((25 * (Int32.ofNat d + 1)) + 1) (fun v7 => if v7 ≤ Int32.ofNat (x + n) then rdI M6 82 1100 ((25 * (Int32.ofNat d + 1)) + 1) (fun v8 => if Int32.ofNat (x + n) ≤ v8 then bd (f_X12_worthAt (Int32.ofNat d + 1) M6) (fun r9 M10 => if r9 ≤ b then f_X12_findBest_36 k b (Int32.ofNat d) (Int32.ofNat (x + n)) M10 kx else bd (f_X12_worthAt (Int32.ofNat d + 1) M10) (fun r11 M12 => bN (sI M12 76 26 (Int32.ofNat d + 1)) (fun M13 => f_X12_findBest_165 k_fu r11 (Int32.ofNat d) (Int32.ofNat (x + n)) 0 M13 (fun l2_ l3_ l4_ M_ => f_X12_findBest_191 l2_ l3_ l4_ M_ ((fun l2_ l3_ l4_ M_ => f_X12_findBest_36 k l2_ l3_ l4_ M_ kx)) kx)))) else wrI M6 87 8 (Int32.ofNat d + 1) (-1) (fun M14 => f_X12_findBest_36 k b (Int32.ofNat d + 1) (Int32.ofNat (x + n)) M14 kx)) else f_X12_findBest_36 k b (Int32.ofNat d) (Int32.ofNat (x + n)) M6 kx)) := fun k kx => by
    rw [f_X12_findBest_36, if_neg (by exact Int32.not_lt.mpr (o_nn (by omega)))]
    simp (disch := omega) only [rdI_o, wrI_o, ht, Int32.sub_add_cancel, ev, hw2, o_le, ha, if_true, g1]
  have hD3 := DI_stR hD2 r'
  have ev3 : (stR (sI N 87 d (Int32.ofNat a)) (d + 1) r').1 87 d = Int32.ofNat a := by rw [stR_c _ _ _ (by omega)]; exact ev
  cases hs : stp nw (M.1 77) (M.1 78) (M.1 79) (M.1 76 6) a (rr d) with
  | none =>
    refine .inl ⟨_, b, P, hD3, ev3, ?_, fun k kx => ?_⟩
    · have e : (chB nw (M.1 77) (M.1 78) (M.1 79) (M.1 76 6) (bwp nw (M.1 77) (M.1 78) (M.1 79) (M.1 76 6) (f + 1)) n (rr d) a).1 = -1 := by
        unfold chB
        rw [hs]
        split <;> rfl
      unfold gws
      rw [e, if_pos hb]
    · rw [start, hs, Option.isSome_none, if_neg Bool.false_ne_true, bd_s, if_pos i0z']
  | some r1 =>
    have hr' := g2 r1 hs
    subst hr'
    obtain ⟨hS1, hday, -⟩ := stp_Sd hS hs
    have np8 := hS1.1.1
    rw [hx, d3, o_add] at hday
    have i1 : (25 : Int32) * (Int32.ofNat d + 1) + 1 = Int32.ofNat (25 * (d + 1) + 1) := by rw [o_addl, o_lmul, o_addl]
    have i2 : Int32.ofNat d + 1 = Int32.ofNat (d + 1) := o_addl d 1
    have e7 : (stR (sI N 87 d (Int32.ofNat a)) (d + 1) r').1 82 (25 * (d + 1) + 1) = Int32.ofNat (x + dd) := by rw [stR_in _ _ _ (by omega)]; exact hday
    have hdd0 : ¬ dd = 0 := by omega
    have start2 : ∀ k kx, f_X12_findBest_36 (k + 1) b (Int32.ofNat d) (Int32.ofNat (x + n)) N kx = if dd ≤ n then (if n ≤ dd then bd (f_X12_worthAt (Int32.ofNat (d + 1)) (stR (sI N 87 d (Int32.ofNat a)) (d + 1) r')) (fun r9 M10 => if r9 ≤ b then f_X12_findBest_36 k b (Int32.ofNat d) (Int32.ofNat (x + n)) M10 kx else bd (f_X12_worthAt (Int32.ofNat (d + 1)) M10) (fun r11 M12 => bN (sI M12 76 26 (Int32.ofNat (d + 1))) (fun M13 => f_X12_findBest_165 k_fu r11 (Int32.ofNat d) (Int32.ofNat (x + n)) 0 M13 (fun l2_ l3_ l4_ M_ => f_X12_findBest_36 k l2_ l3_ l4_ M_ kx)))) else f_X12_findBest_36 k b (Int32.ofNat (d + 1)) (Int32.ofNat (x + n)) (sI (stR (sI N 87 d (Int32.ofNat a)) (d + 1) r') 87 (d + 1) (-1)) kx) else f_X12_findBest_36 k b (Int32.ofNat d) (Int32.ofNat (x + n)) (stR (sI N 87 d (Int32.ofNat a)) (d + 1) r') kx := fun k kx => by
      rw [start, hs, Option.isSome_some, if_pos rfl, bd_s, d3, i1, i2]
      simp (disch := omega) only [o_eql, hdd0, if_false, rdI_o, e7, o_le, Nat.add_le_add_iff_left, wrI_o, f_X12_findBest_191]
    by_cases h1 : dd ≤ n
    · by_cases h2 : n ≤ dd
      · have hn : n = dd := by omega
        have ech : chB nw (M.1 77) (M.1 78) (M.1 79) (M.1 76 6) (bwp nw (M.1 77) (M.1 78) (M.1 79) (M.1 76 6) (f + 1)) n (rr d) a = (wth (M.1 79) r', []) := by
          unfold chB
          rw [d4, if_pos h1, hs]
          show bwp _ _ _ _ _ _ (n - dd) r' = _
          rw [hn, Nat.sub_self, bwp, if_pos rfl]
        have ew : ∀ N1 : k_M, N1.1 79 = M.1 79 → rwM N1 (d + 1) = rwM (stR (sI N 87 d (Int32.ofNat a)) (d + 1) r') (d + 1) → f_X12_worthAt (Int32.ofNat (d + 1)) N1 = some (wth (M.1 79) r', N1) := fun N1 q1 q2 => by
          rw [worthAt_e _ (by omega), q1, q2]
          unfold wth
          rw [rwM_e _ _ (by omega), rwM_e _ _ (by omega), rwM_e _ _ (by omega), stR_in _ _ _ (by omega), stR_in _ _ _ (by omega), stR_in _ _ _ (by omega)]
        have ew1 := ew (stR (sI N 87 d (Int32.ofNat a)) (d + 1) r') (hc _ hD3 79 (by omega)) rfl
        by_cases h3 : wth (M.1 79) r' ≤ b
        · refine .inl ⟨_, b, P, hD3, ev3, ?_, fun k kx => ?_⟩
          · unfold gws
            rw [ech, if_pos h3]
          · rw [start2, if_pos h1, if_pos h2, ew1, bd_s, if_pos h3]
        · obtain ⟨N', c1, c2, c3, c4⟩ := copyB (wth (M.1 79) r') (Int32.ofNat (x + n)) d (by omega) (d + 1) k_fu 0 (sI (stR (sI N 87 d (Int32.ofNat a)) (d + 1) r') 76 26 (Int32.ofNat (d + 1))) (sI (stR (sI N 87 d (Int32.ofNat a)) (d + 1) r') 76 26 (Int32.ofNat (d + 1))) (by omega) (by unfold k_fu; omega) (fun k hk => by omega) (fun _ _ _ => rfl) rfl
          have t87 : ∀ k, (sI (stR (sI N 87 d (Int32.ofNat a)) (d + 1) r') 76 26 (Int32.ofNat (d + 1))).1 87 k = (stR (sI N 87 d (Int32.ofNat a)) (d + 1) r').1 87 k := fun k => by rw [sI_g, if_neg (by omega)]
          refine .inl ⟨N', wth (M.1 79) r', (List.range d).map tr ++ [a], ?_, ?_, ?_, fun k kx => ?_⟩
          · obtain ⟨q1, q2, q3, q4, q5, q6, q7⟩ := hD3
            have hlen : ((List.range d).map tr ++ [a]).length = d + 1 := by rw [List.length_append, List.length_map, List.length_range]; rfl
            refine ⟨fun b j hs => ?_, c4.trans q2, fun k hk => ?_, fun k hk => ?_, ?_, by omega, fun i hi => ?_⟩
            · rw [c3 b j (by unfold dsc at hs; omega), sI_g, if_neg (by unfold dsc at hs; omega)]
              exact q1 b j hs
            · rw [← q3 k hk]
              funext i
              by_cases hi : i < 25
              · rw [rwM_e _ _ hi, rwM_e _ _ hi, c3 _ _ (by omega), sI_g, if_neg (by omega)]
              · unfold rwM
                rw [if_neg hi, if_neg hi]
            · rw [c3 _ _ (by omega), t87]
              exact q4 k hk
            · rw [c3 _ _ (by omega), sI_g, if_pos (by omega), hlen]
            · rw [hlen] at hi
              rw [c2 i (by omega), t87, List.getD_eq_getElem?_getD]
              by_cases hid : i < d
              · rw [List.getElem?_append_left (by rw [List.length_map, List.length_range]; exact hid), List.getElem?_map, List.getElem?_range hid]
                exact q4 i hid
              · have : i = d := by omega
                subst this
                rw [List.getElem?_append_right (by rw [List.length_map, List.length_range]; omega), List.length_map, List.length_range, Nat.sub_self]
                exact ev3
          · rw [c3 _ _ (by omega), t87]
            exact ev3
          · unfold gws
            rw [ech, if_neg h3]
          · rw [start2, if_pos h1, if_pos h2, ew1, bd_s, if_neg h3, ew1, bd_s]
            simp only [bN]
            rw [e0z, c1]
      · refine .inr ⟨sI (stR (sI N 87 d (Int32.ofNat a)) (d + 1) r') 87 (d + 1) (Int32.ofNat 0 - 1), r', rwM (stR (sI N 87 d (Int32.ofNat a)) (d + 1) r') (d + 1), dd, DI_in (DI_tr (e := d + 1) hD3 (Int32.ofNat 0 - 1) (by omega)) a ?_ ?_, ?_, d1, by omega, d4, rfl, ?_, ?_, fun k kx => ?_⟩
        · exact rwM_sI _ _ (by omega) _
        · rw [sI_g, if_neg (by omega)]; exact ev3
        · rw [sI_g, if_pos (by omega)]
        · have k25 : ∀ k, k < 25 → r' k = rwM (stR (sI N 87 d (Int32.ofNat a)) (d + 1) r') (d + 1) k := fun k hk => by rw [rwM_e _ _ hk, stR_in _ _ _ hk]
          exact ⟨fun k hk => k25 k (by omega), fun v hv => k25 _ (by omega)⟩
        · rw [rwM_e _ _ (by omega)]; exact e7
        · rw [start2, if_pos h1, if_neg h2, em1]
    · refine .inl ⟨_, b, P, hD3, ev3, ?_, fun k kx => ?_⟩
      · have e : (chB nw (M.1 77) (M.1 78) (M.1 79) (M.1 76 6) (bwp nw (M.1 77) (M.1 78) (M.1 79) (M.1 76 6) (f + 1)) n (rr d) a).1 = -1 := by
          unfold chB
          rw [d4, if_neg h1]
        unfold gws
        rw [e, if_pos hb]
      · rw [start2, if_neg h1]
/-- what a node owes -/
def NodeP (M : k_M) (np nw f n m a : Nat) : Prop := ∀ (d x : Nat) (N : k_M) (rr : Nat → k_r) (tr : Nat → Nat) (P : List Nat) (b : Int32), d + n ≤ 6 → DI M N d rr tr P → Sd np nw (M.1 77) (M.1 78) (M.1 79) (rr d) → N.1 87 d = Int32.ofNat a - 1 → rr d 1 = Int32.ofNat x → x ≤ 999 → -1 ≤ b →
    ∃ t N' b' P', t ≤ 1 + m * (1 + 30 ^ (n - 1)) ∧ (List.range' a m).foldl (gws ((List.range d).map tr) (chB nw (M.1 77) (M.1 78) (M.1 79) (M.1 76 6) (bwp nw (M.1 77) (M.1 78) (M.1 79) (M.1 76 6) (f + 1)) n (rr d))) (b, P) = (b', P') ∧ DI M N' d rr tr P' ∧ -1 ≤ b' ∧ ∀ k kx, f_X12_findBest_36 (k + t) b (Int32.ofNat d) (Int32.ofNat (x + n)) N kx = f_X12_findBest_36 k b' (Int32.ofNat d + -1) (Int32.ofNat (x + n)) N' kx
theorem node_0 (hw : M.1 76 2 = Int32.ofNat nw) (f n : Nat) : NodeP M np nw f n 0 (nw + 1) := by
  intro d x N rr tr P b hdn hD hS ht hx hx9 hb
  have nw12 := hS.1.2.1
  have hD2 : DI M (sI N 87 d (Int32.ofNat (nw + 1))) d rr tr P := DI_tr hD _ (Nat.le_refl _)
  have ev : (sI N 87 d (Int32.ofNat (nw + 1))).1 87 d = Int32.ofNat (nw + 1) := by rw [sI_g, if_pos (by omega)]
  have hw2 : (sI N 87 d (Int32.ofNat (nw + 1))).1 76 2 = Int32.ofNat nw := by rw [hD2.1 76 2 (by unfold dsc; omega)]; exact hw
  have hn : ¬ nw + 1 ≤ nw := by omega
  refine ⟨1, _, b, P, by omega, by rw [List.range'_zero, List.foldl_nil], hD2, hb, fun k kx => ?_⟩
  rw [f_X12_findBest_36, if_neg (by exact Int32.not_lt.mpr (o_nn (by omega)))]
  simp (disch := omega) only [rdI_o, wrI_o, ht, Int32.sub_add_cancel, ev, hw2, o_le, hn, if_false]
theorem node_s (hw : M.1 76 2 = Int32.ofNat nw) {f n m a : Nat} (h1n : 1 ≤ n) (ham : a + (m + 1) = nw + 1) (hc : ∀ dd, 1 ≤ dd → dd < n → ∃ f', f = f' + 1 ∧ NodeP M np nw f' (n - dd) (nw + 1) 0) (ih : NodeP M np nw f n m (a + 1)) : NodeP M np nw f n (m + 1) a := by
  intro d x N rr tr P b hdn hD hS ht hx hx9 hb
  have nw12 := hS.1.2.1
  have hmul : (m + 1) * (1 + 30 ^ (n - 1)) = m * (1 + 30 ^ (n - 1)) + (1 + 30 ^ (n - 1)) := Nat.succ_mul _ _
  have e1 : Int32.ofNat (a + 1) - 1 = Int32.ofNat a := by rw [← o_addl, Int32.add_sub_cancel]
  have hp1 := pw1 (n - 1)
  rcases turn (f := f) (np := np) (b := b) hw h1n hdn (show a ≤ nw by omega) hD hS ht hx hx9 hb with ⟨N1, b1, P1, g1, g2, g3, g4⟩ | ⟨N1, r1, q, dd, g1, g2, g3, g4, g5, g6, g7, g8, g9⟩
  · have hb1 : -1 ≤ b1 := by
      have := gws_ge (pre := (List.range d).map tr) (c := chB nw (M.1 77) (M.1 78) (M.1 79) (M.1 76 6) (bwp nw (M.1 77) (M.1 78) (M.1 79) (M.1 76 6) (f + 1)) n (rr d)) (s := (b, P)) (a := a) hb
      rw [g3] at this
      exact this
    obtain ⟨t, N', b', P', k1, k2, k3, k4, k5⟩ := ih d x N1 rr tr P1 b1 hdn g1 hS (by rw [e1]; exact g2) hx hx9 hb1
    refine ⟨t + 1, N', b', P', by omega, ?_, k3, k4, fun k kx => ?_⟩
    · rw [List.range'_succ, List.foldl_cons, g3]
      exact k2
    · rw [← Nat.add_assoc, g4, k5]
  · obtain ⟨f', rfl, hch⟩ := hc dd g3 g4
    have hx' : x + dd ≤ 999 := by
      have := (Sd_cg g7 (stp_Sd hS g6).1).2.2.1.1
      obtain ⟨y, y1, y2⟩ := this
      rw [g8, o_eq (by omega) (by omega)] at y2
      omega
    have eq' : (if d + 1 = d + 1 then q else rr (d + 1)) = q := if_pos rfl
    obtain ⟨t1, N2, b2, P2, k1, k2, k3, k4, k5⟩ := hch (d + 1) (x + dd) N1 (fun k => if k = d + 1 then q else rr k) (fun k => if k = d then a else tr k) P b (by omega) g1 (by rw [eq']; exact Sd_cg g7 (stp_Sd hS g6).1) g2 (by rw [eq']; exact g8) hx' hb
    simp only [if_true] at k2
    have en : x + dd + (n - dd) = x + n := by omega
    rw [en] at k5
    obtain ⟨k6, k7⟩ := DI_out k3
    obtain ⟨t2, N', b', P', l1, l2, l3, l4, l5⟩ := ih d x N2 rr tr P2 b2 hdn k6 hS (by rw [e1]; exact k7) hx hx9 k4
    have hcost := cost (n - dd - 1) (nw + 1) (by omega)
    have hpw := pw_le (show n - dd - 1 + 1 ≤ n - 1 by omega)
    refine ⟨t2 + t1 + 1, N', b', P', by omega, ?_, l3, l4, fun k kx => ?_⟩
    · have eg : gws ((List.range d).map tr) (chB nw (M.1 77) (M.1 78) (M.1 79) (M.1 76 6) (bwp nw (M.1 77) (M.1 78) (M.1 79) (M.1 76 6) (f' + 1 + 1)) n (rr d)) (b, P) a = (b2, P2) := by
        rw [← k2, fold_gws _ _ _ hb, prf_s, ← List.range_eq_range']
        have hn0 : ¬ n - dd = 0 := by omega
        have hb9 := bwp_s (nw := nw) (pl := M.1 77) (wy := M.1 78) (lw := M.1 79) (rn := M.1 76 6) (f' + 1) (n - dd) q
        rw [if_neg hn0] at hb9
        rw [← hb9, ← bwp_cg _ _ _ _ (stp_Sd hS g6).1 g7]
        have ec : chB nw (M.1 77) (M.1 78) (M.1 79) (M.1 76 6) (bwp nw (M.1 77) (M.1 78) (M.1 79) (M.1 76 6) (f' + 1 + 1)) n (rr d) a = bwp nw (M.1 77) (M.1 78) (M.1 79) (M.1 76 6) (f' + 1 + 1) (n - dd) r1 := by
          unfold chB
          rw [g5, if_pos (by omega), g6]
        unfold gws cmb
        rw [ec, List.append_assoc, List.singleton_append]
      rw [List.range'_succ, List.foldl_cons, eg]
      exact l2
    · have e3 : k + (t2 + t1 + 1) = (k + t2 + t1) + 1 := by omega
      have e4 : Int32.ofNat (d + 1) + -1 = Int32.ofNat d := by
        rw [← o_addl, Int32.add_assoc]
        have : (1 : Int32) + -1 = 0 := by decide
        exact (congrArg (Int32.ofNat d + ·) this).trans (Int32.add_zero _)
      rw [e3, g9, k5, e4, l5]
theorem node (hw : M.1 76 2 = Int32.ofNat nw) (f : Nat) : ∀ (n : Nat), n ≤ f + 1 → 1 ≤ n → ∀ (m a : Nat), a + m = nw + 1 → NodeP M np nw f n m a := by
  induction f with
  | zero =>
    intro n h1 h2 m
    induction m with
    | zero => intro a ha; rw [show a = nw + 1 by omega]; exact node_0 hw _ _
    | succ m IHm => intro a ha; exact node_s hw h2 ha (fun dd q1 q2 => by omega) (IHm (a + 1) (by omega))
  | succ f IH =>
    intro n h1 h2 m
    induction m with
    | zero => intro a ha; rw [show a = nw + 1 by omega]; exact node_0 hw _ _
    | succ m IHm => intro a ha; exact node_s hw h2 ha (fun dd q1 q2 => ⟨f, rfl, IH (n - dd) (by omega) (by omega) (nw + 1) 0 (by omega)⟩) (IHm (a + 1) (by omega))
end
theorem pw6 : (30 : Nat) ^ 6 ≤ 729000000 := by simp
theorem pr_nil (z : Int32 × List Nat) : (z.1, (List.range 0).map (fun _ => 0) ++ z.2) = z := by
  cases z
  rfl
theorem fb_D (M : k_M) : DI M (sI (sI M 87 0 (-1)) 76 26 0) 0 (fun _ => rwM M 0) (fun _ => 0) [] := by
  refine ⟨fun a j hs => by rw [sI_g, sI_g, if_neg (by unfold dsc at hs; omega), if_neg (by unfold dsc at hs; omega)], rfl, fun k hk => ?_, fun k hk => by omega, ?_, Nat.zero_le _, fun i hi => absurd hi (Nat.not_lt_zero i)⟩
  · rw [rwM_sI _ _ (by omega), rwM_sI _ _ (by omega), show k = 0 by omega]
  · rw [sI_g, if_pos (by omega)]; rfl
theorem bN_e {α β : Type} (a : α) (k : α → β) : bN a k = k a := Eq.refl _
theorem fb_st (M : k_M) {n : Nat} {Mx : k_M} (hMx : Mx = sI (sI M 87 0 (-1)) 76 26 0) : f_X12_findBest (Int32.ofNat n) M = if Int32.ofNat n = 0 then bd (f_X12_worthAt 0 Mx) (fun r6 M7 => some (r6, M7)) else f_X12_findBest_36 k_fu (-1) 0 (M.1 82 1 + Int32.ofNat n) Mx (fun l2_ M_ => f_X12_findBest_194 l2_ M_) := by
  rw [hMx]
  unfold f_X12_findBest
  rw [bN_e, rdI_l (by omega) (by omega), bN_e, wrI_l (by omega) (by omega), bN_e]
/-- the reference's look ahead -/
theorem findB {M : k_M} {np nw n f : Nat} (hf : n ≤ f + 1) (hw : M.1 76 2 = Int32.ofNat nw) (hS : Sd np nw (M.1 77) (M.1 78) (M.1 79) (rwM M 0)) (hn : n ≤ 6) : ∃ N, f_X12_findBest (Int32.ofNat n) M = some ((bwp nw (M.1 77) (M.1 78) (M.1 79) (M.1 76 6) (f + 1 + 1) n (rwM M 0)).1, N) ∧ FR M N ∧ (∀ a j, ¬ dsc a j → N.1 a j = M.1 a j) ∧ N.1 76 26 = Int32.ofNat (bwp nw (M.1 77) (M.1 78) (M.1 79) (M.1 76 6) (f + 1 + 1) n (rwM M 0)).2.length ∧ (bwp nw (M.1 77) (M.1 78) (M.1 79) (M.1 76 6) (f + 1 + 1) n (rwM M 0)).2.length ≤ 7 ∧ ∀ i, i < (bwp nw (M.1 77) (M.1 78) (M.1 79) (M.1 76 6) (f + 1 + 1) n (rwM M 0)).2.length → N.1 88 i = Int32.ofNat ((bwp nw (M.1 77) (M.1 78) (M.1 79) (M.1 76 6) (f + 1 + 1) n (rwM M 0)).2.getD i 0) := by
  obtain ⟨x, hx9, hx⟩ := hS.2.2.1.1
  have hx1 : M.1 82 1 = Int32.ofNat x := by
    rw [← hx, rwM_e _ _ (by omega)]
  have hD := fb_D M
  obtain ⟨Mx, hMx⟩ : ∃ Mx, Mx = sI (sI M 87 0 (-1)) 76 26 0 := ⟨_, rfl⟩
  have h87 : (sI (sI M 87 0 (-1)) 76 26 0).1 87 0 = Int32.ofNat 0 - 1 := by rw [sI_g, if_neg (by omega), sI_g, if_pos (by omega), em1]
  rw [← hMx] at hD h87
  have e9 := bwp_s (nw := nw) (pl := M.1 77) (wy := M.1 78) (lw := M.1 79) (rn := M.1 76 6) (f + 1) n (rwM M 0)
  have st := fb_st M (n := n) (Mx := Mx) hMx
  by_cases h0 : n = 0
  · subst h0
    rw [if_pos rfl] at e9
    refine ⟨Mx, ?_, DI_FR hD, hD.1, ?_, ?_, ?_⟩
    · have ew := worthAt_e 0 (by omega) Mx
      have e79 : Mx.1 79 = M.1 79 := funext fun j => hD.1 79 j (by unfold dsc; omega)
      rw [e79, hD.2.2.1 0 (by omega)] at ew
      rw [st, if_pos (show Int32.ofNat 0 = 0 from Eq.refl _), e9, e0z, ew, bd_s]
    · rw [e9]; exact hD.2.2.2.2.1
    · rw [e9]; exact hD.2.2.2.2.2.1
    · rw [e9]; exact hD.2.2.2.2.2.2
  · rw [if_neg h0] at e9
    obtain ⟨t, N', b', P', k1, k2, k3, k4, k5⟩ := node (np := np) hw f n hf (by omega) (nw + 1) 0 (by omega) 0 x Mx (fun _ => rwM M 0) (fun _ => 0) [] (-1) (by omega) hD hS h87 hx hx9 (by decide)
    have nw12 := hS.1.2.1
    have hcost := cost (n - 1) (nw + 1) (by omega)
    have hpw := Nat.le_trans (pw_le (show n - 1 + 1 ≤ 6 by omega)) pw6
    rw [fold_gws _ _ _ (by decide), ← List.range_eq_range', ← e9] at k2
    have ge9 : -1 ≤ (bwp nw (M.1 77) (M.1 78) (M.1 79) (M.1 76 6) (f + 1 + 1) n (rwM M 0)).1 := by
      rw [e9]
      exact fold_mono _ (-1, [])
    have k2' : bwp nw (M.1 77) (M.1 78) (M.1 79) (M.1 76 6) (f + 1 + 1) n (rwM M 0) = (b', P') := by
      rw [← k2]
      unfold cmb
      by_cases hh : (bwp nw (M.1 77) (M.1 78) (M.1 79) (M.1 76 6) (f + 1 + 1) n (rwM M 0)).1 ≤ -1
      · rw [if_pos hh]
        rcases fold_src (c := chB nw (M.1 77) (M.1 78) (M.1 79) (M.1 76 6) (bwp nw (M.1 77) (M.1 78) (M.1 79) (M.1 76 6) (f + 1)) n (rwM M 0)) (List.range (nw + 1)) (-1, []) with h | ⟨a, h1, h2, h3⟩
        · rw [e9, h]
        · exfalso
          rw [e9, h3] at hh
          exact Int32.not_le.mpr h2 hh
      · rw [if_neg hh]
        exact (pr_nil _).symm
    have hr : f_X12_findBest (Int32.ofNat n) M = some (b', N') := by
      rw [st, if_neg (by rw [o_eql (by omega) (by omega)]; exact h0), hx1, o_add]
      have hk : k_fu = (k_fu - t - 1 + 1) + t := by unfold k_fu; omega
      rw [hk, e0z]
      have h5 := k5 (k_fu - t - 1 + 1) (fun l2_ M_ => f_X12_findBest_194 l2_ M_)
      rw [h5, f_X12_findBest_36, if_pos (by decide)]
      rfl
    refine ⟨N', ?_, DI_FR k3, k3.1, ?_, ?_, ?_⟩
    · rw [hr, k2']
    · rw [k2']; exact k3.2.2.2.2.1
    · rw [k2']; exact k3.2.2.2.2.2.1
    · rw [k2']; exact k3.2.2.2.2.2.2
