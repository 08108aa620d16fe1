/-! ===== the pure layer: the reference's look ahead, node by node ===== -/
theorem pw1 (n : Nat) : 1 ≤ 30 ^ n := Nat.one_le_pow n 30 (by omega)
/-- the whole of a node costs at most so many turns -/
theorem cost (n m : Nat) (hm : m ≤ 13) : 1 + m * (1 + 30 ^ n) ≤ 30 ^ (n + 1) := by
  have h1 := pw1 n
  have h2 : m * (1 + 30 ^ n) ≤ 13 * (1 + 30 ^ n) := Nat.mul_le_mul_right _ hm
  rw [Nat.pow_succ]
  omega
theorem pw_le {a b : Nat} (h : a ≤ b) : 30 ^ a ≤ 30 ^ b := Nat.pow_le_pow_right (by omega) h
theorem i0z' : (0 : Int32) = 0 := Eq.refl _
theorem e0z : (0 : Int32) = Int32.ofNat 0 := Eq.refl _
theorem em1 : Int32.ofNat 0 - 1 = (-1 : Int32) := by decide
section
variable {M : k_M} {np nw : Nat}
/-- one turn: the next act of a node is tried -/
theorem turn {N : k_M} {d a n x : Nat} {rr : Nat → k_r} {tr : Nat → Nat} {P : List Nat} {b : Int32} {f : Nat} (hw : M.1 76 2 = Int32.ofNat nw) (h1n : 1 ≤ n) (hdn : d + n ≤ 6) (ha : a ≤ nw) (hD : DI M N d rr tr P) (hS : Sd np nw (M.1 77) (M.1 78) (M.1 79) (rr d)) (ht : N.1 87 d = Int32.ofNat a - 1) (hx : rr d 1 = Int32.ofNat x) (hx9 : x ≤ 999) (hb : -1 ≤ b) :
    (∃ N' b' P', DI M N' d rr tr P' ∧ N'.1 87 d = Int32.ofNat a ∧ gws ((List.range d).map tr) (chB nw (M.1 77) (M.1 78) (M.1 79) (M.1 76 6) (bwp nw (M.1 77) (M.1 78) (M.1 79) (M.1 76 6) (f + 1)) n (rr d)) (b, P) a = (b', P') ∧ ∀ k kx, f_X12_findBest_36 (k + 1) b (Int32.ofNat d) (Int32.ofNat (x + n)) N kx = f_X12_findBest_36 k b' (Int32.ofNat d) (Int32.ofNat (x + n)) N' kx) ∨
    (∃ N' r1 q dd, DI M N' (d + 1) (fun k => if k = d + 1 then q else rr k) (fun k => if k = d then a else tr k) P ∧ N'.1 87 (d + 1) = Int32.ofNat 0 - 1 ∧ 1 ≤ dd ∧ dd < n ∧ dN (M.1 78) a = dd ∧ stp nw (M.1 77) (M.1 78) (M.1 79) (M.1 76 6) a (rr d) = some r1 ∧ rEq np nw r1 q ∧ q 1 = Int32.ofNat (x + dd) ∧ ∀ k kx, f_X12_findBest_36 (k + 1) b (Int32.ofNat d) (Int32.ofNat (x + n)) N kx = f_X12_findBest_36 k b (Int32.ofNat (d + 1)) (Int32.ofNat (x + n)) N' kx) := by
  have nw12 := hS.1.2.1
  obtain ⟨dd, d1, d2, d3, d4⟩ := dN_c hS ha
  -- the memory behind tried[d]++
  have hD2 : DI M (sI N 87 d (Int32.ofNat a)) d rr tr P := DI_tr hD _ (Nat.le_refl _)
  have hc : ∀ (N1 : k_M), DI M N1 d rr tr P → ∀ c, c ≠ 76 ∧ c ≠ 82 ∧ c ≠ 87 ∧ c ≠ 88 → N1.1 c = M.1 c := fun N1 h c hc => funext fun j => h.1 c j (by unfold dsc; omega)
  have hc76 : ∀ (N1 : k_M), DI M N1 d rr tr P → ∀ j, j ≠ 26 → N1.1 76 j = M.1 76 j := fun N1 h j hj => h.1 76 j (by unfold dsc; omega)
  have er : rwM (sI N 87 d (Int32.ofNat a)) d = rr d := hD2.2.2.1 d (Nat.le_refl _)
  have hw2 : (sI N 87 d (Int32.ofNat a)).1 76 2 = Int32.ofNat nw := by rw [hc76 _ hD2 2 (by omega)]; exact hw
  obtain ⟨r', g1, g2⟩ := goesN (N := sI N 87 d (Int32.ofNat a)) (d := d) (np := np) (nw := nw) (act := a) (by omega) hw2 (by rw [hc _ hD2 77 (by omega), hc _ hD2 78 (by omega), hc _ hD2 79 (by omega), er]; exact hS) (by omega)
  rw [hc _ hD2 77 (by omega), hc _ hD2 78 (by omega), hc _ hD2 79 (by omega), hc76 _ hD2 6 (by omega), er] at g1 g2
  have ev : (sI N 87 d (Int32.ofNat a)).1 87 d = Int32.ofNat a := by rw [sI_g, if_pos (by omega)]
  -- the step's beginning
  have start : ∀ k kx, f_X12_findBest_36 (k + 1) b (Int32.ofNat d) (Int32.ofNat (x + n)) N kx = bd (some (if (stp nw (M.1 77) (M.1 78) (M.1 79) (M.1 76 6) a (rr d)).isSome = true then dys (M.1 78) a else 0, stR (sI N 87 d (Int32.ofNat a)) (d + 1) r')) (fun r5 M6 => if r5 = 0 then f_X12_findBest_36 k b (Int32.ofNat d) (Int32.ofNat (x + n)) M6 kx else rdI M6 82 1100 ((25 * (Int32.ofNat d + 1)) + 1) (fun v7 => if v7 ≤ Int32.ofNat (x + n) then rdI M6 82 1100 ((25 * (Int32.ofNat d + 1)) + 1) (fun v8 => if Int32.ofNat (x + n) ≤ v8 then bd (f_X12_worthAt (Int32.ofNat d + 1) M6) (fun r9 M10 => if r9 ≤ b then f_X12_findBest_36 k b (Int32.ofNat d) (Int32.ofNat (x + n)) M10 kx else bd (f_X12_worthAt (Int32.ofNat d + 1) M10) (fun r11 M12 => bN (sI M12 76 26 (Int32.ofNat d + 1)) (fun M13 => f_X12_findBest_165 k_fu r11 (Int32.ofNat d) (Int32.ofNat (x + n)) 0 M13 (fun l2_ l3_ l4_ M_ => f_X12_findBest_191 l2_ l3_ l4_ M_ ((fun l2_ l3_ l4_ M_ => f_X12_findBest_36 k l2_ l3_ l4_ M_ kx)) kx)))) else wrI M6 87 8 (Int32.ofNat d + 1) (-1) (fun M14 => f_X12_findBest_36 k b (Int32.ofNat d + 1) (Int32.ofNat (x + n)) M14 kx)) else f_X12_findBest_36 k b (Int32.ofNat d) (Int32.ofNat (x + n)) M6 kx)) := fun k kx => by
    rw [f_X12_findBest_36, if_neg (by exact Int32.not_lt.mpr (o_nn (by omega)))]
    simp (disch := omega) only [rdI_o, wrI_o, ht, Int32.sub_add_cancel, ev, hw2, o_le, ha, if_true, g1]
  have hD3 := DI_stR hD2 r'
  have ev3 : (stR (sI N 87 d (Int32.ofNat a)) (d + 1) r').1 87 d = Int32.ofNat a := by rw [stR_c _ _ _ (by omega)]; exact ev
  cases hs : stp nw (M.1 77) (M.1 78) (M.1 79) (M.1 76 6) a (rr d) with
  | none =>
    refine .inl ⟨_, b, P, hD3, ev3, ?_, fun k kx => ?_⟩
    · have e : (chB nw (M.1 77) (M.1 78) (M.1 79) (M.1 76 6) (bwp nw (M.1 77) (M.1 78) (M.1 79) (M.1 76 6) (f + 1)) n (rr d) a).1 = -1 := by
        unfold chB
        rw [hs]
        split <;> rfl
      unfold gws
      rw [e, if_pos hb]
    · rw [start, hs, Option.isSome_none, if_neg Bool.false_ne_true, bd_s, if_pos i0z']
  | some r1 =>
    have hr' := g2 r1 hs
    subst hr'
    obtain ⟨hS1, hday, -⟩ := stp_Sd hS hs
    have np8 := hS1.1.1
    rw [hx, d3, o_add] at hday
    have i1 : (25 : Int32) * (Int32.ofNat d + 1) + 1 = Int32.ofNat (25 * (d + 1) + 1) := by rw [o_addl, o_lmul, o_addl]
    have i2 : Int32.ofNat d + 1 = Int32.ofNat (d + 1) := o_addl d 1
    have e7 : (stR (sI N 87 d (Int32.ofNat a)) (d + 1) r').1 82 (25 * (d + 1) + 1) = Int32.ofNat (x + dd) := by rw [stR_in _ _ _ (by omega)]; exact hday
    have hdd0 : ¬ dd = 0 := by omega
    have start2 : ∀ k kx, f_X12_findBest_36 (k + 1) b (Int32.ofNat d) (Int32.ofNat (x + n)) N kx = if dd ≤ n then (if n ≤ dd then bd (f_X12_worthAt (Int32.ofNat (d + 1)) (stR (sI N 87 d (Int32.ofNat a)) (d + 1) r')) (fun r9 M10 => if r9 ≤ b then f_X12_findBest_36 k b (Int32.ofNat d) (Int32.ofNat (x + n)) M10 kx else bd (f_X12_worthAt (Int32.ofNat (d + 1)) M10) (fun r11 M12 => bN (sI M12 76 26 (Int32.ofNat (d + 1))) (fun M13 => f_X12_findBest_165 k_fu r11 (Int32.ofNat d) (Int32.ofNat (x + n)) 0 M13 (fun l2_ l3_ l4_ M_ => f_X12_findBest_36 k l2_ l3_ l4_ M_ kx)))) else f_X12_findBest_36 k b (Int32.ofNat (d + 1)) (Int32.ofNat (x + n)) (sI (stR (sI N 87 d (Int32.ofNat a)) (d + 1) r') 87 (d + 1) (-1)) kx) else f_X12_findBest_36 k b (Int32.ofNat d) (Int32.ofNat (x + n)) (stR (sI N 87 d (Int32.ofNat a)) (d + 1) r') kx := fun k kx => by
      rw [start, hs, Option.isSome_some, if_pos rfl, bd_s, d3, i1, i2]
      simp (disch := omega) only [o_eql, hdd0, if_false, rdI_o, e7, o_le, Nat.add_le_add_iff_left, wrI_o, f_X12_findBest_191]
    by_cases h1 : dd ≤ n
    · by_cases h2 : n ≤ dd
      · have hn : n = dd := by omega
        have ech : chB nw (M.1 77) (M.1 78) (M.1 79) (M.1 76 6) (bwp nw (M.1 77) (M.1 78) (M.1 79) (M.1 76 6) (f + 1)) n (rr d) a = (wth (M.1 79) r', []) := by
          unfold chB
          rw [d4, if_pos h1, hs]
          show bwp _ _ _ _ _ _ (n - dd) r' = _
          rw [hn, Nat.sub_self, bwp, if_pos rfl]
        have ew : ∀ N1 : k_M, N1.1 79 = M.1 79 → rwM N1 (d + 1) = rwM (stR (sI N 87 d (Int32.ofNat a)) (d + 1) r') (d + 1) → f_X12_worthAt (Int32.ofNat (d + 1)) N1 = some (wth (M.1 79) r', N1) := fun N1 q1 q2 => by
          rw [worthAt_e _ (by omega), q1, q2]
          unfold wth
          rw [rwM_e _ _ (by omega), rwM_e _ _ (by omega), rwM_e _ _ (by omega), stR_in _ _ _ (by omega), stR_in _ _ _ (by omega), stR_in _ _ _ (by omega)]
        have ew1 := ew (stR (sI N 87 d (Int32.ofNat a)) (d + 1) r') (hc _ hD3 79 (by omega)) rfl
        by_cases h3 : wth (M.1 79) r' ≤ b
        · refine .inl ⟨_, b, P, hD3, ev3, ?_, fun k kx => ?_⟩
          · unfold gws
            rw [ech, if_pos h3]
          · rw [start2, if_pos h1, if_pos h2, ew1, bd_s, if_pos h3]
        · obtain ⟨N', c1, c2, c3, c4⟩ := copyB (wth (M.1 79) r') (Int32.ofNat (x + n)) d (by omega) (d + 1) k_fu 0 (sI (stR (sI N 87 d (Int32.ofNat a)) (d + 1) r') 76 26 (Int32.ofNat (d + 1))) (sI (stR (sI N 87 d (Int32.ofNat a)) (d + 1) r') 76 26 (Int32.ofNat (d + 1))) (by omega) (by unfold k_fu; omega) (fun k hk => by omega) (fun _ _ _ => rfl) rfl
          have t87 : ∀ k, (sI (stR (sI N 87 d (Int32.ofNat a)) (d + 1) r') 76 26 (Int32.ofNat (d + 1))).1 87 k = (stR (sI N 87 d (Int32.ofNat a)) (d + 1) r').1 87 k := fun k => by rw [sI_g, if_neg (by omega)]
          refine .inl ⟨N', wth (M.1 79) r', (List.range d).map tr ++ [a], ?_, ?_, ?_, fun k kx => ?_⟩
          · obtain ⟨q1, q2, q3, q4, q5, q6, q7⟩ := hD3
            have hlen : ((List.range d).map tr ++ [a]).length = d + 1 := by rw [List.length_append, List.length_map, List.length_range]; rfl
            refine ⟨fun b j hs => ?_, c4.trans q2, fun k hk => ?_, fun k hk => ?_, ?_, by omega, fun i hi => ?_⟩
            · rw [c3 b j (by unfold dsc at hs; omega), sI_g, if_neg (by unfold dsc at hs; omega)]
              exact q1 b j hs
            · rw [← q3 k hk]
              funext i
              by_cases hi : i < 25
              · rw [rwM_e _ _ hi, rwM_e _ _ hi, c3 _ _ (by omega), sI_g, if_neg (by omega)]
              · unfold rwM
                rw [if_neg hi, if_neg hi]
            · rw [c3 _ _ (by omega), t87]
              exact q4 k hk
            · rw [c3 _ _ (by omega), sI_g, if_pos (by omega), hlen]
            · rw [hlen] at hi
              rw [c2 i (by omega), t87, List.getD_eq_getElem?_getD]
              by_cases hid : i < d
              · rw [List.getElem?_append_left (by rw [List.length_map, List.length_range]; exact hid), List.getElem?_map, List.getElem?_range hid]
                exact q4 i hid
              · have : i = d := by omega
                subst this
                rw [List.getElem?_append_right (by rw [List.length_map, List.length_range]; omega), List.length_map, List.length_range, Nat.sub_self]
                exact ev3
          · rw [c3 _ _ (by omega), t87]
            exact ev3
          · unfold gws
            rw [ech, if_neg h3]
          · rw [start2, if_pos h1, if_pos h2, ew1, bd_s, if_neg h3, ew1, bd_s]
            simp only [bN]
            rw [e0z, c1]
      · refine .inr ⟨sI (stR (sI N 87 d (Int32.ofNat a)) (d + 1) r') 87 (d + 1) (Int32.ofNat 0 - 1), r', rwM (stR (sI N 87 d (Int32.ofNat a)) (d + 1) r') (d + 1), dd, DI_in (DI_tr (e := d + 1) hD3 (Int32.ofNat 0 - 1) (by omega)) a ?_ ?_, ?_, d1, by omega, d4, rfl, ?_, ?_, fun k kx => ?_⟩
        · exact rwM_sI _ _ (by omega) _
        · rw [sI_g, if_neg (by omega)]; exact ev3
        · rw [sI_g, if_pos (by omega)]
        · have k25 : ∀ k, k < 25 → r' k = rwM (stR (sI N 87 d (Int32.ofNat a)) (d + 1) r') (d + 1) k := fun k hk => by rw [rwM_e _ _ hk, stR_in _ _ _ hk]
          exact ⟨fun k hk => k25 k (by omega), fun v hv => k25 _ (by omega)⟩
        · rw [rwM_e _ _ (by omega)]; exact e7
        · rw [start2, if_pos h1, if_neg h2, em1]
    · refine .inl ⟨_, b, P, hD3, ev3, ?_, fun k kx => ?_⟩
      · have e : (chB nw (M.1 77) (M.1 78) (M.1 79) (M.1 76 6) (bwp nw (M.1 77) (M.1 78) (M.1 79) (M.1 76 6) (f + 1)) n (rr d) a).1 = -1 := by
          unfold chB
          rw [d4, if_neg h1]
        unfold gws
        rw [e, if_pos hb]
      · rw [start2, if_neg h1]
/-- a node, from its act a on: what is the best behind it, and how long it takes -/
theorem node (hw : M.1 76 2 = Int32.ofNat nw) : ∀ (f n m a d x : Nat) (N : k_M) (rr : Nat → k_r) (tr : Nat → Nat) (P : List Nat) (b : Int32), n ≤ f + 1 → 1 ≤ n → a + m = nw + 1 → d + n ≤ 6 → DI M N d rr tr P → Sd np nw (M.1 77) (M.1 78) (M.1 79) (rr d) → N.1 87 d = Int32.ofNat a - 1 → rr d 1 = Int32.ofNat x → x ≤ 999 → -1 ≤ b →
    ∃ t N' b' P', t ≤ 1 + m * (1 + 30 ^ (n - 1)) ∧ (List.range' a m).foldl (gws ((List.range d).map tr) (chB nw (M.1 77) (M.1 78) (M.1 79) (M.1 76 6) (bwp nw (M.1 77) (M.1 78) (M.1 79) (M.1 76 6) (f + 1)) n (rr d))) (b, P) = (b', P') ∧ DI M N' d rr tr P' ∧ -1 ≤ b' ∧ ∀ k kx, f_X12_findBest_36 (k + t) b (Int32.ofNat d) (Int32.ofNat (x + n)) N kx = f_X12_findBest_36 k b' (Int32.ofNat d + -1) (Int32.ofNat (x + n)) N' kx := by
  intro f
  induction f with
  | zero => sorry
  | succ f IH => sorry
end
