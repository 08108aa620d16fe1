/-! ===== the pure layer: whether a row of just n days is there ===== -/
theorem ows_mono {c : Nat → Int32 × List Nat} {s : Int32 × List Nat} {a : Nat} : s.1 ≤ (ows c s a).1 := by
  unfold ows
  by_cases hc : (c a).1 ≤ s.1
  · rw [if_pos hc]; exact Int32.le_refl _
  · rw [if_neg hc]
    exact Int32.le_of_lt (Int32.not_le.mp hc)
theorem fold_mono {c : Nat → Int32 × List Nat} : ∀ (l : List Nat) (s : Int32 × List Nat), s.1 ≤ (l.foldl (ows c) s).1
  | [], s => Int32.le_refl _
  | a :: l, s => by
    rw [List.foldl_cons]
    exact Int32.le_trans ows_mono (fold_mono l _)
/-- where the best of all comes from -/
theorem fold_src {c : Nat → Int32 × List Nat} : ∀ (l : List Nat) (s : Int32 × List Nat), l.foldl (ows c) s = s ∨ ∃ a, a ∈ l ∧ s.1 < (c a).1 ∧ l.foldl (ows c) s = ((c a).1, a :: (c a).2)
  | [], s => .inl rfl
  | a :: l, s => by
    rw [List.foldl_cons]
    by_cases hc : (c a).1 ≤ s.1
    · have e : ows c s a = s := if_pos hc
      rw [e]
      rcases fold_src l s with h | ⟨b, h1, h2, h3⟩
      · exact .inl h
      · exact .inr ⟨b, List.mem_cons_of_mem _ h1, h2, h3⟩
    · have e : ows c s a = ((c a).1, a :: (c a).2) := if_neg hc
      rw [e]
      have hlt := Int32.not_le.mp hc
      rcases fold_src l ((c a).1, a :: (c a).2) with h | ⟨b, h1, h2, h3⟩
      · exact .inr ⟨a, List.mem_cons_self, hlt, h⟩
      · exact .inr ⟨b, List.mem_cons_of_mem _ h1, Int32.lt_trans hlt h2, h3⟩
theorem fold_ge {c : Nat → Int32 × List Nat} : ∀ (l : List Nat) (s : Int32 × List Nat) (a : Nat), a ∈ l → (c a).1 ≤ (l.foldl (ows c) s).1
  | [], s, a, h => by cases h
  | b :: l, s, a, h => by
    rw [List.foldl_cons]
    rcases List.mem_cons.mp h with rfl | h
    · refine Int32.le_trans ?_ (fold_mono l _)
      unfold ows
      by_cases hc : (c a).1 ≤ s.1
      · rw [if_pos hc]; exact hc
      · rw [if_neg hc]; exact Int32.le_refl _
    · exact fold_ge l _ a h
section
variable {M : k_M} {w np nw p : Nat} {r : k_r} {lw pl wy : Nat → Int32} {rn : Int32}
theorem wth_Bn (hS : Sd np nw pl wy lw r) : Bn (wth lw r) 10000 := by
  obtain ⟨-, hW, hR, -⟩ := hS
  unfold wth
  refine Bn_mono (Bn_add (Bn_add (Bn_add (Bn_mul (hW 7 (by omega)) (hW 11 (by omega))) (Bn_mul (hR.2.1 0 (by omega)) (hW 8 (by omega)))) (Bn_mul (hR.2.1 1 (by omega)) (hW 9 (by omega)))) (Bn_mul (hR.2.1 2 (by omega)) (hW 10 (by omega)))) ?_
  decide
theorem Bn_nn {x : Int32} {n : Nat} (hn : n < 1000000) (h : Bn x n) : 0 ≤ x := by
  obtain ⟨k, h1, rfl⟩ := h
  exact o_nn (by omega)
/-- is there a row of just n days? -/
def lst (nw : Nat) (pl wy lw : Nat → Int32) (rn : Int32) : Nat → Nat → k_r → Bool
  | 0, _, _ => false
  | f + 1, n, r => n == 0 || (List.range (nw + 1)).any (fun a => decide (dN wy a ≤ n) && (match stp nw pl wy lw rn a r with | some r' => lst nw pl wy lw rn f (n - dN wy a) r' | none => false))
theorem lst_bw : ∀ (f n : Nat) (r : k_r), Sd np nw pl wy lw r → lst nw pl wy lw rn f n r = decide (0 ≤ (bwp nw pl wy lw rn f n r).1)
  | 0, n, r, _ => by
    rw [lst, bwp]
    decide
  | f + 1, n, r, hS => by
    rw [lst, bwp]
    by_cases h0 : n = 0
    · subst h0
      rw [if_pos rfl]
      have := Bn_nn (by omega) (wth_Bn hS)
      rw [decide_eq_true this]
      rfl
    · rw [if_neg h0]
      have e0 : (n == 0) = false := by rw [beq_eq_false_iff_ne]; exact h0
      rw [e0, Bool.false_or]
      cases hA : (List.range (nw + 1)).any (fun a => decide (dN wy a ≤ n) && (match stp nw pl wy lw rn a r with | some r' => lst nw pl wy lw rn f (n - dN wy a) r' | none => false)) with
      | true =>
        obtain ⟨a, ha, hb⟩ := List.any_eq_true.mp hA
        rw [Bool.and_eq_true, decide_eq_true_eq] at hb
        symm
        rw [decide_eq_true_eq]
        refine Int32.le_trans ?_ (fold_ge _ _ a ha)
        unfold chB
        rw [if_pos hb.1]
        cases hs : stp nw pl wy lw rn a r with
        | none => rw [hs] at hb; cases hb.2
        | some r' =>
          rw [hs] at hb
          have := hb.2
          simp only at this
          rw [lst_bw f _ r' (stp_Sd hS hs).1, decide_eq_true_eq] at this
          exact this
      | false =>
        symm
        rw [decide_eq_false_iff_not]
        intro hx
        rcases fold_src (c := chB nw pl wy lw rn (bwp nw pl wy lw rn f) n r) (List.range (nw + 1)) (-1, []) with h | ⟨a, h1, h2, h3⟩
        · rw [h] at hx; exact absurd hx (by decide)
        · rw [h3] at hx
          have hf := List.any_eq_false.mp hA a h1
          unfold chB at hx h2
          by_cases hd : dN wy a ≤ n
          · rw [if_pos hd] at hx h2
            cases hs : stp nw pl wy lw rn a r with
            | none => rw [hs] at hx; exact absurd (show (0 : Int32) ≤ -1 from hx) (by decide)
            | some r' =>
              rw [hs] at hx hf
              simp only at hx
              apply hf
              rw [Bool.and_eq_true, decide_eq_true_eq]
              refine ⟨hd, ?_⟩
              simp only
              rw [lst_bw f _ r' (stp_Sd hS hs).1, decide_eq_true_eq]
              exact hx
          · rw [if_neg hd] at hx; exact absurd (show (0 : Int32) ≤ -1 from hx) (by decide)
/-- a bit as a number -/
def b01 (b : Bool) : Int32 := if b = true then 1 else 0
theorem laLoop (hW : WX w M lw rn) (hL : LX w M np nw pl wy) (hS : Sd np nw pl wy lw r) (hA : At np nw pl wy r p) (g : Nat → Int32 → k_M → Option (Int32 × k_M)) (B : Nat → k_r → Bool) {n : Nat} (hn : n ≤ 100) (hg : ∀ n' r', n' < n → Sd np nw pl wy lw r' → g w (Int32.ofNat n') (stX M w r') = some (b01 (B n' r'), stX M w r')) (kx : Int32 → k_M → Option (Int32 × k_M)) : ∀ (l : List Nat) (k i : Nat) (s : Bool), (chs nw wy p).drop i = l → i ≤ (chs nw wy p).length → l.length < k → f_X0_lastsS_18 g w k (Int32.ofNat n) (b01 s) (Int32.ofNat (chs nw wy p).length) (Int32.ofNat i) (stX M w r) kx = kx (b01 (s || l.any (fun a => decide (dN wy a ≤ n) && (match stp nw pl wy lw rn a r with | some r' => B (n - dN wy a) r' | none => false)))) (stX M w r)
  | [], k, i, s, hl, hi, hk => by
    obtain ⟨k, rfl⟩ : ∃ q, k = q + 1 := ⟨k - 1, by omega⟩
    have hle : (chs nw wy p).length ≤ i := List.drop_eq_nil_iff.mp hl
    have h5 := chs_len hA
    rw [f_X0_lastsS_18, if_pos (by rw [o_le (by omega) (by omega)]; exact hle), List.any_nil, Bool.or_false]
  | a :: t, k, i, true, hl, hi, hk => by
    obtain ⟨k, rfl⟩ : ∃ q, k = q + 1 := ⟨k - 1, by omega⟩
    have h5 := chs_len hA
    obtain ⟨h1, h2, h3⟩ := drop_c hl
    rw [f_X0_lastsS_18, if_neg (by rw [o_le (by omega) (by omega)]; omega)]
    rfl
  | a :: t, k, i, false, hl, hi, hk => by
    obtain ⟨k, rfl⟩ : ∃ q, k = q + 1 := ⟨k - 1, by omega⟩
    have h5 := chs_len hA
    obtain ⟨h1, h2, h3⟩ := drop_c hl
    have ha : a ≤ nw := chs_mem (List.mem_of_mem_drop (i := i) (by rw [hl]; exact List.mem_cons_self))
    obtain ⟨d, d1, d2, d3, d4⟩ := dN_c hS ha
    have nw12 := hS.1.2.1
    rw [List.length_cons] at hk
    have ih := fun s => laLoop hW hL hS hA g B hn hg kx t k (i + 1) s h3 (by omega) (by omega)
    rw [f_X0_lastsS_18, if_neg (by rw [o_le (by omega) (by omega)]; omega), if_pos (show b01 false = 0 from rfl), choice_e hL hA h1, bd_s, h2, daysOf_e hL nw12 ha, bd_s, d3, List.any_cons, d4]
    unfold f_X0_lastsS_60 f_X0_lastsS_85
    rw [o_addl]
    by_cases hd : d ≤ n
    · rw [if_pos (by rw [o_le (by omega) (by omega)]; exact hd), decide_eq_true hd, Bool.true_and]
      rcases attX (act := a) hW hL hS (by omega) with ⟨g1, r', e1, e2, e3, e4⟩ | ⟨e1, e2⟩
      · rw [e1, e2, bd_s, if_neg e3, o_sub hd, hg _ _ (by omega) (stp_Sd hS e1).1, bd_s, e4, bd_s]
        exact ih (B (n - d) r')
      · rw [e1, e2, bd_s, if_pos rfl]
        exact ih false
    · rw [if_neg (by rw [o_le (by omega) (by omega)]; exact hd), if_pos rfl, decide_eq_false hd, Bool.false_and, Bool.false_or]
      exact ih false
theorem lastsX (hW : WX w M lw rn) (hL : LX w M np nw pl wy) : ∀ (f n : Nat) (r : k_r), n < f → n ≤ 100 → Sd np nw pl wy lw r → f_X0_lasts f w (Int32.ofNat n) (stX M w r) = some (b01 (lst nw pl wy lw rn f n r), stX M w r)
  | 0, n, r, h, _, _ => by omega
  | f + 1, n, r, h, hn, hS => by
    obtain ⟨p, hA⟩ := Sd_At hS
    have h5 := chs_len hA
    have hz : ∀ b, ckZ (b01 b) (some (b01 b, stX M w r)) = some (b01 b, stX M w r) := fun b => by cases b <;> rfl
    have any_eq : (chs nw wy p).any (fun a => decide (dN wy a ≤ n) && (match stp nw pl wy lw rn a r with | some r' => lst nw pl wy lw rn f (n - dN wy a) r' | none => false)) = (List.range (nw + 1)).any (fun a => decide (dN wy a ≤ n) && (match stp nw pl wy lw rn a r with | some r' => lst nw pl wy lw rn f (n - dN wy a) r' | none => false)) := by
      unfold chs
      rw [List.any_filter]
      congr 1
      funext a
      cases hP : atP wy p a with
      | true => rfl
      | false => rw [chs_no hA hP, Bool.and_false]; rfl
    have L := fun s => laLoop hW hL hS hA (f_X0_lasts f) (lst nw pl wy lw rn f) hn (fun n' r' hn' hS' => lastsX hW hL f n' r' (by omega) (by omega) hS') (fun l2_ M_ => f_X0_lastsS_91 (f_X0_lasts f) w l2_ M_) (chs nw wy p) k_fu 0 s rfl (by omega) (by unfold k_fu; omega)
    rw [f_X0_lasts, lst]
    unfold f_X0_lastsS f_X0_lastsS_9
    rw [choices_e hL hA, bd_s, bd_s]
    by_cases h0 : n = 0
    · subst h0
      rw [if_neg (by decide)]
      refine Eq.trans (L true) ?_
      rw [Bool.true_or]
      rfl
    · rw [if_pos (by rw [o_llt (by omega) (by omega)]; omega)]
      refine Eq.trans (L false) ?_
      have e0 : (n == 0) = false := by rw [beq_eq_false_iff_ne]; exact h0
      rw [any_eq, e0, Bool.false_or]
      exact hz _
theorem wth_cg {q : k_r} (h : rEq np nw r q) : wth lw r = wth lw q := by
  unfold wth
  rw [h.1 2 (by omega), h.1 3 (by omega), h.1 4 (by omega)]
theorem bwp_cg : ∀ (f n : Nat) (r q : k_r), Sd np nw pl wy lw r → rEq np nw r q → bwp nw pl wy lw rn f n r = bwp nw pl wy lw rn f n q
  | 0, n, r, q, _, _ => rfl
  | f + 1, n, r, q, hS, h => by
    rw [bwp, bwp, wth_cg h]
    have e : chB nw pl wy lw rn (bwp nw pl wy lw rn f) n r = chB nw pl wy lw rn (bwp nw pl wy lw rn f) n q := by
      funext a
      unfold chB
      by_cases hd : dN wy a ≤ n
      · rw [if_pos hd, if_pos hd]
        rcases stp_cg (rn := rn) hS h a with ⟨h1, h2⟩ | ⟨r', q', h1, h2, h3⟩
        · rw [h1, h2]
        · rw [h1, h2]
          exact bwp_cg f _ r' q' (stp_Sd hS h1).1 h3
      · rw [if_neg hd, if_neg hd]
    rw [e]
theorem ows_cg {c c' : Nat → Int32 × List Nat} {s : Int32 × List Nat} {a : Nat} (h : c a = c' a) : ows c s a = ows c' s a := by
  unfold ows
  rw [h]
theorem fold_cg {c c' : Nat → Int32 × List Nat} (l : List Nat) : ∀ (s : Int32 × List Nat), (∀ a, a ∈ l → c a = c' a) → l.foldl (ows c) s = l.foldl (ows c') s := by
  induction l with
  | nil => intro s h; rw [List.foldl_nil, List.foldl_nil]
  | cons a l ih =>
    intro s h
    rw [List.foldl_cons, List.foldl_cons, ows_cg (h a List.mem_cons_self)]
    exact ih _ (fun b hb => h b (List.mem_cons_of_mem _ hb))
theorem chB_cg (B B' : Nat → k_r → Int32 × List Nat) (hS : Sd np nw pl wy lw r) {n a : Nat} (ha : a ≤ nw) (hB : ∀ n' r', n' < n → Sd np nw pl wy lw r' → B n' r' = B' n' r') : chB nw pl wy lw rn B n r a = chB nw pl wy lw rn B' n r a := by
  obtain ⟨d, d1, d2, d3, d4⟩ := dN_c hS ha
  unfold chB
  rw [d4]
  by_cases hd : d ≤ n
  · rw [if_pos hd, if_pos hd]
    cases hs : stp nw pl wy lw rn a r with
    | none => rfl
    | some r' => exact hB _ r' (by omega) (stp_Sd hS hs).1
  · rw [if_neg hd, if_neg hd]
theorem bwp_s (f n : Nat) (r : k_r) : bwp nw pl wy lw rn (f + 1) n r = if n = 0 then (wth lw r, []) else (List.range (nw + 1)).foldl (ows (chB nw pl wy lw rn (bwp nw pl wy lw rn f) n r)) (-1, []) := by rw [bwp]
theorem bwp_fu (f : Nat) : ∀ (n : Nat) (r : k_r), n < f → Sd np nw pl wy lw r → bwp nw pl wy lw rn (f + 1) n r = bwp nw pl wy lw rn f n r := by
  induction f with
  | zero => intro n r h _; omega
  | succ f IH =>
    intro n r h hS
    rw [bwp_s (f + 1), bwp_s f]
    by_cases h0 : n = 0
    · rw [if_pos h0, if_pos h0]
    · rw [if_neg h0, if_neg h0]
      exact fold_cg _ _ (fun a ha => chB_cg _ _ hS (by have := List.mem_range.mp ha; omega) (fun n' r' h1 h2 => IH n' r' (by omega) h2))
theorem bwp_9 {n : Nat} : ∀ (f : Nat), n < f → f ≤ 9 → Sd np nw pl wy lw r → bwp nw pl wy lw rn f n r = bwp nw pl wy lw rn 9 n r := by
  intro f h1 h2 hS
  have g : ∀ k, bwp nw pl wy lw rn (f + k) n r = bwp nw pl wy lw rn f n r := by
    intro k
    induction k with
    | zero => rfl
    | succ k ih =>
      rw [← ih]
      exact bwp_fu (f + k) n r (by omega) hS
  have := g (9 - f)
  rw [show f + (9 - f) = 9 by omega] at this
  exact this.symm
end
