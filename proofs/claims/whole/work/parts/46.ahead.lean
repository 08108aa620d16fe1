/-! ===== the pure layer: looking ahead, as a function of a row; the class's side ===== -/
def wth (lw : Nat → Int32) (r : k_r) : Int32 := lw 7 * lw 11 + r 2 * lw 8 + r 3 * lw 9 + r 4 * lw 10
def dN (wy : Nat → Int32) (a : Nat) : Nat := (dys wy a).toNatClampNeg
/-- a better row takes the place of the best one -/
def ows (c : Nat → Int32 × List Nat) (s : Int32 × List Nat) (a : Nat) : Int32 × List Nat := if (c a).1 ≤ s.1 then s else ((c a).1, a :: (c a).2)
def chB (nw : Nat) (pl wy lw : Nat → Int32) (rn : Int32) (B : Nat → k_r → Int32 × List Nat) (n : Nat) (r : k_r) (a : Nat) : Int32 × List Nat := if dN wy a ≤ n then (match stp nw pl wy lw rn a r with | some r' => B (n - dN wy a) r' | none => (-1, [])) else (-1, [])
/-- the most worth behind just n days, and the first row that has it -/
def bwp (nw : Nat) (pl wy lw : Nat → Int32) (rn : Int32) : Nat → Nat → k_r → Int32 × List Nat
  | 0, _, _ => (-1, [])
  | f + 1, n, r => if n = 0 then (wth lw r, []) else (List.range (nw + 1)).foldl (ows (chB nw pl wy lw rn (bwp nw pl wy lw rn f) n r)) (-1, [])
theorem foldl_skip {α β : Type} {f : β → α → β} {P : α → Bool} {I : β → Prop} (hI : ∀ s a, I s → I (f s a)) (hno : ∀ s a, I s → P a = false → f s a = s) : ∀ (l : List α) (s : β), I s → (l.filter P).foldl f s = l.foldl f s
  | [], _, _ => rfl
  | a :: l, s, hs => by
    cases h : P a with
    | true =>
      rw [List.filter_cons_of_pos h, List.foldl_cons, List.foldl_cons]
      exact foldl_skip hI hno l _ (hI s a hs)
    | false =>
      rw [List.filter_cons_of_neg (by rw [h]; exact Bool.false_ne_true), List.foldl_cons, hno s a hs h]
      exact foldl_skip hI hno l s hs
theorem ows_ge {c : Nat → Int32 × List Nat} {s : Int32 × List Nat} {a : Nat} (h : -1 ≤ s.1) : -1 ≤ (ows c s a).1 := by
  unfold ows
  by_cases hc : (c a).1 ≤ s.1
  · rw [if_pos hc]; exact h
  · rw [if_neg hc]
    exact Int32.le_trans h (Int32.le_of_lt (Int32.not_le.mp hc))
section
variable {M : k_M} {w np nw p : Nat} {r : k_r} {lw pl wy : Nat → Int32} {rn : Int32}
theorem chB_no (B : Nat → k_r → Int32 × List Nat) (hA : At np nw pl wy r p) {n a : Nat} (h : atP wy p a = false) : chB nw pl wy lw rn B n r a = (-1, []) := by
  unfold chB
  rw [chs_no hA h]
  split <;> rfl
theorem fold_chs (B : Nat → k_r → Int32 × List Nat) (hA : At np nw pl wy r p) (n : Nat) : (chs nw wy p).foldl (ows (chB nw pl wy lw rn B n r)) (-1, []) = (List.range (nw + 1)).foldl (ows (chB nw pl wy lw rn B n r)) (-1, []) := by
  unfold chs
  refine foldl_skip (I := fun s => -1 ≤ s.1) (fun s a h => ows_ge h) (fun s a h hP => ?_) _ _ (by decide)
  unfold ows
  rw [chB_no B hA hP, if_pos h]
theorem worth_e (hW : WX w M lw rn) : f_X10_worth w (stX M w r) = some (wth lw r, stX M w r) := by
  have hl : ∀ i, i < 13 → (stX M w r).1 (w + 16) i = lw i := fun i hi => by rw [stX_c (by omega)]; exact hW.1 i hi
  unfold f_X10_worth wth
  simp (disch := omega) only [rdI_l, hl, stX_s]
  congr 2
  rw [Int32.add_comm, Int32.add_assoc, Int32.add_assoc, Int32.add_assoc]
theorem dN_c (hS : Sd np nw pl wy lw r) {a : Nat} (ha : a ≤ nw) : ∃ d : Nat, 1 ≤ d ∧ d ≤ 4 ∧ dys wy a = Int32.ofNat d ∧ dN wy a = d := by
  unfold dN
  cases a with
  | zero => exact ⟨1, by omega, by omega, rfl, rfl⟩
  | succ v =>
    obtain ⟨a, b, d, a1, a2, a3, a4, a5, a6, a7, a8⟩ := hS.1.2.2.2 v (by omega)
    have e : dys wy (v + 1) = Int32.ofNat d := a7
    refine ⟨d, a3, a4, e, ?_⟩
    rw [e, o_nat (by omega)]
theorem behindX (hW : WX w M lw rn) (hL : LX w M np nw pl wy) (hS : Sd np nw pl wy lw r) (g : Nat → Int32 → k_M → Option (Int32 × k_M)) (B : Nat → k_r → Int32 × List Nat) {n a : Nat} (hn : n ≤ 100) (ha : a ≤ nw) (hg : ∀ n' r', n' < n → Sd np nw pl wy lw r' → g w (Int32.ofNat n') (stX M w r') = some ((B n' r').1, stX M w r')) : f_X0_worthBehind g w (Int32.ofNat a) (Int32.ofNat n) (stX M w r) = some ((chB nw pl wy lw rn B n r a).1, stX M w r) := by
  obtain ⟨d, d1, d2, d3, d4⟩ := dN_c hS ha
  have nw12 := hS.1.2.1
  unfold f_X0_worthBehind chB
  rw [daysOf_e hL nw12 ha, bd_s, d4, d3]
  by_cases hd : d ≤ n
  · rw [if_pos (by rw [o_le (by omega) (by omega)]; exact hd), if_pos hd]
    rcases attX (act := a) hW hL hS (by omega) with ⟨g1, r', h1, h2, h3, h4⟩ | ⟨h1, h2⟩
    · rw [h1, h2, bd_s, if_neg h3, o_sub hd, hg _ _ (by omega) (stp_Sd hS h1).1, bd_s, h4]
      rfl
    · rw [h1, h2, bd_s, if_pos rfl]
  · rw [if_neg (by rw [o_le (by omega) (by omega)]; exact hd), if_neg hd]
theorem mwLoop (hW : WX w M lw rn) (hL : LX w M np nw pl wy) (hS : Sd np nw pl wy lw r) (hA : At np nw pl wy r p) (g : Nat → Int32 → k_M → Option (Int32 × k_M)) (B : Nat → k_r → Int32 × List Nat) {n : Nat} (hn : n ≤ 100) (hg : ∀ n' r', n' < n → Sd np nw pl wy lw r' → g w (Int32.ofNat n') (stX M w r') = some ((B n' r').1, stX M w r')) (kx : Int32 → k_M → Option (Int32 × k_M)) : ∀ (l : List Nat) (k i : Nat) (s : Int32 × List Nat), (chs nw wy p).drop i = l → i ≤ (chs nw wy p).length → l.length < k → f_X0_mostWorthS_19 g w k (Int32.ofNat n) s.1 (Int32.ofNat (chs nw wy p).length) (Int32.ofNat i) (stX M w r) kx = kx (l.foldl (ows (chB nw pl wy lw rn B n r)) s).1 (stX M w r)
  | [], k, i, s, hl, hi, hk => by
    obtain ⟨k, rfl⟩ : ∃ q, k = q + 1 := ⟨k - 1, by omega⟩
    have hle : (chs nw wy p).length ≤ i := List.drop_eq_nil_iff.mp hl
    have h5 := chs_len hA
    rw [f_X0_mostWorthS_19, if_pos (by rw [o_le (by omega) (by omega)]; exact hle)]
    rfl
  | a :: t, k, i, s, hl, hi, hk => by
    obtain ⟨k, rfl⟩ : ∃ q, k = q + 1 := ⟨k - 1, by omega⟩
    have h5 := chs_len hA
    obtain ⟨h1, h2, h3⟩ := drop_c hl
    have ha : a ≤ nw := chs_mem (List.mem_of_mem_drop (i := i) (by rw [hl]; exact List.mem_cons_self))
    rw [List.length_cons] at hk
    rw [f_X0_mostWorthS_19, if_neg (by rw [o_le (by omega) (by omega)]; omega), choice_e hL hA h1, bd_s, h2, behindX hW hL hS g B hn ha hg, bd_s, List.foldl_cons]
    have ih := fun s => mwLoop hW hL hS hA g B hn hg kx t k (i + 1) s h3 (by omega) (by omega)
    unfold f_X0_mostWorthS_47
    rw [o_addl]
    by_cases hc : (chB nw pl wy lw rn B n r a).1 ≤ s.1
    · have e : ows (chB nw pl wy lw rn B n r) s a = s := if_pos hc
      rw [if_pos hc, e]
      exact ih s
    · have e : ows (chB nw pl wy lw rn B n r) s a = ((chB nw pl wy lw rn B n r a).1, a :: (chB nw pl wy lw rn B n r a).2) := if_neg hc
      rw [if_neg hc, e]
      exact ih ((chB nw pl wy lw rn B n r a).1, a :: (chB nw pl wy lw rn B n r a).2)
theorem mostX (hW : WX w M lw rn) (hL : LX w M np nw pl wy) : ∀ (f n : Nat) (r : k_r), n < f → n ≤ 100 → Sd np nw pl wy lw r → f_X0_mostWorth f w (Int32.ofNat n) (stX M w r) = some ((bwp nw pl wy lw rn f n r).1, stX M w r)
  | 0, n, r, h, _, _ => by omega
  | f + 1, n, r, h, hn, hS => by
    obtain ⟨p, hA⟩ := Sd_At hS
    have h5 := chs_len hA
    rw [f_X0_mostWorth, bwp]
    unfold f_X0_mostWorthS
    by_cases h0 : n = 0
    · subst h0
      rw [if_neg (by decide), if_pos rfl, worth_e hW]
      rfl
    · rw [if_pos (by rw [o_llt (by omega) (by omega)]; omega), if_neg h0]
      simp only [bN]
      rw [choices_e hL hA, bd_s]
      have := mwLoop hW hL hS hA (f_X0_mostWorth f) (bwp nw pl wy lw rn f) hn (fun n' r' hn' hS' => mostX hW hL f n' r' (by omega) (by omega) hS') (fun l2_ M_ => f_X0_mostWorthS_53 (f_X0_mostWorth f) w l2_ M_) (chs nw wy p) k_fu 0 (-1, []) rfl (by omega) (by unfold k_fu; omega)
      rw [fold_chs _ hA] at this
      exact this
/-- the first act of a row -/
def hdA (l : List Nat) : Int32 := match l with
  | [] => -1
  | a :: _ => Int32.ofNat a
theorem faLoop (hW : WX w M lw rn) (hL : LX w M np nw pl wy) (hS : Sd np nw pl wy lw r) (hA : At np nw pl wy r p) {n : Nat} (hn : n ≤ 8) (kx : Int32 → k_M → Option (Int32 × k_M)) : ∀ (l : List Nat) (k i : Nat) (s : Int32 × List Nat), (chs nw wy p).drop i = l → i ≤ (chs nw wy p).length → l.length < k → f_X0_firstAct_19 w k (Int32.ofNat n) (hdA s.2) s.1 (Int32.ofNat (chs nw wy p).length) (Int32.ofNat i) (stX M w r) kx = kx (hdA (l.foldl (ows (chB nw pl wy lw rn (bwp nw pl wy lw rn 8) n r)) s).2) (stX M w r)
  | [], k, i, s, hl, hi, hk => by
    obtain ⟨k, rfl⟩ : ∃ q, k = q + 1 := ⟨k - 1, by omega⟩
    have hle : (chs nw wy p).length ≤ i := List.drop_eq_nil_iff.mp hl
    have h5 := chs_len hA
    rw [f_X0_firstAct_19, if_pos (by rw [o_le (by omega) (by omega)]; exact hle)]
    rfl
  | a :: t, k, i, s, hl, hi, hk => by
    obtain ⟨k, rfl⟩ : ∃ q, k = q + 1 := ⟨k - 1, by omega⟩
    have h5 := chs_len hA
    obtain ⟨h1, h2, h3⟩ := drop_c hl
    have ha : a ≤ nw := chs_mem (List.mem_of_mem_drop (i := i) (by rw [hl]; exact List.mem_cons_self))
    rw [List.length_cons] at hk
    rw [f_X0_firstAct_19, if_neg (by rw [o_le (by omega) (by omega)]; omega), choice_e hL hA h1, bd_s, h2, behindX hW hL hS _ (bwp nw pl wy lw rn 8) (by omega) ha (fun n' r' hn' hS' => mostX hW hL 8 n' r' (by omega) (by omega) hS'), bd_s, List.foldl_cons]
    have ih := fun s => faLoop hW hL hS hA hn kx t k (i + 1) s h3 (by omega) (by omega)
    unfold f_X0_firstAct_55
    rw [o_addl]
    by_cases hc : (chB nw pl wy lw rn (bwp nw pl wy lw rn 8) n r a).1 ≤ s.1
    · have e : ows (chB nw pl wy lw rn (bwp nw pl wy lw rn 8) n r) s a = s := if_pos hc
      rw [if_pos hc, e]
      exact ih s
    · have e : ows (chB nw pl wy lw rn (bwp nw pl wy lw rn 8) n r) s a = ((chB nw pl wy lw rn (bwp nw pl wy lw rn 8) n r a).1, a :: (chB nw pl wy lw rn (bwp nw pl wy lw rn 8) n r a).2) := if_neg hc
      rw [if_neg hc, e]
      exact ih ((chB nw pl wy lw rn (bwp nw pl wy lw rn 8) n r a).1, a :: (chB nw pl wy lw rn (bwp nw pl wy lw rn 8) n r a).2)
theorem firstX (hW : WX w M lw rn) (hL : LX w M np nw pl wy) (hS : Sd np nw pl wy lw r) {n : Nat} (hn : n ≤ 8) : f_X0_firstAct w (Int32.ofNat n) (stX M w r) = some (hdA (bwp nw pl wy lw rn 9 n r).2, stX M w r) := by
  obtain ⟨p, hA⟩ := Sd_At hS
  have h5 := chs_len hA
  rw [bwp]
  unfold f_X0_firstAct
  simp only [bN]
  by_cases h0 : n = 0
  · subst h0
    rw [if_neg (by decide), if_pos rfl]
    rfl
  · rw [if_pos (by rw [o_llt (by omega) (by omega)]; omega), if_neg h0, choices_e hL hA, bd_s]
    have := faLoop hW hL hS hA hn (fun l2_ M_ => f_X0_firstAct_61 w l2_ M_) (chs nw wy p) k_fu 0 (-1, []) rfl (by omega) (by unfold k_fu; omega)
    rw [fold_chs _ hA] at this
    exact this
end
