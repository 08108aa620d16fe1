/-! ===== the pure layer: surest, the class ===== -/
/-- a day's standing, wet or dry -/
def sdy (pl lw : Nat → Int32) (S : Nat → k_r → Nat) (n : Nat) (r : k_r) (wt : Int32) : Nat := match stS pl lw wt r with
  | none => 0
  | some r' => S (n - 1) r'
/-- standing -/
def sst (pl lw : Nat → Int32) (S : Nat → k_r → Nat) (n : Nat) (r : k_r) : Nat := if pl (3 * (r 0).toNatClampNeg) = 3 then (lw 12).toNatClampNeg * sdy pl lw S n r 1 + (4 - (lw 12).toNatClampNeg) * sdy pl lw S n r 0 else 4 * sdy pl lw S n r 0
/-- a way -/
def swy (nw : Nat) (wy lw : Nat → Int32) (S : Nat → k_r → Nat) (n : Nat) (r : k_r) (v : Nat) : Nat := match stG nw wy lw v r with
  | none => 0
  | some r' => if dN wy (v + 1) < n then 4 ^ dN wy (v + 1) * S (n - dN wy (v + 1)) r' else 4 ^ n
def sur (nw : Nat) (pl wy lw : Nat → Int32) : Nat → Nat → k_r → Nat
  | 0, _, _ => 0
  | f + 1, n, r => if n = 0 then 1 else (List.range nw).foldl (fun s v => Nat.max s (swy nw wy lw (sur nw pl wy lw f) n r v)) (sst pl lw (sur nw pl wy lw f) n r)
theorem fold_mx_le {α : Type} (c : α → Nat) (b : Nat) (h : ∀ a, c a ≤ b) : ∀ (l : List α) (s : Nat), s ≤ b → l.foldl (fun s v => Nat.max s (c v)) s ≤ b
  | [], s, hs => hs
  | a :: l, s, hs => by
    rw [List.foldl_cons]
    exact fold_mx_le c b h l _ (Nat.max_le.mpr ⟨hs, h a⟩)
theorem fold_mx_top {α : Type} (c : α → Nat) (b : Nat) (h : ∀ a, c a ≤ b) : ∀ (l : List α), l.foldl (fun s v => Nat.max s (c v)) b = b
  | [] => rfl
  | a :: l => by
    rw [List.foldl_cons, show Nat.max b (c a) = b from Nat.max_eq_left (h a)]
    exact fold_mx_top c b h l
section
variable {M : k_M} {w np nw p : Nat} {r : k_r} {lw pl wy : Nat → Int32} {rn : Int32} {S : Nat → k_r → Nat}
theorem sdy_le (hS : Sd np nw pl wy lw r) {n : Nat} (hn : 1 ≤ n) (h : ∀ n' r', n' < n → Sd np nw pl wy lw r' → S n' r' ≤ 4 ^ n') (wt : Int32) : sdy pl lw S n r wt ≤ 4 ^ (n - 1) := by
  unfold sdy
  cases hs : stS pl lw wt r with
  | none => exact Nat.zero_le _
  | some r' => exact h _ _ (by omega) (stS_Sd hS hs).1
theorem o12 (hS : Sd np nw pl wy lw r) : ∃ o : Nat, o ≤ 4 ∧ lw 12 = Int32.ofNat o ∧ (lw 12).toNatClampNeg = o := by
  obtain ⟨o, ho, h12⟩ := hS.2.1 12 (by omega)
  have h4 : lmx 12 = 4 := rfl
  rw [h4] at ho
  exact ⟨o, ho, h12, by rw [h12, o_nat (by omega)]⟩
theorem p4 {n : Nat} (hn : 1 ≤ n) : 4 * 4 ^ (n - 1) = 4 ^ n := by
  obtain ⟨m, rfl⟩ : ∃ m, n = m + 1 := ⟨n - 1, by omega⟩
  rw [Nat.add_sub_cancel, Nat.pow_succ, Nat.mul_comm]
theorem mean_le {o a b c : Nat} (ho : o ≤ 4) (ha : a ≤ c) (hb : b ≤ c) : o * a + (4 - o) * b ≤ 4 * c := by
  have h1 : o * a ≤ o * c := Nat.mul_le_mul_left _ ha
  have h2 : (4 - o) * b ≤ (4 - o) * c := Nat.mul_le_mul_left _ hb
  have h3 : o * c + (4 - o) * c = 4 * c := by rw [← Nat.add_mul]; congr 1; omega
  omega
theorem sst_le (hS : Sd np nw pl wy lw r) {n : Nat} (hn : 1 ≤ n) (h : ∀ n' r', n' < n → Sd np nw pl wy lw r' → S n' r' ≤ 4 ^ n') : sst pl lw S n r ≤ 4 ^ n := by
  have h1 := sdy_le hS hn h 1
  have h0 := sdy_le hS hn h 0
  have h4 := p4 hn
  obtain ⟨o, ho, -, h12⟩ := o12 hS
  unfold sst
  rw [h12]
  split
  · rw [← h4]
    exact mean_le ho h1 h0
  · omega
theorem swy_le (hS : Sd np nw pl wy lw r) {n : Nat} (h : ∀ n' r', n' < n → Sd np nw pl wy lw r' → S n' r' ≤ 4 ^ n') (v : Nat) : swy nw wy lw S n r v ≤ 4 ^ n := by
  unfold swy
  cases hs : stG nw wy lw v r with
  | none => exact Nat.zero_le _
  | some r' =>
    obtain ⟨g1, g2, g3⟩ := stG_Sd hS hs
    obtain ⟨d, d1, d2, d3, d4⟩ := dN_c hS (show v + 1 ≤ nw by omega)
    rw [d4]
    simp only
    split
    · rename_i hd
      have h1 : 4 ^ d * S (n - d) r' ≤ 4 ^ d * 4 ^ (n - d) := Nat.mul_le_mul_left _ (h _ _ (by omega) g1)
      rw [← Nat.pow_add, show d + (n - d) = n by omega] at h1
      exact h1
    · exact Nat.le_refl _
theorem sur_s (f n : Nat) (r : k_r) : sur nw pl wy lw (f + 1) n r = if n = 0 then 1 else (List.range nw).foldl (fun s v => Nat.max s (swy nw wy lw (sur nw pl wy lw f) n r v)) (sst pl lw (sur nw pl wy lw f) n r) := by rw [sur]
theorem sur_le : ∀ (f n : Nat) (r : k_r), Sd np nw pl wy lw r → sur nw pl wy lw f n r ≤ 4 ^ n
  | 0, n, r, _ => Nat.zero_le _
  | f + 1, n, r, hS => by
    rw [sur_s]
    by_cases h0 : n = 0
    · rw [if_pos h0]
      exact Nat.one_le_pow _ _ (by omega)
    · rw [if_neg h0]
      exact fold_mx_le _ _ (fun v => swy_le hS (fun n' r' _ h => sur_le f n' r' h) v) _ _ (sst_le hS (by omega) (fun n' r' _ h => sur_le f n' r' h))
theorem k_sc {n : Nat} (hn : 1 ≤ n) (h4 : n ≤ 4) : 4 ^ (4 - (n - 1)) = 4 * 4 ^ (4 - n) := by
  rw [show 4 - (n - 1) = (4 - n) + 1 by omega, Nat.pow_succ, Nat.mul_comm]
theorem k_top {n : Nat} (h4 : n ≤ 4) : 4 ^ (4 - n) * 4 ^ n = 256 := by
  rw [← Nat.pow_add, show 4 - n + n = 4 by omega]
theorem neg_z : ∀ n, n ≤ 4 → ∀ d, d ≤ 4 → n ≤ d → ¬ (0 : Int32) < Int32.ofNat n - Int32.ofNat d := by decide
theorem dayX (hW : WX w M lw rn) (hL : LX w M np nw pl wy) (hS : Sd np nw pl wy lw r) (g : Nat → Int32 → k_M → Option (Int32 × k_M)) {n : Nat} (hn : 1 ≤ n) (h4 : n ≤ 4) (hg : ∀ n' r', n' < n → Sd np nw pl wy lw r' → g w (Int32.ofNat n') (stX M w r') = some (Int32.ofNat (4 ^ (4 - n') * S n' r'), stX M w r')) (wt : Int32) : f_X0_surenessOfDay g w (Int32.ofNat n) wt (stX M w r) = some (Int32.ofNat (4 * 4 ^ (4 - n) * sdy pl lw S n r wt), stX M w r) := by
  unfold f_X0_surenessOfDay sdy
  rcases standX hW hL hS wt with ⟨q, r', h1, h2, h3, h5⟩ | ⟨h1, h2⟩
  · rw [h1, h2, bd_s, if_neg h3, o_subl (by omega), hg _ _ (by omega) (stS_Sd hS h1).1, bd_s, h5, bd_s]
    simp only
    rw [k_sc hn h4]
  · rw [h1, h2, bd_s, if_pos rfl]
    simp only
    rw [Nat.mul_zero]
    rfl
theorem meadX (hL : LX w M np nw pl wy) (hA : At np nw pl wy r p) : f_X10_onMeadow w (stX M w r) = some (if pl (3 * (r 0).toNatClampNeg) = 3 then 1 else 0, stX M w r) := by
  have hp := hA.1
  have np8 := hA.2.2.1.1
  unfold f_X10_onMeadow
  rw [stX_4, hA.2.1, rdI_o (by omega) (by omega), stX_c (by omega), (hL.2.2.1 p hp).1, o_nat (by omega)]
  split <;> rfl
theorem mean_e {o a b K : Nat} (ho : o ≤ 4) (hK : K ≤ 256) (ha : a ≤ 256) (hb : b ≤ 256) : (Int32.ofNat o * Int32.ofNat (4 * K * a) + (4 - Int32.ofNat o) * Int32.ofNat (4 * K * b)) / 4 = Int32.ofNat (K * (o * a + (4 - o) * b)) := by
  have e4 : (4 : Int32) - Int32.ofNat o = Int32.ofNat (4 - o) := o_sub (a := 4) ho
  have h1 : K * a ≤ 256 * 256 := Nat.mul_le_mul hK ha
  have h2 : K * b ≤ 256 * 256 := Nat.mul_le_mul hK hb
  have h3 : o * (4 * K * a) = 4 * (o * (K * a)) := by rw [Nat.mul_assoc 4 K a, Nat.mul_left_comm]
  have h5 : (4 - o) * (4 * K * b) = 4 * ((4 - o) * (K * b)) := by rw [Nat.mul_assoc 4 K b, Nat.mul_left_comm]
  have h6 : o * (K * a) ≤ 4 * 65536 := Nat.mul_le_mul ho h1
  have h7 : (4 - o) * (K * b) ≤ 4 * 65536 := Nat.mul_le_mul (by omega) h2
  rw [e4, o_mul, o_mul, o_add, h3, h5, ← Nat.mul_add, o_divl (by omega) (by omega)]
  congr 1
  have : 4 * (o * (K * a) + (4 - o) * (K * b)) / 4 = o * (K * a) + (4 - o) * (K * b) := Nat.mul_div_cancel_left _ (by omega)
  refine this.trans ?_
  rw [Nat.mul_add, Nat.mul_left_comm K o a, Nat.mul_left_comm K (4 - o) b]
theorem standSX (hW : WX w M lw rn) (hL : LX w M np nw pl wy) (hS : Sd np nw pl wy lw r) (g : Nat → Int32 → k_M → Option (Int32 × k_M)) {n : Nat} (hn : 1 ≤ n) (h4 : n ≤ 4) (hb : ∀ n' r', n' < n → Sd np nw pl wy lw r' → S n' r' ≤ 4 ^ n') (hg : ∀ n' r', n' < n → Sd np nw pl wy lw r' → g w (Int32.ofNat n') (stX M w r') = some (Int32.ofNat (4 ^ (4 - n') * S n' r'), stX M w r')) : f_X0_surenessOfStanding g w (Int32.ofNat n) (stX M w r) = some (Int32.ofNat (4 ^ (4 - n) * sst pl lw S n r), stX M w r) := by
  obtain ⟨p, hA⟩ := Sd_At hS
  obtain ⟨o, ho, ho1, ho2⟩ := o12 hS
  have b1 := sdy_le hS hn hb 1
  have b0 := sdy_le hS hn hb 0
  have c1 : 4 ^ (n - 1) ≤ 4 ^ 4 := Nat.pow_le_pow_right (by omega) (by omega)
  have c2 : 4 ^ (4 - n) ≤ 4 ^ 4 := Nat.pow_le_pow_right (by omega) (by omega)
  have c3 : (4 : Nat) ^ 4 = 256 := rfl
  have e12 : (stX M w r).1 (w + 16) 12 = Int32.ofNat o := by rw [stX_c (by omega), hW.1 12 (by omega)]; exact ho1
  unfold f_X0_surenessOfStanding sst
  rw [dayX hW hL hS g hn h4 hg 0, bd_s, meadX hL hA, bd_s, ho2]
  by_cases hm : pl (3 * (r 0).toNatClampNeg) = 3
  · rw [if_pos hm, if_pos hm, if_neg (by decide), rdI_l (by omega) (by omega), e12, dayX hW hL hS g hn h4 hg 1, bd_s, mean_e ho (by omega) (by omega) (by omega)]
  · rw [if_neg hm, if_neg hm, if_pos rfl]
    congr 3
    rw [Nat.mul_comm 4 (4 ^ (4 - n)), Nat.mul_assoc]
theorem mx_e {K a b : Nat} (h : K * a < 2147483648) (h2 : K * b < 2147483648) : mxI (Int32.ofNat (K * a)) (Int32.ofNat (K * b)) = Int32.ofNat (K * Nat.max a b) := by
  unfold mxI
  by_cases hab : a ≤ b
  · have hk : K * a ≤ K * b := Nat.mul_le_mul_left _ hab
    rw [show Nat.max a b = b from Nat.max_eq_right hab]
    by_cases hl : K * a < K * b
    · rw [if_pos (by rw [o_lt h h2]; exact hl)]
    · rw [if_neg (by rw [o_lt h h2]; exact hl), show K * a = K * b by omega]
  · have hk : K * b ≤ K * a := Nat.mul_le_mul_left _ (by omega)
    rw [show Nat.max a b = a from Nat.max_eq_left (by omega), if_neg (by rw [o_lt h h2]; omega)]
theorem surLoop (hW : WX w M lw rn) (hL : LX w M np nw pl wy) (hS : Sd np nw pl wy lw r) (hA : At np nw pl wy r p) (g : Nat → Int32 → k_M → Option (Int32 × k_M)) {n : Nat} (hn : 1 ≤ n) (h4 : n ≤ 4) (hb : ∀ n' r', n' < n → Sd np nw pl wy lw r' → S n' r' ≤ 4 ^ n') (hg : ∀ n' r', n' < n → Sd np nw pl wy lw r' → g w (Int32.ofNat n') (stX M w r') = some (Int32.ofNat (4 ^ (4 - n') * S n' r'), stX M w r')) (hz : ∀ x r', ¬ 0 < x → g w x (stX M w r') = some (256, stX M w r')) (kx : Int32 → k_M → Option (Int32 × k_M)) : ∀ (l : List Nat) (k i s : Nat), (chs nw wy p).drop i = l.map (· + 1) → i ≤ (chs nw wy p).length → l.length < k → s ≤ 4 ^ n → f_X0_surenessS_22 g w k (Int32.ofNat n) (Int32.ofNat (4 ^ (4 - n) * s)) (Int32.ofNat (chs nw wy p).length) (Int32.ofNat i) (stX M w r) kx = kx (Int32.ofNat (4 ^ (4 - n) * l.foldl (fun s v => Nat.max s (swy nw wy lw S n r v)) s)) (stX M w r)
  | [], k, i, s, hl, hi, hk, hs => by
    obtain ⟨k, rfl⟩ : ∃ q, k = q + 1 := ⟨k - 1, by omega⟩
    have hle : (chs nw wy p).length ≤ i := List.drop_eq_nil_iff.mp hl
    have h5 := chs_len hA
    rw [f_X0_surenessS_22, if_pos (by rw [o_le (by omega) (by omega)]; exact hle)]
    rfl
  | v :: t, k, i, s, hl, hi, hk, hs => by
    obtain ⟨k, rfl⟩ : ∃ q, k = q + 1 := ⟨k - 1, by omega⟩
    have h5 := chs_len hA
    rw [List.map_cons] at hl
    obtain ⟨h1, h2, h3⟩ := drop_c hl
    have ha : v + 1 ≤ nw := chs_mem (List.mem_of_mem_drop (i := i) (by rw [hl]; exact List.mem_cons_self))
    have nw12 := hS.1.2.1
    have hK : 4 ^ (4 - n) * 4 ^ n = 256 := k_top h4
    have hKs : 4 ^ (4 - n) * s ≤ 256 := by rw [← hK]; exact Nat.mul_le_mul_left _ hs
    rw [List.length_cons] at hk
    have hwl := swy_le (n := n) hS hb
    have hKw : 4 ^ (4 - n) * swy nw wy lw S n r v ≤ 256 := by rw [← hK]; exact Nat.mul_le_mul_left _ (hwl v)
    have hKp : 1 ≤ 4 ^ (4 - n) := Nat.one_le_pow _ _ (by omega)
    rw [f_X0_surenessS_22, if_neg (by rw [o_le (by omega) (by omega)]; omega), List.foldl_cons]
    by_cases ht : 256 ≤ 4 ^ (4 - n) * s
    · have es : s = 4 ^ n := by
        have : 4 ^ (4 - n) * s = 4 ^ (4 - n) * 4 ^ n := by omega
        exact Nat.eq_of_mul_eq_mul_left (by omega) this
      rw [if_pos (by rw [o_lle (by omega) (by omega)]; exact ht), es, show Nat.max (4 ^ n) (swy nw wy lw S n r v) = 4 ^ n from Nat.max_eq_left (hwl v), fold_mx_top _ _ hwl]
    · have ih := fun s hs => surLoop hW hL hS hA g hn h4 hb hg hz kx t k (i + 1) s h3 (by omega) (by omega) hs
      rw [if_neg (by rw [o_lle (by omega) (by omega)]; exact ht), choice_e hL hA h1, bd_s, h2]
      have est : stp nw pl wy lw rn (v + 1) r = stG nw wy lw v r := rfl
      rcases attX (act := v + 1) hW hL hS (by omega) with ⟨q, r', g1, g2, g3, g4⟩ | ⟨g1, g2⟩
      · rw [g2, bd_s, if_neg g3, daysOf_e hL nw12 ha, bd_s]
        obtain ⟨d, d1, d2, d3, d4⟩ := dN_c hS ha
        rw [d3]
        have gv : g w (Int32.ofNat n - Int32.ofNat d) (stX M w r') = some (Int32.ofNat (4 ^ (4 - n) * swy nw wy lw S n r v), stX M w r') := by
          unfold swy
          rw [← est, g1, d4]
          simp only
          by_cases hd : d < n
          · rw [if_pos hd, o_sub (by omega), hg _ _ (by omega) (stp_Sd hS g1).1, ← Nat.mul_assoc, ← Nat.pow_add, show 4 - n + d = 4 - (n - d) by omega]
          · rw [if_neg hd, hK, hz _ _ (neg_z n h4 d d2 (by omega))]
            rfl
        rw [gv, bd_s, bN_e, g4, bd_s, mx_e (by omega) (by omega)]
        unfold f_X0_surenessS_82
        rw [o_addl]
        exact ih _ (Nat.max_le.mpr ⟨hs, hwl v⟩)
      · rw [g2, bd_s, if_pos rfl]
        have e0 : swy nw wy lw S n r v = 0 := by
          unfold swy
          rw [← est, g1]
        rw [e0, show Nat.max s 0 = s from Nat.max_eq_left (Nat.zero_le _)]
        unfold f_X0_surenessS_82
        rw [o_addl]
        exact ih s hs
theorem surZ (f : Nat) (x : Int32) (N : k_M) (hx : ¬ 0 < x) : f_X0_sureness (f + 1) w x N = some (256, N) := by
  rw [f_X0_sureness]
  unfold f_X0_surenessS
  rw [if_neg hx]
theorem fold_wls (hA : At np nw pl wy r p) (S : Nat → k_r → Nat) (n s : Nat) : (wls nw wy p).foldl (fun s v => Nat.max s (swy nw wy lw S n r v)) s = (List.range nw).foldl (fun s v => Nat.max s (swy nw wy lw S n r v)) s := by
  unfold wls
  refine foldl_skip (I := fun _ => True) (fun _ _ _ => trivial) (fun s a _ hp => ?_) _ _ trivial
  have : swy nw wy lw S n r a = 0 := by
    have h0 : stp nw pl wy lw 0 (a + 1) r = none := chs_no hA (by
      show (a + 1 == 0 || _) = false
      exact hp)
    unfold swy
    rw [← stp_s nw pl wy lw 0, h0]
  rw [this]
  exact Nat.max_eq_left (Nat.zero_le _)
theorem surX (hW : WX w M lw rn) (hL : LX w M np nw pl wy) : ∀ (f n : Nat) (r : k_r), n < f → n ≤ 4 → Sd np nw pl wy lw r → f_X0_sureness (f + 1) w (Int32.ofNat n) (stX M w r) = some (Int32.ofNat (4 ^ (4 - n) * sur nw pl wy lw f n r), stX M w r)
  | 0, n, r, h, _, _ => by omega
  | f + 1, n, r, h, h4, hS => by
    obtain ⟨p, hA⟩ := Sd_At hS
    rw [sur_s]
    by_cases h0 : n = 0
    · subst h0
      rw [if_pos rfl, surZ _ _ _ (by decide)]
      rfl
    · have hb : ∀ n' r', n' < n → Sd np nw pl wy lw r' → sur nw pl wy lw f n' r' ≤ 4 ^ n' := fun n' r' _ h => sur_le f n' r' h
      have hg : ∀ n' r', n' < n → Sd np nw pl wy lw r' → f_X0_sureness (f + 1) w (Int32.ofNat n') (stX M w r') = some (Int32.ofNat (4 ^ (4 - n') * sur nw pl wy lw f n' r'), stX M w r') := fun n' r' hn' hS' => surX hW hL f n' r' (by omega) (by omega) hS'
      have hd : (chs nw wy p).drop 1 = (wls nw wy p).map (· + 1) := by rw [chs_eq]; rfl
      have hl1 : 1 ≤ (chs nw wy p).length := by rw [chs_eq, List.length_cons]; omega
      have hwl : (wls nw wy p).length ≤ 4 := (hA.2.2.1.2.2.1 p hA.1).2.2.2
      have := surLoop (S := sur nw pl wy lw f) hW hL hS hA (f_X0_sureness (f + 1)) (n := n) (by omega) h4 hb hg (fun x r' hx => surZ f x _ hx) (fun l2_ M_ => f_X0_surenessS_88 (f_X0_sureness (f + 1)) w l2_ M_) (wls nw wy p) k_fu 1 _ hd hl1 (by unfold k_fu; omega) (sst_le hS (by omega) hb)
      rw [if_neg h0, f_X0_sureness]
      unfold f_X0_surenessS
      rw [if_pos (by rw [o_llt (by omega) (by omega)]; omega), standSX hW hL hS _ (by omega) h4 hb hg, bd_s, choices_e hL hA, bd_s]
      refine Eq.trans this ?_
      rw [fold_wls hA]
      rfl
end
