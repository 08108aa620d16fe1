/-! ===== the pure layer: surest, the reference ===== -/
theorem pow_e (M : k_M) : ∀ d, d ≤ 4 → f_X12_power (Int32.ofNat d) M = some (Int32.ofNat (4 ^ d), M) := by
  intro d hd
  have : ∀ d, d ≤ 4 → (1 : Int32) <<< ((2 * Int32.ofNat d) &&& 31) = Int32.ofNat (4 ^ d) := by decide
  unfold f_X12_power
  rw [this d hd]
/-- levels up to d stay -/
def LG (d : Nat) (N N' : k_M) : Prop := (∀ a j, ¬ (89 ≤ a ∧ a ≤ 93 ∧ d + 1 ≤ j) → ¬ (a = 82 ∧ 25 * (d + 1) ≤ j) → N'.1 a j = N.1 a j) ∧ N'.2 = N.2
/-- levels below d stay, and rows up to d -/
def LF (d : Nat) (N N' : k_M) : Prop := (∀ a j, ¬ (89 ≤ a ∧ a ≤ 93 ∧ d ≤ j) → ¬ (a = 82 ∧ 25 * (d + 1) ≤ j) → N'.1 a j = N.1 a j) ∧ N'.2 = N.2
theorem LG_tr {d : Nat} {A B C : k_M} (h : LG d A B) (g : LG d B C) : LG d A C := ⟨fun a j q1 q2 => (g.1 a j q1 q2).trans (h.1 a j q1 q2), g.2.trans h.2⟩
theorem LF_tr {d : Nat} {A B C : k_M} (h : LF d A B) (g : LF d B C) : LF d A C := ⟨fun a j q1 q2 => (g.1 a j q1 q2).trans (h.1 a j q1 q2), g.2.trans h.2⟩
theorem LG_LF {d : Nat} {A B : k_M} (h : LG d A B) : LF d A B := ⟨fun a j q1 q2 => h.1 a j (by omega) q2, h.2⟩
theorem LF_LG {d : Nat} {A B : k_M} (h : LF (d + 1) A B) : LG d A B := ⟨fun a j q1 q2 => h.1 a j q1 (by omega), h.2⟩
theorem LF_sI {d c : Nat} (N : k_M) (v : Int32) (hc : 89 ≤ c ∧ c ≤ 93) : LF d N (sI N c d v) := ⟨fun a j q1 q2 => by rw [sI_g, if_neg (by omega)], rfl⟩
theorem LF_row {d k : Nat} {A B : k_M} (h : LF d A B) (hk : k ≤ d) : rwM B k = rwM A k := by
  funext j
  by_cases hj : j < 25
  · have : 25 * k ≤ 25 * d := Nat.mul_le_mul_left _ hk
    rw [rwM_e _ _ hj, rwM_e _ _ hj, h.1 _ _ (by omega) (by omega)]
  · unfold rwM
    rw [if_neg hj, if_neg hj]
/-- what the look needs -/
def EN (N : k_M) (nw : Nat) (pl wy lw : Nat → Int32) (rn : Int32) : Prop := N.1 77 = pl ∧ N.1 78 = wy ∧ N.1 79 = lw ∧ N.1 76 6 = rn ∧ N.1 76 2 = Int32.ofNat nw
theorem EN_F {d nw : Nat} {pl wy lw : Nat → Int32} {rn : Int32} {A B : k_M} (h : LF d A B) (e : EN A nw pl wy lw rn) : EN B nw pl wy lw rn := by
  obtain ⟨e1, e2, e3, e4, e5⟩ := e
  have c : ∀ a, a ≠ 82 → ¬ (89 ≤ a ∧ a ≤ 93) → B.1 a = A.1 a := fun a q1 q2 => funext fun j => h.1 a j (by omega) (by omega)
  exact ⟨by rw [c 77 (by omega) (by omega)]; exact e1, by rw [c 78 (by omega) (by omega)]; exact e2, by rw [c 79 (by omega) (by omega)]; exact e3, by rw [c 76 (by omega) (by omega)]; exact e4, by rw [c 76 (by omega) (by omega)]; exact e5⟩
/-- what an act at a level gives -/
def dvl (nw : Nat) (pl wy lw : Nat → Int32) (rn : Int32) (S : Nat → k_r → Nat) (n : Nat) (r : k_r) (a : Nat) (wt : Int32) : Nat := match stW nw pl wy lw rn wt a r with
  | none => 0
  | some r' => if dN wy a < n then 4 ^ dN wy a * S (n - dN wy a) r' else 4 ^ n
section
variable {np nw : Nat} {lw pl wy : Nat → Int32} {rn : Int32} {S : Nat → k_r → Nat}
theorem stW_Sd {wt : Int32} {a : Nat} {r r' : k_r} (h : Sd np nw pl wy lw r) (hs : stW nw pl wy lw rn wt a r = some r') : Sd np nw pl wy lw r' ∧ a ≤ nw := by
  unfold stW at hs
  by_cases h0 : a = 0
  · rw [if_pos h0] at hs
    exact ⟨(stS_Sd h hs).1, by omega⟩
  · rw [if_neg h0] at hs
    have := stG_Sd h hs
    exact ⟨this.1, by omega⟩
theorem downM {N : k_M} {d n a : Nat} {wt : Int32} (hE : EN N nw pl wy lw rn) (hd : d ≤ 4) (hn4 : n ≤ 4) (hS : Sd np nw pl wy lw (rwM N d)) (h89 : N.1 89 d = Int32.ofNat n) (ha : a ≤ nw) :
    (∃ N' v, v ≤ 256 ∧ v = dvl nw pl wy lw rn S n (rwM N d) a wt ∧ LG d N N' ∧ f_X12_down (Int32.ofNat d) (Int32.ofNat a) wt N = some (Int32.ofNat v, N')) ∨
    (∃ N' r', stW nw pl wy lw rn wt a (rwM N d) = some r' ∧ 1 ≤ dN wy a ∧ dN wy a < n ∧ LG d N N' ∧ rwM N' (d + 1) = (fun k => if k < 25 then r' k else 0) ∧ N'.1 89 (d + 1) = Int32.ofNat (n - dN wy a) ∧ N'.1 90 (d + 1) = Int32.ofNat 0 ∧ N'.1 91 (d + 1) = Int32.ofNat 0 ∧ N'.1 93 (d + 1) = Int32.ofNat 0 ∧ f_X12_down (Int32.ofNat d) (Int32.ofNat a) wt N = some (-1, N')) := by
  obtain ⟨e1, e2, e3, e4, e5⟩ := hE
  have nw12 := hS.1.2.1
  obtain ⟨dd, d1, d2, d3, d4⟩ := dN_c hS ha
  have hgo := goesM (M := N) (d := d) (np := np) (nw := nw) (act := a) (by omega) (q := rwM N (d + 1)) e5 (by rw [e1, e2, e3]; exact hS) (by omega) wt
  rw [← stR_self, e1, e2, e3, e4] at hgo
  obtain ⟨r', g1, g2⟩ := hgo
  have hG : LG d N (stR N (d + 1) r') := ⟨fun a j q1 q2 => stR_o _ _ _ (by omega), rfl⟩
  have c89 : (stR N (d + 1) r').1 89 d = Int32.ofNat n := by rw [stR_c _ _ _ (by omega)]; exact h89
  cases hs : stW nw pl wy lw rn wt a (rwM N d) with
  | none =>
    refine .inl ⟨stR N (d + 1) r', 0, by omega, ?_, hG, ?_⟩
    · unfold dvl
      rw [hs]
    · unfold f_X12_down
      rw [g1, hs, bd_s]
      rfl
  | some r1 =>
    have hr := g2 r1 hs
    subst hr
    have st : f_X12_down (Int32.ofNat d) (Int32.ofNat a) wt N = if dd < n then some (-1, sI (sI (sI (sI (stR N (d + 1) r') 89 (d + 1) (Int32.ofNat (n - dd))) 90 (d + 1) 0) 91 (d + 1) 0) 93 (d + 1) 0) else some (Int32.ofNat (4 ^ n), stR N (d + 1) r') := by
      unfold f_X12_down
      rw [g1, hs, Option.isSome_some, if_pos rfl, d3, bd_s, if_neg (by rw [o_eql (by omega) (by omega)]; omega), rdI_o (by omega) (by omega), c89]
      by_cases hdn : dd < n
      · rw [if_pos (by rw [o_lt (by omega) (by omega)]; exact hdn), if_pos hdn, rdI_o (by omega) (by omega), c89, o_sub (by omega), o_addl, wrI_o (by omega) (by omega), wrI_o (by omega) (by omega), wrI_o (by omega) (by omega), wrI_o (by omega) (by omega)]
      · rw [if_neg (by rw [o_lt (by omega) (by omega)]; exact hdn), if_neg hdn, rdI_o (by omega) (by omega), c89, pow_e _ n hn4, bd_s]
    by_cases hdn : dd < n
    · rw [if_pos hdn] at st
      refine .inr ⟨_, r', rfl, by omega, by omega, ?_, ?_, ?_, ?_, ?_, ?_, st⟩
      · refine LG_tr hG ⟨fun a j q1 q2 => ?_, rfl⟩
        rw [sI_g, if_neg (by omega), sI_g, if_neg (by omega), sI_g, if_neg (by omega), sI_g, if_neg (by omega)]
      · rw [rwM_sI _ _ (by omega), rwM_sI _ _ (by omega), rwM_sI _ _ (by omega), rwM_sI _ _ (by omega)]
        funext k
        unfold rwM
        by_cases hk : k < 25
        · rw [if_pos hk, if_pos hk, stR_in _ _ _ hk]
        · rw [if_neg hk, if_neg hk]
      · rw [sI_g, if_neg (by omega), sI_g, if_neg (by omega), sI_g, if_neg (by omega), sI_g, if_pos ⟨rfl, rfl⟩, d4]
      · rw [sI_g, if_neg (by omega), sI_g, if_neg (by omega), sI_g, if_pos ⟨rfl, rfl⟩]
        rfl
      · rw [sI_g, if_neg (by omega), sI_g, if_pos ⟨rfl, rfl⟩]
        rfl
      · rw [sI_g, if_pos ⟨rfl, rfl⟩]
        rfl
    · rw [if_neg hdn] at st
      have c2 : 4 ^ n ≤ 4 ^ 4 := Nat.pow_le_pow_right (by omega) hn4
      have c3 : (4 : Nat) ^ 4 = 256 := rfl
      refine .inl ⟨_, 4 ^ n, by omega, ?_, hG, st⟩
      unfold dvl
      rw [hs]
      simp only
      rw [d4, if_neg hdn]
/-- what a node owes -/
def NodeS (np nw : Nat) (pl wy lw : Nat → Int32) (rn : Int32) (f n : Nat) : Prop := ∀ (d : Nat) (N : k_M), d + n ≤ 4 → EN N nw pl wy lw rn → Sd np nw pl wy lw (rwM N d) → N.1 89 d = Int32.ofNat n → N.1 90 d = Int32.ofNat 0 → N.1 91 d = Int32.ofNat 0 → N.1 93 d = Int32.ofNat 0 →
    ∃ t N', t ≤ 105 ^ n ∧ LF d N N' ∧ N'.1 89 d = Int32.ofNat n ∧ N'.1 90 d = Int32.ofNat (sur nw pl wy lw f n (rwM N d)) ∧ N'.1 91 d = Int32.ofNat (nw + 1) ∧ ∀ k kx, f_X12_findSurest_32 (k + t) (Int32.ofNat d) (-1) N kx = f_X12_findSurest_32 k (Int32.ofNat d) (-1) N' kx
/-- the meadow's flag -/
def mdw (pl : Nat → Int32) (a : Nat) (r : k_r) : Int32 := if a = 0 ∧ pl (3 * (r 0).toNatClampNeg) = 3 then 1 else 0
theorem head_e {N : k_M} {d a : Nat} {l3 : Int32} (hE : EN N nw pl wy lw rn) (hd : d ≤ 4) (hS : Sd np nw pl wy lw (rwM N d)) (h91 : N.1 91 d = Int32.ofNat a) (ha : a ≤ nw) (k : Nat) (kx : k_M → Option (Int32 × k_M)) : f_X12_findSurest_32 (k + 1) (Int32.ofNat d) l3 N kx = f_X12_findSurest_110 (Int32.ofNat d) l3 (Int32.ofNat a) (mdw pl a (rwM N d)) N ((fun l2_ l3_ M_ => f_X12_findSurest_32 k l2_ l3_ M_ kx)) kx := by
  obtain ⟨e1, e2, e3, e4, e5⟩ := hE
  have nw12 := hS.1.2.1
  have np8 := hS.1.1
  obtain ⟨p, hA⟩ := Sd_At hS
  have hp := hA.1
  rw [f_X12_findSurest_32, rdI_o (by omega) (by omega), h91, e5, if_pos (by rw [o_le (by omega) (by omega)]; exact ha)]
  unfold mdw
  by_cases h0 : a = 0
  · subst h0
    have e25 : (25 : Int32) * Int32.ofNat d = Int32.ofNat (25 * d) := o_lmul d 25
    have e82 : N.1 82 (25 * d) = Int32.ofNat p := by rw [← hA.2.1, rwM_e _ _ (by omega), Nat.add_zero]
    have em : f_X12_isOnMeadow (Int32.ofNat d) N = some (if pl (3 * p) = 3 then 1 else 0, N) := by
      unfold f_X12_isOnMeadow f_X12_its
      have e3p : (3 : Int32) * Int32.ofNat p = Int32.ofNat (3 * p) := o_lmul p 3
      rw [e25, rdI_o (by omega) (by omega), e82, e3p, Int32.add_zero, rdI_o (by omega) (by omega), e1, bd_s]
      split <;> rfl
    rw [if_pos (show Int32.ofNat 0 = 0 from rfl), em, bd_s, hA.2.1, o_nat (by omega)]
    by_cases hm : pl (3 * p) = 3
    · rw [if_pos hm, if_neg (by decide), if_pos ⟨rfl, hm⟩]
    · rw [if_neg hm, if_pos rfl, if_neg (fun h => hm h.2)]
      rfl
  · rw [if_neg (by rw [o_eql (by omega) (by omega)]; exact h0), if_neg (fun h => h0 h.1)]
    rfl
end
