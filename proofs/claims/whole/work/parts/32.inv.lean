/-! ===== the pure layer: what holds between the class's cells and the reference's ===== -/
def Bn (x : Int32) (n : Nat) : Prop := ∃ k : Nat, k ≤ n ∧ x = Int32.ofNat k
/-- the ways of a place, by rising numbers -/
def wls (nw : Nat) (wy : Nat → Int32) (p : Nat) : List Nat := (List.range nw).filter (fun v => wy (5 * v) == Int32.ofNat p || wy (5 * v + 1) == Int32.ofNat p)
/-- a plain that was told: np places, nw ways -/
def WFl (np nw : Nat) (pl wy : Nat → Int32) : Prop :=
  np ≤ 8 ∧ nw ≤ 12 ∧ (∀ p : Nat, p < np → Bn (pl (3 * p)) 5 ∧ Bn (pl (3 * p + 1)) 9 ∧ Bn (pl (3 * p + 2)) 99 ∧ (wls nw wy p).length ≤ 4) ∧
  (∀ v : Nat, v < nw → ∃ a b d : Nat, a < b ∧ b < np ∧ 1 ≤ d ∧ d ≤ 4 ∧ wy (5 * v) = Int32.ofNat a ∧ wy (5 * v + 1) = Int32.ofNat b ∧ wy (5 * v + 2) = Int32.ofNat d ∧ Bn (wy (5 * v + 3)) 9)
/-- a Land (of the World at w) holds that plain -/
def LX (w : Nat) (M : k_M) (np nw : Nat) (pl wy : Nat → Int32) : Prop :=
  M.1 (w + 1) 0 = Int32.ofNat np ∧ M.1 (w + 1) 7 = Int32.ofNat nw ∧
  (∀ p : Nat, p < np → M.1 (w + 2) p = pl (3 * p) ∧ M.1 (w + 3) p = pl (3 * p + 1) ∧ M.1 (w + 4) p = pl (3 * p + 2) ∧ M.1 (w + 6) p = Int32.ofNat (wls nw wy p).length ∧ ∀ i : Nat, i < (wls nw wy p).length → M.1 (w + 7) (4 * p + i) = Int32.ofNat ((wls nw wy p).getD i 0)) ∧
  (∀ v : Nat, v < nw → ((M.1 (w + 8) v = wy (5 * v) ∧ M.1 (w + 9) v = wy (5 * v + 1)) ∨ (M.1 (w + 8) v = wy (5 * v + 1) ∧ M.1 (w + 9) v = wy (5 * v))) ∧ M.1 (w + 10) v = wy (5 * v + 2) ∧ M.1 (w + 11) v = wy (5 * v + 3) ∧ M.1 (w + 13) v = wy (5 * v + 4))
def lmx (i : Nat) : Nat := [5, 5, 5, 5, 5, 5, 20, 5, 9, 9, 9, 9, 4].getD i 0
def WFw (lw : Nat → Int32) : Prop := ∀ i : Nat, i < 13 → Bn (lw i) (lmx i)
/-- laws and rain -/
def WX (w : Nat) (M : k_M) (lw : Nat → Int32) (rn : Int32) : Prop := (∀ i : Nat, i < 13 → M.1 (w + 16) i = lw i) ∧ M.1 w 2 = rn
/-- a row of numbers: place, day, sheds, what is left, what is borne -/
def WFr (np nw : Nat) (wy : Nat → Int32) (r : Nat → Int32) : Prop :=
  Bn (r 1) 999 ∧ (∀ s : Nat, s < 3 → Bn (r (2 + s)) 20) ∧ (∀ p : Nat, p < np → Bn (r (5 + p)) 99) ∧ (∀ v : Nat, v < nw → Bn (r (13 + v)) 9 ∧ (r (13 + v) = 9 ↔ wy (5 * v + 3) = 9))
def RX (w : Nat) (M : k_M) (np nw : Nat) (r : Nat → Int32) : Prop :=
  M.1 w 4 = r 0 ∧ M.1 w 5 = r 1 ∧ (∀ s : Nat, s < 3 → M.1 (w + 17) s = r (2 + s)) ∧ (∀ p : Nat, p < np → M.1 (w + 5) p = r (5 + p)) ∧ (∀ v : Nat, v < nw → M.1 (w + 12) v = r (13 + v))
/-- the rules -/
def RR (w : Nat) (M : k_M) (nr : Nat) (rl : Nat → Int32) : Prop :=
  nr ≤ 4 ∧ M.1 w 7 = Int32.ofNat nr ∧ (∀ i : Nat, i < nr → ∃ q : Nat, M.2.2.1 (w + 18) i = some q ∧ 105 ≤ q ∧ q < M.2.2.2 ∧ M.1 q 0 = rl (3 * i) ∧ M.1 q 1 = Int32.ofNat i ∧ M.1 q 2 = rl (3 * i + 1) ∧ M.1 q 3 = rl (3 * i) ∧ M.1 (w + 19) i = rl (3 * i + 2) ∧ (∃ k : Nat, 1 ≤ k ∧ k ≤ 5 ∧ rl (3 * i) = Int32.ofNat k) ∧ Bn (rl (3 * i + 1)) 65535) ∧
  (∀ i : Nat, i < 4 → okRb M (M.2.2.1 (w + 18) i) = true)
/-- a World and the reference's numbers for it -/
def WR (w : Nat) (M : k_M) (np nw nr : Nat) (rn th : Int32) (pl wy lw rl r : Nat → Int32) : Prop :=
  WFl np nw pl wy ∧ LX w M np nw pl wy ∧ WFw lw ∧ WX w M lw rn ∧ M.1 w 3 = th ∧ (th = 0 ∨ (th = 1 ∧ ∃ a : Nat, a < np ∧ r 0 = Int32.ofNat a)) ∧ WFr np nw wy r ∧ RX w M np nw r ∧ RR w M nr rl
def RN (M : k_M) : Prop := ∃ np nw nr : Nat, M.1 76 0 = Int32.ofNat np ∧ M.1 76 2 = Int32.ofNat nw ∧ M.1 76 8 = Int32.ofNat nr ∧ WR 3 M np nw nr (M.1 76 6) (M.1 76 7) (M.1 77) (M.1 78) (M.1 79) (M.1 81) (M.1 82)
def RK (M : k_M) : Prop := M.1 76 49 = M.1 0 4 ∧ (M.1 0 4 = 0 ∨ (M.1 0 4 = 1 ∧ ∃ np nw nr : Nat, M.1 103 0 = Int32.ofNat np ∧ M.1 103 1 = Int32.ofNat nw ∧ M.1 103 2 = Int32.ofNat nr ∧ WR 23 M np nw nr (M.1 103 3) (M.1 103 4) (fun j => M.1 103 (5 + j)) (fun j => M.1 103 (29 + j)) (fun j => M.1 103 (89 + j)) (fun j => M.1 103 (102 + j)) (fun j => M.1 103 (114 + j))))
def RT (M : k_M) : Prop := ∃ n : Nat, n ≤ 200 ∧ M.1 1 1 = Int32.ofNat n ∧ M.1 76 12 = Int32.ofNat n ∧ ∀ i : Nat, i < n → M.1 2 i = M.1 83 i ∧ Bn (M.1 83 i) 255
def RW (M : k_M) : Prop := ∃ n : Nat, n ≤ 6 ∧ M.1 0 6 = Int32.ofNat n ∧ M.1 76 36 = Int32.ofNat n ∧ ∀ j : Nat, j < 3 * n → M.1 63 j = M.1 95 j
def RS (M : k_M) : Prop := ∀ s : Nat, s < 4 → M.1 64 s = M.1 96 s ∧ (M.1 96 s = -1 ∨ (Bn (M.1 96 s) 3 ∧ M.1 65 s = M.1 97 s ∧ Bn (M.1 97 s) 40 ∧ ∀ i : Nat, i < 40 → M.2.1 (67 + s) i = M.2.1 98 (40 * s + i)))
def RF (M : k_M) : Prop := ∀ s : Nat, s < 4 → (M.1 71 s = 0 ∧ M.1 99 s = -1) ∨ (M.1 71 s = 1 ∧ M.1 99 s = 0 ∧ M.1 72 s = M.1 100 s ∧ Bn (M.1 100 s) 3) ∨ (M.1 71 s = 2 ∧ M.1 99 s = 1 ∧ M.1 72 s = M.1 100 s ∧ M.1 73 s = M.1 101 s ∧ Bn (M.1 100 s) 3)
def RA (M : k_M) : Prop := ∃ n : Nat, n ≤ 30 ∧ M.1 74 1 = Int32.ofNat n ∧ M.1 76 47 = Int32.ofNat n ∧ ∀ i : Nat, i < n → M.1 75 i = M.1 102 i
def RB (M : k_M) : Prop := (∀ i : Nat, i < 13 → M.1 80 i = Int32.ofNat (lmx i)) ∧ 105 ≤ M.2.2.2
def R (M : k_M) : Prop := RN M ∧ RK M ∧ RT M ∧ RW M ∧ RS M ∧ RF M ∧ RA M ∧ RB M
/-- parts of a World that are untouched -/
theorem LX_fr {w : Nat} {M M' : k_M} {np nw : Nat} {pl wy : Nat → Int32} (hc : ∀ i j : Nat, 1 ≤ i → i < 14 → i ≠ 5 → i ≠ 12 → M'.1 (w + i) j = M.1 (w + i) j) (h : LX w M np nw pl wy) : LX w M' np nw pl wy := by
  have hf : ∀ i : Nat, 1 ≤ i → i < 14 → i ≠ 5 → i ≠ 12 → M'.1 (w + i) = M.1 (w + i) := fun i a b c d => funext fun j => hc i j a b c d
  unfold LX
  rw [hf 1 (by omega) (by omega) (by omega) (by omega), hf 2 (by omega) (by omega) (by omega) (by omega), hf 3 (by omega) (by omega) (by omega) (by omega), hf 4 (by omega) (by omega) (by omega) (by omega), hf 6 (by omega) (by omega) (by omega) (by omega), hf 7 (by omega) (by omega) (by omega) (by omega), hf 8 (by omega) (by omega) (by omega) (by omega), hf 9 (by omega) (by omega) (by omega) (by omega), hf 10 (by omega) (by omega) (by omega) (by omega), hf 11 (by omega) (by omega) (by omega) (by omega), hf 13 (by omega) (by omega) (by omega) (by omega)]
  exact h
theorem WX_fr {w : Nat} {M M' : k_M} {lw : Nat → Int32} {rn : Int32} (h16 : ∀ j : Nat, M'.1 (w + 16) j = M.1 (w + 16) j) (h2 : M'.1 w 2 = M.1 w 2) (h : WX w M lw rn) : WX w M' lw rn := ⟨fun i hi => by rw [h16]; exact h.1 i hi, by rw [h2]; exact h.2⟩
theorem RX_fr {w : Nat} {M M' : k_M} {np nw : Nat} {r r' : Nat → Int32} (hnp : np ≤ 8) (hnw : nw ≤ 12) (h4 : M'.1 w 4 = M.1 w 4) (h5 : M'.1 w 5 = M.1 w 5) (hc : ∀ i j : Nat, i = 5 ∨ i = 12 ∨ i = 17 → M'.1 (w + i) j = M.1 (w + i) j) (hrow : ∀ k : Nat, k < 25 → r' k = r k) (h : RX w M np nw r) : RX w M' np nw r' := by
  obtain ⟨a1, a2, a3, a4, a5⟩ := h
  exact ⟨by rw [h4, hrow 0 (by omega)]; exact a1, by rw [h5, hrow 1 (by omega)]; exact a2, fun s hs => by rw [hc 17 s (by omega), hrow _ (by omega)]; exact a3 s hs, fun p hp => by rw [hc 5 p (by omega), hrow _ (by omega)]; exact a4 p hp, fun v hv => by rw [hc 12 v (by omega), hrow _ (by omega)]; exact a5 v hv⟩
theorem WFr_fr {np nw : Nat} {wy r r' : Nat → Int32} (hnp : np ≤ 8) (hnw : nw ≤ 12) (hrow : ∀ k : Nat, k < 25 → r' k = r k) (h : WFr np nw wy r) : WFr np nw wy r' := by
  obtain ⟨a1, a2, a3, a4⟩ := h
  exact ⟨by rw [hrow 1 (by omega)]; exact a1, fun s hs => by rw [hrow _ (by omega)]; exact a2 s hs, fun p hp => by rw [hrow _ (by omega)]; exact a3 p hp, fun v hv => by rw [hrow _ (by omega)]; exact a4 v hv⟩
theorem okRb_fr {M M' : k_M} {o : Option Nat} (hn : M.2.2.2 ≤ M'.2.2.2) (h : okRb M o = true) : okRb M' o = true := by
  unfold okRb at h ⊢
  cases o with
  | none => rfl
  | some x =>
    simp only [decide_eq_true_eq] at h ⊢
    omega
theorem RR_fr {w : Nat} {M M' : k_M} {nr : Nat} {rl : Nat → Int32} (h7 : M'.1 w 7 = M.1 w 7) (h19 : ∀ j : Nat, M'.1 (w + 19) j = M.1 (w + 19) j) (hq : ∀ q j : Nat, 105 ≤ q → q < M.2.2.2 → M'.1 q j = M.1 q j) (hr : M'.2.2.1 (w + 18) = M.2.2.1 (w + 18)) (hn : M.2.2.2 ≤ M'.2.2.2) (h : RR w M nr rl) : RR w M' nr rl := by
  obtain ⟨a1, a2, a3, a4⟩ := h
  refine ⟨a1, by rw [h7]; exact a2, fun i hi => ?_, fun i hi => ?_⟩
  · obtain ⟨q, b1, b2, b3, b4⟩ := a3 i hi
    refine ⟨q, by rw [hr]; exact b1, b2, by omega, ?_⟩
    rw [hq q 0 b2 b3, hq q 1 b2 b3, hq q 2 b2 b3, hq q 3 b2 b3, h19 i]
    exact b4
  · rw [hr]
    exact okRb_fr hn (a4 i hi)
/-- a World is untouched -/
theorem WR_fr {w : Nat} {M M' : k_M} {np nw nr : Nat} {rn th : Int32} {pl wy lw rl r pl' wy' lw' rl' r' : Nat → Int32}
    (hc : ∀ i j : Nat, i < 20 → i ≠ 14 → i ≠ 15 → M'.1 (w + i) j = M.1 (w + i) j) (hq : ∀ q j : Nat, 105 ≤ q → q < M.2.2.2 → M'.1 q j = M.1 q j) (hr : M'.2.2.1 (w + 18) = M.2.2.1 (w + 18)) (hn : M.2.2.2 ≤ M'.2.2.2) (hrow : ∀ k : Nat, k < 25 → r' k = r k) (hpl : pl' = pl) (hwy : wy' = wy) (hlw : lw' = lw) (hrl : rl' = rl)
    (h : WR w M np nw nr rn th pl wy lw rl r) : WR w M' np nw nr rn th pl' wy' lw' rl' r' := by
  subst hpl hwy hlw hrl
  obtain ⟨h1, h2, h3, h4, h5, h6, h7, h8, h9⟩ := h
  have e0 : ∀ j, M'.1 w j = M.1 w j := fun j => hc 0 j (by omega) (by omega) (by omega)
  exact ⟨h1, LX_fr (fun i j a b c d => hc i j (by omega) (by omega) (by omega)) h2, h3, WX_fr (fun j => hc 16 j (by omega) (by omega) (by omega)) (e0 2) h4, by rw [e0]; exact h5, by rw [hrow 0 (by omega)]; exact h6, WFr_fr h1.1 h1.2.1 hrow h7, RX_fr h1.1 h1.2.1 (e0 4) (e0 5) (fun i j hi => hc i j (by omega) (by omega) (by omega)) hrow h8, RR_fr (e0 7) (fun j => hc 19 j (by omega) (by omega) (by omega)) hq hr hn h9⟩
/-- the places that each part of R speaks of -/
def rlv (j : Nat) : Prop := j = 0 ∨ j = 2 ∨ j = 6 ∨ j = 7 ∨ j = 8
def locN (n a j : Nat) : Prop := (3 ≤ a ∧ a < 23 ∧ a ≠ 17 ∧ a ≠ 18) ∨ (105 ≤ a ∧ a < n) ∨ (a = 76 ∧ rlv j) ∨ a = 77 ∨ a = 78 ∨ a = 79 ∨ a = 81 ∨ (a = 82 ∧ j < 25)
theorem RN_fr {M M' : k_M} (c : ∀ a j : Nat, locN M.2.2.2 a j → M'.1 a j = M.1 a j) (hr : M'.2.2.1 21 = M.2.2.1 21) (hn : M.2.2.2 ≤ M'.2.2.2) (h : RN M) : RN M' := by
  obtain ⟨np, nw, nr, h1, h2, h3, h4⟩ := h
  refine ⟨np, nw, nr, by rw [c 76 0 (by unfold locN rlv; omega)]; exact h1, by rw [c 76 2 (by unfold locN rlv; omega)]; exact h2, by rw [c 76 8 (by unfold locN rlv; omega)]; exact h3, ?_⟩
  rw [c 76 6 (by unfold locN rlv; omega), c 76 7 (by unfold locN rlv; omega)]
  exact WR_fr (fun i j h1 h2 h3 => c _ _ (by unfold locN; omega)) (fun q j h1 h2 => c _ _ (by unfold locN; omega)) hr hn (fun k hk => c _ _ (by unfold locN; omega)) (funext fun j => c _ _ (by unfold locN; omega)) (funext fun j => c _ _ (by unfold locN; omega)) (funext fun j => c _ _ (by unfold locN; omega)) (funext fun j => c _ _ (by unfold locN; omega)) h4
def locK (n a j : Nat) : Prop := (23 ≤ a ∧ a < 43 ∧ a ≠ 37 ∧ a ≠ 38) ∨ (105 ≤ a ∧ a < n) ∨ (a = 76 ∧ j = 49) ∨ (a = 0 ∧ j = 4) ∨ a = 103
theorem RK_fr {M M' : k_M} (c : ∀ a j : Nat, locK M.2.2.2 a j → M'.1 a j = M.1 a j) (hr : M'.2.2.1 41 = M.2.2.1 41) (hn : M.2.2.2 ≤ M'.2.2.2) (h : RK M) : RK M' := by
  have e : M'.1 103 = M.1 103 := funext fun j => c _ _ (by unfold locK; omega)
  unfold RK
  rw [c 76 49 (by unfold locK; omega), c 0 4 (by unfold locK; omega), e]
  refine ⟨h.1, ?_⟩
  rcases h.2 with h | ⟨h, np, nw, nr, h1, h2, h3, h4⟩
  · exact .inl h
  · exact .inr ⟨h, np, nw, nr, h1, h2, h3, WR_fr (fun i j h1 h2 h3 => c _ _ (by unfold locK; omega)) (fun q j h1 h2 => c _ _ (by unfold locK; omega)) hr hn (fun _ _ => rfl) rfl rfl rfl rfl h4⟩
def locT (a j : Nat) : Prop := (a = 1 ∧ j = 1) ∨ a = 2 ∨ (a = 76 ∧ j = 12) ∨ a = 83
theorem RT_fr {M M' : k_M} (c : ∀ a j : Nat, locT a j → M'.1 a j = M.1 a j) (h : RT M) : RT M' := by
  obtain ⟨n, h1, h2, h3, h4⟩ := h
  refine ⟨n, h1, by rw [c 1 1 (by unfold locT; omega)]; exact h2, by rw [c 76 12 (by unfold locT; omega)]; exact h3, fun i hi => ?_⟩
  rw [c 2 i (by unfold locT; omega), c 83 i (by unfold locT; omega)]
  exact h4 i hi
def locW (a j : Nat) : Prop := (a = 0 ∧ j = 6) ∨ a = 63 ∨ (a = 76 ∧ j = 36) ∨ a = 95
theorem RW_fr {M M' : k_M} (c : ∀ a j : Nat, locW a j → M'.1 a j = M.1 a j) (h : RW M) : RW M' := by
  obtain ⟨n, h1, h2, h3, h4⟩ := h
  refine ⟨n, h1, by rw [c 0 6 (by unfold locW; omega)]; exact h2, by rw [c 76 36 (by unfold locW; omega)]; exact h3, fun i hi => ?_⟩
  rw [c 63 i (by unfold locW; omega), c 95 i (by unfold locW; omega)]
  exact h4 i hi
def locS (a : Nat) : Prop := a = 64 ∨ a = 65 ∨ a = 96 ∨ a = 97
theorem RS_fr {M M' : k_M} (c : ∀ a j : Nat, locS a → M'.1 a j = M.1 a j) (d : ∀ a j : Nat, (67 ≤ a ∧ a < 71) ∨ a = 98 → M'.2.1 a j = M.2.1 a j) (h : RS M) : RS M' := by
  intro s hs
  rw [c 64 s (by unfold locS; omega), c 65 s (by unfold locS; omega), c 96 s (by unfold locS; omega), c 97 s (by unfold locS; omega)]
  refine ⟨(h s hs).1, ?_⟩
  rcases (h s hs).2 with h1 | ⟨h1, h2, h3, h4⟩
  · exact .inl h1
  · exact .inr ⟨h1, h2, h3, fun i hi => by rw [d _ _ (by omega), d _ _ (by omega)]; exact h4 i hi⟩
def locF (a : Nat) : Prop := a = 71 ∨ a = 72 ∨ a = 73 ∨ a = 99 ∨ a = 100 ∨ a = 101
theorem RF_fr {M M' : k_M} (c : ∀ a j : Nat, locF a → M'.1 a j = M.1 a j) (h : RF M) : RF M' := by
  intro s hs
  rw [c 71 s (by unfold locF; omega), c 72 s (by unfold locF; omega), c 73 s (by unfold locF; omega), c 99 s (by unfold locF; omega), c 100 s (by unfold locF; omega), c 101 s (by unfold locF; omega)]
  exact h s hs
def locA (a j : Nat) : Prop := (a = 74 ∧ j = 1) ∨ a = 75 ∨ (a = 76 ∧ j = 47) ∨ a = 102
theorem RA_fr {M M' : k_M} (c : ∀ a j : Nat, locA a j → M'.1 a j = M.1 a j) (h : RA M) : RA M' := by
  obtain ⟨n, h1, h2, h3, h4⟩ := h
  refine ⟨n, h1, by rw [c 74 1 (by unfold locA; omega)]; exact h2, by rw [c 76 47 (by unfold locA; omega)]; exact h3, fun i hi => ?_⟩
  rw [c 75 i (by unfold locA; omega), c 102 i (by unfold locA; omega)]
  exact h4 i hi
theorem RB_fr {M M' : k_M} (c : ∀ j : Nat, M'.1 80 j = M.1 80 j) (hn : M.2.2.2 ≤ M'.2.2.2) (h : RB M) : RB M' := ⟨fun i hi => by rw [c i]; exact h.1 i hi, Nat.le_trans h.2 hn⟩
/-- places that no later call looks at -/
def scr (a j : Nat) : Prop := (a = 1 ∧ j ≠ 1) ∨ a = 17 ∨ a = 18 ∨ a = 37 ∨ a = 38 ∨ (43 ≤ a ∧ a < 63) ∨ (a = 74 ∧ j ≠ 1) ∨ (a = 76 ∧ ¬ (rlv j ∨ j = 12 ∨ j = 36 ∨ j = 47 ∨ j = 49)) ∨ (a = 82 ∧ 25 ≤ j) ∨ (84 ≤ a ∧ a < 95) ∨ a = 104
def FR (M M' : k_M) : Prop := (∀ a j : Nat, ¬ scr a j → M'.1 a j = M.1 a j) ∧ (∀ a j : Nat, a ≠ 76 → M'.2.1 a j = M.2.1 a j) ∧ (∀ a : Nat, a ≠ 61 → M'.2.2.1 a = M.2.2.1 a) ∧ M'.2.2.2 = M.2.2.2
theorem FR_rfl (M : k_M) : FR M M := ⟨fun _ _ _ => rfl, fun _ _ _ => rfl, fun _ _ => rfl, rfl⟩
theorem FR_tr {M N O : k_M} (h : FR M N) (g : FR N O) : FR M O := ⟨fun a j ha => (g.1 a j ha).trans (h.1 a j ha), fun a j ha => (g.2.1 a j ha).trans (h.2.1 a j ha), fun a ha => (g.2.2.1 a ha).trans (h.2.2.1 a ha), g.2.2.2.trans h.2.2.2⟩
theorem R_fr {M M' : k_M} (f : FR M M') (h : R M) : R M' := by
  obtain ⟨f1, f2, f3, f4⟩ := f
  obtain ⟨hN, hK, hT, hW, hS, hF, hA, hB⟩ := h
  have hn : M.2.2.2 ≤ M'.2.2.2 := by omega
  exact ⟨RN_fr (fun a j hl => f1 a j (by unfold locN rlv at hl; unfold scr rlv; omega)) (f3 _ (by omega)) hn hN, RK_fr (fun a j hl => f1 a j (by unfold locK at hl; unfold scr rlv; omega)) (f3 _ (by omega)) hn hK, RT_fr (fun a j hl => f1 a j (by unfold locT at hl; unfold scr rlv; omega)) hT, RW_fr (fun a j hl => f1 a j (by unfold locW at hl; unfold scr rlv; omega)) hW, RS_fr (fun a j hl => f1 a j (by unfold locS at hl; unfold scr rlv; omega)) (fun a j hl => f2 a j (by omega)) hS, RF_fr (fun a j hl => f1 a j (by unfold locF at hl; unfold scr rlv; omega)) hF, RA_fr (fun a j hl => f1 a j (by unfold locA at hl; unfold scr rlv; omega)) hA, RB_fr (fun j => f1 80 j (by unfold scr rlv; omega)) hn hB⟩
/-- what one call owes -/
def Call (x m : k_M → Option (Int32 × k_M)) : Prop := ∀ M : k_M, R M → ∃ (v : Int32) (M1 M2 : k_M), x M = some (v, M1) ∧ m M1 = some (v, M2) ∧ R M2
/-- only the plain, the city, the rules have changed -/
def chN (a j : Nat) : Prop := (3 ≤ a ∧ a < 23) ∨ (a = 76 ∧ rlv j) ∨ a = 77 ∨ a = 78 ∨ a = 79 ∨ a = 81 ∨ (a = 82 ∧ j < 25)
theorem R_N {M M' : k_M} (h : R M) (c : ∀ a j : Nat, ¬ scr a j → ¬ chN a j → a < 105 ∨ a < M.2.2.2 → M'.1 a j = M.1 a j) (d : ∀ a j : Nat, a ≠ 76 → M'.2.1 a j = M.2.1 a j) (hr : M'.2.2.1 41 = M.2.2.1 41) (hn : M.2.2.2 ≤ M'.2.2.2) (hN : RN M') : R M' := by
  obtain ⟨-, hK, hT, hW, hS, hF, hA, hB⟩ := h
  exact ⟨hN, RK_fr (fun a j hl => c a j (by unfold locK at hl; unfold scr rlv; omega) (by unfold locK at hl; unfold chN rlv; omega) (by unfold locK at hl; omega)) hr hn hK, RT_fr (fun a j hl => c a j (by unfold locT at hl; unfold scr rlv; omega) (by unfold locT at hl; unfold chN rlv; omega) (by unfold locT at hl; omega)) hT, RW_fr (fun a j hl => c a j (by unfold locW at hl; unfold scr rlv; omega) (by unfold locW at hl; unfold chN rlv; omega) (by unfold locW at hl; omega)) hW, RS_fr (fun a j hl => c a j (by unfold locS at hl; unfold scr rlv; omega) (by unfold locS at hl; unfold chN rlv; omega) (by unfold locS at hl; omega)) (fun a j hl => d a j (by omega)) hS, RF_fr (fun a j hl => c a j (by unfold locF at hl; unfold scr rlv; omega) (by unfold locF at hl; unfold chN rlv; omega) (by unfold locF at hl; omega)) hF, RA_fr (fun a j hl => c a j (by unfold locA at hl; unfold scr rlv; omega) (by unfold locA at hl; unfold chN rlv; omega) (by unfold locA at hl; omega)) hA, RB_fr (fun j => c 80 j (by unfold scr rlv; omega) (by unfold chN rlv; omega) (by omega)) hn hB⟩
theorem Bn_lt {x : Int32} {n : Nat} (h : Bn x n) : ∃ k : Nat, k < n + 1 ∧ x = Int32.ofNat k := by
  obtain ⟨k, h1, h2⟩ := h
  exact ⟨k, by omega, h2⟩
