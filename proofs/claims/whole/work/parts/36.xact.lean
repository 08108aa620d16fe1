/-! ===== the pure layer: the class's act, and its taking back ===== -/
theorem k_up_up {α : Type} (f : Nat → α) (i : Nat) (a b : α) : k_up (k_up f i a) i b = k_up f i b := by
  funext j
  unfold k_up
  by_cases h : j = i
  · rw [if_pos h, if_pos h]
  · rw [if_neg h, if_neg h, if_neg h]
theorem k_up_id {α : Type} (f : Nat → α) (i : Nat) {a : α} (h : a = f i) : k_up f i a = f := by
  funext j
  unfold k_up
  by_cases hj : j = i
  · rw [if_pos hj, h, hj]
  · rw [if_neg hj]
theorem k_up_cm {α : Type} (f : Nat → α) {i j : Nat} (a b : α) (h : i ≠ j) : k_up (k_up f i a) j b = k_up (k_up f j b) i a := by
  funext k
  unfold k_up
  by_cases h1 : k = i
  · rw [if_pos h1, if_neg (by omega), if_pos h1]
  · rw [if_neg h1]
    by_cases h2 : k = j
    · rw [if_pos h2, if_neg h1]
    · rw [if_neg h2, if_neg h1]
theorem eatR_1 (lw : Nat → Int32) (f : Nat) (d : Int32) (r : k_r) : eatR lw f d r 1 = r 1 + d := rfl
theorem eatR_2 (lw : Nat → Int32) (f : Nat) (d : Int32) (r : k_r) : eatR lw f d r 2 = r 2 - d * lw f := rfl
theorem eatR_3 (lw : Nat → Int32) (f : Nat) (d : Int32) (r : k_r) : eatR lw f d r 3 = r 3 - d * (lw (f + 1) + lw 7) := rfl
theorem eatR_4 (lw : Nat → Int32) (f : Nat) (d : Int32) (r : k_r) : eatR lw f d r 4 = r 4 - d * lw (f + 2) := rfl
theorem eatR_o (lw : Nat → Int32) (f : Nat) (d : Int32) (r : k_r) {j : Nat} (h : j = 0 ∨ 5 ≤ j) : eatR lw f d r j = r j := by
  unfold eatR
  rw [k_up_ne _ _ (by omega), k_up_ne _ _ (by omega), k_up_ne _ _ (by omega), k_up_ne _ _ (by omega)]
theorem eatR_up (lw : Nat → Int32) (f : Nat) (d : Int32) (r : k_r) {j : Nat} (v : Int32) (h : j = 0 ∨ 5 ≤ j) : k_up (eatR lw f d r) j v = eatR lw f d (k_up r j v) := by
  unfold eatR
  rw [k_up_cm _ _ _ (show 4 ≠ j by omega), k_up_cm _ _ _ (show 3 ≠ j by omega), k_up_cm _ _ _ (show 2 ≠ j by omega), k_up_cm _ _ _ (show 1 ≠ j by omega), k_up_ne _ _ (show 1 ≠ j by omega), k_up_ne _ _ (show 2 ≠ j by omega), k_up_ne _ _ (show 3 ≠ j by omega), k_up_ne _ _ (show 4 ≠ j by omega)]
/-- the class's memory with another row in the World at w -/
def stX (M : k_M) (w : Nat) (r : k_r) : k_M := (fun a j => if a = w ∧ j = 4 then r 0 else if a = w ∧ j = 5 then r 1 else if a = w + 17 ∧ j < 3 then r (2 + j) else if a = w + 5 ∧ j < 8 then r (5 + j) else if a = w + 12 ∧ j < 12 then r (13 + j) else M.1 a j, M.2)
section
variable {M : k_M} {w : Nat} {r : k_r}
theorem stX_4 : (stX M w r).1 w 4 = r 0 := if_pos ⟨rfl, rfl⟩
theorem stX_5 : (stX M w r).1 w 5 = r 1 := by
  show (if _ then _ else _) = _
  rw [if_neg (by omega), if_pos ⟨rfl, rfl⟩]
theorem stX_s {j : Nat} (h : j < 3) : (stX M w r).1 (w + 17) j = r (2 + j) := by
  show (if _ then _ else _) = _
  rw [if_neg (by omega), if_neg (by omega), if_pos ⟨rfl, h⟩]
theorem stX_l {j : Nat} (h : j < 8) : (stX M w r).1 (w + 5) j = r (5 + j) := by
  show (if _ then _ else _) = _
  rw [if_neg (by omega), if_neg (by omega), if_neg (by omega), if_pos ⟨rfl, h⟩]
theorem stX_b {j : Nat} (h : j < 12) : (stX M w r).1 (w + 12) j = r (13 + j) := by
  show (if _ then _ else _) = _
  rw [if_neg (by omega), if_neg (by omega), if_neg (by omega), if_neg (by omega), if_pos ⟨rfl, h⟩]
/-- where a row stands -/
def onX (w a j : Nat) : Prop := (a = w ∧ (j = 4 ∨ j = 5)) ∨ (a = w + 17 ∧ j < 3) ∨ (a = w + 5 ∧ j < 8) ∨ (a = w + 12 ∧ j < 12)
theorem stX_o {a j : Nat} (h : ¬ onX w a j) : (stX M w r).1 a j = M.1 a j := by
  unfold onX at h
  show (if _ then _ else _) = _
  rw [if_neg (by omega), if_neg (by omega), if_neg (by omega), if_neg (by omega), if_neg (by omega)]
theorem stX_c {i j : Nat} (h : i ≠ 0 ∧ i ≠ 5 ∧ i ≠ 12 ∧ i ≠ 17) : (stX M w r).1 (w + i) j = M.1 (w + i) j := stX_o (by unfold onX; omega)
theorem stX_z {j : Nat} (h : j ≠ 4 ∧ j ≠ 5) : (stX M w r).1 w j = M.1 w j := stX_o (by unfold onX; omega)
theorem stX_2 : (stX M w r).2 = M.2 := rfl
theorem stX_uni {N : k_M} (h4 : N.1 w 4 = r 0) (h5 : N.1 w 5 = r 1) (hs : ∀ j, j < 3 → N.1 (w + 17) j = r (2 + j)) (hl : ∀ j, j < 8 → N.1 (w + 5) j = r (5 + j)) (hb : ∀ j, j < 12 → N.1 (w + 12) j = r (13 + j)) (ho : ∀ a j, ¬ onX w a j → N.1 a j = M.1 a j) (h2 : N.2 = M.2) : N = stX M w r := by
  refine kM_ext (fun a j => ?_) h2
  by_cases h : onX w a j
  · unfold onX at h
    rcases h with ⟨rfl, rfl | rfl⟩ | ⟨rfl, h⟩ | ⟨rfl, h⟩ | ⟨rfl, h⟩
    · rw [stX_4, h4]
    · rw [stX_5, h5]
    · rw [stX_s h, hs j h]
    · rw [stX_l h, hl j h]
    · rw [stX_b h, hb j h]
  · rw [stX_o h, ho a j h]
theorem stX_w0 (v : Int32) : sI (stX M w r) w 4 v = stX M w (k_up r 0 v) := stX_uni (by rw [sI_g, if_pos (by omega)]; rfl) (by rw [sI_g, if_neg (by omega), stX_5, k_up_ne _ _ (by omega)]) (fun j h => by rw [sI_g, if_neg (by omega), stX_s h, k_up_ne _ _ (by omega)]) (fun j h => by rw [sI_g, if_neg (by omega), stX_l h, k_up_ne _ _ (by omega)]) (fun j h => by rw [sI_g, if_neg (by omega), stX_b h, k_up_ne _ _ (by omega)]) (fun a j h => by rw [sI_g, if_neg (by unfold onX at h; omega), stX_o h]) rfl
theorem stX_w1 (v : Int32) : sI (stX M w r) w 5 v = stX M w (k_up r 1 v) := stX_uni (by rw [sI_g, if_neg (by omega), stX_4, k_up_ne _ _ (by omega)]) (by rw [sI_g, if_pos (by omega)]; rfl) (fun j h => by rw [sI_g, if_neg (by omega), stX_s h, k_up_ne _ _ (by omega)]) (fun j h => by rw [sI_g, if_neg (by omega), stX_l h, k_up_ne _ _ (by omega)]) (fun j h => by rw [sI_g, if_neg (by omega), stX_b h, k_up_ne _ _ (by omega)]) (fun a j h => by rw [sI_g, if_neg (by unfold onX at h; omega), stX_o h]) rfl
theorem up_at {i j c : Nat} (v : Int32) : (if i = j then v else r (c + i)) = k_up r (c + j) v (c + i) := by
  unfold k_up
  by_cases h : i = j
  · rw [if_pos h, if_pos (by omega)]
  · rw [if_neg h, if_neg (by omega)]
theorem stX_ws {k : Nat} (v : Int32) (hk : k < 3) : sI (stX M w r) (w + 17) k v = stX M w (k_up r (2 + k) v) := stX_uni (by rw [sI_g, if_neg (by omega), stX_4, k_up_ne _ _ (by omega)]) (by rw [sI_g, if_neg (by omega), stX_5, k_up_ne _ _ (by omega)]) (fun j h => by rw [sI_g, stX_s h, ← up_at]; simp only [true_and]) (fun j h => by rw [sI_g, if_neg (by omega), stX_l h, k_up_ne _ _ (by omega)]) (fun j h => by rw [sI_g, if_neg (by omega), stX_b h, k_up_ne _ _ (by omega)]) (fun a j h => by rw [sI_g, if_neg (by unfold onX at h; omega), stX_o h]) rfl
theorem stX_wl {k : Nat} (v : Int32) (hk : k < 8) : sI (stX M w r) (w + 5) k v = stX M w (k_up r (5 + k) v) := stX_uni (by rw [sI_g, if_neg (by omega), stX_4, k_up_ne _ _ (by omega)]) (by rw [sI_g, if_neg (by omega), stX_5, k_up_ne _ _ (by omega)]) (fun j h => by rw [sI_g, if_neg (by omega), stX_s h, k_up_ne _ _ (by omega)]) (fun j h => by rw [sI_g, stX_l h, ← up_at]; simp only [true_and]) (fun j h => by rw [sI_g, if_neg (by omega), stX_b h, k_up_ne _ _ (by omega)]) (fun a j h => by rw [sI_g, if_neg (by unfold onX at h; omega), stX_o h]) rfl
theorem stX_wb {k : Nat} (v : Int32) (hk : k < 12) : sI (stX M w r) (w + 12) k v = stX M w (k_up r (13 + k) v) := stX_uni (by rw [sI_g, if_neg (by omega), stX_4, k_up_ne _ _ (by omega)]) (by rw [sI_g, if_neg (by omega), stX_5, k_up_ne _ _ (by omega)]) (fun j h => by rw [sI_g, if_neg (by omega), stX_s h, k_up_ne _ _ (by omega)]) (fun j h => by rw [sI_g, if_neg (by omega), stX_l h, k_up_ne _ _ (by omega)]) (fun j h => by rw [sI_g, stX_b h, ← up_at]; simp only [true_and]) (fun a j h => by rw [sI_g, if_neg (by unfold onX at h; omega), stX_o h]) rfl
theorem stX_stX (r' : k_r) : stX (stX M w r) w r' = stX M w r' := stX_uni stX_4 stX_5 (fun _ h => stX_s h) (fun _ h => stX_l h) (fun _ h => stX_b h) (fun a j h => by rw [stX_o h, stX_o h]) rfl
end
def rwX (M : k_M) (w : Nat) : k_r := fun k => if k = 0 then M.1 w 4 else if k = 1 then M.1 w 5 else if k < 5 then M.1 (w + 17) (k - 2) else if k < 13 then M.1 (w + 5) (k - 5) else M.1 (w + 12) (k - 13)
theorem stX_self (M : k_M) (w : Nat) : M = stX M w (rwX M w) := by
  refine stX_uni rfl rfl (fun j h => ?_) (fun j h => ?_) (fun j h => ?_) (fun _ _ _ => rfl) rfl
  · unfold rwX
    rw [if_neg (by omega), if_neg (by omega), if_pos (by omega), Nat.add_sub_cancel_left]
  · unfold rwX
    rw [if_neg (by omega), if_neg (by omega), if_neg (by omega), if_pos (by omega), Nat.add_sub_cancel_left]
  · unfold rwX
    rw [if_neg (by omega), if_neg (by omega), if_neg (by omega), if_neg (by omega), Nat.add_sub_cancel_left]
