/-! ===== the pure layer: acts of rules, and what ran ===== -/
def tX (M : k_M) (l : List Int32) (pt : Int32) : k_M := (fun a j => if a = 74 ∧ j = 1 then Int32.ofNat l.length else if a = 74 ∧ j = 2 then pt else if a = 75 ∧ j < l.length then l.getD j 0 else M.1 a j, M.2)
def tM (M : k_M) (l : List Int32) : k_M := (fun a j => if a = 76 ∧ j = 47 then Int32.ofNat l.length else if a = 102 ∧ j < l.length then l.getD j 0 else M.1 a j, M.2)
section
variable {M : k_M} {l : List Int32} {pt : Int32}
theorem tX_u (a j : Nat) : (tX M l pt).1 a j = if a = 74 ∧ j = 1 then Int32.ofNat l.length else if a = 74 ∧ j = 2 then pt else if a = 75 ∧ j < l.length then l.getD j 0 else M.1 a j := rfl
theorem tM_u (a j : Nat) : (tM M l).1 a j = if a = 76 ∧ j = 47 then Int32.ofNat l.length else if a = 102 ∧ j < l.length then l.getD j 0 else M.1 a j := rfl
theorem tX_1 : (tX M l pt).1 74 1 = Int32.ofNat l.length := by rw [tX_u, if_pos ⟨rfl, rfl⟩]
theorem tX_p : (tX M l pt).1 74 2 = pt := by
  rw [tX_u, if_neg (by omega), if_pos ⟨rfl, rfl⟩]
theorem tX_q {a j : Nat} (h : a ≠ 74 ∧ a ≠ 75) : (tX M l pt).1 a j = M.1 a j := by
  rw [tX_u, if_neg (by omega), if_neg (by omega), if_neg (by omega)]
theorem tX_b {j : Nat} (h : j < l.length) : (tX M l pt).1 75 j = l.getD j 0 := by
  rw [tX_u, if_neg (by omega), if_neg (by omega), if_pos ⟨rfl, h⟩]
theorem getD_ap {l : List Int32} {b : Int32} {j : Nat} (hj : j < l.length + 1) : (l ++ [b]).getD j 0 = if j = l.length then b else l.getD j 0 := by
  rw [List.getD_eq_getElem?_getD, List.getD_eq_getElem?_getD]
  by_cases h : j = l.length
  · rw [if_pos h, h, List.getElem?_append_right (Nat.le_refl _), Nat.sub_self]
    rfl
  · rw [if_neg h, List.getElem?_append_left (by omega)]
theorem tX_add {b : Int32} (h : l.length < 30) : sI (sI (tX M l pt) 75 l.length b) 74 1 (Int32.ofNat (l.length + 1)) = tX M (l ++ [b]) pt := by
  have hl : (l ++ [b]).length = l.length + 1 := by rw [List.length_append]; rfl
  refine kM_ext (fun a j => ?_) rfl
  rw [sI_g, sI_g, tX_u, tX_u]
  by_cases h1 : a = 74 ∧ j = 1
  · rw [if_pos h1, if_pos h1, hl]
  · simp only [if_neg h1]
    by_cases h2 : a = 75 ∧ j = l.length
    · rw [if_pos h2, if_neg (by omega), if_pos (by rw [hl]; omega), getD_ap (by omega), if_pos h2.2]
    · rw [if_neg h2]
      by_cases h3 : a = 74 ∧ j = 2
      · rw [if_pos h3, if_pos h3]
      · rw [if_neg h3, if_neg h3]
        by_cases h4 : a = 75 ∧ j < l.length
        · rw [if_pos h4, if_pos (by rw [hl]; omega), getD_ap (by omega), if_neg (by omega)]
        · rw [if_neg h4, if_neg (by rw [hl]; omega)]
theorem begin0 (b : Int32) (h : l.length < 30) : f_X9_begin b (tX M l 0) = some ((), tX M (l ++ [b]) 0) := by
  unfold f_X9_begin
  rw [tX_p, if_pos rfl, tX_1, if_neg (by rw [o_lle (by omega) (by omega)]; omega), wrI_o (by omega) (by omega), bN_e, sI_g, if_neg (by omega), tX_1, o_addl]
  rw [show sI (sI (tX M l 0) 75 l.length b) 74 1 (Int32.ofNat (l.length + 1)) = _ from tX_add h]
theorem begin1 (b : Int32) : f_X9_begin b (tX M l 1) = some ((), tX M l 1) := by
  unfold f_X9_begin
  rw [tX_p, if_neg (by decide)]
theorem rolls0 {a : Nat} (ha : 105 ≤ a) (hn : a < M.2.2.2) (x : Int32) (h : l.length < 30) : f_X6_rolls a x (tX M l 0) = some (x + M.1 a 1, tX M (l ++ [10]) 0) := by
  unfold f_X6_rolls f_X6_rolls_37
  rw [tX_p, if_pos rfl, tX_1, if_neg (by rw [o_lle (by omega) (by omega)]; omega), wrI_o (by omega) (by omega), bN_e, sI_g, if_neg (by omega), tX_1, o_addl]
  rw [show sI (sI (tX M l 0) 75 l.length 10) 74 1 (Int32.ofNat (l.length + 1)) = _ from tX_add h, gRl_e (M := tX M (l ++ [10]) 0) ha hn, tX_q (by omega)]
theorem rolls1 {a : Nat} (ha : 105 ≤ a) (hn : a < M.2.2.2) (x : Int32) : f_X6_rolls a x (tX M l 1) = some (x + M.1 a 1, tX M l 1) := by
  unfold f_X6_rolls f_X6_rolls_37
  rw [tX_p, if_neg (by decide), gRl_e (M := tX M l 1) ha hn, tX_q (by omega)]
theorem isRl_t {β : Type} {a : Nat} {k : Option β} (h : 105 ≤ a) (h2 : a < M.2.2.2) : isRl (tX M l pt) a k = k := if_pos ⟨h, h2⟩
theorem gRl_t {β : Type} {a j : Nat} {k : Int32 → Option β} (h : 105 ≤ a) (h2 : a < M.2.2.2) : gRl (tX M l pt) a j k = k (M.1 a j) := by
  rw [gRl_e (M := tX M l pt) h h2, tX_q (by omega)]
theorem tX_par : sI (tX M l 0) 74 2 1 = tX M l 1 := by
  refine kM_ext (fun a j => ?_) rfl
  rw [sI_g, tX_u, tX_u]
  by_cases h1 : a = 74 ∧ j = 2
  · rw [if_pos h1, if_neg (by omega), if_pos h1]
  · rw [if_neg h1, if_neg h1, if_neg h1]
theorem tM_1 : (tM M l).1 76 47 = Int32.ofNat l.length := by rw [tM_u, if_pos ⟨rfl, rfl⟩]
theorem tM_f {j : Nat} (h : j ≠ 47) : (tM M l).1 76 j = M.1 76 j := by
  rw [tM_u, if_neg (by omega), if_neg (by omega)]
theorem tM_q {a j : Nat} (h : a ≠ 76 ∧ a ≠ 102) : (tM M l).1 a j = M.1 a j := by
  rw [tM_u, if_neg (by omega), if_neg (by omega)]
theorem tM_b {j : Nat} (h : j < l.length) : (tM M l).1 102 j = l.getD j 0 := by
  rw [tM_u, if_neg (by omega), if_pos ⟨rfl, h⟩]
theorem ran_e (b : Int32) (h : l.length < 30) : f_X12_ran b (tM M l) = some ((), tM M (l ++ [b])) := by
  have hl : (l ++ [b]).length = l.length + 1 := by rw [List.length_append]; rfl
  unfold f_X12_ran
  rw [tM_1, if_neg (by rw [o_lle (by omega) (by omega)]; omega), wrI_o (by omega) (by omega), bN_e, sI_g, if_neg (by omega), tM_1, o_addl]
  refine congrArg (fun q => some ((), q)) (kM_ext (fun a j => ?_) rfl)
  rw [sI_g, sI_g, tM_u, tM_u]
  by_cases h1 : a = 76 ∧ j = 47
  · rw [if_pos h1, if_pos h1, hl]
  · simp only [if_neg h1]
    by_cases h2 : a = 102 ∧ j = l.length
    · rw [if_pos h2, if_pos (by rw [hl]; omega), getD_ap (by omega), if_pos h2.2]
    · rw [if_neg h2]
      by_cases h4 : a = 102 ∧ j < l.length
      · rw [if_pos h4, if_pos (by rw [hl]; omega), getD_ap (by omega), if_neg (by omega)]
      · rw [if_neg h4, if_neg (by rw [hl]; omega)]
theorem tM_par : sI (tM M l) 76 48 1 = tM (sI M 76 48 1) l := by
  refine kM_ext (fun a j => ?_) rfl
  rw [sI_g, tM_u, tM_u]
  by_cases h1 : a = 76 ∧ j = 48
  · rw [if_pos h1, if_neg (by omega), if_neg (by omega), sI_g, if_pos h1]
  · rw [if_neg h1, sI_g, if_neg h1]
end
theorem kt1 : k_tag (Int32.ofNat 1) = 1 := by decide
theorem kt2 : k_tag (Int32.ofNat 2) = 4 := by decide
theorem kt3 : k_tag (Int32.ofNat 3) = 3 := by decide
theorem kt4 : k_tag (Int32.ofNat 4) = 0 := by decide
theorem kt5 : k_tag (Int32.ofNat 5) = 6 := by decide
theorem sub_z {a b : Int32} (h : ¬ a = b) : ¬ a - b = 0 := by
  intro hh
  apply h
  have := Int32.sub_add_cancel a b
  rw [hh, Int32.zero_add] at this
  exact this.symm
/-- what an act answers, and what runs -/
def vr (k : Nat) (nm x : Int32) : Int32 := if k = 1 then 0 - (x + nm) else if k = 4 then (x + nm) * 3 else x + nm
def tr (k : Nat) : List Int32 := if k = 1 then [20, 10] else if k = 4 then [50, 10] else [10]
def ve (k : Nat) (nm a x : Int32) : Int32 := if k = 4 then (vr k nm x * 2 - a) + vr k nm nm else if k = 2 then vr k nm x * 2 - a else vr k nm x * 2
def te (k : Nat) : List Int32 := if k = 4 then [51, 30, 11] ++ tr 4 ++ tr 4 else if k = 2 then [30, 11] ++ tr 2 else [11] ++ tr k
section
variable {M N : k_M} {a0 k : Nat} {nm a : Int32} {l : List Int32}
theorem len_ap (l m : List Int32) : (l ++ m).length = l.length + m.length := List.length_append
theorem X_rolls (ha : 105 ≤ a0) (hn : a0 < M.2.2.2) (h1 : M.1 a0 1 = nm) (h3 : M.1 a0 3 = Int32.ofNat k) (hk1 : 1 ≤ k) (hk5 : k ≤ 5) (hl : l.length ≤ 28) (x : Int32) : vd_Rule_rolls a0 x (tX M l 0) = some (vr k nm x, tX M (l ++ tr k) 0) := by
  have hc : k = 1 ∨ k = 2 ∨ k = 3 ∨ k = 4 ∨ k = 5 := by omega
  have q1 : ∀ b : Int32, (l ++ [b]).length < 30 := fun b => by rw [len_ap]; exact Nat.lt_of_le_of_lt (Nat.add_le_add_right hl 1) (by decide)
  have q2 : l.length < 30 := by omega
  have ap : ∀ b c : Int32, l ++ [b] ++ [c] = l ++ [b, c] := fun b c => by rw [List.append_assoc]; rfl
  unfold vd_Rule_rolls
  rw [isRl_t ha hn, tX_q (by omega), h3]
  rcases hc with rfl | rfl | rfl | rfl | rfl
  · rw [kt1, if_pos rfl]
    unfold f_X2_rolls
    rw [begin0 _ q2, bd_s, isRl_t ha hn, rolls0 ha hn _ (q1 _), bd_s, h1, ap]
    rfl
  · rw [kt2, if_neg (by omega), if_pos rfl, rolls0 ha hn _ q2, h1]
    rfl
  · rw [kt3, if_neg (by omega), if_neg (by omega), if_pos rfl, rolls0 ha hn _ q2, h1]
    rfl
  · rw [kt4, if_neg (by omega), if_neg (by omega), if_neg (by omega), if_pos rfl]
    unfold f_X1_rolls
    rw [begin0 _ q2, bd_s, isRl_t ha hn, rolls0 ha hn _ (q1 _), bd_s, h1, ap]
    rfl
  · rw [kt5, if_neg (by omega), if_neg (by omega), if_neg (by omega), if_neg (by omega), rolls0 ha hn _ q2, h1]
    rfl
theorem M_rolls (m3 : N.1 76 43 = Int32.ofNat k) (m4 : N.1 76 44 = nm) (hk1 : 1 ≤ k) (hk5 : k ≤ 5) (hl : l.length ≤ 28) (x : Int32) : f_X12_rollsIt x (tM N l) = some (vr k nm x, tM N (l ++ tr k)) := by
  have hc : k = 1 ∨ k = 2 ∨ k = 3 ∨ k = 4 ∨ k = 5 := by omega
  have q1 : ∀ b : Int32, (l ++ [b]).length < 30 := fun b => by rw [len_ap]; exact Nat.lt_of_le_of_lt (Nat.add_le_add_right hl 1) (by decide)
  have q2 : l.length < 30 := by omega
  have ap : ∀ b c : Int32, l ++ [b] ++ [c] = l ++ [b, c] := fun b c => by rw [List.append_assoc]; rfl
  unfold f_X12_rollsIt f_X12_rollsIt_27 f_X12_rollsIt_37
  rw [tM_f (by omega), m3]
  rcases hc with rfl | rfl | rfl | rfl | rfl
  · rw [if_pos (by decide), if_neg (by decide), ran_e _ q2, bd_s, ran_e _ (q1 _), bd_s, tM_f (by omega), m4, bN_e, if_pos rfl, ap]
    rfl
  · rw [if_neg (by decide), if_neg (by decide), if_pos (by decide), ran_e _ q2, bd_s, tM_f (by omega), m4, bN_e, if_neg (by decide), if_neg (by decide)]
    rfl
  · rw [if_neg (by decide), if_neg (by decide), if_pos (by decide), ran_e _ q2, bd_s, tM_f (by omega), m4, bN_e, if_neg (by decide), if_neg (by decide)]
    rfl
  · rw [if_neg (by decide), if_pos (by decide), if_neg (by decide), ran_e _ q2, bd_s, ran_e _ (q1 _), bd_s, tM_f (by omega), m4, bN_e, if_neg (by decide), if_pos rfl, ap]
    rfl
  · rw [if_neg (by decide), if_neg (by decide), if_pos (by decide), ran_e _ q2, bd_s, tM_f (by omega), m4, bN_e, if_neg (by decide), if_neg (by decide)]
    rfl
theorem tr_len (k : Nat) : (tr k).length ≤ 2 := by
  unfold tr
  repeat' split
  all_goals decide
theorem te_len (k : Nat) : (te k).length ≤ 7 := by
  unfold te
  split
  · decide
  · split
    · decide
    · rw [len_ap]
      have := tr_len k
      have e : ([11] : List Int32).length = 1 := rfl
      omega
theorem one_len (b : Int32) : ([b] : List Int32).length = 1 := rfl
theorem X_eats (ha : 105 ≤ a0) (hn : a0 < M.2.2.2) (h1 : M.1 a0 1 = nm) (h2 : M.1 a0 2 = a) (h3 : M.1 a0 3 = Int32.ofNat k) (hk1 : 1 ≤ k) (hk5 : k ≤ 5) (hl : l.length ≤ 20) (x : Int32) : vd_Rule_eats a0 x (tX M l 0) = some (ve k nm a x, tX M (l ++ te k) 0) := by
  have hc : k = 1 ∨ k = 2 ∨ k = 3 ∨ k = 4 ∨ k = 5 := by omega
  have hb := fun (l : List Int32) (h : l.length ≤ 28) (x : Int32) => X_rolls (M := M) (l := l) ha hn h1 h3 hk1 hk5 h x
  have p6 : ∀ (l : List Int32), l.length ≤ 24 → f_X6_eats a0 x (tX M l 0) = some (vr k nm x * 2, tX M (l ++ [11] ++ tr k) 0) := fun l h => by
    unfold f_X6_eats
    rw [begin0 _ (by omega), bd_s, hb _ (by rw [len_ap, one_len]; omega), bd_s]
  have p5 : ∀ (l : List Int32), l.length ≤ 22 → f_X5_eats a0 x (tX M l 0) = some (vr k nm x * 2 - a, tX M (l ++ [30] ++ [11] ++ tr k) 0) := fun l h => by
    unfold f_X5_eats
    rw [begin0 _ (by omega), bd_s, isRl_t ha hn, p6 _ (by rw [len_ap, one_len]; omega), bd_s, gRl_t ha hn, h2]
  unfold vd_Rule_eats
  rw [isRl_t ha hn, tX_q (by omega), h3]
  rcases hc with rfl | rfl | rfl | rfl | rfl
  · rw [kt1, if_pos rfl, p6 _ (by omega), List.append_assoc]
    rfl
  · rw [kt2, if_neg (by omega), if_pos rfl, p5 _ (by omega), List.append_assoc, List.append_assoc]
    rfl
  · rw [kt3, if_neg (by omega), if_neg (by omega), if_pos rfl, p6 _ (by omega), List.append_assoc]
    rfl
  · rw [kt4, if_neg (by omega), if_neg (by omega), if_neg (by omega), if_pos rfl]
    have t4 := tr_len 4
    unfold f_X1_eats
    rw [begin0 _ (by omega), bd_s, isRl_t ha hn, p5 _ (by rw [len_ap, one_len]; omega), bd_s, gRl_t ha hn, h1]
    have e : ∀ (l : List Int32) (y : Int32), l.length ≤ 28 → vd_Best_rolls a0 y (tX M l 0) = some (vr 4 nm y, tX M (l ++ tr 4) 0) := fun l y h => by
      have := hb l h y
      unfold vd_Rule_rolls at this
      unfold vd_Best_rolls
      rw [isRl_t ha hn, tX_q (by omega), h3, kt4] at this ⊢
      rw [if_neg (by omega), if_neg (by omega), if_neg (by omega)] at this
      exact this
    rw [e _ _ (by rw [len_ap, len_ap, len_ap, len_ap, one_len, one_len, one_len]; omega), bd_s, List.append_assoc, List.append_assoc, List.append_assoc, List.append_assoc]
    rfl
  · rw [kt5, if_neg (by omega), if_neg (by omega), if_neg (by omega), if_neg (by omega), p6 _ (by omega), List.append_assoc]
    rfl
theorem M_eats (m3 : N.1 76 43 = Int32.ofNat k) (m4 : N.1 76 44 = nm) (m5 : N.1 76 45 = a) (hk1 : 1 ≤ k) (hk5 : k ≤ 5) (hl : l.length ≤ 20) (x : Int32) : f_X12_eatsIt x (tM N l) = some (ve k nm a x, tM N (l ++ te k)) := by
  have hc : k = 1 ∨ k = 2 ∨ k = 3 ∨ k = 4 ∨ k = 5 := by omega
  have hb := fun (l : List Int32) (h : l.length ≤ 28) (x : Int32) => M_rolls (N := N) (l := l) m3 m4 hk1 hk5 h x
  have p6 : ∀ (l : List Int32), l.length ≤ 24 → f_X12_plainEats x (tM N l) = some (vr k nm x * 2, tM N (l ++ [11] ++ tr k)) := fun l h => by
    unfold f_X12_plainEats
    rw [ran_e _ (by omega), bd_s, hb _ (by rw [len_ap, one_len]; omega), bd_s]
  have p5 : ∀ (l : List Int32), l.length ≤ 22 → f_X12_nearEats x (tM N l) = some (vr k nm x * 2 - a, tM N (l ++ [30] ++ [11] ++ tr k)) := fun l h => by
    unfold f_X12_nearEats
    rw [ran_e _ (by omega), bd_s, p6 _ (by rw [len_ap, one_len]; omega), bd_s, tM_f (by omega), m5]
  unfold f_X12_eatsIt
  rw [tM_f (by omega), m3]
  rcases hc with rfl | rfl | rfl | rfl | rfl
  · rw [if_neg (by decide), if_neg (by decide), p6 _ (by omega), bd_s, List.append_assoc]
    rfl
  · rw [if_neg (by decide), if_pos (by decide), p5 _ (by omega), bd_s, List.append_assoc, List.append_assoc]
    rfl
  · rw [if_neg (by decide), if_neg (by decide), p6 _ (by omega), bd_s, List.append_assoc]
    rfl
  · have t4 := tr_len 4
    rw [if_pos (by decide), ran_e _ (by omega), bd_s, p5 _ (by rw [len_ap, one_len]; omega), bd_s, tM_f (by omega), m4, hb _ (by rw [len_ap, len_ap, len_ap, len_ap, one_len, one_len, one_len]; omega), bd_s, List.append_assoc, List.append_assoc, List.append_assoc, List.append_assoc]
    rfl
  · rw [if_neg (by decide), if_neg (by decide), p6 _ (by omega), bd_s, List.append_assoc]
    rfl
end
