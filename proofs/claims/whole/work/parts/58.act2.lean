/-! ===== the pure layer: shares, tells; act, taken ===== -/
section
variable {M N : k_M} {a0 k : Nat} {nm a : Int32} {l : List Int32}
theorem X_sh (ha : 105 ≤ a0) (hn : a0 < M.2.2.2) (h1 : M.1 a0 1 = nm) (h2 : M.1 a0 2 = a) (hne : ¬ a = nm) (hl : l.length ≤ 28) (x : Int32) : f_X6_shares a0 x (tX M l 0) = some (x / (a - nm), tX M (l ++ [12]) 0) := by
  unfold f_X6_shares
  rw [begin0 _ (by omega), bd_s, gRl_t ha hn, gRl_t ha hn, h1, h2, bN_e, if_neg (sub_z hne)]
  unfold dv
  rw [if_neg (sub_z hne)]
theorem X_shp (ha : 105 ≤ a0) (hn : a0 < M.2.2.2) (h1 : M.1 a0 1 = nm) (h2 : M.1 a0 2 = nm) (hl : l.length ≤ 28) (x : Int32) : f_X6_shares a0 x (tX M l 0) = some (0, tX M (l ++ [12]) 1) := by
  unfold f_X6_shares
  rw [begin0 _ (by omega), bd_s, gRl_t ha hn, gRl_t ha hn, h1, h2, bN_e, if_pos (Int32.sub_self _), bN_e, tX_par]
theorem M_sh (m4 : N.1 76 44 = nm) (m5 : N.1 76 45 = a) (hne : ¬ a = nm) (hl : l.length ≤ 28) (x : Int32) : f_X12_plainShares x (tM N l) = some (x / (a - nm), tM N (l ++ [12])) := by
  unfold f_X12_plainShares
  rw [ran_e _ (by omega), bd_s, tM_f (by omega), tM_f (by omega), m4, m5, if_neg hne]
  unfold dv
  rw [if_neg (sub_z hne)]
theorem M_shp (m4 : N.1 76 44 = nm) (m5 : N.1 76 45 = nm) (hl : l.length ≤ 28) (x : Int32) : f_X12_plainShares x (tM N l) = some (0, tM (sI N 76 48 1) (l ++ [12])) := by
  unfold f_X12_plainShares
  rw [ran_e _ (by omega), bd_s, tM_f (by omega), tM_f (by omega), m4, m5, if_pos rfl, bN_e, tM_par]
/-- the two runs end alike -/
def AR (M N : k_M) (xr mr : Option (Int32 × k_M)) : Prop := (∃ v l, l.length ≤ 30 ∧ xr = some (v, tX M l 0) ∧ mr = some (v, tM N l)) ∨ (∃ v v' l, l.length ≤ 30 ∧ xr = some (v, tX M l 1) ∧ mr = some (v', tM (sI N 76 48 1) l))
theorem AR_shares (ha : 105 ≤ a0) (hn : a0 < M.2.2.2) (h1 : M.1 a0 1 = nm) (h2 : M.1 a0 2 = a) (h3 : M.1 a0 3 = Int32.ofNat k) (hk1 : 1 ≤ k) (hk5 : k ≤ 5) (m3 : N.1 76 43 = Int32.ofNat k) (m4 : N.1 76 44 = nm) (m5 : N.1 76 45 = a) (m8 : N.1 76 48 = 0) (x : Int32) : AR M N (vd_Rule_shares a0 x (tX M [] 0)) (f_X12_sharesIt x (tM N [])) := by
  have hc : k = 1 ∨ k = 2 ∨ k = 3 ∨ k = 4 ∨ k = 5 := by omega
  have z0 : ([] : List Int32).length ≤ 28 := by decide
  have z1 : ([] : List Int32).length < 30 := by decide
  unfold vd_Rule_shares f_X12_sharesIt
  rw [isRl_t ha hn, tX_q (by omega), h3, tM_f (by omega), m3]
  have plain : AR M N (f_X6_shares a0 x (tX M [] 0)) (bd (f_X12_plainShares x (tM N [])) (fun r1 M2 => some (r1, M2))) := by
    by_cases hne : a = nm
    · subst hne
      rw [X_shp ha hn h1 h2 z0, M_shp m4 m5 z0, bd_s]
      exact .inr ⟨_, _, _, by decide, rfl, rfl⟩
    · rw [X_sh ha hn h1 h2 hne z0, M_sh m4 m5 hne z0, bd_s]
      exact .inl ⟨_, _, by decide, rfl, rfl⟩
  rcases hc with rfl | rfl | rfl | rfl | rfl
  · rw [kt1, if_pos rfl, if_neg (by decide), if_neg (by decide)]
    exact plain
  · rw [kt2, if_neg (by omega), if_pos rfl, if_neg (by decide), if_neg (by decide)]
    exact plain
  · rw [kt3, if_neg (by omega), if_neg (by omega), if_pos rfl, if_neg (by decide), if_pos (by decide)]
    unfold f_X4_shares f_X12_loopShares
    rw [begin0 _ z1, bd_s, isRl_t ha hn, ran_e _ z1, bd_s]
    by_cases hne : a = nm
    · subst hne
      rw [X_shp ha hn h1 h2 (by decide), M_shp m4 m5 (by decide), bd_s, bd_s, bd_s]
      exact .inr ⟨_, _, _, by decide, rfl, rfl⟩
    · rw [X_sh ha hn h1 h2 hne (by decide), M_sh m4 m5 hne (by decide), bd_s, bd_s, bd_s]
      exact .inl ⟨_, _, by decide, rfl, rfl⟩
  · rw [kt4, if_neg (by omega), if_neg (by omega), if_neg (by omega), if_pos rfl, if_neg (by decide), if_neg (by decide)]
    exact plain
  · rw [kt5, if_neg (by omega), if_neg (by omega), if_neg (by omega), if_neg (by omega), if_pos (by decide)]
    unfold f_X8_shares f_X4_shares f_X12_loopShares
    rw [begin0 _ z1, bd_s, isRl_t ha hn, begin0 _ (by decide), bd_s, isRl_t ha hn, ran_e _ z1, bd_s, ran_e _ (by decide), bd_s]
    by_cases hne : a = nm
    · subst hne
      rw [X_shp ha hn h1 h2 (by decide), M_shp m4 m5 (by decide), bd_s, bd_s, bd_s, bd_s, gRl_t ha hn, h2]
      have e48 : (tM (sI N 76 48 1) ([] ++ [60] ++ [40] ++ [12])).1 76 48 = 1 := by rw [tM_f (by omega), sI_g, if_pos ⟨rfl, rfl⟩]
      rw [e48, if_neg (by decide)]
      unfold vd_Told_eats f_X6_eats vd_Rule_rolls
      rw [isRl_t ha hn, tX_q (by omega), h3, kt5, if_pos rfl, begin1, bd_s, isRl_t ha hn, tX_q (by omega), h3, kt5, if_neg (by omega), if_neg (by omega), if_neg (by omega), if_neg (by omega), rolls1 ha hn, bd_s, bd_s]
      exact .inr ⟨_, _, _, by decide, rfl, rfl⟩
    · rw [X_sh ha hn h1 h2 hne (by decide), M_sh m4 m5 hne (by decide), bd_s, bd_s, bd_s, bd_s, gRl_t ha hn, h2, tM_f (by omega), m8, if_pos rfl, tM_f (by omega), m5, M_eats m3 m4 m5 hk1 hk5 (by decide), bd_s]
      have xe := X_eats (l := [] ++ [60] ++ [40] ++ [12]) ha hn h1 h2 h3 hk1 hk5 (by decide) a
      unfold vd_Rule_eats at xe
      unfold vd_Told_eats
      rw [isRl_t ha hn, tX_q (by omega), h3, kt5] at xe ⊢
      rw [if_neg (by omega), if_neg (by omega), if_neg (by omega), if_neg (by omega)] at xe
      rw [if_pos rfl, xe, bd_s]
      exact .inl ⟨_, _, by decide, rfl, rfl⟩
theorem AR_tells (ha : 105 ≤ a0) (hn : a0 < M.2.2.2) (h1 : M.1 a0 1 = nm) (h2 : M.1 a0 2 = a) (h3 : M.1 a0 3 = Int32.ofNat k) (hk1 : 1 ≤ k) (hk5 : k ≤ 5) (m3 : N.1 76 43 = Int32.ofNat k) (m4 : N.1 76 44 = nm) (m5 : N.1 76 45 = a) (m8 : N.1 76 48 = 0) (x : Int32) : AR M N (vd_Rule_tells a0 x (tX M [] 0)) (f_X12_tellsIt x (tM N [])) := by
  have hc : k = 1 ∨ k = 2 ∨ k = 3 ∨ k = 4 ∨ k = 5 := by omega
  have z1 : ([] : List Int32).length < 30 := by decide
  have tl := te_len k
  have p6 : ∀ (l : List Int32), l.length ≤ 15 → f_X6_tells a0 x (tX M l 0) = some (ve k nm a x ^^^ a, tX M (l ++ [13] ++ te k) 0) := fun l h => by
    unfold f_X6_tells
    rw [begin0 _ (by omega), bd_s, X_eats ha hn h1 h2 h3 hk1 hk5 (by rw [len_ap, one_len]; omega), bd_s, gRl_t ha hn, h2]
  have m6 : ∀ (l : List Int32), l.length ≤ 15 → f_X12_plainTells x (tM N l) = some (ve k nm a x ^^^ a, tM N (l ++ [13] ++ te k)) := fun l h => by
    unfold f_X12_plainTells
    rw [ran_e _ (by omega), bd_s, M_eats m3 m4 m5 hk1 hk5 (by rw [len_ap, one_len]; omega), bd_s, tM_f (by omega), m5]
  have ln : ([] ++ [31] ++ [13] ++ te k : List Int32).length ≤ 28 := by rw [len_ap, len_ap, len_ap, one_len, one_len]; have : ([] : List Int32).length = 0 := rfl; omega
  have ln2 : ∀ b : Int32, ([] ++ [31] ++ [13] ++ te k ++ [b] : List Int32).length ≤ 30 := fun b => by rw [len_ap, one_len]; omega
  have near : (∀ y N2, f_X12_sharesIt y N2 = bd (f_X12_plainShares y N2) (fun r1 M2 => some (r1, M2)) ∨ ¬ N2.1 76 43 = Int32.ofNat k) → (∀ y (l : List Int32), vd_Near_shares a0 y (tX M l 0) = f_X6_shares a0 y (tX M l 0)) → AR M N (f_X5_tells a0 x (tX M [] 0)) (f_X12_tellsIt_16 x (tM N [])) := fun q1 q2 => by
    unfold f_X5_tells f_X12_tellsIt_16
    rw [begin0 _ z1, bd_s, isRl_t ha hn, p6 _ (by decide), bd_s, gRl_t ha hn, h1, q2, ran_e _ z1, bd_s, m6 _ (by decide), bd_s, tM_f (by omega), m4]
    have q3 := q1 nm (tM N ([] ++ [31] ++ [13] ++ te k))
    rcases q3 with q3 | q3
    · rw [q3]
      by_cases hne : a = nm
      · subst hne
        rw [X_shp ha hn h1 h2 ln, M_shp m4 m5 ln, bd_s, bd_s, bd_s]
        exact .inr ⟨_, _, _, ln2 _, rfl, rfl⟩
      · rw [X_sh ha hn h1 h2 hne ln, M_sh m4 m5 hne ln, bd_s, bd_s, bd_s]
        exact .inl ⟨_, _, ln2 _, rfl, rfl⟩
    · exact absurd (by rw [tM_f (by omega)]; exact m3) q3
  have l13 : ([] ++ [13] ++ te k : List Int32).length ≤ 30 := by rw [len_ap, len_ap, one_len]; have : ([] : List Int32).length = 0 := rfl; omega
  have l61 : ([] ++ [61] ++ [13] ++ te k : List Int32).length ≤ 30 := by rw [len_ap, len_ap, len_ap, one_len, one_len]; have : ([] : List Int32).length = 0 := rfl; omega
  unfold vd_Rule_tells f_X12_tellsIt
  rw [isRl_t ha hn, tX_q (by omega), h3, tM_f (by omega), m3]
  rcases hc with rfl | rfl | rfl | rfl | rfl
  · rw [kt1, if_pos rfl, if_neg (by decide), if_neg (by decide), if_neg (by decide), p6 _ (by decide), m6 _ (by decide), bd_s]
    exact .inl ⟨_, _, l13, rfl, rfl⟩
  · rw [kt2, if_neg (by omega), if_pos rfl, if_pos (by decide)]
    refine near (fun y N2 => ?_) (fun y l => ?_)
    · by_cases h43 : N2.1 76 43 = Int32.ofNat 2
      · left
        unfold f_X12_sharesIt
        rw [h43, if_neg (by decide), if_neg (by decide)]
      · exact .inr h43
    · unfold vd_Near_shares
      rw [isRl_t ha hn, tX_q (by omega), h3, kt2, if_pos rfl]
  · rw [kt3, if_neg (by omega), if_neg (by omega), if_pos rfl, if_neg (by decide), if_neg (by decide), if_neg (by decide), p6 _ (by decide), m6 _ (by decide), bd_s]
    exact .inl ⟨_, _, l13, rfl, rfl⟩
  · rw [kt4, if_neg (by omega), if_neg (by omega), if_neg (by omega), if_pos rfl, if_neg (by decide), if_pos (by decide)]
    refine near (fun y N2 => ?_) (fun y l => ?_)
    · by_cases h43 : N2.1 76 43 = Int32.ofNat 4
      · left
        unfold f_X12_sharesIt
        rw [h43, if_neg (by decide), if_neg (by decide)]
      · exact .inr h43
    · unfold vd_Near_shares
      rw [isRl_t ha hn, tX_q (by omega), h3, kt4, if_neg (by omega), if_pos rfl]
  · rw [kt5, if_neg (by omega), if_neg (by omega), if_neg (by omega), if_neg (by omega), if_neg (by decide), if_neg (by decide), if_pos (by decide)]
    unfold f_X8_tells
    rw [begin0 _ z1, bd_s, isRl_t ha hn, p6 _ (by decide), bd_s, ran_e _ z1, bd_s, m6 _ (by decide), bd_s]
    exact .inl ⟨_, _, l61, rfl, rfl⟩
end
