/-! ===== the pure layer: prove ===== -/
/-- the rows of a list of acts -/
def prl (nw : Nat) (pl wy lw : Nat → Int32) (rn : Int32) : List Nat → k_r → Nat → Int32
  | [], _, _ => 0
  | a :: t, r, j => match stp nw pl wy lw rn a r with
    | none => 0
    | some r' => if j = 0 then Int32.ofNat a else if j = 1 then r' 0 else if j = 2 then wth lw r' else prl nw pl wy lw rn t r' (j - 3)
section
variable {np nw : Nat} {lw pl wy : Nat → Int32} {rn : Int32}
theorem bwp_pth {n : Nat} {r : k_r} (hn : ¬ n = 0) (h8 : n ≤ 8) (hS : Sd np nw pl wy lw r) (h0 : 0 ≤ (bwp nw pl wy lw rn 9 n r).1) : ∃ (a d : Nat) (r' : k_r), a ≤ nw ∧ stp nw pl wy lw rn a r = some r' ∧ 1 ≤ d ∧ d ≤ n ∧ dys wy a = Int32.ofNat d ∧ (bwp nw pl wy lw rn 9 n r).2 = a :: (bwp nw pl wy lw rn 9 (n - d) r').2 ∧ 0 ≤ (bwp nw pl wy lw rn 9 (n - d) r').1 := by
  rcases bwp_or (nw := nw) (pl := pl) (wy := wy) (lw := lw) (rn := rn) (r := r) (f := 8) hn with h | ⟨a, t, h1, h2, h3, h4⟩
  · have hx : (bwp nw pl wy lw rn 9 n r).1 = -1 := congrArg Prod.fst h
    rw [hx] at h0
    exact absurd h0 m1_neg
  · obtain ⟨d, d1, d2, d3, d4⟩ := dN_c hS h1
    have e1 : (bwp nw pl wy lw rn 9 n r).1 = (chB nw pl wy lw rn (bwp nw pl wy lw rn 8) n r a).1 := (congrArg Prod.fst h4).trans rfl
    have e2 : (bwp nw pl wy lw rn 9 n r).2 = a :: (chB nw pl wy lw rn (bwp nw pl wy lw rn 8) n r a).2 := (congrArg Prod.snd h4).trans rfl
    rw [e1] at h0
    unfold chB at h0 e2
    rw [d4] at h0 e2
    by_cases hd : d ≤ n
    · rw [if_pos hd] at h0 e2
      cases hs : stp nw pl wy lw rn a r with
      | none =>
        rw [hs] at h0
        exact absurd h0 m1_neg
      | some r' =>
        rw [hs] at h0 e2
        have h0' : 0 ≤ (bwp nw pl wy lw rn 8 (n - d) r').1 := h0
        have e2' : (bwp nw pl wy lw rn 9 n r).2 = a :: (bwp nw pl wy lw rn 8 (n - d) r').2 := e2
        rw [bwp_9 8 (by omega) (by omega) (stp_Sd hS hs).1] at h0' e2'
        exact ⟨a, d, r', h1, hs, d1, hd, d3, e2', h0'⟩
    · rw [if_neg hd] at h0
      exact absurd h0 m1_neg
theorem bwp_0 (f : Nat) (r : k_r) : (bwp nw pl wy lw rn (f + 1) 0 r).2 = [] := by
  rw [bwp_s, if_pos rfl]
theorem bwp_len : ∀ (m n : Nat) (r : k_r), n ≤ m → n ≤ 8 → Sd np nw pl wy lw r → 0 ≤ (bwp nw pl wy lw rn 9 n r).1 → (bwp nw pl wy lw rn 9 n r).2.length ≤ n
  | m, n, r, hm, h8, hS, h0 => by
    by_cases hn : n = 0
    · subst hn
      rw [bwp_0]
      exact Nat.le_refl _
    · obtain ⟨a, d, r', h1, h2, h3, h4, h5, h6, h7⟩ := bwp_pth hn h8 hS h0
      cases m with
      | zero => omega
      | succ m =>
        have := bwp_len m (n - d) r' (by omega) (by omega) (stp_Sd hS h2).1 h7
        rw [h6, List.length_cons]
        omega
theorem hdA_c (a : Nat) (t : List Nat) : hdA (a :: t) = Int32.ofNat a := rfl
theorem stX_w63 (Y : k_M) (r : k_r) (a j : Nat) (v : Int32) (h : ¬ (43 ≤ a ∧ a < 63)) : sI (stX Y 43 r) a j v = stX (sI Y a j v) 43 r := by
  refine stX_uni ?_ ?_ (fun k hk => ?_) (fun k hk => ?_) (fun k hk => ?_) (fun b k hk => ?_) rfl
  · rw [sI_g, if_neg (by omega), stX_4]
  · rw [sI_g, if_neg (by omega), stX_5]
  · rw [sI_g, if_neg (by omega), stX_s hk]
  · rw [sI_g, if_neg (by omega), stX_l hk]
  · rw [sI_g, if_neg (by omega), stX_b hk]
  · rw [sI_g, sI_g, stX_o hk]
theorem proveX : ∀ (m n k i x : Nat) (Y : k_M) (r : k_r), n ≤ m → m < k → i + n ≤ 6 → x ≤ 999 → r 1 = Int32.ofNat x → Y.1 0 6 = Int32.ofNat i → WX 43 Y lw rn → LX 43 Y np nw pl wy → Sd np nw pl wy lw r → 0 ≤ (bwp nw pl wy lw rn 9 n r).1 → ∃ Y', f_X11_prove_65 k (Int32.ofNat (x + n)) (stX Y 43 r) (fun M_ => f_X11_prove_114 M_) (fun M_ => f_X11_prove_182 M_) = some (Int32.ofNat (i + (bwp nw pl wy lw rn 9 n r).2.length), Y') ∧ Y'.1 0 6 = Int32.ofNat (i + (bwp nw pl wy lw rn 9 n r).2.length) ∧ (∀ j, j < 3 * i → Y'.1 63 j = Y.1 63 j) ∧ (∀ j, j < 3 * (bwp nw pl wy lw rn 9 n r).2.length → Y'.1 63 (3 * i + j) = prl nw pl wy lw rn (bwp nw pl wy lw rn 9 n r).2 r j) ∧ (∀ a j, a ≠ 63 → ¬ (a = 0 ∧ j = 6) → ¬ (43 ≤ a ∧ a < 63) → Y'.1 a j = Y.1 a j) ∧ Y'.2 = Y.2
  | m, n, k, i, x, Y, r, hm, hk, hi, hx, hr, h6, hW, hL, hS, h0 => by
    obtain ⟨k, rfl⟩ : ∃ q, k = q + 1 := ⟨k - 1, by omega⟩
    have c6 : ∀ r, (stX Y 43 r).1 0 6 = Int32.ofNat i := fun r => by rw [stX_o (by unfold onX; omega)]; exact h6
    by_cases hn : n = 0
    · subst hn
      rw [bwp_0]
      refine ⟨stX Y 43 r, ?_, c6 r, fun j hj => by rw [stX_o (by unfold onX; omega)], fun j hj => absurd hj (Nat.not_lt_zero j), fun a j q1 q2 q3 => stX_o (by unfold onX; omega), rfl⟩
      rw [f_X11_prove_65, stX_5, hr, if_pos (by rw [o_le (by omega) (by omega)]; omega)]
      unfold f_X11_prove_182
      rw [c6]
      rfl
    · obtain ⟨a, d, r', h1, h2, h3, h4, h5, hl, hv⟩ := bwp_pth hn (by omega) hS h0
      have nw12 := hS.1.2.1
      have hS' := (stp_Sd hS h2).1
      have hd1 := (stp_Sd hS h2).2.1
      rw [h5, hr, o_add] at hd1
      have hx' : x + d ≤ 999 := by
        obtain ⟨y, hy, hy2⟩ := hS'.2.2.1.1
        rw [hd1] at hy2
        have := o_inj (by omega) (by omega) hy2
        omega
      rcases attX (act := a) hW hL hS (by omega) with ⟨g, r'', q1, q2, q3, -⟩ | ⟨q1, -⟩
      rotate_left
      · rw [h2] at q1
        cases q1
      rw [h2] at q1
      cases q1
      have e3 : Int32.ofNat i * 3 = Int32.ofNat (i * 3) := o_mull i 3
      obtain ⟨Y2, hY2⟩ : ∃ Y2, Y2 = sI (sI (sI (sI Y 63 (i * 3) (Int32.ofNat a)) 63 (i * 3 + 1) (r' 0)) 63 (i * 3 + 2) (wth lw r')) 0 6 (Int32.ofNat (i + 1)) := ⟨_, rfl⟩
      have y2 : ∀ a j, a ≠ 63 → ¬ (a = 0 ∧ j = 6) → Y2.1 a j = Y.1 a j := fun a j q1 q2 => by rw [hY2, sI_g, if_neg q2, sI_g, if_neg (by omega), sI_g, if_neg (by omega), sI_g, if_neg (by omega)]
      have y6 : Y2.1 0 6 = Int32.ofNat (i + 1) := by rw [hY2, sI_g, if_pos ⟨rfl, rfl⟩]
      have yz : ∀ j, j < 3 * i → Y2.1 63 j = Y.1 63 j := fun j hj => by rw [hY2, sI_g, if_neg (by omega), sI_g, if_neg (by omega), sI_g, if_neg (by omega), sI_g, if_neg (by omega)]
      have z0 : Y2.1 63 (3 * i) = Int32.ofNat a := by rw [hY2, sI_g, if_neg (by omega), sI_g, if_neg (by omega), sI_g, if_neg (by omega), sI_g, if_pos (by omega)]
      have z1 : Y2.1 63 (3 * i + 1) = r' 0 := by rw [hY2, sI_g, if_neg (by omega), sI_g, if_neg (by omega), sI_g, if_pos (by omega)]
      have z2 : Y2.1 63 (3 * i + 2) = wth lw r' := by rw [hY2, sI_g, if_neg (by omega), sI_g, if_pos (by omega)]
      have W2 : WX 43 Y2 lw rn := WX_fr (fun j => y2 _ _ (by omega) (by omega)) (y2 _ _ (by omega) (by omega)) hW
      have L2 : LX 43 Y2 np nw pl wy := LX_fr (fun i j _ _ _ _ => y2 _ _ (by omega) (by omega)) hL
      cases m with
      | zero => omega
      | succ m =>
        obtain ⟨Y', g1, g2, g3, g4, g5, g6⟩ := proveX m (n - d) k (i + 1) (x + d) Y2 r' (by omega) (by omega) (by omega) hx' hd1 y6 W2 L2 hS' hv
        rw [hl, List.length_cons, show i + ((bwp nw pl wy lw rn 9 (n - d) r').2.length + 1) = i + 1 + (bwp nw pl wy lw rn 9 (n - d) r').2.length by omega]
        refine ⟨Y', ?_, g2, fun j hj => by rw [g3 j (by omega), yz j hj], fun j hj => ?_, fun a j q1 q2 q3 => by rw [g5 a j q1 q2 q3, y2 a j q1 q2], by rw [g6, hY2]; rfl⟩
        · have es : Int32.ofNat (x + n) - Int32.ofNat x = Int32.ofNat n := by
            rw [o_sub (by omega)]
            congr 1
            omega
          rw [f_X11_prove_65, stX_5, hr, if_neg (by rw [o_le (by omega) (by omega)]; omega), c6, if_neg (by rw [o_lle (by omega) (by omega)]; omega), es, firstX hW hL hS (by omega), bd_s, hl, hdA_c, q2, bd_s, if_neg q3, c6, e3, wrI_o (by omega) (by omega), stX_w63 _ _ _ _ _ (by omega)]
          have c6' : ∀ (Z : k_M) (v : Int32) (j : Nat) (q : k_r), Z.1 0 6 = Int32.ofNat i → (stX (sI Z 63 j v) 43 q).1 0 6 = Int32.ofNat i := fun Z v j q hZ => by rw [stX_o (by unfold onX; omega), sI_g, if_neg (by omega)]; exact hZ
          have cc : ∀ (Z : k_M) (v : Int32) (j : Nat), Z.1 0 6 = Int32.ofNat i → (sI Z 63 j v).1 0 6 = Int32.ofNat i := fun Z v j hZ => by rw [sI_g, if_neg (by omega)]; exact hZ
          have wE : ∀ (Z : k_M) (v : Int32) (j : Nat), WX 43 Z lw rn → WX 43 (sI Z 63 j v) lw rn := fun Z v j hZ => WX_fr (fun j => by rw [sI_g, if_neg (by omega)]) (by rw [sI_g, if_neg (by omega)]) hZ
          rw [c6' Y _ _ _ h6, e3, o_addl, wrI_o (by omega) (by omega), stX_4, stX_w63 _ _ _ _ _ (by omega), worth_e (wE _ _ _ (wE _ _ _ hW)), bd_s, c6' _ _ _ _ (cc _ _ _ h6), e3, o_addl, wrI_o (by omega) (by omega), stX_w63 _ _ _ _ _ (by omega), bN_e, c6' _ _ _ _ (cc _ _ _ (cc _ _ _ h6)), o_addl, stX_w63 _ _ _ _ _ (by omega), ← hY2]
          rw [show x + n = x + d + (n - d) by omega]
          exact g1
        · unfold prl
          rw [h2]
          simp only
          by_cases j0 : j = 0
          · subst j0
            rw [if_pos rfl, g3 _ (by omega), Nat.add_zero, z0]
          · by_cases j1 : j = 1
            · subst j1
              rw [if_neg (by omega), if_pos rfl, g3 _ (by omega), z1]
            · by_cases j2 : j = 2
              · subst j2
                rw [if_neg (by omega), if_neg (by omega), if_pos rfl, g3 _ (by omega), z2]
              · rw [if_neg j0, if_neg j1, if_neg j2, show 3 * i + j = 3 * (i + 1) + (j - 3) by omega]
                exact g4 (j - 3) (by omega)
end
