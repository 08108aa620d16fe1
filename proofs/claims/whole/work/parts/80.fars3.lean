/-! ===== the pure layer: how far: the whole table; and the class's measure ===== -/
theorem fars98 {M : k_M} {np nw : Nat} (hnp : np ≤ 8) (h0 : M.1 76 0 = Int32.ofNat np) : ∀ (t k m : Nat) (N : k_M) (G : Nat → Nat → Nat), m + t = np → t < k → AF M N G → FW np nw (M.1 78) m G → ∃ N' G', (∀ kx, f_X12_findFars_98 k (Int32.ofNat m) N kx = kx N') ∧ AF M N' G' ∧ FW np nw (M.1 78) np G'
  | 0, k, m, N, G, hm, hk, hA, hF => by
    obtain ⟨k, rfl⟩ : ∃ q, k = q + 1 := ⟨k - 1, by omega⟩
    refine ⟨N, G, fun kx => ?_, hA, ?_⟩
    · rw [f_X12_findFars_98, AF_c hA (by omega), h0, if_pos (by rw [o_le (by omega) (by omega)]; omega)]
    · rw [show m = np by omega] at hF
      exact hF
  | t + 1, k, m, N, G, hm, hk, hA, hF => by
    obtain ⟨k, rfl⟩ : ∃ q, k = q + 1 := ⟨k - 1, by omega⟩
    have c1 : 2 ^ m ≤ 2 ^ 8 := Nat.pow_le_pow_right (by omega) (by omega)
    have c2 : (2 : Nat) ^ 8 = 256 := rfl
    have hG : FG (4 * 2 ^ m) G := ⟨hF.1, hF.2.1, fun a b ha hb => (hF.2.2.1 a b ha hb).imp id (fun q => q.1)⟩
    obtain ⟨N1, F1, g1, g2, g3⟩ := fars108 hnp h0 (show m < np by omega) (by omega) hG np k_fu 0 N G (by omega) (by unfold k_fu; omega) hA (fun a b ha hb => by rw [if_neg (by omega)])
    obtain ⟨F2, hF2⟩ : ∃ F2 : Nat → Nat → Nat, F2 = fun a b => if a < 8 ∧ b < 8 then F1 a b else G a b := ⟨_, rfl⟩
    have f2 : ∀ a b, a < 8 → b < 8 → F2 a b = F1 a b := fun a b ha hb => by rw [hF2]; exact if_pos ⟨ha, hb⟩
    have I2 : Inv np G m np 0 F2 := fun a b ha hb => by rw [f2 a b ha hb]; exact g3 a b ha hb
    have F2le : ∀ a b, F2 a b ≤ 10000 := fun a b => by
      rw [hF2]
      show (if a < 8 ∧ b < 8 then F1 a b else G a b) ≤ 10000
      split
      · exact g2.2.2.2 a b
      · exact hF.2.1 a b
    have F2d : ∀ a, F2 a a = 0 := fun a => by
      by_cases ha : a < 8
      · rw [I2 a a ha ha, hF.1 a]
        split
        · exact Nat.min_eq_left (Nat.zero_le _)
        · rfl
      · rw [hF2]
        show (if a < 8 ∧ a < 8 then F1 a a else G a a) = 0
        rw [if_neg (fun q => ha q.1)]
        exact hF.1 a
    have A2 : AF M N1 F2 := ⟨fun a b ha hb => by rw [f2 a b ha hb]; exact g2.1 a b ha hb, g2.2.1, g2.2.2.1, F2le⟩
    obtain ⟨N', G', k1, k2, k3⟩ := fars98 (nw := nw) hnp h0 t k (m + 1) N1 F2 (by omega) (by omega) A2 (FW_s hnp (by omega) hF I2 F2le F2d)
    refine ⟨N', G', fun kx => ?_, k2, k3⟩
    rw [f_X12_findFars_98, AF_c hA (by omega), h0, if_neg (by rw [o_le (by omega) (by omega)]; omega), e0z, g1]
    unfold f_X12_findFars_195
    rw [o_addl]
    exact k1 kx
theorem farsM {M : k_M} {np nw : Nat} (h0 : M.1 76 0 = Int32.ofNat np) (hw : M.1 76 2 = Int32.ofNat nw) (hF : WFl np nw (M.1 77) (M.1 78)) : ∃ N G, f_X12_findFars M = some ((), N) ∧ AF M N G ∧ FW np nw (M.1 78) np G := by
  have np8 := hF.1
  have nw12 := hF.2.1
  obtain ⟨N1, a1, a2⟩ := fill94 M 64 k_fu 0 M (by omega) (by unfold k_fu; omega) (fun j hj => by omega) (fun _ _ _ => rfl) rfl
  have S0 : FS (edg nw (M.1 78)) 4 Fz := ⟨fun a => if_pos rfl, fun a b _ _ => by
    unfold Fz
    by_cases h : a = b
    · rw [if_pos h]
      exact .inr ⟨by omega, 0, h, rfl⟩
    · rw [if_neg h]
      exact .inl rfl⟩
  obtain ⟨N2, F2, b1, b2, b3, b4, b5⟩ := fars38 hw hF nw k_fu 0 N1 Fz (by omega) (by unfold k_fu; omega) a2 S0
  have W2 : FW np nw (M.1 78) 0 F2 := ⟨b3.1, b2.2.2.2, fun a b ha hb => by rw [Nat.pow_zero, Nat.mul_one]; exact b3.2 a b ha hb, fun u v w hu hv hw4 he => by
    obtain ⟨e, e1, e2, e3⟩ := he
    rcases e3 with ⟨e3, e4⟩ | ⟨e3, e4⟩
    · exact (b5 e u v w (by omega) e1 e3 e4 e2 hu hv hw4).1
    · exact (b5 e v u w (by omega) e1 e3 e4 e2 hv hu hw4).2, fun a b k _ _ hk => absurd hk (Nat.not_lt_zero k)⟩
  obtain ⟨N3, G, c1, c2, c3⟩ := fars98 np8 h0 np k_fu 0 N2 F2 (by omega) (by unfold k_fu; omega) b2 W2
  refine ⟨N3, G, ?_, c2, c3⟩
  unfold f_X12_findFars
  rw [e0z, a1]
  unfold f_X12_findFars_36
  rw [e0z, b1]
  unfold f_X12_findFars_96
  rw [e0z, c1]
  rfl
section
variable {np nw : Nat} {wy : Nat → Int32} {G : Nat → Nat → Nat}
/-- ways lead to places -/
theorem edg_np {pl : Nat → Int32} (hF : WFl np nw pl wy) {u v w : Nat} (hu : u < 8) (hv : v < 8) (hw : w < 100) (h : edg nw wy u v w) : u < np ∧ v < np ∧ 1 ≤ w ∧ w ≤ 4 := by
  obtain ⟨e, e1, e2, e3⟩ := h
  have np8 := hF.1
  obtain ⟨a, b, d, a1, a2, a3, a4, a5, a6, a7, -⟩ := hF.2.2.2 e e1
  rw [a7, o_eq (by omega) (by omega)] at e2
  rcases e3 with ⟨q1, q2⟩ | ⟨q1, q2⟩
  · rw [a5, o_eq (by omega) (by omega)] at q1
    rw [a6, o_eq (by omega) (by omega)] at q2
    omega
  · rw [a5, o_eq (by omega) (by omega)] at q1
    rw [a6, o_eq (by omega) (by omega)] at q2
    omega
theorem edg_sym {u v w : Nat} (h : edg nw wy u v w) : edg nw wy v u w := by
  obtain ⟨e, e1, e2, e3⟩ := h
  exact ⟨e, e1, e2, e3.symm⟩
/-- the table is no greater than any walk -/
theorem FW_le {pl : Nat → Int32} (hF : WFl np nw pl wy) (h : FW np nw wy np G) {a : Nat} (ha : a < np) : ∀ (n b x : Nat), x < 100000 → Wk (edg nw wy) n a b x → G a b ≤ x
  | 0, b, x, _, g => by
    obtain ⟨rfl, rfl⟩ := g
    rw [h.1 a]
    exact Nat.le_refl _
  | n + 1, b, x, hx, g => by
    obtain ⟨u, w, y, g1, g2, g3, g4, g5⟩ := g
    have ih := FW_le hF h ha n u y (by omega) g5
    have hw100 : w % 4294967296 = w := Nat.mod_eq_of_lt (by omega)
    obtain ⟨e, e1, e2, e3⟩ := g3
    obtain ⟨a', b', d, a1, a2, a3, a4, a5, a6, a7, -⟩ := hF.2.2.2 e e1
    have np8 := hF.1
    have hwd : d = w := by
      rw [a7, o_eq (by omega) (by omega)] at e2
      exact e2
    obtain ⟨k1, k2, k3, k4⟩ := edg_np hF g1 g2 (by omega) ⟨e, e1, e2, e3⟩
    have t1 := h.2.2.2.2 a b u ha k2 k1
    have t2 := h.2.2.2.1 u b w g1 g2 k4 ⟨e, e1, e2, e3⟩
    omega
/-- and it is tight: the last way of a shortest walk -/
theorem FW_tight {pl : Nat → Int32} (hF : WFl np nw pl wy) (h : FW np nw wy np G) {a b : Nat} (ha : a < np) (hb : b < np) (hab : a ≠ b) (hf : G a b < 10000) : ∃ u w, u < np ∧ 1 ≤ w ∧ w ≤ 4 ∧ edg nw wy u b w ∧ G a u + w = G a b := by
  have np8 := hF.1
  rcases h.2.2.1 a b (by omega) (by omega) with q | ⟨-, n, g⟩
  · omega
  · cases n with
    | zero =>
      exact absurd g.1 hab
    | succ n =>
      obtain ⟨u, w, y, g1, g2, g3, g4, g5⟩ := g
      have hw100 : w ≤ 10000 := by omega
      have g3' := g3
      obtain ⟨e, e1, e2, e3⟩ := g3'
      obtain ⟨a', b', d, a1, a2, a3, a4, a5, a6, a7, -⟩ := hF.2.2.2 e e1
      have hwd : d = w := by
        rw [a7, o_eq (by omega) (by omega)] at e2
        exact e2
      obtain ⟨k1, k2, k3, k4⟩ := edg_np hF g1 g2 (by omega) g3
      have ih := FW_le hF h ha n u y (by omega) g5
      have t1 := h.2.2.2.2 a b u ha k2 k1
      have t2 := h.2.2.2.1 u b w g1 g2 k4 g3
      exact ⟨u, w, k1, k3, k4, g3, by omega⟩
theorem FW_tri {pl : Nat → Int32} (h : FW np nw wy np G) (hF : WFl np nw pl wy) {a u b w : Nat} (ha : a < np) (hu : u < np) (hb : b < np) (hw : w ≤ 4) (he : edg nw wy u b w) : G a b ≤ G a u + w := by
  have np8 := hF.1
  have t1 := h.2.2.2.2 a b u ha hb hu
  have t2 := h.2.2.2.1 u b w (by omega) (by omega) hw he
  omega
theorem Wk_cons {ed : Nat → Nat → Nat → Prop} {a u w : Nat} (ha : a < 8) (hu : u < 8) (he : ed a u w) : ∀ (n b x : Nat), Wk ed n u b x → Wk ed (n + 1) a b (w + x)
  | 0, b, x, g => by
    obtain ⟨rfl, rfl⟩ := g
    exact ⟨a, w, 0, ha, hu, he, by omega, rfl, rfl⟩
  | n + 1, b, x, g => by
    obtain ⟨v, w', y, g1, g2, g3, g4, g5⟩ := g
    exact ⟨v, w', w + y, g1, g2, g3, by omega, Wk_cons ha hu he n v y g5⟩
theorem Wk_rev {a : Nat} : ∀ (n b x : Nat), Wk (edg nw wy) n a b x → Wk (edg nw wy) n b a x
  | 0, b, x, g => ⟨g.1.symm, g.2⟩
  | n + 1, b, x, g => by
    obtain ⟨u, w, y, g1, g2, g3, g4, g5⟩ := g
    rw [g4, Nat.add_comm y w]
    exact Wk_cons g2 g1 (edg_sym g3) n a y (Wk_rev n u y g5)
theorem FW_sym {pl : Nat → Int32} (hF : WFl np nw pl wy) (h : FW np nw wy np G) {a b : Nat} (ha : a < np) (hb : b < np) : G a b = G b a := by
  have np8 := hF.1
  have key : ∀ x y, x < np → y < np → G x y ≤ G y x := fun x y hx hy => by
    have b0 := h.2.1 x y
    rcases h.2.2.1 y x (by omega) (by omega) with q | ⟨-, n, g⟩
    · omega
    · have := h.2.1 y x
      exact FW_le hF h hx n y (G y x) (by omega) (Wk_rev n x _ g)
  exact Nat.le_antisymm (key a b ha hb) (key b a hb ha)
end
