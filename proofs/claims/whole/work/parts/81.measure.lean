/-! ===== the pure layer: how far: the class's measure ===== -/
def cnt (p : Nat → Bool) : Nat → Nat
  | 0 => 0
  | n + 1 => cnt p n + (if p n = true then 1 else 0)
theorem cnt_le {p q : Nat → Bool} : ∀ n, (∀ x, x < n → p x = true → q x = true) → cnt p n ≤ cnt q n
  | 0, _ => Nat.le_refl _
  | n + 1, h => by
    have ih := cnt_le n (fun x hx => h x (by omega))
    unfold cnt
    by_cases hp : p n = true
    · rw [if_pos hp, if_pos (h n (by omega) hp)]
      omega
    · rw [if_neg hp]
      omega
theorem cnt_lt {p q : Nat → Bool} : ∀ n, (∀ x, x < n → p x = true → q x = true) → (∃ x, x < n ∧ q x = true ∧ ¬ p x = true) → cnt p n < cnt q n
  | 0, _, ⟨x, hx, _⟩ => by omega
  | n + 1, h, ⟨x, hx, h1, h2⟩ => by
    unfold cnt
    by_cases hxn : x = n
    · subst hxn
      have := cnt_le (p := p) (q := q) x (fun y hy => h y (by omega))
      rw [if_neg h2, if_pos h1]
      omega
    · have ih := cnt_lt (p := p) (q := q) n (fun y hy => h y (by omega)) ⟨x, by omega, h1, h2⟩
      by_cases hp : p n = true
      · rw [if_pos hp, if_pos (h n (by omega) hp)]
        omega
      · rw [if_neg hp]
        omega
theorem cnt_n (p : Nat → Bool) : ∀ n, cnt p n ≤ n
  | 0 => Nat.le_refl _
  | n + 1 => by
    have := cnt_n p n
    unfold cnt
    split <;> omega
theorem cnt_tt : ∀ n, cnt (fun _ => true) n = n
  | 0 => rfl
  | n + 1 => by
    unfold cnt
    rw [cnt_tt n, if_pos rfl]
def rk (np : Nat) (D : Nat → Nat) (v : Nat) : Nat := cnt (fun u => decide (D u < D v)) np
theorem rk_lt {np : Nat} {D : Nat → Nat} {u v : Nat} (hu : u < np) (h : D u < D v) : rk np D u < rk np D v := by
  refine cnt_lt np (fun x _ hx => ?_) ⟨u, hu, decide_eq_true h, fun hx => ?_⟩
  · have := of_decide_eq_true hx
    exact decide_eq_true (by omega)
  · have := of_decide_eq_true hx
    omega
theorem rk_np {np : Nat} {D : Nat → Nat} {v : Nat} (hv : v < np) : rk np D v < np := by
  have := cnt_lt (p := fun u => decide (D u < D v)) (q := fun _ => true) np (fun _ _ _ => rfl) ⟨v, hv, rfl, fun hx => by
    have := of_decide_eq_true hx
    omega⟩
  rw [cnt_tt] at this
  exact this
theorem rk_0 {np : Nat} {D : Nat → Nat} {s : Nat} (h : D s = 0) : rk np D s = 0 := by
  have : ∀ n, cnt (fun u => decide (D u < D s)) n = 0 := fun n => by
    induction n with
    | zero => rfl
    | succ n ih =>
      unfold cnt
      rw [ih, if_neg (fun hx => by
        have := of_decide_eq_true hx
        omega)]
  exact this np
theorem mn_o {a b : Nat} (ha : a < 2147483648) (hb : b < 2147483648) : mnI (Int32.ofNat a) (Int32.ofNat b) = Int32.ofNat (Nat.min a b) := by
  unfold mnI
  by_cases h : b < a
  · rw [if_pos (by rw [o_lt hb ha]; exact h), show Nat.min a b = b from Nat.min_eq_right (by omega)]
  · rw [if_neg (by rw [o_lt hb ha]; exact h), show Nat.min a b = a from Nat.min_eq_left (by omega)]
/-- the class's row of days -/
def AH (B N : k_M) (c : Nat) (H : Nat → Nat) : Prop := (∀ v, v < 8 → N.1 c v = Int32.ofNat (H v)) ∧ (∀ a j, a ≠ c → N.1 a j = B.1 a j) ∧ N.2 = B.2 ∧ ∀ v, H v ≤ 10000
theorem AH_w {B N : k_M} {c u x : Nat} {H : Nat → Nat} (h : AH B N c H) (hx : x ≤ 10000) : AH B (sI N c u (Int32.ofNat x)) c (fun v => if v = u then x else H v) := by
  refine ⟨fun v hv => ?_, fun a j ha => ?_, h.2.2.1, fun v => ?_⟩
  · rw [sI_g]
    show _ = Int32.ofNat (if v = u then x else H v)
    by_cases hh : v = u
    · rw [if_pos ⟨rfl, hh⟩, if_pos hh]
    · rw [if_neg (fun q => hh q.2), if_neg hh]
      exact h.1 v hv
  · rw [sI_g, if_neg (fun q => ha q.1)]
    exact h.2.1 a j ha
  · show (if v = u then x else H v) ≤ 10000
    by_cases hh : v = u
    · rw [if_pos hh]; exact hx
    · rw [if_neg hh]; exact h.2.2.2 v
section
variable {B : k_M} {w c np nw : Nat} {pl wy : Nat → Int32} {D : Nat → Nat}
theorem meas24 (hc : w + 14 ≤ c) (hL : LX w B np nw pl wy) (hF : WFl np nw pl wy) (hT : ∀ u v x, u < np → v < np → x ≤ 4 → edg nw wy u v x → D v ≤ D u + x) (l3 : Int32) : ∀ (t k e : Nat) (N : k_M) (H : Nat → Nat), e + t = nw → t < k → AH B N c H → (∀ v, v < np → D v ≤ H v) → ∃ N' H', (∀ kx, f_X3_measure_24 w c 8 k l3 (Int32.ofNat e) N kx = kx l3 N') ∧ AH B N' c H' ∧ (∀ v, v < np → D v ≤ H' v) ∧ (∀ v, H' v ≤ H v) ∧ ∀ i u v x, e ≤ i → i < nw → wy (5 * i + 2) = Int32.ofNat x → x ≤ 4 → u < np → v < np → ((wy (5 * i) = Int32.ofNat u ∧ wy (5 * i + 1) = Int32.ofNat v) ∨ (wy (5 * i) = Int32.ofNat v ∧ wy (5 * i + 1) = Int32.ofNat u)) → H' v ≤ H u + x
  | 0, k, e, N, H, he, hk, hA, hD => by
    obtain ⟨k, rfl⟩ : ∃ q, k = q + 1 := ⟨k - 1, by omega⟩
    have nw12 := hF.2.1
    refine ⟨N, H, fun kx => ?_, hA, hD, fun v => Nat.le_refl _, fun i u v x q1 q2 => by omega⟩
    rw [f_X3_measure_24, hA.2.1 _ _ (by omega), hL.2.1, if_pos (by rw [o_le (by omega) (by omega)]; omega)]
  | t + 1, k, e, N, H, he, hk, hA, hD => by
    obtain ⟨k, rfl⟩ : ∃ q, k = q + 1 := ⟨k - 1, by omega⟩
    have nw12 := hF.2.1
    have np8 := hF.1
    obtain ⟨a, b, d, a1, a2, a3, a4, a5, a6, a7, -⟩ := hF.2.2.2 e (by omega)
    obtain ⟨l1, l2, -⟩ := hL.2.2.2 e (by omega)
    -- the ends, as the class has them
    obtain ⟨x, y, hx, hy, hxy, w1, w2, hor⟩ : ∃ x y, x < np ∧ y < np ∧ x ≠ y ∧ B.1 (w + 8) e = Int32.ofNat x ∧ B.1 (w + 9) e = Int32.ofNat y ∧ ((x = a ∧ y = b) ∨ (x = b ∧ y = a)) := by
      rcases l1 with ⟨q1, q2⟩ | ⟨q1, q2⟩
      · exact ⟨a, b, by omega, by omega, by omega, by rw [q1, a5], by rw [q2, a6], .inl ⟨rfl, rfl⟩⟩
      · exact ⟨b, a, by omega, by omega, by omega, by rw [q1, a6], by rw [q2, a5], .inr ⟨rfl, rfl⟩⟩
    have edxy : edg nw wy x y d := by
      refine ⟨e, by omega, a7, ?_⟩
      rcases hor with ⟨rfl, rfl⟩ | ⟨rfl, rfl⟩
      · exact .inl ⟨a5, a6⟩
      · exact .inr ⟨a5, a6⟩
    have hx10 := hA.2.2.2 x
    have hy10 := hA.2.2.2 y
    obtain ⟨p, hp⟩ : ∃ p, p = Nat.min (H x) (H y + d) := ⟨_, rfl⟩
    obtain ⟨q, hq⟩ : ∃ q, q = Nat.min (H y) (p + d) := ⟨_, rfl⟩
    have p1 : p ≤ H x := by rw [hp]; exact Nat.min_le_left _ _
    have p2 : p ≤ H y + d := by rw [hp]; exact Nat.min_le_right _ _
    have q1 : q ≤ H y := by rw [hq]; exact Nat.min_le_left _ _
    have q2 : q ≤ p + d := by rw [hq]; exact Nat.min_le_right _ _
    have p3 : p = H x ∨ p = H y + d := by
      by_cases hh : H x ≤ H y + d
      · exact .inl (by rw [hp]; exact Nat.min_eq_left hh)
      · exact .inr (by rw [hp]; exact Nat.min_eq_right (by omega))
    have q3 : q = H y ∨ q = p + d := by
      by_cases hh : H y ≤ p + d
      · exact .inl (by rw [hq]; exact Nat.min_eq_left hh)
      · exact .inr (by rw [hq]; exact Nat.min_eq_right (by omega))
    have A1 := AH_w (u := x) (x := p) hA (by omega)
    have A2 := AH_w (u := y) (x := q) A1 (by omega)
    have tx := hT y x d hy hx a4 (edg_sym edxy)
    have ty := hT x y d hx hy a4 edxy
    have dx := hD x hx
    have dy := hD y hy
    obtain ⟨H2, hH2⟩ : ∃ H2 : Nat → Nat, H2 = fun v => if v = y then q else if v = x then p else H v := ⟨_, rfl⟩
    have hx2 : H2 x = p := by rw [hH2]; show (if x = y then q else if x = x then p else H x) = p; rw [if_neg hxy, if_pos rfl]
    have hy2 : H2 y = q := by rw [hH2]; show (if y = y then q else if y = x then p else H y) = q; rw [if_pos rfl]
    have ho2 : ∀ v, v ≠ x → v ≠ y → H2 v = H v := fun v r1 r2 => by rw [hH2]; show (if v = y then q else if v = x then p else H v) = H v; rw [if_neg r2, if_neg r1]
    have hle : ∀ v, H2 v ≤ H v := fun v => by
      by_cases r1 : v = x
      · subst r1; omega
      · by_cases r2 : v = y
        · subst r2; omega
        · rw [ho2 v r1 r2]
          exact Nat.le_refl _
    have A3 : AH B (sI (sI N c x (Int32.ofNat p)) c y (Int32.ofNat q)) c H2 := by rw [hH2]; exact A2
    obtain ⟨N', H', k1, k2, k3, k4, k5⟩ := meas24 hc hL hF hT l3 t k (e + 1) _ H2 (by omega) (by omega) A3 (fun v hv => by
      by_cases r1 : v = x
      · subst r1; omega
      · by_cases r2 : v = y
        · subst r2; omega
        · rw [ho2 v r1 r2]
          exact hD v hv)
    refine ⟨N', H', fun kx => ?_, k2, k3, fun v => Nat.le_trans (k4 v) (hle v), fun i u v z r1 r2 r3 r4 r5 r6 r7 => ?_⟩
    · have cw : ∀ (N : k_M) (H : Nat → Nat), AH B N c H → ∀ i j, i < 14 → N.1 (w + i) j = B.1 (w + i) j := fun N H h i j hi => h.2.1 _ _ (by omega)
      have v7 : (sI N c x (Int32.ofNat p)).1 c y = Int32.ofNat (H y) := by rw [sI_g, if_neg (fun r => hxy r.2.symm)]; exact hA.1 y (by omega)
      have v8 : (sI N c x (Int32.ofNat p)).1 c x = Int32.ofNat p := by rw [sI_g, if_pos ⟨rfl, rfl⟩]
      rw [f_X3_measure_24, cw N H hA 1 7 (by omega), hL.2.1, if_neg (by rw [o_le (by omega) (by omega)]; omega), rdI_o (by omega) (by omega), cw N H hA 8 e (by omega), w1, rdI_o (by omega) (by omega), cw N H hA 9 e (by omega), w2, rdI_o (by omega) (by omega), hA.1 x (by omega), rdI_o (by omega) (by omega), hA.1 y (by omega), rdI_o (by omega) (by omega), cw N H hA 10 e (by omega), l2, a7, o_add, mn_o (by omega) (by omega), ← hp, wrI_o (by omega) (by omega), rdI_o (by omega) (by omega), v7, rdI_o (by omega) (by omega), v8, rdI_o (by omega) (by omega), cw _ _ A1 10 e (by omega), l2, a7, o_add, mn_o (by omega) (by omega), ← hq, wrI_o (by omega) (by omega), o_addl]
      exact k1 kx
    · by_cases hie : i = e
      · subst hie
        rw [a7, o_eq (by omega) (by omega)] at r3
        subst r3
        have huv : (u = x ∧ v = y) ∨ (u = y ∧ v = x) := by
          rcases r7 with ⟨s1, s2⟩ | ⟨s1, s2⟩
          · rw [a5, o_eq (by omega) (by omega)] at s1
            rw [a6, o_eq (by omega) (by omega)] at s2
            omega
          · rw [a5, o_eq (by omega) (by omega)] at s1
            rw [a6, o_eq (by omega) (by omega)] at s2
            omega
        have hv := k4 v
        rcases huv with ⟨s1, s2⟩ | ⟨s1, s2⟩
        · subst s1 s2
          omega
        · subst s1 s2
          omega
      · have s1 := k5 i u v z (by omega) r2 r3 r4 r5 r6 r7
        have s2 := hle u
        omega
/-- what holds of true days from s -/
def TD (np nw : Nat) (wy : Nat → Int32) (s : Nat) (D : Nat → Nat) : Prop := D s = 0 ∧ (∀ v, v < np → D v ≤ 10000) ∧ (∀ u v x, u < np → v < np → x ≤ 4 → edg nw wy u v x → D v ≤ D u + x) ∧ ∀ v, v < np → v ≠ s → D v < 10000 → ∃ u x, u < np ∧ 1 ≤ x ∧ x ≤ 4 ∧ edg nw wy u v x ∧ D u + x = D v
theorem meas13 {s : Nat} (hs : s < np) (hc : w + 14 ≤ c) (hL : LX w B np nw pl wy) (hF : WFl np nw pl wy) (hD : TD np nw wy s D) : ∀ (t k l : Nat) (N : k_M) (H : Nat → Nat), l + 1 + t = np → t < k → AH B N c H → (∀ v, v < np → D v ≤ H v) → (∀ v, v < np → D v < 10000 → rk np D v ≤ l → H v ≤ D v) → ∃ N' H', (∀ kx, f_X3_measure_13 w c 8 k (Int32.ofNat (l + 1)) N kx = kx N') ∧ AH B N' c H' ∧ ∀ v, v < np → H' v = D v
  | 0, k, l, N, H, hl, hk, hA, h1, h2 => by
    obtain ⟨k, rfl⟩ : ∃ q, k = q + 1 := ⟨k - 1, by omega⟩
    have np8 := hF.1
    refine ⟨N, H, fun kx => ?_, hA, fun v hv => ?_⟩
    · rw [f_X3_measure_13, hA.2.1 _ _ (by omega), hL.1, if_pos (by rw [o_le (by omega) (by omega)]; omega)]
    · have b1 := hD.2.1 v hv
      have b2 := hA.2.2.2 v
      have b3 := h1 v hv
      by_cases hf : D v < 10000
      · have := rk_np (D := D) hv
        have := h2 v hv hf (by omega)
        omega
      · omega
  | t + 1, k, l, N, H, hl, hk, hA, h1, h2 => by
    obtain ⟨k, rfl⟩ : ∃ q, k = q + 1 := ⟨k - 1, by omega⟩
    have np8 := hF.1
    have nw12 := hF.2.1
    obtain ⟨N1, H1, g1, g2, g3, g4, g5⟩ := meas24 hc hL hF hD.2.2.1 (Int32.ofNat (l + 1)) nw k_fu 0 N H (by omega) (by unfold k_fu; omega) hA h1
    obtain ⟨N', H', k1, k2, k3⟩ := meas13 hs hc hL hF hD t k (l + 1) N1 H1 (by omega) (by omega) g2 g3 (fun v hv hf hr => by
      by_cases hvs : v = s
      · subst hvs
        have r0 := rk_0 (np := np) hD.1
        have := h2 v hv hf (by omega)
        exact Nat.le_trans (g4 v) this
      · obtain ⟨u, x, u1, u2, u3, u4, u5⟩ := hD.2.2.2 v hv hvs hf
        have hr2 := rk_lt (D := D) (v := v) u1 (show D u < D v by omega)
        have hu := h2 u u1 (by omega) (by omega)
        obtain ⟨e, e1, e2, e3⟩ := u4
        have := g5 e u v x (by omega) e1 e2 u3 u1 hv e3
        omega)
    refine ⟨N', H', fun kx => ?_, k2, k3⟩
    rw [f_X3_measure_13, hA.2.1 _ _ (by omega), hL.1, if_neg (by rw [o_le (by omega) (by omega)]; omega), e0z, g1]
    unfold f_X3_measure_103
    rw [o_addl]
    exact k1 kx
theorem fill10 {c : Nat} (B : k_M) : ∀ (m n j : Nat) (N : k_M), j + m = 8 → m < n → (∀ i, i < j → N.1 c i = Int32.ofNat 10000) → (∀ a i, a ≠ c → N.1 a i = B.1 a i) → N.2 = B.2 → ∃ N', (∀ kx, f_J7_fill_53178_5 c 8 n 10000 (Int32.ofNat j) (Int32.ofNat 8) N kx = kx N') ∧ AH B N' c (fun _ => 10000)
  | 0, n, j, N, hj, hn, h1, h2, h3 => by
    obtain ⟨n, rfl⟩ : ∃ k, n = k + 1 := ⟨n - 1, by omega⟩
    refine ⟨N, fun kx => ?_, fun v hv => h1 v (by omega), h2, h3, fun _ => Nat.le_refl _⟩
    rw [f_J7_fill_53178_5, if_pos (by rw [o_le (by omega) (by omega)]; omega)]
  | m + 1, n, j, N, hj, hn, h1, h2, h3 => by
    obtain ⟨n, rfl⟩ : ∃ k, n = k + 1 := ⟨n - 1, by omega⟩
    obtain ⟨N', g1, g2⟩ := fill10 (c := c) B m n (j + 1) (sI N c j 10000) (by omega) (by omega) (fun i hi => by
      rw [sI_g]
      by_cases hij : i = j
      · rw [if_pos ⟨rfl, hij⟩]
        rfl
      · rw [if_neg (fun q => hij q.2)]
        exact h1 i (by omega)) (fun a i ha => by rw [sI_g, if_neg (fun q => ha q.1)]; exact h2 a i ha) h3
    refine ⟨N', fun kx => ?_, g2⟩
    rw [f_J7_fill_53178_5, if_neg (by rw [o_le (by omega) (by omega)]; omega), wrI_o (by omega) (by omega), o_addl]
    exact g1 kx
theorem measX {s : Nat} (hs : s < np) (hc : w + 14 ≤ c) (hL : LX w B np nw pl wy) (hF : WFl np nw pl wy) (hD : TD np nw wy s D) : ∃ N, f_X3_measure w c 8 (Int32.ofNat s) B = some ((), N) ∧ (∀ v, v < np → N.1 c v = Int32.ofNat (D v)) ∧ (∀ a j, a ≠ c → N.1 a j = B.1 a j) ∧ N.2 = B.2 := by
  have np8 := hF.1
  obtain ⟨N1, g1, g2⟩ := fill10 (c := c) B 8 k_fu 0 B (by omega) (by unfold k_fu; omega) (fun i hi => by omega) (fun _ _ _ => rfl) rfl
  have A2 := AH_w (u := s) (x := 0) g2 (by omega)
  obtain ⟨N', H', k1, k2, k3⟩ := meas13 hs hc hL hF hD (np - 1) k_fu 0 _ _ (by omega) (by unfold k_fu; omega) A2 (fun v hv => by
    by_cases hvs : v = s
    · rw [if_pos hvs, hvs, hD.1]
      exact Nat.le_refl _
    · rw [if_neg hvs]
      exact hD.2.1 v hv) (fun v hv hf hr => by
    by_cases hvs : v = s
    · rw [if_pos hvs]
      exact Nat.zero_le _
    · obtain ⟨u, x, u1, u2, u3, u4, u5⟩ := hD.2.2.2 v hv hvs hf
      have hr2 := rk_lt (D := D) (v := v) u1 (show D u < D v by omega)
      omega)
  refine ⟨N', ?_, fun v hv => by rw [k2.1 v (by omega), k3 v hv], k2.2.1, k2.2.2.1⟩
  unfold f_X3_measure f_J7_fill_53178
  rw [bN_e, e0z, g1]
  unfold f_J7_fill_53178_20
  have e1 : (1 : Int32) = Int32.ofNat (0 + 1) := rfl
  rw [bd_s, wrI_o (by omega) (by omega), e1, k1]
  rfl
end
theorem TD_of {np nw s : Nat} {pl wy : Nat → Int32} {G : Nat → Nat → Nat} (hF : WFl np nw pl wy) (h : FW np nw wy np G) (hs : s < np) : TD np nw wy s (G s) := ⟨h.1 s, fun v _ => h.2.1 s v, fun u v x hu hv hx he => FW_tri h hF hs hu hv hx he, fun v hv hvs hf => by
  obtain ⟨u, w, k1, k2, k3, k4, k5⟩ := FW_tight hF h hs hv (fun q => hvs q.symm) hf
  exact ⟨u, w, k1, k2, k3, k4, k5⟩⟩
