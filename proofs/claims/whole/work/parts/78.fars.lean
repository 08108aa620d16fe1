/-! ===== the pure layer: how far: the reference's table ===== -/
/-- 10000: there is no way -/
def enc (x : Nat) : Int32 := if x = 10000 then -1 else Int32.ofNat x
theorem enc_lt {x : Nat} (hx : x ≤ 10000) : (enc x < 0) = (x = 10000) := by
  unfold enc
  by_cases h : x = 10000
  · rw [if_pos h]
    exact propext ⟨fun _ => h, fun _ => by decide⟩
  · rw [if_neg h]
    refine propext ⟨fun hh => absurd hh (Int32.not_lt.mpr (o_nn (by omega))), fun hh => absurd hh h⟩
theorem enc_f {x : Nat} (h : ¬ x = 10000) : enc x = Int32.ofNat x := if_neg h
def upF (F : Nat → Nat → Nat) (u v x : Nat) : Nat → Nat → Nat := fun a b => if a = u ∧ b = v then Nat.min (F a b) x else F a b
/-- the table in the memory -/
def AF (M N : k_M) (F : Nat → Nat → Nat) : Prop := (∀ a b, a < 8 → b < 8 → N.1 94 (8 * a + b) = enc (F a b)) ∧ (∀ a j, a ≠ 94 → N.1 a j = M.1 a j) ∧ N.2 = M.2 ∧ ∀ a b, F a b ≤ 10000
theorem AF_c {M N : k_M} {F : Nat → Nat → Nat} (h : AF M N F) {a : Nat} (ha : a ≠ 94) : N.1 a = M.1 a := funext fun j => h.2.1 a j ha
theorem AF_FR {M N : k_M} {F : Nat → Nat → Nat} (h : AF M N F) : FR M N := ⟨fun a j hs => h.2.1 a j (by unfold scr at hs; omega), fun _ _ _ => by rw [h.2.2.1], fun _ _ => by rw [h.2.2.1], by rw [h.2.2.1]⟩
theorem nearerM {M N : k_M} {F : Nat → Nat → Nat} {u v x : Nat} (h : AF M N F) (hu : u < 8) (hv : v < 8) (hx : x < 10000) : ∃ N', f_X12_nearer (Int32.ofNat u) (Int32.ofNat v) (Int32.ofNat x) N = some ((), N') ∧ AF M N' (upF F u v x) := by
  have ei : (8 : Int32) * Int32.ofNat u + Int32.ofNat v = Int32.ofNat (8 * u + v) := by
    have : (8 : Int32) * Int32.ofNat u = Int32.ofNat (8 * u) := o_lmul u 8
    rw [this, o_add]
  have hF := h.2.2.2 u v
  have e : f_X12_nearer (Int32.ofNat u) (Int32.ofNat v) (Int32.ofNat x) N = some ((), sI N 94 (8 * u + v) (enc (Nat.min (F u v) x))) := by
    unfold f_X12_nearer f_X12_nearer_39 f_X12_nearer_54
    rw [ei, rdI_o (by omega) (by omega), h.1 u v hu hv]
    by_cases hi : F u v = 10000
    · rw [if_pos (by rw [enc_lt hF]; exact hi), wrI_o (by omega) (by omega), hi, show Nat.min 10000 x = x from Nat.min_eq_right (by omega), enc_f (by omega)]
    · rw [if_neg (by rw [enc_lt hF]; exact hi), rdI_o (by omega) (by omega), h.1 u v hu hv, enc_f hi]
      by_cases hl : F u v ≤ x
      · rw [if_pos (by rw [o_le (by omega) (by omega)]; exact hl), rdI_o (by omega) (by omega), h.1 u v hu hv, enc_f hi, wrI_o (by omega) (by omega), show Nat.min (F u v) x = F u v from Nat.min_eq_left hl, enc_f hi]
      · rw [if_neg (by rw [o_le (by omega) (by omega)]; exact hl), wrI_o (by omega) (by omega), show Nat.min (F u v) x = x from Nat.min_eq_right (by omega), enc_f (by omega)]
  refine ⟨_, e, fun a b ha hb => ?_, fun a j ha => ?_, h.2.2.1, fun a b => ?_⟩
  · unfold upF
    by_cases hh : a = u ∧ b = v
    · obtain ⟨rfl, rfl⟩ := hh
      rw [sI_g, if_pos ⟨rfl, rfl⟩, if_pos ⟨rfl, rfl⟩]
    · rw [sI_g, if_neg (by omega), if_neg hh]
      exact h.1 a b ha hb
  · rw [sI_g, if_neg (by omega)]
    exact h.2.1 a j ha
  · unfold upF
    split
    · exact Nat.le_trans (Nat.min_le_left _ _) (h.2.2.2 a b)
    · exact h.2.2.2 a b
def Fz (a b : Nat) : Nat := if a = b then 0 else 10000
theorem fill94 (M : k_M) : ∀ (m k i : Nat) (N : k_M), i + m = 64 → m < k → (∀ j, j < i → N.1 94 j = enc (Fz (j / 8) (j % 8))) → (∀ a j, a ≠ 94 → N.1 a j = M.1 a j) → N.2 = M.2 → ∃ N', (∀ kx, f_X12_findFars_2 k (Int32.ofNat i) N kx = kx N') ∧ AF M N' Fz
  | 0, k, i, N, hi, hk, h1, h2, h3 => by
    obtain ⟨k, rfl⟩ : ∃ q, k = q + 1 := ⟨k - 1, by omega⟩
    refine ⟨N, fun kx => ?_, fun a b ha hb => ?_, h2, h3, fun a b => ?_⟩
    · rw [f_X12_findFars_2, if_pos (by rw [o_lle (by omega) (by omega)]; omega)]
    · rw [h1 _ (by omega), show (8 * a + b) / 8 = a by omega, show (8 * a + b) % 8 = b by omega]
    · unfold Fz
      split <;> omega
  | m + 1, k, i, N, hi, hk, h1, h2, h3 => by
    obtain ⟨k, rfl⟩ : ∃ q, k = q + 1 := ⟨k - 1, by omega⟩
    obtain ⟨N', g1, g2⟩ := fill94 M m k (i + 1) (sI N 94 i (enc (Fz (i / 8) (i % 8)))) (by omega) (by omega) (fun j hj => by
      rw [sI_g]
      by_cases hij : j = i
      · subst hij
        rw [if_pos ⟨rfl, rfl⟩]
      · rw [if_neg (by omega)]
        exact h1 j (by omega)) (fun a j ha => by rw [sI_g, if_neg (by omega)]; exact h2 a j ha) h3
    refine ⟨N', fun kx => ?_, g2⟩
    rw [f_X12_findFars_2, if_neg (by rw [o_lle (by omega) (by omega)]; omega), o_rem (by omega) (by omega), o_divl (by omega) (by omega)]
    unfold f_X12_findFars_29
    by_cases he : i / 8 = i % 8
    · have e0 : enc (Fz (i / 8) (i % 8)) = 0 := by
        unfold Fz
        rw [if_pos he]
        rfl
      rw [if_pos (congrArg Int32.ofNat he), wrI_o (by omega) (by omega), o_addl, ← e0]
      exact g1 kx
    · have e0 : enc (Fz (i / 8) (i % 8)) = -1 := by
        unfold Fz
        rw [if_neg he]
        rfl
      rw [if_neg (by rw [o_eq (by omega) (by omega)]; exact he), wrI_o (by omega) (by omega), o_addl, ← e0]
      exact g1 kx
/-- a way from u to v, of w days -/
def edg (nw : Nat) (wy : Nat → Int32) (u v w : Nat) : Prop := ∃ e, e < nw ∧ wy (5 * e + 2) = Int32.ofNat w ∧ ((wy (5 * e) = Int32.ofNat u ∧ wy (5 * e + 1) = Int32.ofNat v) ∨ (wy (5 * e) = Int32.ofNat v ∧ wy (5 * e + 1) = Int32.ofNat u))
/-- a walk of n ways, x days -/
def Wk (ed : Nat → Nat → Nat → Prop) : Nat → Nat → Nat → Nat → Prop
  | 0, a, b, x => a = b ∧ x = 0
  | n + 1, a, b, x => ∃ u w y, u < 8 ∧ b < 8 ∧ ed u b w ∧ x = y + w ∧ Wk ed n a u y
theorem Wk_tr {ed : Nat → Nat → Nat → Prop} {a b : Nat} {n x : Nat} (h : Wk ed n a b x) : ∀ (m y : Nat) (c : Nat), Wk ed m b c y → ∃ k, Wk ed k a c (x + y)
  | 0, y, c, g => by
    obtain ⟨rfl, rfl⟩ := g
    exact ⟨n, h⟩
  | m + 1, y, c, g => by
    obtain ⟨u, w, z, g1, g2, g3, g4, g5⟩ := g
    obtain ⟨k, hk⟩ := Wk_tr h m z u g5
    exact ⟨k + 1, u, w, x + z, g1, g2, g3, by omega, hk⟩
/-- the table's finite numbers are walks, and not too great -/
def FS (ed : Nat → Nat → Nat → Prop) (c : Nat) (F : Nat → Nat → Nat) : Prop := (∀ a, F a a = 0) ∧ ∀ a b, a < 8 → b < 8 → F a b = 10000 ∨ (F a b ≤ c ∧ ∃ n, Wk ed n a b (F a b))
theorem FS_up {ed : Nat → Nat → Nat → Prop} {c x u v : Nat} {F : Nat → Nat → Nat} (h : FS ed c F) (hx : x ≤ c) (hw : ∃ n, Wk ed n u v x) : FS ed c (upF F u v x) := by
  refine ⟨fun a => ?_, fun a b ha hb => ?_⟩
  · unfold upF
    split
    · rw [h.1 a]
      exact Nat.min_eq_left (Nat.zero_le _)
    · exact h.1 a
  · unfold upF
    by_cases hh : a = u ∧ b = v
    · obtain ⟨rfl, rfl⟩ := hh
      rw [if_pos ⟨rfl, rfl⟩]
      by_cases hl : F a b ≤ x
      · rw [show Nat.min (F a b) x = F a b from Nat.min_eq_left hl]
        exact h.2 a b ha hb
      · rw [show Nat.min (F a b) x = x from Nat.min_eq_right (by omega)]
        exact .inr ⟨hx, hw⟩
    · rw [if_neg hh]
      exact h.2 a b ha hb
theorem upF_le {F : Nat → Nat → Nat} {u v x : Nat} (a b : Nat) : upF F u v x a b ≤ F a b := by
  unfold upF
  split
  · exact Nat.min_le_left _ _
  · exact Nat.le_refl _
theorem upF_at {F : Nat → Nat → Nat} {u v x : Nat} : upF F u v x u v ≤ x := by
  unfold upF
  rw [if_pos ⟨rfl, rfl⟩]
  exact Nat.min_le_right _ _
/-- the ways are told to the table -/
theorem fars38 {M : k_M} {np nw : Nat} (hw : M.1 76 2 = Int32.ofNat nw) (hF : WFl np nw (M.1 77) (M.1 78)) : ∀ (m k e : Nat) (N : k_M) (F : Nat → Nat → Nat), e + m = nw → m < k → AF M N F → FS (edg nw (M.1 78)) 4 F → ∃ N' F', (∀ kx, f_X12_findFars_38 k (Int32.ofNat e) N kx = kx N') ∧ AF M N' F' ∧ FS (edg nw (M.1 78)) 4 F' ∧ (∀ a b, F' a b ≤ F a b) ∧ ∀ i u v w, e ≤ i → i < nw → M.1 78 (5 * i) = Int32.ofNat u → M.1 78 (5 * i + 1) = Int32.ofNat v → M.1 78 (5 * i + 2) = Int32.ofNat w → u < 8 → v < 8 → w ≤ 4 → F' u v ≤ w ∧ F' v u ≤ w
  | 0, k, e, N, F, he, hk, hA, hS => by
    obtain ⟨k, rfl⟩ : ∃ q, k = q + 1 := ⟨k - 1, by omega⟩
    have nw12 := hF.2.1
    refine ⟨N, F, fun kx => ?_, hA, hS, fun a b => Nat.le_refl _, fun i u v w q1 q2 => by omega⟩
    rw [f_X12_findFars_38, AF_c hA (by omega), hw, if_pos (by rw [o_le (by omega) (by omega)]; omega)]
  | m + 1, k, e, N, F, he, hk, hA, hS => by
    obtain ⟨k, rfl⟩ : ∃ q, k = q + 1 := ⟨k - 1, by omega⟩
    have nw12 := hF.2.1
    have np8 := hF.1
    obtain ⟨a, b, d, a1, a2, a3, a4, a5, a6, a7, -⟩ := hF.2.2.2 e (by omega)
    have its : ∀ (N : k_M) (F : Nat → Nat → Nat), AF M N F → ∀ j, j < 5 → f_X12_wayIts (Int32.ofNat e) (Int32.ofNat j) N = some (M.1 78 (5 * e + j), N) := fun N F hA j hj => by
      unfold f_X12_wayIts
      have : (5 : Int32) * Int32.ofNat e = Int32.ofNat (5 * e) := o_lmul e 5
      rw [this, o_add, rdI_o (by omega) (by omega), AF_c hA (by omega)]
    have ed1 : edg nw (M.1 78) a b d := ⟨e, by omega, a7, .inl ⟨a5, a6⟩⟩
    have ed2 : edg nw (M.1 78) b a d := ⟨e, by omega, a7, .inr ⟨a5, a6⟩⟩
    obtain ⟨N1, g1, g2⟩ := nearerM (u := a) (v := b) (x := d) hA (by omega) (by omega) (by omega)
    obtain ⟨N2, g3, g4⟩ := nearerM (u := b) (v := a) (x := d) g2 (by omega) (by omega) (by omega)
    have S1 := FS_up (u := a) (v := b) hS a4 ⟨1, a, d, 0, by omega, by omega, ed1, by omega, rfl, rfl⟩
    have S2 := FS_up (u := b) (v := a) S1 a4 ⟨1, b, d, 0, by omega, by omega, ed2, by omega, rfl, rfl⟩
    obtain ⟨N', F', k1, k2, k3, k4, k5⟩ := fars38 hw hF m k (e + 1) N2 _ (by omega) (by omega) g4 S2
    refine ⟨N', F', fun kx => ?_, k2, k3, fun x y => Nat.le_trans (k4 x y) (Nat.le_trans (upF_le x y) (upF_le x y)), fun i u v w q1 q2 q3 q4 q5 q6 q7 q8 => ?_⟩
    · have i0 : ∀ (N : k_M) (F : Nat → Nat → Nat), AF M N F → f_X12_wayIts (Int32.ofNat e) 0 N = some (Int32.ofNat a, N) := fun N F h => by rw [← a5]; exact its N F h 0 (by omega)
      have i1 : ∀ (N : k_M) (F : Nat → Nat → Nat), AF M N F → f_X12_wayIts (Int32.ofNat e) 1 N = some (Int32.ofNat b, N) := fun N F h => by rw [← a6]; exact its N F h 1 (by omega)
      have i2 : ∀ (N : k_M) (F : Nat → Nat → Nat), AF M N F → f_X12_wayIts (Int32.ofNat e) 2 N = some (Int32.ofNat d, N) := fun N F h => by rw [← a7]; exact its N F h 2 (by omega)
      rw [f_X12_findFars_38, AF_c hA (by omega), hw, if_neg (by rw [o_le (by omega) (by omega)]; omega), i0 N F hA, bd_s, i1 N F hA, bd_s, i2 N F hA, bd_s, g1, bd_s, i1 N1 _ g2, bd_s, i0 N1 _ g2, bd_s, i2 N1 _ g2, bd_s, g3, bd_s, o_addl]
      exact k1 kx
    · by_cases hie : i = e
      · subst hie
        rw [a5, o_eq (by omega) (by omega)] at q3
        rw [a6, o_eq (by omega) (by omega)] at q4
        rw [a7, o_eq (by omega) (by omega)] at q5
        subst q3 q4 q5
        exact ⟨Nat.le_trans (k4 _ _) (Nat.le_trans (upF_le _ _) upF_at), Nat.le_trans (k4 _ _) upF_at⟩
      · exact k5 i u v w (by omega) q2 q3 q4 q5 q6 q7 q8
