/-! ===== the pure layer: the two ends of a way, its months ===== -/
abbrev frd (f : Nat → Nat) (n s np nw : Nat) (wy : Nat → Int32) : Prop := okN f n s 0 np ∧ (wls nw wy (nv f n s)).length < 4
theorem wO_f {M : k_M} (h : M.1 76 18 = 0) (p : Int32) : f_X12_wantOne p M = some (M.1 76 17, M) := by
  unfold f_X12_wantOne
  rw [if_pos h]
  unfold f_X12_wantOne_75 f_X12_wantOne_76
  rw [ckZ_0, bN_e, fl_0 h, wN_f h, bd_s]
theorem wO75 (M : k_M) : f_X12_wantOne_75 M = some (M.1 76 17, sI M 76 18 0) := by
  unfold f_X12_wantOne_75 f_X12_wantOne_76
  rw [ckZ_0, bN_e, wN_f (fl_g0 M), bd_s, sI_g, if_neg (by omega)]
section
variable {f : Nat → Nat} {n np nw s : Nat} {Bx Bm Mx Mm : k_M}
theorem freeX (h : Qq f n Bx Bm np nw s Mx Mm) : f_X7_isFreePlace 43 Mx = some (if frd f n s np nw (Mm.1 85) then 1 else 0, Mx) := by
  have hle := Q_le h
  have k1 := h.2.2.2.1.1
  have k2 := h.2.2.2.1.2.1
  unfold f_X7_isFreePlace
  rw [isNumX (lo := 0) (h := np) (p1 := 0) (p2 := Mx.1 (43 + 1) 0 - 1) h.1 (by omega) rfl (by rw [k2.1]) (by omega), bd_s, z01]
  by_cases hN : okN f n s 0 np
  · have hv := hN.2.2
    have l4 := (k1.2.2.1 _ hv).2.2.2
    rw [if_pos hN, valX h.1 hN.1]
    unfold f_X3_canJoin
    rw [rdI_o (by omega) (by omega), (k2.2.2.1 _ hv).2.2.2.1]
    by_cases hl : (wls nw (Mm.1 85) (nv f n s)).length < 4
    · rw [if_neg (by rw [o_lle (by omega) (by omega)]; omega), bd_s, if_neg (show ¬ (1 : Int32) = 0 by decide), if_pos ⟨hN, hl⟩]
    · rw [if_pos (by rw [o_lle (by omega) (by omega)]; omega), bd_s, if_pos rfl, if_neg (fun q => hl q.2)]
  · rw [if_neg hN, if_neg (fun q => hN q.1)]
theorem wO71_no (h : Qq f n Bx Bm np nw s Mx Mm) (hN : ¬ okN f n s 0 np) : f_X12_wantOne_71 Mm = some (Mm.1 76 17, sI Mm 76 18 0) := by
  have hle := Q_le h
  unfold f_X12_wantOne_71 f_X12_wantOne_76
  rw [ckZ_1, bN_e, fl_1 h.2.2.1, wN_no (lo := 0) (h := np) (p1 := 0) (p2 := Mm.1 76 19 - 1) h.2.2.1 h.2.1 (by omega) rfl (by rw [h.2.2.2.1.2.2.1]) (by omega) hN, bd_s]
theorem wO_go (h : Qq f n Bx Bm np nw s Mx Mm) (hN : okN f n s 0 np) (p : Int32) : f_X12_wantOne p Mm = if Int32.ofNat (nv f n s) = p then f_X12_wantOne_75 Mm else if Int32.ofNat (wls nw (Mm.1 85) (nv f n s)).length = 4 then f_X12_wantOne_75 Mm else f_X12_wantOne_71 Mm := by
  have hle := Q_le h
  have hv := hN.2.2
  have e17 := valM h.2.1 hN.1 (by omega)
  unfold f_X12_wantOne
  rw [h.2.2.1, if_neg (show ¬ (1 : Int32) = 0 by decide), h.2.1.2.2.2.1, if_pos (by rw [hN.1]; rfl), inM (lo := 0) (h := np) (p1 := 0) (p2 := Mm.1 76 19 - 1) h.2.1 (by omega) rfl (by rw [h.2.2.2.1.2.2.1]) (by omega) hN.1, bd_s, if_pos hN, if_neg (show ¬ (1 : Int32) = 0 by decide), e17]
  by_cases hp : Int32.ofNat (nv f n s) = p
  · rw [if_pos hp, if_pos hp]
  · rw [if_neg hp, if_neg hp, in_e, bd_s, z01, if_pos (show (0 : Int32) ≤ Int32.ofNat (nv f n s) ∧ Int32.ofNat (nv f n s) ≤ 7 from ⟨o_nn (by omega), by rw [o_lel (by omega) (by omega)]; omega⟩)]
    unfold f_X12_wantOne_66
    rw [e17, rdI_o (by omega) (by omega), h.2.2.2.1.2.2.2.2.1 _ hv]
theorem wO_ok (h : Qq f n Bx Bm np nw s Mx Mm) (hN : frd f n s np nw (Mm.1 85)) {p : Int32} (hp : ¬ Int32.ofNat (nv f n s) = p) : f_X12_wantOne p Mm = bd (f_X12_advance Mm) (fun _ M' => some (Int32.ofNat (nv f n s), M')) := by
  have hle := Q_le h
  have hl := hN.2
  rw [wO_go h hN.1, if_neg hp, if_neg (by rw [o_eql (by omega) (by omega)]; omega)]
  unfold f_X12_wantOne_71 f_X12_wantOne_76
  rw [ckZ_1, bN_e, fl_1 h.2.2.1, wN_ok (lo := 0) (h := np) (p1 := 0) (p2 := Mm.1 76 19 - 1) h.2.2.1 h.2.1 (by omega) rfl (by rw [h.2.2.2.1.2.2.1]) (by omega) hN.1]
  cases f_X12_advance Mm with
  | none => rfl
  | some q => rfl
theorem wO_no (h : Qq f n Bx Bm np nw s Mx Mm) {p : Int32} (hN : ¬ (frd f n s np nw (Mm.1 85) ∧ ¬ Int32.ofNat (nv f n s) = p)) : f_X12_wantOne p Mm = some (Mm.1 76 17, sI Mm 76 18 0) := by
  have hle := Q_le h
  have t3 := tS_b f n s
  by_cases hk : okN f n s 0 np
  · rw [wO_go h hk]
    by_cases hp : Int32.ofNat (nv f n s) = p
    · rw [if_pos hp, wO75]
    · have l4 := (h.2.2.2.1.1.2.2.1 _ hk.2.2).2.2.2
      rw [if_neg hp, if_pos, wO75]
      rw [o_eql (by omega) (by omega)]
      by_cases h4 : (wls nw (Mm.1 85) (nv f n s)).length = 4
      · exact h4
      · exact absurd ⟨⟨hk, by omega⟩, hp⟩ hN
  · unfold f_X12_wantOne
    rw [h.2.2.1, if_neg (show ¬ (1 : Int32) = 0 by decide), h.2.1.2.2.2.1]
    by_cases h2 : tS f n s = 2
    · rw [if_pos (by rw [h2]; rfl), inM (lo := 0) (h := np) (p1 := 0) (p2 := Mm.1 76 19 - 1) h.2.1 (by omega) rfl (by rw [h.2.2.2.1.2.2.1]) (by omega) h2, bd_s, if_neg hk, if_pos rfl, wO71_no h hk]
    · rw [if_neg (by rw [o_eql (by omega) (by omega)]; exact h2), wO71_no h hk]
end
theorem adv_85 {f : Nat → Nat} {n s : Nat} {M M' : k_M} (h : TM M f n s) (e : f_X12_advance M = some ((), M')) : M'.1 85 = M.1 85 := by
  obtain ⟨Y, y1, y2, y3, -⟩ := TM_adv h
  rw [e] at y1
  have := (Prod.mk.inj (Option.some.inj y1)).2
  subst this
  exact funext fun j => y3 _ _ (by omega)
theorem bit_31 : ∀ v, v < 12 → ((1 : Int32) <<< (Int32.ofNat v &&& 31)).toBitVec.getLsbD 31 = false := by decide +kernel
theorem bit_or {a b : Int32} (ha : a.toBitVec.getLsbD 31 = false) (hb : b.toBitVec.getLsbD 31 = false) : (a ||| b).toBitVec.getLsbD 31 = false := by
  rw [Int32.toBitVec_or, BitVec.getLsbD_or, ha, hb]
  rfl
theorem bit_ne {a : Int32} (ha : a.toBitVec.getLsbD 31 = false) : ¬ a = -1 := fun h => by
  rw [h] at ha
  exact absurd ha (by decide)
theorem w84_0 {k : Nat} {a b c d mo : Int32} {M : k_M} (kx : Int32 → Int32 → Int32 → Int32 → Int32 → k_M → Option (Unit × k_M)) : f_X12_wantWay_84 (k + 1) a b c d mo 0 M kx = kx a b c d mo M := by
  rw [f_X12_wantWay_84, if_pos rfl]
theorem months_0 {f : Nat → Nat} {n np nw : Nat} {Bx Bm : k_M} {k k' s : Nat} {q mo : Int32} {Mx Mm : k_M} (h : Qq f n Bx Bm np nw s Mx Mm) (hk : 0 < k) (hk' : 0 < k') (hb : mo.toBitVec.getLsbD 31 = false) : (∃ Mx' Mm' mo' s', s ≤ s' ∧ mo'.toBitVec.getLsbD 31 = false ∧ (∀ kx36 kx64, f_X7_readMonths_11 k mo 0 q Mx kx36 kx64 = kx64 mo' Mx') ∧ (∀ a b c d kx, f_X12_wantWay_84 k' a b c d mo 0 Mm kx = kx a b c d mo' Mm') ∧ Qq f n Bx Bm np nw s' Mx' Mm' ∧ Mm'.1 85 = Mm.1 85) := by
  obtain ⟨k, rfl⟩ : ∃ q, k = q + 1 := ⟨k - 1, by omega⟩
  obtain ⟨k', rfl⟩ : ∃ q, k' = q + 1 := ⟨k' - 1, by omega⟩
  refine ⟨Mx, Mm, mo, s, Nat.le_refl s, hb, fun kx36 kx64 => ?_, fun a b c d kx => w84_0 kx, h, rfl⟩
  rw [f_X7_readMonths_11, if_pos (show (0 : Int32) = 0 from rfl)]
  split <;> rfl
theorem months_l {f : Nat → Nat} {n np nw : Nat} {Bx Bm : k_M} : ∀ (m k k' s q : Nat) (mo r : Int32) (Mx Mm : k_M), Qq f n Bx Bm np nw s Mx Mm → n - s ≤ m → m < k → m < k' → q ≤ s → mo.toBitVec.getLsbD 31 = false → (r = 0 ∨ (r = 1 ∧ s < n)) →
    (∃ Mx' Mm' mo', (∀ kx36 kx64, f_X7_readMonths_11 k mo r (Int32.ofNat q) Mx kx36 kx64 = kx36 Mx') ∧ (∀ a b c d kx, f_X12_wantWay_84 k' a b c d mo r Mm kx = kx a b c d mo' Mm') ∧ OutF Bx Bm Mx' Mm') ∨
    (∃ Mx' Mm' mo' s', s ≤ s' ∧ mo'.toBitVec.getLsbD 31 = false ∧ (∀ kx36 kx64, f_X7_readMonths_11 k mo r (Int32.ofNat q) Mx kx36 kx64 = kx64 mo' Mx') ∧ (∀ a b c d kx, f_X12_wantWay_84 k' a b c d mo r Mm kx = kx a b c d mo' Mm') ∧ Qq f n Bx Bm np nw s' Mx' Mm' ∧ Mm'.1 85 = Mm.1 85)
  | 0, k, k', s, q, mo, r, Mx, Mm, h, hm, hk, hk', hq, hb, hr => by
    rcases hr with rfl | ⟨rfl, hs⟩
    · exact .inr (months_0 h (by omega) (by omega) hb)
    · omega
  | m + 1, k, k', s, q, mo, r, Mx, Mm, h, hm, hk, hk', hq, hb, hr => by
    rcases hr with rfl | ⟨rfl, hs⟩
    · exact .inr (months_0 h (by omega) (by omega) hb)
    · have hle := Q_le h
      obtain ⟨k, rfl⟩ : ∃ q, k = q + 1 := ⟨k - 1, by omega⟩
      obtain ⟨k', rfl⟩ : ∃ q, k' = q + 1 := ⟨k' - 1, by omega⟩
      obtain ⟨X1, Y1, x1, y1, q1⟩ := Q_step h
      have b1 := (nx_b f hle.1).2.2 hs
      have st : ∀ kx36 kx64, f_X7_readMonths_11 (k + 1) mo 1 (Int32.ofNat q) Mx kx36 kx64 = if okN f n (nx f n s) 0 12 then bN (mo ||| (1 <<< ((X1.1 1 5) &&& 31))) (fun v5 => bd (f_X7_step X1) (fun r6 M7 => bd (f_X7_isNamed 2 M7) (fun r8 M9 => f_X7_readMonths_11 k v5 r8 (Int32.ofNat (q + 1)) M9 kx36 kx64))) else kx36 X1 := fun kx36 kx64 => by
        rw [f_X7_readMonths_11, if_neg (by rw [o_lle (by omega) (by omega)]; omega), if_neg (show ¬ (1 : Int32) = 0 by decide), x1, bd_s, isNumX (lo := 0) (h := 12) (p1 := 0) (p2 := 11) q1.1 (by omega) rfl (by decide) (by omega), bd_s, z01, o_addl]
      by_cases hN : okN f n (nx f n s) 0 12
      · obtain ⟨X2, Y2, x2, y2, q2⟩ := Q_step q1
        have b2 := nx_b f (Q_le q1).1
        have hv := hN.2.2
        have hr' : (if nmd f n (nx f n (nx f n s)) 2 then (1 : Int32) else 0) = 0 ∨ ((if nmd f n (nx f n (nx f n s)) 2 then (1 : Int32) else 0) = 1 ∧ nx f n (nx f n s) < n) := by
          by_cases hd : nmd f n (nx f n (nx f n s)) 2
          · rw [if_pos hd]
            exact .inr ⟨rfl, nmd_s hd⟩
          · rw [if_neg hd]
            exact .inl rfl
        have hx : ∀ kx36 kx64, f_X7_readMonths_11 (k + 1) mo 1 (Int32.ofNat q) Mx kx36 kx64 = f_X7_readMonths_11 k (mo ||| (1 <<< (Int32.ofNat (nv f n (nx f n s)) &&& 31))) (if nmd f n (nx f n (nx f n s)) 2 then (1 : Int32) else 0) (Int32.ofNat (q + 1)) X2 kx36 kx64 := fun kx36 kx64 => by
          rw [st, if_pos hN, bN_e, valX q1.1 hN.1, x2, bd_s, isNamX (by omega) q2.1, bd_s]
        have hm' : ∀ a b c d kx, f_X12_wantWay_84 (k' + 1) a b c d mo 1 Mm kx = f_X12_wantWay_84 k' a b c d (mo ||| (1 <<< (Int32.ofNat (nv f n (nx f n s)) &&& 31))) (if nmd f n (nx f n (nx f n s)) 2 then (1 : Int32) else 0) Y2 kx := fun a b c d kx => by
          rw [f_X12_wantWay_84, if_neg (show ¬ (1 : Int32) = 0 by decide), y1, bd_s, wN_ok (lo := 0) (h := 12) (p1 := 0) (p2 := 11) q1.2.2.1 q1.2.1 (by omega) rfl (by decide) (by omega) hN, y2, bd_s, bd_s, q2.2.2.1, if_neg (show ¬ (1 : Int32) = 0 by decide)]
          unfold f_X12_wantWay_119
          rw [bN_e, q2.2.2.1, if_neg (show ¬ (1 : Int32) = 0 by decide), isWordM (k := 2) (p := 1111) (by omega) rfl q2.2.1, bd_s, z01]
          by_cases hd : nmd f n (nx f n (nx f n s)) 2
          · rw [if_pos hd, if_pos hd]
            rfl
          · rw [if_neg hd, if_neg hd]
            rfl
        rcases months_l m k k' (nx f n (nx f n s)) (q + 1) (mo ||| (1 <<< (Int32.ofNat (nv f n (nx f n s)) &&& 31))) (if nmd f n (nx f n (nx f n s)) 2 then (1 : Int32) else 0) X2 Y2 q2 (by omega) (by omega) (by omega) (by omega) (bit_or hb (bit_31 _ hv)) hr' with ⟨A, B, mo', g1, g2, g3⟩ | ⟨A, B, mo', s', g0, g1, g2, g3, g4, g5⟩
        · exact .inl ⟨A, B, mo', fun kx36 kx64 => (hx kx36 kx64).trans (g1 kx36 kx64), fun a b c d kx => (hm' a b c d kx).trans (g2 a b c d kx), g3⟩
        · exact .inr ⟨A, B, mo', s', by omega, g1, fun kx36 kx64 => (hx kx36 kx64).trans (g2 kx36 kx64), fun a b c d kx => (hm' a b c d kx).trans (g3 a b c d kx), g4, g5.trans ((adv_85 q1.2.1 y2).trans (adv_85 h.2.1 y1))⟩
      · refine .inl ⟨X1, sI Y1 76 18 0, mo ||| 0, fun kx36 kx64 => by rw [st, if_neg hN], fun a b c d kx => ?_, Q_fail q1⟩
        obtain ⟨k', rfl⟩ : ∃ q, k' = q + 1 := ⟨k' - 1, by omega⟩
        rw [f_X12_wantWay_84, if_neg (show ¬ (1 : Int32) = 0 by decide), y1, bd_s, wN_no (lo := 0) (h := 12) (p1 := 0) (p2 := 11) q1.2.2.1 q1.2.1 (by omega) rfl (by decide) (by omega) hN, bd_s, if_pos (fl_g0 Y1)]
        unfold f_X12_wantWay_119
        rw [bN_e, if_pos (fl_g0 Y1)]
        exact w84_0 (k := k') kx
