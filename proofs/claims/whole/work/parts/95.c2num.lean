/-! ===== the pure layer: numbers that are told ===== -/
def nv (f : Nat → Nat) (n s : Nat) : Nat := if tE f n s - s = 1 then f s - 48 else if tE f n s - s = 2 then 10 * (f s - 48) + (f (s + 1) - 48) else 1000
abbrev okN (f : Nat → Nat) (n s lo h : Nat) : Prop := tS f n s = 2 ∧ lo ≤ nv f n s ∧ nv f n s < h
theorem nv_b {f : Nat → Nat} {n s : Nat} (h : tS f n s = 2) : nv f n s ≤ 99 ∨ (nv f n s = 1000 ∧ 3 ≤ tE f n s - s) := by
  have hs : s < n := by
    have := (tS_b f n s).2
    omega
  have hb := (tE_b f (Nat.le_of_lt hs)).2.2 hs
  have d0 := srt_2 ((tok_all (.inr h) (Nat.le_refl s) hb).trans h)
  unfold nv
  by_cases h1 : tE f n s - s = 1
  · rw [if_pos h1]
    omega
  · rw [if_neg h1]
    by_cases h2 : tE f n s - s = 2
    · have d1 := srt_2 ((tok_all (i := s + 1) (.inr h) (by omega) (by omega)).trans h)
      rw [if_pos h2]
      omega
    · rw [if_neg h2]
      omega
theorem wVal_nv {f : Nat → Nat} {n s : Nat} (h : tS f n s = 2) : wVal f s (tE f n s) = Int32.ofNat (nv f n s) := by
  have hs : s < n := by
    have := (tS_b f n s).2
    omega
  have hb := (tE_b f (Nat.le_of_lt hs)).2.2 hs
  have d0 := srt_2 ((tok_all (.inr h) (Nat.le_refl s) hb).trans h)
  have e1 : (0 : Int32) * 10 + Int32.ofNat (f s) - 48 = Int32.ofNat (f s - 48) := by
    rw [show (0 : Int32) * 10 = Int32.ofNat 0 from rfl, o_add, o_subl (by omega), Nat.zero_add]
  unfold wVal nv
  by_cases h1 : tE f n s - s = 1
  · rw [if_pos (by omega), if_pos h1, h1]
    exact e1
  · rw [if_neg h1]
    by_cases h2 : tE f n s - s = 2
    · have d1 := srt_2 ((tok_all (i := s + 1) (.inr h) (by omega) (by omega)).trans h)
      rw [if_pos (by omega), if_pos h2, h2]
      show ((0 : Int32) * 10 + Int32.ofNat (f s) - 48) * 10 + Int32.ofNat (f (s + 1)) - 48 = _
      rw [e1, o_mull, o_add, o_subl (by omega)]
      congr 1
      omega
    · rw [if_neg (by omega), if_neg h2]
      rfl
theorem nm_nv {f : Nat → Nat} {n s : Nat} (h : tS f n s = 2) : (nv f n s ≤ 99 ∧ nmM f s (tE f n s - s) s 0 = Int32.ofNat (nv f n s)) ∨ (nv f n s = 1000 ∧ nmM f s (tE f n s - s) s 0 = -1) := by
  rcases nv_b h with h1 | ⟨h1, h2⟩
  · rcases num_two f (s := s) (e := tE f n s) with h3 | ⟨h3, h4⟩
    · exact .inl ⟨h1, by rw [← h3]; exact wVal_nv h⟩
    · rw [wVal_nv h, show (1000 : Int32) = Int32.ofNat 1000 from rfl] at h3
      have := o_inj (by omega) (by omega) h3
      omega
  · exact .inr ⟨h1, num_hi f h2⟩
theorem isNumX {f : Nat → Nat} {n s lo h : Nat} {M : k_M} {p1 p2 : Int32} (hT : TX M f n s) (hh : h ≤ 100) (e1 : p1 = Int32.ofNat lo) (e2 : p2 = Int32.ofNat h - 1) (hl : lo ≤ 100) : f_X7_isNumber p1 p2 M = some (if okN f n s lo h then 1 else 0, M) := by
  subst e1 e2
  have t3 := (tS_b f n s).1
  unfold f_X7_isNumber
  rw [hT.2.2.2.1]
  by_cases h2 : tS f n s = 2
  · have hn := nv_b h2
    rw [if_pos (by rw [h2]; rfl), hT.2.2.2.2.2 h2, wVal_nv h2]
    by_cases h3 : nv f n s < lo
    · rw [if_pos (by rw [o_lt (by omega) (by omega)]; exact h3), if_neg (fun q => by have := q.2.1; omega)]
    · rw [if_neg (by rw [o_lt (by omega) (by omega)]; exact h3)]
      by_cases h4 : h ≤ nv f n s
      · rw [if_pos (by rw [pr_lt (by omega), o_le (by omega) (by omega)]; exact h4), if_neg (fun q => by have := q.2.2; omega)]
      · rw [if_neg (by rw [pr_lt (by omega), o_le (by omega) (by omega)]; exact h4), if_pos ⟨h2, by omega, by omega⟩]
  · rw [if_neg (by rw [o_eql (by omega) (by omega)]; exact h2), if_neg (fun q => h2 q.1)]
theorem valX {f : Nat → Nat} {n s : Nat} {M : k_M} (hT : TX M f n s) (h : tS f n s = 2) : M.1 1 5 = Int32.ofNat (nv f n s) := by rw [hT.2.2.2.2.2 h, wVal_nv h]
theorem valM {f : Nat → Nat} {n s : Nat} {M : k_M} (hT : TM M f n s) (h : tS f n s = 2) (h9 : nv f n s < 1000) : M.1 76 17 = Int32.ofNat (nv f n s) := by
  rw [hT.2.2.2.2.2.1 h]
  rcases nm_nv h with h1 | h1
  · exact h1.2
  · omega
theorem inM {f : Nat → Nat} {n s lo h : Nat} {M N : k_M} {p1 p2 : Int32} (hT : TM M f n s) (hh : h ≤ 100) (e1 : p1 = Int32.ofNat lo) (e2 : p2 = Int32.ofNat h - 1) (hl : lo ≤ 100) (h2 : tS f n s = 2) : f_X12_in (M.1 76 17) p1 p2 N = some (if okN f n s lo h then 1 else 0, N) := by
  subst e1 e2
  have key : (Int32.ofNat lo ≤ M.1 76 17 ∧ M.1 76 17 ≤ Int32.ofNat h - 1) ↔ okN f n s lo h := by
    rw [le_pr (by omega), hT.2.2.2.2.2.1 h2]
    rcases nm_nv h2 with ⟨h3, h4⟩ | ⟨h3, h4⟩
    · rw [h4, o_le (by omega) (by omega), o_lt (by omega) (by omega)]
      exact ⟨fun q => ⟨h2, q⟩, fun q => q.2⟩
    · rw [h4]
      constructor
      · rintro ⟨q, -⟩
        have q := Int32.le_iff_toInt_le.mp q
        rw [o_int (by omega)] at q
        have : (-1 : Int32).toInt = -1 := by decide
        omega
      · rintro ⟨-, -, q⟩
        omega
  rw [in_e]
  by_cases hc : okN f n s lo h
  · rw [if_pos (key.mpr hc), if_pos hc]
  · rw [if_neg (fun q => hc (key.mp q)), if_neg hc]
/-- the flag of the reference -/
theorem fl_0 {M : k_M} (h : M.1 76 18 = 0) : sI M 76 18 0 = M := kM_ext (fun a j => by
  rw [sI_g]
  by_cases q : a = 76 ∧ j = 18
  · rw [if_pos q, q.1, q.2, h]
  · rw [if_neg q]) rfl
theorem fl_1 {M : k_M} (h : M.1 76 18 = 1) : sI M 76 18 1 = M := kM_ext (fun a j => by
  rw [sI_g]
  by_cases q : a = 76 ∧ j = 18
  · rw [if_pos q, q.1, q.2, h]
  · rw [if_neg q]) rfl
theorem ckZ_0 {β : Type} {k : Option β} : ckZ 0 k = k := ckZ_b (c := False)
theorem ckZ_1 {β : Type} {k : Option β} : ckZ 1 k = k := ckZ_b (c := True)
theorem fl_g0 (M : k_M) : (sI M 76 18 0).1 76 18 = 0 := by rw [sI_g, if_pos ⟨rfl, rfl⟩]
theorem wN34 (v : Int32) (M : k_M) : f_X12_wantNumber_34 v M = some (v, sI M 76 18 0) := by
  unfold f_X12_wantNumber_34 f_X12_wantNumber_35 f_X12_wantNumber_49
  rw [ckZ_0, bN_e, if_pos (fl_g0 M)]
theorem wN_f {M : k_M} (h : M.1 76 18 = 0) (a b : Int32) : f_X12_wantNumber a b M = some (M.1 76 17, M) := by
  unfold f_X12_wantNumber
  rw [bN_e, if_pos h, wN34, fl_0 h]
theorem wN_ok {f : Nat → Nat} {n s lo h : Nat} {M : k_M} {p1 p2 : Int32} (h1 : M.1 76 18 = 1) (hT : TM M f n s) (hh : h ≤ 100) (e1 : p1 = Int32.ofNat lo) (e2 : p2 = Int32.ofNat h - 1) (hl : lo ≤ 100) (hk : okN f n s lo h) : f_X12_wantNumber p1 p2 M = bd (f_X12_advance M) (fun _ M' => some (Int32.ofNat (nv f n s), M')) := by
  have h2 := hk.1
  have h3 := hk.2.2
  unfold f_X12_wantNumber
  rw [bN_e, h1, if_neg (show ¬ (1 : Int32) = 0 by decide), hT.2.2.2.1, if_pos (by rw [h2]; rfl), inM hT hh e1 e2 hl h2, bd_s, if_pos hk, if_neg (show ¬ (1 : Int32) = 0 by decide)]
  unfold f_X12_wantNumber_35 f_X12_wantNumber_49
  rw [ckZ_1, bN_e, fl_1 h1, h1, if_neg (show ¬ (1 : Int32) = 0 by decide), valM hT h2 (by omega)]
theorem wN_no {f : Nat → Nat} {n s lo h : Nat} {M : k_M} {p1 p2 : Int32} (h1 : M.1 76 18 = 1) (hT : TM M f n s) (hh : h ≤ 100) (e1 : p1 = Int32.ofNat lo) (e2 : p2 = Int32.ofNat h - 1) (hl : lo ≤ 100) (hk : ¬ okN f n s lo h) : f_X12_wantNumber p1 p2 M = some (M.1 76 17, sI M 76 18 0) := by
  have t3 := (tS_b f n s).1
  unfold f_X12_wantNumber
  rw [bN_e, h1, if_neg (show ¬ (1 : Int32) = 0 by decide), hT.2.2.2.1]
  by_cases h2 : tS f n s = 2
  · rw [if_pos (by rw [h2]; rfl), inM hT hh e1 e2 hl h2, bd_s, if_neg hk, if_pos rfl, wN34]
  · rw [if_neg (by rw [o_eql (by omega) (by omega)]; exact h2), wN34]
/-- the end of a piece -/
abbrev okE (f : Nat → Nat) (n s : Nat) : Prop := tS f n s = 3 ∧ f s = 59
theorem isEndX {f : Nat → Nat} {n s : Nat} {M : k_M} (hT : TX M f n s) : f_X7_isEndOfPiece M = some (if okE f n s then 1 else 0, M) := by
  have t3 := tS_b f n s
  have hn := hT.1.1
  unfold f_X7_isEndOfPiece
  rw [hT.2.2.2.1]
  by_cases h3 : tS f n s = 3
  · have hs : s < n := by omega
    obtain ⟨b1, b2⟩ := hT.1.2.2 s hs
    rw [if_pos (by rw [h3]; rfl), hT.2.2.1, rdI_o (by omega) (by omega), b1]
    by_cases h5 : f s = 59
    · rw [if_pos (by rw [h5]; rfl), if_pos ⟨h3, h5⟩]
    · rw [if_neg (by rw [o_eql (by omega) (by omega)]; exact h5), if_neg (fun q => h5 q.2)]
  · rw [if_neg (by rw [o_eql (by omega) (by omega)]; exact h3), if_neg (fun q => h3 q.1)]
theorem wE29 (M : k_M) : f_X12_wantEnd_29 M = some ((), sI M 76 18 0) := by
  unfold f_X12_wantEnd_29 f_X12_wantEnd_30
  rw [ckZ_0, bN_e, if_pos (fl_g0 M)]
theorem wE_f {M : k_M} (h : M.1 76 18 = 0) : f_X12_wantEnd M = some ((), M) := by
  unfold f_X12_wantEnd
  rw [if_pos h, wE29, fl_0 h]
theorem wE_ok {f : Nat → Nat} {n s : Nat} {M : k_M} (h1 : M.1 76 18 = 1) (hT : TM M f n s) (hk : okE f n s) : f_X12_wantEnd M = bd (f_X12_advance M) (fun _ M' => some ((), M')) := by
  unfold f_X12_wantEnd
  rw [h1, if_neg (show ¬ (1 : Int32) = 0 by decide), hT.2.2.2.1, if_pos (by rw [hk.1]; rfl), hT.2.2.2.2.2.2.2 hk.1, if_pos (by rw [hk.2]; rfl)]
  unfold f_X12_wantEnd_30
  rw [ckZ_1, bN_e, fl_1 h1, h1, if_neg (show ¬ (1 : Int32) = 0 by decide)]
theorem wE_no {f : Nat → Nat} {n s : Nat} {M : k_M} (h1 : M.1 76 18 = 1) (hT : TM M f n s) (hk : ¬ okE f n s) : f_X12_wantEnd M = some ((), sI M 76 18 0) := by
  have t3 := tS_b f n s
  unfold f_X12_wantEnd
  rw [h1, if_neg (show ¬ (1 : Int32) = 0 by decide), hT.2.2.2.1]
  by_cases h3 : tS f n s = 3
  · have hs : s < n := by omega
    obtain ⟨b1, b2⟩ := hT.1.2.2 s hs
    rw [if_pos (by rw [h3]; rfl), hT.2.2.2.2.2.2.2 h3, if_neg (by rw [o_eql (by omega) (by omega)]; exact fun q => hk ⟨h3, q⟩), wE29]
  · rw [if_neg (by rw [o_eql (by omega) (by omega)]; exact h3), wE29]
