/-! ===== the pure layer: words told ===== -/
def txt (k : Nat) : List Nat := [[119, 97, 121], [105, 110], [97, 110, 100], [112, 108, 97, 99, 101], [119, 101, 108, 108], [109, 105, 110, 101], [109, 101, 97, 100, 111, 119], [115, 112, 114, 105, 110, 103], [112, 105, 116]].getD k []
def cde (k : Nat) : Nat := [16819, 257, 1111, 8740067, 456690, 262823, 189216023, 281493529, 11927].getD k 0
theorem txt_L : ∀ k, k < 9 → k_txL.getD k 0 = (txt k).length := by decide +kernel
theorem txt_B : ∀ k, k < 9 → ∀ i, i < (txt k).length → (k_txB.getD k []).getD i 0 = Int32.ofNat ((txt k).getD i 0) := by decide +kernel
theorem txt_c : ∀ k, k < 9 → 1 ≤ (txt k).length ∧ (txt k).length ≤ 6 ∧ ∀ i, i < (txt k).length → 97 ≤ (txt k).getD i 0 ∧ (txt k).getD i 0 ≤ 122 := by decide +kernel
abbrev nmd (f : Nat → Nat) (n s k : Nat) : Prop := tS f n s = 1 ∧ tE f n s - s = (txt k).length ∧ ∀ i, i < (txt k).length → f (s + i) = (txt k).getD i 0
theorem rdS_o {β : Type} {k i : Nat} (hk : k < 9) (hi : i < (txt k).length) (c : Int32 → Option β) : rdS k (Int32.ofNat i) c = c (Int32.ofNat ((txt k).getD i 0)) := by
  have h6 := (txt_c k hk).2.1
  unfold rdS
  rw [if_pos (by rw [txt_L k hk]; exact ix_o hi (by omega)), o_nat (by omega), txt_B k hk i hi]
theorem nam28 {f : Nat → Nat} {n s k : Nat} {M : k_M} (hk : k < 9) (hT : TX M f n s) (hl : s + (txt k).length ≤ n) (kx55 kx63 : k_M → Option (Int32 × k_M)) : ∀ m fu i, i + m = (txt k).length → m < fu → ((∀ j, i ≤ j → j < (txt k).length → f (s + j) = (txt k).getD j 0) → f_X7_isNamed_28 k fu (Int32.ofNat i) M kx55 kx63 = kx63 M) ∧ (¬ (∀ j, i ≤ j → j < (txt k).length → f (s + j) = (txt k).getD j 0) → f_X7_isNamed_28 k fu (Int32.ofNat i) M kx55 kx63 = kx55 M)
  | 0, fu, i, hi, hf => by
    obtain ⟨fu, rfl⟩ : ∃ q, fu = q + 1 := ⟨fu - 1, by omega⟩
    have h6 := (txt_c k hk).2.1
    refine ⟨fun _ => ?_, fun h => absurd (fun j h1 h2 => by omega) h⟩
    rw [f_X7_isNamed_28, txt_L k hk, if_pos (by rw [o_le (by omega) (by omega)]; omega)]
  | m + 1, fu, i, hi, hf => by
    obtain ⟨fu, rfl⟩ : ∃ q, fu = q + 1 := ⟨fu - 1, by omega⟩
    have h6 := txt_c k hk
    have hn := hT.1.1
    obtain ⟨b1, b2⟩ := hT.1.2.2 (s + i) (by omega)
    have t1 := h6.2.2 i (by omega)
    obtain ⟨g1, g2⟩ := nam28 hk hT hl kx55 kx63 m fu (i + 1) (by omega) (by omega)
    have st : f_X7_isNamed_28 k (fu + 1) (Int32.ofNat i) M kx55 kx63 = if Int32.ofNat (f (s + i)) = Int32.ofNat ((txt k).getD i 0) then f_X7_isNamed_28 k fu (Int32.ofNat (i + 1)) M kx55 kx63 else kx55 M := by
      rw [f_X7_isNamed_28, txt_L k hk, if_neg (by rw [o_le (by omega) (by omega)]; omega), hT.2.2.1, o_add, rdI_o (by omega) (by omega), rdS_o hk (by omega), b1, o_addl]
    refine ⟨fun h => ?_, fun h => ?_⟩
    · rw [st, if_pos (by rw [h i (Nat.le_refl i) (by omega)])]
      exact g1 (fun j h1 h2 => h j (by omega) h2)
    · rw [st]
      by_cases hc : f (s + i) = (txt k).getD i 0
      · rw [if_pos (by rw [hc])]
        exact g2 (fun q => h (fun j h1 h2 => by
          by_cases hj : j = i
          · rw [hj]
            exact hc
          · exact q j (by omega) h2))
      · rw [if_neg (by rw [o_eq (by omega) (by omega)]; exact hc)]
theorem isNamX {f : Nat → Nat} {n s k : Nat} {M : k_M} (hk : k < 9) (hT : TX M f n s) : f_X7_isNamed k M = some (if nmd f n s k then 1 else 0, M) := by
  have t3 := tS_b f n s
  have hn := hT.1.1
  have hb := tE_b f hT.2.1
  have h6 := (txt_c k hk).2.1
  unfold f_X7_isNamed
  rw [hT.2.2.2.1]
  by_cases h1 : tS f n s = 1
  · rw [if_pos (by rw [h1]; rfl), hT.2.2.2.2.1, hT.2.2.1, o_sub hb.1, txt_L k hk]
    by_cases h2 : tE f n s - s = (txt k).length
    · rw [if_pos (by rw [h2])]
      obtain ⟨g1, g2⟩ := nam28 hk hT (by omega) (fun M_ => f_X7_isNamed_55 k M_) (fun M_ => f_X7_isNamed_63 k M_) (txt k).length k_fu 0 (by omega) (by unfold k_fu; omega)
      by_cases h3 : ∀ i, i < (txt k).length → f (s + i) = (txt k).getD i 0
      · rw [if_pos ⟨h1, h2, h3⟩]
        exact g1 (fun j _ h => h3 j h)
      · rw [if_neg (fun q => h3 q.2.2)]
        exact g2 (fun q => h3 (fun j h => q j (Nat.zero_le j) h))
    · rw [if_neg (by rw [o_eq (by omega) (by omega)]; exact h2), if_neg (fun q => h2 q.2.1)]
  · rw [if_neg (by rw [o_eql (by omega) (by omega)]; exact h1), if_neg (fun q => h1 q.1)]
/-! the reference's words: digits to the base 27 -/
def rl7 (f : Nat → Nat) (s : Nat) : Nat → List Nat
  | 0 => []
  | m + 1 => (f (s + m) - 96) :: rl7 f s m
def cdN : List Nat → Nat
  | [] => 0
  | d :: l => 27 * cdN l + d
theorem rl7_len (f : Nat → Nat) (s : Nat) : ∀ m, (rl7 f s m).length = m
  | 0 => rfl
  | m + 1 => by
    show (rl7 f s m).length + 1 = m + 1
    rw [rl7_len f s m]
theorem rl7_mem {f : Nat → Nat} {s : Nat} : ∀ m, (∀ i, i < m → 97 ≤ f (s + i) ∧ f (s + i) ≤ 122) → ∀ d, d ∈ rl7 f s m → 1 ≤ d ∧ d ≤ 26
  | 0, _, d, h => by cases h
  | m + 1, hl, d, h => by
    rcases List.mem_cons.mp h with rfl | h
    · have := hl m (by omega)
      omega
    · exact rl7_mem m (fun i hi => hl i (by omega)) d h
theorem cdN_inj : ∀ l l' : List Nat, (∀ d, d ∈ l → 1 ≤ d ∧ d ≤ 26) → (∀ d, d ∈ l' → 1 ≤ d ∧ d ≤ 26) → cdN l = cdN l' → l = l'
  | [], [], _, _, _ => rfl
  | [], d :: l', _, h', h => by
    have := h' d (List.mem_cons.mpr (.inl rfl))
    simp only [cdN] at h
    omega
  | d :: l, [], h1, _, h => by
    have := h1 d (List.mem_cons.mpr (.inl rfl))
    simp only [cdN] at h
    omega
  | d :: l, d' :: l', h1, h', h => by
    have a1 := h1 d (List.mem_cons.mpr (.inl rfl))
    have a2 := h' d' (List.mem_cons.mpr (.inl rfl))
    simp only [cdN] at h
    rw [cdN_inj l l' (fun x hx => h1 x (List.mem_cons.mpr (.inr hx))) (fun x hx => h' x (List.mem_cons.mpr (.inr hx))) (by omega), show d = d' by omega]
theorem cdN_lt : ∀ l : List Nat, (∀ d, d ∈ l → 1 ≤ d ∧ d ≤ 26) → cdN l < 27 ^ l.length
  | [], _ => by decide
  | d :: l, h => by
    have a := h d (List.mem_cons.mpr (.inl rfl))
    have b := cdN_lt l (fun x hx => h x (List.mem_cons.mpr (.inr hx)))
    rw [List.length_cons, Nat.pow_succ]
    simp only [cdN]
    omega
theorem rl7_eq {f g : Nat → Nat} {s t : Nat} : ∀ m, rl7 f s m = rl7 g t m → ∀ i, i < m → f (s + i) - 96 = g (t + i) - 96
  | 0, _, i, hi => by omega
  | m + 1, h, i, hi => by
    have h := List.cons.inj h
    by_cases e : i = m
    · rw [e]
      exact h.1
    · exact rl7_eq m h.2 i (by omega)
theorem rl7_cg {f g : Nat → Nat} {s t : Nat} : ∀ m, (∀ i, i < m → f (s + i) = g (t + i)) → rl7 f s m = rl7 g t m
  | 0, _ => rfl
  | m + 1, h => by
    unfold rl7
    rw [h m (by omega), rl7_cg m (fun i hi => h i (by omega))]
theorem txt_cd : ∀ k, k < 9 → cdN (rl7 (fun i => (txt k).getD i 0) 0 (txt k).length) = cde k := by decide +kernel
theorem l64 : ∀ c, c ≤ 255 → (Int32.ofNat c).toInt64 = Int64.ofNat c := by decide +kernel
theorem wd_cd {f : Nat → Nat} {s : Nat} : ∀ m j, j + m ≤ 8 → (∀ i, i < j + m → 97 ≤ f (s + i) ∧ f (s + i) ≤ 122) → wdJ f s m (s + j) (Int64.ofNat (cdN (rl7 f s j))) = Int64.ofNat (cdN (rl7 f s (j + m)))
  | 0, j, _, _ => rfl
  | m + 1, j, h8, hl => by
    have a := hl j (by omega)
    rw [wdJ, if_neg (by omega), l64 _ (by omega), show (27 : Int64) = Int64.ofNat 27 from rfl, ← Int64.ofNat_mul, ← Int64.ofNat_add, show (96 : Int64) = Int64.ofNat 96 from rfl, ← Int64.ofNat_sub _ _ (by omega), show j + (m + 1) = j + 1 + m by omega, ← wd_cd m (j + 1) (by omega) (fun i hi => hl i (by omega)), show s + j + 1 = s + (j + 1) by omega]
    congr 2
    show _ = 27 * cdN (rl7 f s j) + (f (s + j) - 96)
    omega
theorem wd_neg (f : Nat → Nat) (s : Nat) : ∀ (m i : Nat) (x : Int64), 8 ≤ i - s → wdJ f s (m + 1) i x = -1
  | 0, i, x, h => by
    rw [wdJ, if_pos h]
    rfl
  | m + 1, i, x, h => by
    rw [wdJ, if_pos h]
    exact wd_neg f s m (i + 1) (-1) (by omega)
theorem wd_add (f : Nat → Nat) (s : Nat) : ∀ (a b i : Nat) (x : Int64), wdJ f s (a + b) i x = wdJ f s b (i + a) (wdJ f s a i x)
  | 0, b, i, x => by
    rw [Nat.zero_add]
    rfl
  | a + 1, b, i, x => by
    rw [show a + 1 + b = (a + b) + 1 by omega, wdJ, wdJ, wd_add f s a b (i + 1), show i + 1 + a = i + (a + 1) by omega]
theorem wd_hi (f : Nat → Nat) {s m : Nat} (h : 9 ≤ m) : wdJ f s m s 0 = -1 := by
  obtain ⟨k, rfl⟩ : ∃ k, m = 8 + (k + 1) := ⟨m - 9, by omega⟩
  rw [wd_add]
  exact wd_neg f s k (s + 8) _ (by omega)
theorem o64 {a b : Nat} (ha : a < 9223372036854775808) (hb : b < 9223372036854775808) (h : Int64.ofNat a = Int64.ofNat b) : a = b := by
  have h := congrArg Int64.toInt h
  rw [Int64.toInt_ofNat_of_lt (by omega), Int64.toInt_ofNat_of_lt (by omega)] at h
  omega
theorem lg_0 (x y : Int64) : (lg_cmp x y = 0) = (x = y) := by
  unfold lg_cmp
  by_cases h1 : x > y
  · rw [if_pos h1]
    apply propext
    refine ⟨fun h => absurd h (by decide), fun h => ?_⟩
    rw [h] at h1
    exact absurd h1 (Int64.lt_irrefl)
  · rw [if_neg h1]
    by_cases h2 : x = y
    · rw [if_pos h2]
      exact propext ⟨fun _ => h2, fun _ => rfl⟩
    · rw [if_neg h2]
      exact propext ⟨fun h => absurd h (by decide), fun h => absurd h h2⟩
theorem cde_b : ∀ k, k < 9 → cde k < 1000000000 := by decide +kernel
theorem nmd_wd {f : Nat → Nat} {n s k : Nat} (hk : k < 9) (h1 : tS f n s = 1) : (wdJ f s (tE f n s - s) s 0 = Int64.ofNat (cde k)) = nmd f n s k := by
  have hL : ∀ i, i < tE f n s - s → 97 ≤ f (s + i) ∧ f (s + i) ≤ 122 := fun i hi => srt_1 ((tok_all (i := s + i) (.inl h1) (by omega) (by omega)).trans h1)
  obtain ⟨l1, l2, l3⟩ := txt_c k hk
  have hb := cde_b k hk
  have hlo : tE f n s - s ≤ 8 → wdJ f s (tE f n s - s) s 0 = Int64.ofNat (cdN (rl7 f s (tE f n s - s))) := fun h8 => by
    have := wd_cd (f := f) (s := s) (tE f n s - s) 0 (by omega) (fun i hi => hL i (by omega))
    rw [Nat.zero_add] at this
    exact this
  apply propext
  constructor
  · intro h
    by_cases h9 : 9 ≤ tE f n s - s
    · rw [wd_hi f h9] at h
      have h := congrArg Int64.toInt h
      rw [Int64.toInt_ofNat_of_lt (by omega), show (-1 : Int64).toInt = -1 by decide] at h
      omega
    · have hm := rl7_mem (tE f n s - s) hL
      have hlt := cdN_lt _ hm
      have hp : 27 ^ (rl7 f s (tE f n s - s)).length ≤ 27 ^ 8 := Nat.pow_le_pow_right (by omega) (by rw [rl7_len]; omega)
      rw [hlo (by omega), ← txt_cd k hk] at h
      have h8 : (27 : Nat) ^ 8 = 282429536481 := by decide
      have h := o64 (by omega) (by rw [txt_cd k hk]; omega) h
      have h := cdN_inj _ _ hm (rl7_mem (f := fun i => (txt k).getD i 0) (s := 0) (txt k).length (fun i hi => by rw [Nat.zero_add]; exact l3 i hi)) h
      have hl := congrArg List.length h
      rw [rl7_len, rl7_len] at hl
      rw [hl] at h
      refine ⟨h1, hl, fun i hi => ?_⟩
      have := rl7_eq _ h i hi
      rw [Nat.zero_add] at this
      have := hL i (by omega)
      have := l3 i hi
      omega
  · rintro ⟨-, h2, h3⟩
    rw [hlo (by omega), h2, rl7_cg (g := fun i => (txt k).getD i 0) (t := 0) (txt k).length (fun i hi => by rw [Nat.zero_add]; exact h3 i hi), txt_cd k hk]
theorem isWordM {f : Nat → Nat} {n s k : Nat} {M : k_M} {p : Int64} (hk : k < 9) (e : p = Int64.ofNat (cde k)) (hT : TM M f n s) : f_X12_isWord p M = some (if nmd f n s k then 1 else 0, M) := by
  subst e
  have t3 := tS_b f n s
  unfold f_X12_isWord
  rw [hT.2.2.2.1]
  by_cases h1 : tS f n s = 1
  · rw [if_pos (by rw [h1]; rfl), hT.2.2.2.2.2.2.1 h1]
    by_cases h2 : nmd f n s k
    · rw [if_pos (by rw [lg_0, nmd_wd hk h1]; exact h2), if_pos h2]
    · rw [if_neg (by rw [lg_0, nmd_wd hk h1]; exact h2), if_neg h2]
  · rw [if_neg (by rw [o_eql (by omega) (by omega)]; exact h1), if_neg (fun q => h1 q.1)]
/-- the kind that is named here: 6 is none -/
def kdN (f : Nat → Nat) (n s : Nat) : Nat := if nmd f n s 3 then 0 else if nmd f n s 4 then 1 else if nmd f n s 5 then 2 else if nmd f n s 6 then 3 else if nmd f n s 7 then 4 else if nmd f n s 8 then 5 else 6
def kdI (f : Nat → Nat) (n s : Nat) : Int32 := if kdN f n s = 6 then -1 else Int32.ofNat (kdN f n s)
theorem z01 {c : Prop} [Decidable c] {α : Type} (x y : α) : (if (if c then (1 : Int32) else 0) = 0 then x else y) = if c then y else x := by
  by_cases h : c
  · rw [if_pos h, if_pos h, if_neg (by decide)]
  · rw [if_neg h, if_neg h, if_pos rfl]
theorem kdI_e (f : Nat → Nat) (n s : Nat) {α : Type} (g : Int32 → α) : (if nmd f n s 3 then g 0 else if nmd f n s 4 then g 1 else if nmd f n s 5 then g 2 else if nmd f n s 6 then g 3 else if nmd f n s 7 then g 4 else if nmd f n s 8 then g 5 else g (-1)) = g (kdI f n s) := by
  unfold kdI kdN
  repeat' split
  all_goals first | rfl | omega
theorem kindX {f : Nat → Nat} {n s : Nat} {M : k_M} (hT : TX M f n s) : f_X7_kindNamed M = some (kdI f n s, M) := by
  rw [← kdI_e f n s (fun x => some (x, M))]
  unfold f_X7_kindNamed
  simp only [isNamX (show 3 < 9 by omega) hT, isNamX (show 4 < 9 by omega) hT, isNamX (show 5 < 9 by omega) hT, isNamX (show 6 < 9 by omega) hT, isNamX (show 7 < 9 by omega) hT, isNamX (show 8 < 9 by omega) hT, bd_s, z01]
theorem kindM {f : Nat → Nat} {n s : Nat} {M : k_M} (hT : TM M f n s) : f_X12_kindHere M = some (kdI f n s, M) := by
  rw [← kdI_e f n s (fun x => some (x, M))]
  unfold f_X12_kindHere
  simp only [isWordM (k := 3) (p := 8740067) (by omega) rfl hT, isWordM (k := 4) (p := 456690) (by omega) rfl hT, isWordM (k := 5) (p := 262823) (by omega) rfl hT, isWordM (k := 6) (p := 189216023) (by omega) rfl hT, isWordM (k := 7) (p := 281493529) (by omega) rfl hT, isWordM (k := 8) (p := 11927) (by omega) rfl hT, bd_s, z01]
theorem kd_way {f : Nat → Nat} {n s : Nat} (h : nmd f n s 0) : kdN f n s = 6 := by
  have h0 : f (s + 0) = 119 := h.2.2 0 (by decide)
  have hl : tE f n s - s = 3 := h.2.1
  unfold kdN
  rw [if_neg (fun q => by have : tE f n s - s = 5 := q.2.1; omega), if_neg (fun q => by have : tE f n s - s = 4 := q.2.1; omega), if_neg (fun q => by have : tE f n s - s = 4 := q.2.1; omega), if_neg (fun q => by have : tE f n s - s = 6 := q.2.1; omega), if_neg (fun q => by have : tE f n s - s = 6 := q.2.1; omega), if_neg (fun q => by have : f (s + 0) = 112 := q.2.2 0 (by decide); omega)]
theorem nmd_s {f : Nat → Nat} {n s k : Nat} (h : nmd f n s k) : s < n := by
  have := tS_b f n s
  have := h.1
  omega
theorem kd_b (f : Nat → Nat) (n s : Nat) : kdN f n s ≤ 6 := by
  unfold kdN
  repeat' split
  all_goals omega
