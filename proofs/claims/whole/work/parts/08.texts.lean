/-! ===== the nine texts: their length and letters ===== -/
abbrev k_sa (Z : k_Z) (i : Nat) : Value := .ref (Z.2.2.2.2 (2 * i))
abbrev k_sv (Z : k_Z) (i : Nat) : Value := .ref (Z.2.2.2.2 (2 * i + 1))
def rdS {β : Type} (s : Nat) (i : Int32) (k : Int32 → Option β) : Option β := if ix i (k_txL.getD s 0) = true then k ((k_txB.getD s []).getD i.toNatClampNeg 0) else none
section XT
variable {Z : k_Z} {G : k_G} {ρ : Type} {em : ρ → Option Value} {F : k_F} {K : Nat × Nat} {pc : Nat} {lv lv' : List (Nat × Value)} {st rest : List Value} {M : k_M} {o o2 : Option (ρ × k_M)} {own : String} {cc : ByteArray} {ret : Option FieldType} {nm : String}
theorem k_S (C : k_C Z G own cc F ret nm) : k_str Z := C.2.2.2.2.2.2.2.2.2.2.2.2.2
theorem x_lds (C : k_C Z G own cc F ret nm) (i : Nat) (hi : i < 9) (ho : own = "WheelCity$Tape") (hdg : decode cc pc = .ok (.ldc (k_txN.getD i (0, "")).1, 2)) (kk : Sm Z G em F K (pc + 2) lv (k_sa Z i :: st) M o) : Sm Z G em F K pc lv st M o := fun r M' ho' H locs ls hl hP hL =>
  va_ldcS C.1 C.2.1 (own := "WheelCity$Tape") (by rw [← ho]; exact C.2.2.2.1) (vk_R.warm C.2.2.2.2.1 ((k_S C).2.1 i hi)) hdg (kk r M' ho' H locs ls hl hP hL)
theorem k_old {t : Nat} {H : Heap} {cell : Cell} (hP : k_R F.1 Z M H) (h : Z.1.heap[t]? = some cell) : H[t]? = some cell := by rw [hP.1.2.1 t (Array.getElem?_eq_some_iff.mp h).1]; exact h
theorem x_sgetc (C : k_C Z G own cc F ret nm) {i idx : Nat} (hi : i < 9) (hl0 : Cond.fieldLink own idx "java/lang/String" "coder" "B" ∈ lw_tbl) (hdg : decode cc pc = .ok (.getfield idx, 3)) (kk : Sm Z G em F K (pc + 3) lv (.int 0 :: rest) M o) : Sm Z G em F K pc lv (k_sa Z i :: rest) M o := by
  intro r M' ho H locs ls hl hP hL
  obtain ⟨cf, k, fi, f, cell, g1, g2, g3, g4, g5, -⟩ := ((k_S C).1.1 i hi).2.1.moved C.2.2.2.2.1.alike
  exact W.getf C.1 C.2.1 C.2.2.2.1 (k_word C hl0 rfl) g1 g2 (k_old hP g3) g4 g5 rfl rfl hdg (kk r M' ho H locs ls hl hP hL)
theorem x_sgetv (C : k_C Z G own cc F ret nm) {i idx : Nat} (hi : i < 9) (hl0 : Cond.fieldLink own idx "java/lang/String" "value" "[B" ∈ lw_tbl) (hdg : decode cc pc = .ok (.getfield idx, 3)) (kk : Sm Z G em F K (pc + 3) lv (k_sv Z i :: rest) M o) : Sm Z G em F K pc lv (k_sa Z i :: rest) M o := by
  intro r M' ho H locs ls hl hP hL
  obtain ⟨cf, k, fi, f, cell, g1, g2, g3, g4, g5, -⟩ := ((k_S C).1.1 i hi).2.2.1.moved C.2.2.2.2.1.alike
  exact W.getf C.1 C.2.1 C.2.2.2.1 (k_word C hl0 rfl) g1 g2 (k_old hP g3) g4 g5 rfl rfl hdg (kk r M' ho H locs ls hl hP hL)
theorem x_salen (C : k_C Z G own cc F ret nm) {i : Nat} (hi : i < 9) (hdg : decode cc pc = .ok (.arraylength, 1)) (kk : Sm Z G em F K (pc + 1) lv (.int (Int32.ofNat (k_txL.getD i 0)) :: rest) M o) : Sm Z G em F K pc lv (k_sv Z i :: rest) M o := by
  intro r M' ho H locs ls hl hP hL
  obtain ⟨cell, h1, h2, h3, h4, h5, h6, h7⟩ := ((k_S C).1.1 i hi).2.2.2.moved C.2.2.2.2.1.alike
  exact W.alen C.1 C.2.1 (k_old hP h1) h2 h5 rfl rfl hdg (kk r M' ho H locs ls hl hP hL)
theorem x_sald (C : k_C Z G own cc F ret nm) {i : Nat} {j : Int32} (hi : i < 9) (hj : ix j (k_txL.getD i 0) = true) (hdg : decode cc pc = .ok (.baload, 1)) (kk : Sm Z G em F K (pc + 1) lv (.int ((k_txB.getD i []).getD j.toNatClampNeg 0) :: rest) M o) : Sm Z G em F K pc lv (.int j :: k_sv Z i :: rest) M o := by
  intro r M' ho H locs ls hl hP hL
  obtain ⟨cell, h1, h2, h3, h4, h5, h6, h7⟩ := ((k_S C).1.1 i hi).2.2.2.moved C.2.2.2.2.1.alike
  have hlt := ix_lt hj
  refine W.bald (v := .int ((k_txB.getD i []).getD j.toNatClampNeg 0)) C.1 C.2.1 (k_old hP h1) h2 h3 ?_ (h6 _ hlt) rfl rfl hdg (kk r M' ho H locs ls hl hP hL)
  intro q
  rcases q with q | q
  · exact ix_in hj (Or.inl q)
  · omega
theorem x_gsZ (C : k_C Z G own cc F ret nm) {idx : Nat} (hl0 : Cond.fieldLink own idx "java/lang/String" "COMPACT_STRINGS" "Z" ∈ lw_tbl) (hdg : decode cc pc = .ok (.getstatic idx, 3)) (kk : Sm Z G em F K (pc + 3) lv (.int 1 :: st) M o) : Sm Z G em F K pc lv st M o := by
  intro r M' ho H locs ls hl hP hL
  obtain ⟨cf, kf, fi, f, a, cell, h1, h2, h3, h4, h5, h6, h7, h8⟩ := (k_S C).2.2.1.moved C.2.2.2.2.1.alike
  exact W.gets C.1 C.2.1 C.2.2.2.1 (k_word C hl0 rfl) h1 h2 h3 h4 (k_old hP h5) (fun e => by rw [e] at h6; cases h6) h7 rfl hdg (kk r M' ho H locs ls hl hP hL)
theorem x_gsF (C : k_C Z G own cc F ret nm) {idx : Nat} (hl0 : Cond.fieldLink own idx "jdk/internal/util/Preconditions" "SIOOBE_FORMATTER" "Ljava/util/function/BiFunction;" ∈ lw_tbl) (hdg : decode cc pc = .ok (.getstatic idx, 3)) (kk : ∀ v : Value, v.category = 1 → Sm Z G em F K (pc + 3) lv (v :: st) M o) : Sm Z G em F K pc lv st M o := by
  intro r M' ho H locs ls hl hP hL
  have key : ∀ v : Value, v.category = 1 → va_Z "jdk/internal/util/Preconditions" "SIOOBE_FORMATTER" "Ljava/util/function/BiFunction;" v (k_fr Z) Z.1 Z.1.heap → W G.1 G.2.1 G.2.2.1 (g_R G) (g_s G) (g_m G) (g_a G) (g_b G) (g_t G) (g_c G) H locs K.1 K.2 (MQ (g_b G) (k_Qc F.1 Z em r M') (g_a G) (g_s G) F.2.2.2.1 F.2.2.2.2 (k_fr Z)) (F0 (g_m G) pc ls st) := by
    intro v hv hZ
    obtain ⟨cf, kf, fi, f, a, cell, h1, h2, h3, h4, h5, h6, h7, h8⟩ := hZ.moved C.2.2.2.2.1.alike
    exact W.gets C.1 C.2.1 C.2.2.2.1 (k_word C hl0 rfl) h1 h2 h3 h4 (k_old hP h5) (fun e => by rw [e] at h6; cases h6) h7 rfl hdg (kk v hv r M' ho H locs ls hl hP hL)
  rcases (k_S C).2.2.2 with h | ⟨t, h⟩
  · exact key _ rfl h
  · exact key _ rfl h
theorem x_runE {ρ' : Type} {em' : ρ' → Option Value} {b' : Bool} {o' : Option (ρ' × k_M)} {k : ρ' → k_M → Option (ρ × k_M)} {mc' ms' : Nat} {cas : Array Value}
    (hrun : ∀ (r' : ρ') (M1 : k_M), o' = some (r', M1) → ∀ (H : Heap) (locs : List Loc) (ls : Array Slot), lv_has ls F.2.1 lv → k_R F.1 Z M H → va_Run G.1 G.2.1 G.2.2.1 (g_R G) (g_s G) (g_m G) (g_a G) (g_b G) (g_t G) (g_c G) H locs K.1 K.2 mc' ms' (F0 (g_m G) pc ls st) rest (k_Qc b' Z em' r' M1 cas) (k_fr Z))
    (kR : ∀ (M1 : k_M) (H : Heap), k_R b' Z M1 H → k_R F.1 Z M1 H)
    (kk : ∀ (r' : ρ') (M1 : k_M), o' = some (r', M1) → Sm Z G em F (K.1 + mc', K.2 + ms') (pc + 3) lv ((em' r').toList ++ rest) M1 (k r' M1)) : Sm Z G em F K pc lv st M (bd o' k) := by
  intro r M' ho H locs ls hl hP hL
  cases hq : o' with
  | none => rw [hq] at ho; cases ho
  | some q =>
    obtain ⟨r', M1⟩ := q
    rw [hq] at ho
    intro T hT X
    obtain ⟨v, st₀, t, T', L, h0, X', hLf, e1, e2, ⟨hv, hP1⟩, hst⟩ := hrun r' M1 hq H locs ls hl hP T hT X
    have hv' : v = em' r' := Outcome.returned.inj hv
    subst hv'
    obtain ⟨t2, a1, b1⟩ := kk r' M1 hq r M' ho T'.heap (locs ++ L) ls hl (kR M1 _ (by rw [e1]; exact hP1)) (fun q hq => by
      rcases List.mem_append.mp hq with h | h
      · exact hL q h
      · exact hLf q h) T' rfl X'
    exact ⟨t2, hst t2 a1, b1⟩
theorem x_callVS (C : k_C Z G own cc F ret nm) {ρ' : Type} {em' : ρ' → Option Value} {y : MethodName} {c' : ByteArray} {nL' : Nat} {ret' : Option FieldType} {d' idx i na : Nat} {vs : List Value} {o' : Option (ρ' × k_M)} {k : ρ' → k_M → Option (ρ × k_M)} (hi9 : i < 9) (hcn : y.cls = "java/lang/String")
    (hM : Con F.1 Z G.2.1 y c' nL' ret' d' 0 0 em' (k_sa Z i :: vs) M o') (hy : k_cy y c' nL' ret' na) (hl : Cond.methodLink own idx y ∈ lw_tbl) (hi : Cond.instanceMethod y ∈ lw_tbl) (hse : Cond.selects y.cls y y ∈ lw_tbl) (hd : d' + 1 ≤ F.2.2.1) (hn : nL' ≤ 45) (h1 : K.1 ≤ F.2.2.2.1) (h2 : K.2 ≤ F.2.2.2.2) (hna : vs.length = na) (hs : st = vs.reverse ++ k_sa Z i :: rest) (hr : (rest.map fun v => v.category).sum ≤ 8) (hdg : decode cc pc = .ok (.invokevirtual idx, 3))
    (kk : ∀ (r' : ρ') (M1 : k_M), o' = some (r', M1) → Sm Z G em F K (pc + 3) lv ((em' r').toList ++ rest) M1 (k r' M1)) : Sm Z G em F K pc lv st M (bd o' k) := by
  refine x_runE (b' := F.1) (rest := rest) (mc' := 0) (ms' := 0) (cas := (k_sa Z i :: vs).toArray) (fun r' M1 hq H locs ls hl' hP => ?_) (fun _ _ h => h) kk
  subst hs
  have hrm := k_room C (mc' := 0) (ms' := 0) hd hn
  obtain ⟨cell, g1, g2, g3, -⟩ := ((k_S C).1.1 i hi9).1.moved C.2.2.2.2.1.alike
  exact va_runV (Ts := []) (own := own) (C := y.cls) (As := vs) (rest := rest) ⟨C.1, C.2.1, C.2.2.1, C.2.2.2.1, fun w h => by cases h⟩ (hM r' M1 hq) ⟨⟨rfl, rfl, hrm.1, hrm.2, k_code C hy.1, List.mem_singleton.mpr rfl, k_word C hy.1 rfl, k_word C hy.2.1 rfl, hy.2.2.1, k_ar hy.2.2.2, k_word C hl rfl⟩, k_word C hi rfl, k_word C hse rfl⟩ ⟨k_blind, ⟨cell, k_old hP g1, g2, by rw [hcn]; exact g3⟩, k_pre C hP⟩ rfl hna hl'.1 rfl (lv_room hr) hdg (k_fit C h1 h2)
theorem x_callSE (C : k_C Z G own cc F ret nm) {ρ' : Type} {em' : ρ' → Option Value} {y : MethodName} {c' : ByteArray} {nL' : Nat} {ret' : Option FieldType} {d' idx na : Nat} {vs : List Value} {o' : Option (ρ' × k_M)} {k : ρ' → k_M → Option (ρ × k_M)}
    (hM : Con F.1 Z G.2.1 y c' nL' ret' d' 0 0 em' vs M o') (hy : k_cy y c' nL' ret' na) (hl : Cond.methodLink own idx y ∈ lw_tbl) (hi : Cond.static y ∈ lw_tbl) (hd : d' + 1 ≤ F.2.2.1) (hn : nL' ≤ 45) (h1 : K.1 ≤ F.2.2.2.1) (h2 : K.2 ≤ F.2.2.2.2) (hna : vs.length = na) (hs : st = vs.reverse ++ rest) (hr : (rest.map fun v => v.category).sum ≤ 8) (hdg : decode cc pc = .ok (.invokestatic idx, 3))
    (kk : ∀ (r' : ρ') (M1 : k_M), o' = some (r', M1) → Sm Z G em F K (pc + 3) lv ((em' r').toList ++ rest) M1 (k r' M1)) : Sm Z G em F K pc lv st M (bd o' k) := by
  refine x_runE (b' := F.1) (rest := rest) (mc' := 0) (ms' := 0) (cas := vs.toArray) (fun r' M1 hq H locs ls hl' hP => ?_) (fun _ _ h => h) kk
  subst hs
  have hrm := k_room C (mc' := 0) (ms' := 0) hd hn
  exact va_runS (Ts := []) (own := own) (As := vs) (rest := rest) ⟨C.1, C.2.1, C.2.2.1, C.2.2.2.1, fun w h => by cases h⟩ (hM r' M1 hq) ⟨⟨rfl, rfl, hrm.1, hrm.2, k_code C hy.1, List.mem_singleton.mpr rfl, k_word C hy.1 rfl, k_word C hy.2.1 rfl, hy.2.2.1, k_ar hy.2.2.2, k_word C hl rfl⟩, k_word C hi rfl⟩ ⟨k_blind, k_pre C hP⟩ rfl hna hl'.1 rfl (lv_room hr) hdg (k_fit C h1 h2)
theorem x_i2c (C : k_C Z G own cc F ret nm) {x v : Int32} (hv : (x.toUInt32 % 65536).toInt32 = v) (hdg : decode cc pc = .ok (.i2c, 1)) (kk : Sm Z G em F K (pc + 1) lv (.int v :: rest) M o) : Sm Z G em F K pc lv (.int x :: rest) M o := fun r M' ho H locs ls hl hP hL => lv_i2c C.1 C.2.1 hdg hv (kk r M' ho H locs ls hl hP hL)
end XT
theorem tx_c : ∀ (i j : Nat), i < 9 → j < k_txL.getD i 0 → ((((k_txB.getD i []).getD j 0) &&& 255).toUInt32 % 65536).toInt32 = (k_txB.getD i []).getD j 0 ∧ narrow .char (.int ((k_txB.getD i []).getD j 0)) = .int ((k_txB.getD i []).getD j 0) := by
  have key : ∀ i : Nat, i < 9 → ∀ j : Nat, j < k_txL.getD i 0 → ((((k_txB.getD i []).getD j 0) &&& 255).toUInt32 % 65536).toInt32 = (k_txB.getD i []).getD j 0 ∧ narrow .char (.int ((k_txB.getD i []).getD j 0)) = .int ((k_txB.getD i []).getD j 0) := by decide +kernel
  exact fun i j hi hj => key i hi j hj
theorem tx_e {β : Type} (i : Nat) (j : Int32) (hi : i < 9) (M : k_M) {f : Int32 → Option β} : rdS i j f = bd (if j < 0 then none else if j < Int32.ofNat (k_txL.getD i 0) then some ((), M) else none) (fun _ _ => rdS i j f) := by
  have hb : k_txL.getD i 0 < 100 := (by decide +kernel : ∀ i : Nat, i < 9 → k_txL.getD i 0 < 100) i hi
  by_cases h0 : j < 0
  · rw [if_pos h0]
    unfold rdS
    rw [if_neg (fun h => ix_in h (Or.inl h0))]
    rfl
  · rw [if_neg h0]
    by_cases h1 : j < Int32.ofNat (k_txL.getD i 0)
    · rw [if_pos h1]
      rfl
    · rw [if_neg h1]
      unfold rdS
      rw [if_neg (fun h => h1 ?_)]
      · rfl
      · have h2 := ix_lt h
        rw [Int32.lt_iff_toInt_lt, show (Int32.ofNat (k_txL.getD i 0)).toInt = _ from nI_toInt (n := k_txL.getD i 0) (by omega)]
        have h3 : (j.toNatClampNeg : Nat) = j.toInt.toNat := rfl
        omega
theorem dt_J0_length_8abf5 : k_dec cJ0_length_8abf5 [(0, .aload_n 0, 1), (1, .getfield 9, 3), (4, .arraylength, 1), (5, .aload_n 0, 1), (6, .invokevirtual 335, 3), (9, .ishr, 1), (10, .ireturn, 1)] = true := by decide +kernel
theorem cy_J0_length_8abf5 : k_cy yJ0_length_8abf5 cJ0_length_8abf5 1 (some .int) 0 := ⟨List.mem_of_getElem? (i := 413) (by decide +kernel), List.mem_of_getElem? (i := 113) (by decide +kernel), ⟨by decide +kernel, by decide +kernel⟩, by decide +kernel⟩
theorem im_J0_length_8abf5 : Cond.instanceMethod yJ0_length_8abf5 ∈ lw_tbl := List.mem_of_getElem? (i := 411) (by decide +kernel)
theorem se_J0_length_8abf5 : Cond.selects yJ0_length_8abf5.cls yJ0_length_8abf5 yJ0_length_8abf5 ∈ lw_tbl := List.mem_of_getElem? (i := 412) (by decide +kernel)
theorem dt_J0_coder_7d493 : k_dec cJ0_coder_7d493 [(0, .getstatic 38, 3), (3, .ifCond .eq 10, 3), (6, .aload_n 0, 1), (7, .getfield 15, 3), (10, .goto 4, 3), (13, .iconst 1, 1), (14, .ireturn, 1)] = true := by decide +kernel
theorem cy_J0_coder_7d493 : k_cy yJ0_coder_7d493 cJ0_coder_7d493 1 (some .byte) 0 := ⟨List.mem_of_getElem? (i := 417) (by decide +kernel), List.mem_of_getElem? (i := 113) (by decide +kernel), ⟨by decide +kernel, by decide +kernel⟩, by decide +kernel⟩
theorem im_J0_coder_7d493 : Cond.instanceMethod yJ0_coder_7d493 ∈ lw_tbl := List.mem_of_getElem? (i := 415) (by decide +kernel)
theorem se_J0_coder_7d493 : Cond.selects yJ0_coder_7d493.cls yJ0_coder_7d493 yJ0_coder_7d493 ∈ lw_tbl := List.mem_of_getElem? (i := 416) (by decide +kernel)
theorem dt_J0_isLatin1_aae02 : k_dec cJ0_isLatin1_aae02 [(0, .getstatic 38, 3), (3, .ifCond .eq 14, 3), (6, .aload_n 0, 1), (7, .getfield 15, 3), (10, .ifCond .ne 7, 3), (13, .iconst 1, 1), (14, .goto 4, 3), (17, .iconst 0, 1), (18, .ireturn, 1)] = true := by decide +kernel
theorem cy_J0_isLatin1_aae02 : k_cy yJ0_isLatin1_aae02 cJ0_isLatin1_aae02 1 (some .boolean) 0 := ⟨List.mem_of_getElem? (i := 427) (by decide +kernel), List.mem_of_getElem? (i := 113) (by decide +kernel), ⟨by decide +kernel, by decide +kernel⟩, by decide +kernel⟩
theorem im_J0_isLatin1_aae02 : Cond.instanceMethod yJ0_isLatin1_aae02 ∈ lw_tbl := List.mem_of_getElem? (i := 425) (by decide +kernel)
theorem se_J0_isLatin1_aae02 : Cond.selects yJ0_isLatin1_aae02.cls yJ0_isLatin1_aae02 yJ0_isLatin1_aae02 ∈ lw_tbl := List.mem_of_getElem? (i := 426) (by decide +kernel)
theorem dt_J0_charAt_5068e : k_dec cJ0_charAt_5068e [(0, .aload_n 0, 1), (1, .invokevirtual 492, 3), (4, .ifCond .eq 12, 3), (7, .aload_n 0, 1), (8, .getfield 9, 3), (11, .iload_n 1, 1), (12, .invokestatic 495, 3), (15, .ireturn, 1), (16, .aload_n 0, 1), (17, .getfield 9, 3), (20, .iload_n 1, 1), (21, .invokestatic 498, 3), (24, .ireturn, 1)] = true := by decide +kernel
theorem cy_J0_charAt_5068e : k_cy yJ0_charAt_5068e cJ0_charAt_5068e 2 (some .char) 1 := ⟨List.mem_of_getElem? (i := 423) (by decide +kernel), List.mem_of_getElem? (i := 113) (by decide +kernel), ⟨by decide +kernel, by decide +kernel⟩, by decide +kernel⟩
theorem im_J0_charAt_5068e : Cond.instanceMethod yJ0_charAt_5068e ∈ lw_tbl := List.mem_of_getElem? (i := 421) (by decide +kernel)
theorem se_J0_charAt_5068e : Cond.selects yJ0_charAt_5068e.cls yJ0_charAt_5068e yJ0_charAt_5068e ∈ lw_tbl := List.mem_of_getElem? (i := 422) (by decide +kernel)
theorem dt_J1_charAt_3b067 : k_dec cJ1_charAt_3b067 [(0, .iload_n 1, 1), (1, .aload_n 0, 1), (2, .arraylength, 1), (3, .invokestatic 9, 3), (6, .aload_n 0, 1), (7, .iload_n 1, 1), (8, .baload, 1), (9, .sipush 255, 3), (12, .iand, 1), (13, .i2c, 1), (14, .ireturn, 1)] = true := by decide +kernel
theorem cy_J1_charAt_3b067 : k_cy yJ1_charAt_3b067 cJ1_charAt_3b067 2 (some .char) 2 := ⟨List.mem_of_getElem? (i := 430) (by decide +kernel), List.mem_of_getElem? (i := 114) (by decide +kernel), ⟨by decide +kernel, by decide +kernel⟩, by decide +kernel⟩
theorem stt_J1_charAt_3b067 : Cond.static yJ1_charAt_3b067 ∈ lw_tbl := List.mem_of_getElem? (i := 429) (by decide +kernel)
theorem dt_J0_checkIndex_df160 : k_dec cJ0_checkIndex_df160 [(0, .iload_n 0, 1), (1, .iload_n 1, 1), (2, .getstatic 1053, 3), (5, .invokestatic 1059, 3), (8, .pop, 1), (9, .return_, 1)] = true := by decide +kernel
theorem cy_J0_checkIndex_df160 : k_cy yJ0_checkIndex_df160 cJ0_checkIndex_df160 2 none 2 := ⟨List.mem_of_getElem? (i := 433) (by decide +kernel), List.mem_of_getElem? (i := 113) (by decide +kernel), ⟨by decide +kernel, by decide +kernel⟩, by decide +kernel⟩
theorem stt_J0_checkIndex_df160 : Cond.static yJ0_checkIndex_df160 ∈ lw_tbl := List.mem_of_getElem? (i := 432) (by decide +kernel)
theorem dt_J3_checkIndex_8e157 : k_dec cJ3_checkIndex_8e157 [(0, .iload_n 0, 1), (1, .ifCond .lt 8, 3), (4, .iload_n 0, 1), (5, .iload_n 1, 1), (6, .if_icmp .lt 10, 3), (9, .aload_n 2, 1), (10, .iload_n 0, 1), (11, .iload_n 1, 1), (12, .invokestatic 95, 3), (15, .athrow, 1), (16, .iload_n 0, 1), (17, .ireturn, 1)] = true := by decide +kernel
theorem cy_J3_checkIndex_8e157 : k_cy yJ3_checkIndex_8e157 cJ3_checkIndex_8e157 3 (some .int) 3 := ⟨List.mem_of_getElem? (i := 438) (by decide +kernel), List.mem_of_getElem? (i := 115) (by decide +kernel), ⟨by decide +kernel, by decide +kernel⟩, by decide +kernel⟩
theorem stt_J3_checkIndex_8e157 : Cond.static yJ3_checkIndex_8e157 ∈ lw_tbl := List.mem_of_getElem? (i := 437) (by decide +kernel)
theorem c_txcod {Z : k_Z} (hg : k_Gd Z) (l : Launch) (i : Nat) (M : k_M) (hi : i < 9) : Con true Z l yJ0_coder_7d493 cJ0_coder_7d493 1 (some .byte) 1 0 0 emI [k_sa Z i] M (some ((0 : Int32), M)) := k_con hg (by decide) (Nat.le_of_ble_eq_true rfl) (fun G hl C => by
  refine x_gsZ C (List.mem_of_getElem? (i := 418) (by decide +kernel)) (k_dg dt_J0_coder_7d493 0 0 (.getstatic 38) 3 rfl) ?_
  refine (if_neg (by decide : ¬ (1 : Int32) = 0) : (if (1 : Int32) = 0 then none else some ((0 : Int32), M)) = some ((0 : Int32), M)) ▸ ?_
  refine x_if_eq C (tgt := 13) (k_dg dt_J0_coder_7d493 1 3 (.ifCond .eq 10) 3 rfl) (by decide) (fun _ => x_none) (fun _ => ?_)
  refine x_aload_n C (k_dg dt_J0_coder_7d493 2 6 (.aload_n 0) 1 rfl) 0 rfl ?_
  refine x_sgetc C hi (List.mem_of_getElem? (i := 1682) (by decide +kernel)) (k_dg dt_J0_coder_7d493 3 7 (.getfield 15) 3 rfl) ?_
  refine x_goto C (tgt := 14) (k_dg dt_J0_coder_7d493 4 10 (.goto 4) 3 rfl) (by decide) ?_
  exact x_zret C (by decide) (by decide) rfl (k_dg dt_J0_coder_7d493 6 14 (.ireturn) 1 rfl))
theorem c_txlat {Z : k_Z} (hg : k_Gd Z) (l : Launch) (i : Nat) (M : k_M) (hi : i < 9) : Con true Z l yJ0_isLatin1_aae02 cJ0_isLatin1_aae02 1 (some .boolean) 1 0 0 emI [k_sa Z i] M (some ((1 : Int32), M)) := k_con hg (by decide) (Nat.le_of_ble_eq_true rfl) (fun G hl C => by
  refine x_gsZ C (List.mem_of_getElem? (i := 418) (by decide +kernel)) (k_dg dt_J0_isLatin1_aae02 0 0 (.getstatic 38) 3 rfl) ?_
  refine (if_neg (by decide : ¬ (1 : Int32) = 0) : (if (1 : Int32) = 0 then none else some ((1 : Int32), M)) = some ((1 : Int32), M)) ▸ ?_
  refine x_if_eq C (tgt := 17) (k_dg dt_J0_isLatin1_aae02 1 3 (.ifCond .eq 14) 3 rfl) (by decide) (fun _ => x_none) (fun _ => ?_)
  refine x_aload_n C (k_dg dt_J0_isLatin1_aae02 2 6 (.aload_n 0) 1 rfl) 0 rfl ?_
  refine x_sgetc C hi (List.mem_of_getElem? (i := 1682) (by decide +kernel)) (k_dg dt_J0_isLatin1_aae02 3 7 (.getfield 15) 3 rfl) ?_
  refine (if_pos rfl : (if (0 : Int32) = 0 then some ((1 : Int32), M) else none) = some ((1 : Int32), M)) ▸ ?_
  refine x_if_ne C (tgt := 17) (k_dg dt_J0_isLatin1_aae02 4 10 (.ifCond .ne 7) 3 rfl) (by decide) (fun _ => ?_) (fun _ => x_none)
  refine x_iconst C (v := 1) (k_dg dt_J0_isLatin1_aae02 5 13 (.iconst 1) 1 rfl) (by decide) ?_
  refine x_goto C (tgt := 18) (k_dg dt_J0_isLatin1_aae02 6 14 (.goto 4) 3 rfl) (by decide) ?_
  exact x_zret C (by decide) (by decide) rfl (k_dg dt_J0_isLatin1_aae02 8 18 (.ireturn) 1 rfl))
theorem c_txlen {Z : k_Z} (hg : k_Gd Z) (l : Launch) (i : Nat) (M : k_M) (hi : i < 9) : Con true Z l yJ0_length_8abf5 cJ0_length_8abf5 1 (some .int) 2 0 0 emI [k_sa Z i] M (some (Int32.ofNat (k_txL.getD i 0), M)) := k_con hg (by decide) (Nat.le_of_ble_eq_true rfl) (fun G hl C => by
  refine x_aload_n C (k_dg dt_J0_length_8abf5 0 0 (.aload_n 0) 1 rfl) 0 rfl ?_
  refine x_sgetv C hi (List.mem_of_getElem? (i := 1681) (by decide +kernel)) (k_dg dt_J0_length_8abf5 1 1 (.getfield 9) 3 rfl) ?_
  refine x_salen C hi (k_dg dt_J0_length_8abf5 2 4 (.arraylength) 1 rfl) ?_
  refine x_aload_n C (k_dg dt_J0_length_8abf5 3 5 (.aload_n 0) 1 rfl) 0 rfl ?_
  show Sm Z G emI _ _ _ _ _ M (bd (some ((0 : Int32), M)) (fun r M1 => some (Int32.ofNat (k_txL.getD i 0), M1)))
  refine x_callVS C (vs := []) (rest := [.int (Int32.ofNat (k_txL.getD i 0))]) hi rfl (c_txcod hg G.2.1 i M hi) cy_J0_coder_7d493 (List.mem_of_getElem? (i := 414) (by decide +kernel)) im_J0_coder_7d493 se_J0_coder_7d493 (by decide) (by decide) (by decide) (by decide) rfl rfl (Nat.le_of_ble_eq_true rfl) (k_dg dt_J0_length_8abf5 4 6 (.invokevirtual 335) 3 rfl) (fun r M1 h => ?_)
  cases h
  refine x_ishr C (x := Int32.ofNat (k_txL.getD i 0)) (y := 0) (k_dg dt_J0_length_8abf5 5 9 (.ishr) 1 rfl) ?_
  have e : Int32.ofNat (k_txL.getD i 0) >>> ((0 : Int32) &&& 31) = Int32.ofNat (k_txL.getD i 0) := (by decide +kernel : ∀ i : Nat, i < 9 → Int32.ofNat (k_txL.getD i 0) >>> ((0 : Int32) &&& 31) = Int32.ofNat (k_txL.getD i 0)) i hi
  rw [e]
  exact x_iret C (by decide) (by decide) (k_dg dt_J0_length_8abf5 6 10 (.ireturn) 1 rfl))
theorem c_txpix {Z : k_Z} (hg : k_Gd Z) (l : Launch) (j n : Int32) (v : Value) (hv : v.category = 1) (M : k_M) : Con true Z l yJ3_checkIndex_8e157 cJ3_checkIndex_8e157 3 (some .int) 1 0 0 emI [.int j, .int n, v] M (if j < 0 then none else if j < n then some (j, M) else none) := k_con hg (by decide) (by cases v <;> first | exact Nat.le_refl 3 | (simp [Value.category] at hv)) (fun G hl C => by
  have hlv : lv_pick (lv_args 0 [.int j, .int n, v]) [0, 1] = [(0, .int j), (1, .int n)] := rfl
  refine x_lv [0, 1] hlv ?_
  refine x_iload_n C (k_dg dt_J3_checkIndex_8e157 0 0 (.iload_n 0) 1 rfl) 0 rfl ?_
  refine x_if_lt C (tgt := 9) (k_dg dt_J3_checkIndex_8e157 1 1 (.ifCond .lt 8) 3 rfl) (by decide) (fun _ => x_none) (fun _ => ?_)
  refine x_iload_n C (k_dg dt_J3_checkIndex_8e157 2 4 (.iload_n 0) 1 rfl) 0 rfl ?_
  refine x_iload_n C (k_dg dt_J3_checkIndex_8e157 3 5 (.iload_n 1) 1 rfl) 1 rfl ?_
  refine x_icmp_lt C (tgt := 16) (k_dg dt_J3_checkIndex_8e157 4 6 (.if_icmp .lt 10) 3 rfl) (by decide) (fun _ => ?_) (fun _ => x_none)
  refine x_iload_n C (k_dg dt_J3_checkIndex_8e157 10 16 (.iload_n 0) 1 rfl) 0 rfl ?_
  exact x_iret C (by decide) (by decide) (k_dg dt_J3_checkIndex_8e157 11 17 (.ireturn) 1 rfl))
theorem c_txcix {Z : k_Z} (hg : k_Gd Z) (l : Launch) (j n : Int32) (M : k_M) : Con true Z l yJ0_checkIndex_df160 cJ0_checkIndex_df160 2 none 2 0 0 emV [.int j, .int n] M (if j < 0 then none else if j < n then some ((), M) else none) := k_con hg (by decide) (Nat.le_of_ble_eq_true rfl) (fun G hl C => by
  refine x_iload_n C (k_dg dt_J0_checkIndex_df160 0 0 (.iload_n 0) 1 rfl) 0 rfl ?_
  refine x_iload_n C (k_dg dt_J0_checkIndex_df160 1 1 (.iload_n 1) 1 rfl) 1 rfl ?_
  refine x_gsF C (List.mem_of_getElem? (i := 434) (by decide +kernel)) (k_dg dt_J0_checkIndex_df160 2 2 (.getstatic 1053) 3 rfl) (fun v hv => ?_)
  have e : (if j < 0 then none else if j < n then some ((), M) else none) = bd (if j < 0 then none else if j < n then some (j, M) else none) (fun _ M1 => some ((), M1)) := by (split; rfl; split <;> rfl)
  rw [e]
  refine x_callSE C (vs := [.int j, .int n, v]) (rest := []) (c_txpix hg G.2.1 j n v hv M) cy_J3_checkIndex_8e157 (List.mem_of_getElem? (i := 436) (by decide +kernel)) stt_J3_checkIndex_8e157 (by decide) (by decide) (by decide) (by decide) rfl rfl (Nat.le_of_ble_eq_true rfl) (k_dg dt_J0_checkIndex_df160 3 5 (.invokestatic 1059) 3 rfl) (fun r M1 _ => ?_)
  refine x_pop C (v := .int r) (k_dg dt_J0_checkIndex_df160 4 8 (.pop) 1 rfl) rfl ?_
  exact x_vret C (by decide) (by decide) (k_dg dt_J0_checkIndex_df160 5 9 (.return_) 1 rfl))
theorem c_txl1c {Z : k_Z} (hg : k_Gd Z) (l : Launch) (i : Nat) (j : Int32) (M : k_M) (hi : i < 9) : Con true Z l yJ1_charAt_3b067 cJ1_charAt_3b067 2 (some .char) 3 0 0 emI [k_sv Z i, .int j] M (rdS i j (fun v => some (v, M))) := k_con hg (by decide) (Nat.le_of_ble_eq_true rfl) (fun G hl C => by
  refine x_iload_n C (k_dg dt_J1_charAt_3b067 0 0 (.iload_n 1) 1 rfl) 1 rfl ?_
  refine x_aload_n C (k_dg dt_J1_charAt_3b067 1 1 (.aload_n 0) 1 rfl) 0 rfl ?_
  refine x_salen C hi (k_dg dt_J1_charAt_3b067 2 2 (.arraylength) 1 rfl) ?_
  rw [tx_e i j hi M]
  refine x_callSE C (vs := [.int j, .int (Int32.ofNat (k_txL.getD i 0))]) (rest := []) (c_txcix hg G.2.1 j _ M) cy_J0_checkIndex_df160 (List.mem_of_getElem? (i := 431) (by decide +kernel)) stt_J0_checkIndex_df160 (by decide) (by decide) (by decide) (by decide) rfl rfl (Nat.le_of_ble_eq_true rfl) (k_dg dt_J1_charAt_3b067 3 3 (.invokestatic 9) 3 rfl) (fun r M1 h => ?_)
  have hM : M = M1 := by (split at h; cases h; split at h; (cases h; rfl); cases h)
  subst hM
  refine x_aload_n C (k_dg dt_J1_charAt_3b067 4 6 (.aload_n 0) 1 rfl) 0 rfl ?_
  refine x_iload_n C (k_dg dt_J1_charAt_3b067 5 7 (.iload_n 1) 1 rfl) 1 rfl ?_
  unfold rdS
  by_cases hj : ix j (k_txL.getD i 0) = true
  · rw [if_pos hj]
    refine x_sald C hi hj (k_dg dt_J1_charAt_3b067 6 8 (.baload) 1 rfl) ?_
    refine x_sipush C (v := 255) (k_dg dt_J1_charAt_3b067 7 9 (.sipush 255) 3 rfl) (by decide) ?_
    refine x_iand C (k_dg dt_J1_charAt_3b067 8 12 (.iand) 1 rfl) ?_
    refine x_i2c C (tx_c i _ hi (ix_lt hj)).1 (k_dg dt_J1_charAt_3b067 9 13 (.i2c) 1 rfl) ?_
    exact x_zret C (by decide) (by decide) (tx_c i _ hi (ix_lt hj)).2 (k_dg dt_J1_charAt_3b067 10 14 (.ireturn) 1 rfl)
  · rw [if_neg hj]
    exact x_none)
theorem c_txchr {Z : k_Z} (hg : k_Gd Z) (l : Launch) (i : Nat) (j : Int32) (M : k_M) (hi : i < 9) : Con true Z l yJ0_charAt_5068e cJ0_charAt_5068e 2 (some .char) 4 0 0 emI [k_sa Z i, .int j] M (rdS i j (fun v => some (v, M))) := k_con hg (by decide) (Nat.le_of_ble_eq_true rfl) (fun G hl C => by
  refine x_aload_n C (k_dg dt_J0_charAt_5068e 0 0 (.aload_n 0) 1 rfl) 0 rfl ?_
  show Sm Z G emI _ _ _ _ _ M (bd (some ((1 : Int32), M)) (fun _ M1 => rdS i j (fun v => some (v, M1))))
  refine x_callVS C (vs := []) (rest := []) hi rfl (c_txlat hg G.2.1 i M hi) cy_J0_isLatin1_aae02 (List.mem_of_getElem? (i := 424) (by decide +kernel)) im_J0_isLatin1_aae02 se_J0_isLatin1_aae02 (by decide) (by decide) (by decide) (by decide) rfl rfl (Nat.le_of_ble_eq_true rfl) (k_dg dt_J0_charAt_5068e 1 1 (.invokevirtual 492) 3 rfl) (fun r M1 h => ?_)
  cases h
  refine (if_neg (by decide : ¬ (1 : Int32) = 0) : (if (1 : Int32) = 0 then none else rdS i j (fun v => some (v, M))) = rdS i j (fun v => some (v, M))) ▸ ?_
  refine x_if_eq C (tgt := 16) (k_dg dt_J0_charAt_5068e 2 4 (.ifCond .eq 12) 3 rfl) (by decide) (fun _ => x_none) (fun _ => ?_)
  refine x_aload_n C (k_dg dt_J0_charAt_5068e 3 7 (.aload_n 0) 1 rfl) 0 rfl ?_
  refine x_sgetv C hi (List.mem_of_getElem? (i := 1681) (by decide +kernel)) (k_dg dt_J0_charAt_5068e 4 8 (.getfield 9) 3 rfl) ?_
  refine x_iload_n C (k_dg dt_J0_charAt_5068e 5 11 (.iload_n 1) 1 rfl) 1 rfl ?_
  have e : rdS i j (fun v => some (v, M)) = bd (rdS i j (fun v => some (v, M))) (fun v M1 => some (v, M1)) := by unfold rdS; split <;> rfl
  rw [e]
  refine x_callSE C (vs := [k_sv Z i, .int j]) (rest := []) (c_txl1c hg G.2.1 i j M hi) cy_J1_charAt_3b067 (List.mem_of_getElem? (i := 428) (by decide +kernel)) stt_J1_charAt_3b067 (by decide) (by decide) (by decide) (by decide) rfl rfl (Nat.le_of_ble_eq_true rfl) (k_dg dt_J0_charAt_5068e 6 12 (.invokestatic 495) 3 rfl) (fun r M1 h => ?_)
  have hr : narrow .char (.int r) = .int r := by (unfold rdS at h; split at h; (rename_i hj; cases h; exact (tx_c i _ hi (ix_lt hj)).2); cases h)
  exact x_zret C (by decide) (by decide) hr (k_dg dt_J0_charAt_5068e 7 15 (.ireturn) 1 rfl))
section XU
variable {Z : k_Z} {G : k_G} {ρ : Type} {em : ρ → Option Value} {F2 : Nat × Nat × Nat × Nat} {K : Nat × Nat} {pc : Nat} {lv : List (Nat × Value)} {rest : List Value} {M : k_M} {o : Option (ρ × k_M)} {own : String} {cc : ByteArray} {ret : Option FieldType} {nm : String}
theorem x_slen (C : k_C Z G own cc (true, F2) ret nm) {i idx : Nat} (hi : i < 9) (hl : Cond.methodLink own idx yJ0_length_8abf5 ∈ lw_tbl) (hd : 3 ≤ F2.2.1) (h1 : K.1 ≤ F2.2.2.1) (h2 : K.2 ≤ F2.2.2.2) (hr : (rest.map fun v => v.category).sum ≤ 8) (hdg : decode cc pc = .ok (.invokevirtual idx, 3)) (kk : Sm Z G em (true, F2) K (pc + 3) lv (.int (Int32.ofNat (k_txL.getD i 0)) :: rest) M o) : Sm Z G em (true, F2) K pc lv (k_sa Z i :: rest) M o := by
  show Sm Z G em (true, F2) K pc lv (k_sa Z i :: rest) M (bd (some (Int32.ofNat (k_txL.getD i 0), M)) (fun _ _ => o))
  refine x_callVS C (vs := []) (rest := rest) hi rfl (c_txlen C.2.2.2.2.2.2.2.2.2 G.2.1 i M hi) cy_J0_length_8abf5 hl im_J0_length_8abf5 se_J0_length_8abf5 hd (by decide) h1 h2 rfl rfl hr hdg (fun r M1 h => ?_)
  cases h
  exact kk
theorem x_schr (C : k_C Z G own cc (true, F2) ret nm) {i idx : Nat} {j : Int32} {k : Int32 → Option (ρ × k_M)} (hi : i < 9) (hl : Cond.methodLink own idx yJ0_charAt_5068e ∈ lw_tbl) (hd : 5 ≤ F2.2.1) (h1 : K.1 ≤ F2.2.2.1) (h2 : K.2 ≤ F2.2.2.2) (hr : (rest.map fun v => v.category).sum ≤ 8) (hdg : decode cc pc = .ok (.invokevirtual idx, 3)) (kk : ∀ v : Int32, Sm Z G em (true, F2) K (pc + 3) lv (.int v :: rest) M (k v)) : Sm Z G em (true, F2) K pc lv (.int j :: k_sa Z i :: rest) M (rdS i j k) := by
  have e : rdS i j k = bd (rdS i j (fun v => some (v, M))) (fun v _ => k v) := by unfold rdS; split <;> rfl
  rw [e]
  refine x_callVS C (vs := [.int j]) (rest := rest) hi rfl (c_txchr C.2.2.2.2.2.2.2.2.2 G.2.1 i j M hi) cy_J0_charAt_5068e hl im_J0_charAt_5068e se_J0_charAt_5068e hd (by decide) h1 h2 rfl rfl hr hdg (fun r M1 h => ?_)
  have hM : M = M1 := by (unfold rdS at h; split at h; (cases h; rfl); cases h)
  subst hM
  exact kk r
end XU
