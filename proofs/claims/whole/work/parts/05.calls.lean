/-! ===== calls, constants, statics ===== -/
theorem k_blind {b : Bool} {Z : k_Z} {M : k_M} {vs : List Value} : FrameBlind (k_Pc b Z M vs) := fun _ _ _ _ h => h
section XC
variable {Z : k_Z} {G : k_G} {ρ : Type} {em : ρ → Option Value} {F : k_F} {K : Nat × Nat} {pc : Nat} {lv lv' : List (Nat × Value)} {st rest : List Value} {M : k_M} {o o2 : Option (ρ × k_M)} {own : String} {cc : ByteArray} {ret : Option FieldType} {nm : String}
theorem x_run {ρ' : Type} {em' : ρ' → Option Value} {b' : Bool} {o' : Option (ρ' × k_M)} {k : ρ' → k_M → Option (ρ × k_M)} {mc' ms' : Nat} {cas : Array Value}
    (hrun : ∀ (r' : ρ') (M1 : k_M), o' = some (r', M1) → ∀ (H : Heap) (locs : List Loc) (ls : Array Slot), lv_has ls F.2.1 lv → k_R F.1 Z M H → va_Run G.1 G.2.1 G.2.2.1 (g_R G) (g_s G) (g_m G) (g_a G) (g_b G) (g_t G) (g_c G) H locs K.1 K.2 mc' ms' (F0 (g_m G) pc ls st) rest (k_Qc b' Z em' r' M1 cas) (k_fr Z))
    (kR : ∀ (M1 : k_M) (H : Heap), k_R b' Z M1 H → k_R F.1 Z M1 H)
    (kk : ∀ (r' : ρ') (M1 : k_M), Sm Z G em F (K.1 + mc', K.2 + ms') (pc + 3) lv ((em' r').toList ++ rest) M1 (k r' M1)) : Sm Z G em F K pc lv st M (bd o' k) := by
  intro r M' ho H locs ls hl hP hL
  cases hq : o' with
  | none => rw [hq] at ho; cases ho
  | some q =>
    obtain ⟨r', M1⟩ := q
    rw [hq] at ho
    intro T hT X
    obtain ⟨v, st₀, t, T', L, h0, X', hLf, e1, e2, ⟨hv, hP1⟩, hst⟩ := hrun r' M1 hq H locs ls hl hP T hT X
    have hv' : v = em' r' := Outcome.returned.inj hv
    subst hv'
    obtain ⟨t2, a1, b1⟩ := kk r' M1 r M' ho T'.heap (locs ++ L) ls hl (kR M1 _ (by rw [e1]; exact hP1)) (fun q hq => by
      rcases List.mem_append.mp hq with h | h
      · exact hL q h
      · exact hLf q h) T' rfl X'
    exact ⟨t2, hst t2 a1, b1⟩
theorem k_wordM (C : k_C Z G own cc F ret nm) {a : String} {i : Nat} {x : MethodName} {h : String} (hw : Cond.methodLinkNest a i x h ∈ lw_tbl) : (Cond.methodLinkNest a i x h).before (g_a G) (g_s G) = true := by
  obtain ⟨A0, h⟩ := C.2.2.2.2.2.2.2.2.2.1
  exact va_Nw.use rfl (va_Nw.warmM C.2.2.2.2.1 (va_Nw.of rfl (h _ hw)))
theorem k_code (C : k_C Z G own cc F ret nm) {y : MethodName} {c' : ByteArray} {nL' : Nat} {ret' : Option FieldType} (hw : Cond.code y c' nL' ret' ∈ lw_tbl) : ∀ w ∈ [Cond.code y c' nL' ret'], ∀ (a' : Array Value) (U : State), (g_s G).WarmedH U.vm → w.before a' U = true := by
  intro w h a' U hW
  rw [List.mem_singleton] at h
  subst h
  exact word_at hW (Or.inl rfl) (k_word C hw rfl)
/-- what the tables must say of a called method -/
def k_cy (y : MethodName) (c' : ByteArray) (nL' : Nat) (ret' : Option FieldType) (na : Nat) : Prop := Cond.code y c' nL' ret' ∈ lw_tbl ∧ Cond.initialized y.cls ∈ lw_tbl ∧ (y.cls ≠ "java/lang/invoke/MethodHandle" ∧ y.cls ≠ "java/lang/invoke/VarHandle") ∧ (parseMethodDescriptor y.desc).map (fun d => d.parameters.length) = some na
theorem k_ar {y : MethodName} {na : Nat} (h : (parseMethodDescriptor y.desc).map (fun d => d.parameters.length) = some na) : ∀ sig, parseMethodDescriptor y.desc = some sig → na = sig.parameters.length := by
  intro sig hs
  rw [hs] at h
  exact (Option.some.inj h).symm
def k_lk (own : String) (idx : Nat) (y : MethodName) : Prop := Cond.methodLink own idx y ∈ lw_tbl ∨ Cond.methodLinkNest own idx y "WheelCity" ∈ lw_tbl
def k_lkN (own : String) (idx : Nat) (y : MethodName) : Prop := Cond.methodLinkNest own idx y "WheelCity" ∈ lw_tbl
theorem k_pre (C : k_C Z G own cc F ret nm) {vs : List Value} {H : Heap} (hP : k_R F.1 Z M H) : ∀ U : State, U.heap = H → (g_s G).WarmedH U.vm → k_Pc F.1 Z M vs vs.toArray U := fun U hU hW => ⟨rfl, State.WarmedH.trans C.2.2.2.2.1 hW, by rw [hU]; exact hP⟩
theorem k_room (C : k_C Z G own cc F ret nm) {d' mc' ms' nL' : Nat} (hd : d' + 1 ≤ F.2.2.1) (hn : nL' ≤ 45) : (k_rm d' mc' ms').frames + 1 ≤ (g_R G).frames ∧ 8 + (nL' + 11) + (k_rm d' mc' ms').locals ≤ (g_R G).locals := by
  rw [C.2.2.2.2.2.2.2.2.1]
  unfold k_rm
  dsimp only
  omega
theorem k_fit (C : k_C Z G own cc F ret nm) {mc' ms' : Nat} (h1 : K.1 + mc' ≤ F.2.2.2.1) (h2 : K.2 + ms' ≤ F.2.2.2.2) : K.1 + mc' ≤ (g_R G).cells ∧ K.2 + ms' ≤ (g_R G).slots := by
  rw [C.2.2.2.2.2.2.2.2.1]
  exact ⟨h1, h2⟩
theorem k_recv (C : k_C Z G own cc F ret nm) {a kd n : Nat} {cn : String} {H : Heap} (hP : k_R F.1 Z M H) (hb : F.1 = true) (hk : k_st a = (kd, n)) (hkd : kd < 11) (hcn : ∀ r, vwCl[kd]? = some r → r.1 = cn) : ∃ cell : Cell, H[k_h Z + a]? = some cell ∧ cell.vm.isStatics = false ∧ (g_s G).vm.findClass cn = some cell.cls := by
  have hE := hP.1.2.2 a (k_lt hP hb hk (by omega))
  rw [k_E_st M hk (by omega), k_e_obj hkd] at hE
  obtain ⟨r, hr, cell, q1, q2, q3, -⟩ := hE
  refine ⟨cell, q1, by rw [q3]; rfl, ?_⟩
  rw [← hcn r hr, q2]
  exact ((k_K C).1 kd r hr).2.1
theorem x_callV (C : k_C Z G own cc F ret nm) {ρ' : Type} {em' : ρ' → Option Value} {y : MethodName} {c' : ByteArray} {nL' : Nat} {ret' : Option FieldType} {d' mc' ms' idx a kd n na : Nat} {vs : List Value} {o' : Option (ρ' × k_M)} {k : ρ' → k_M → Option (ρ × k_M)} (hb : F.1 = true) (hk : k_st a = (kd, n)) (hkd : kd < 11) (hcn : ∀ r, vwCl[kd]? = some r → r.1 = y.cls)
    (hM : Con F.1 Z G.2.1 y c' nL' ret' d' mc' ms' em' (k_ra Z a :: vs) M o') (hy : k_cy y c' nL' ret' na) (hl : k_lk own idx y) (hi : Cond.instanceMethod y ∈ lw_tbl) (hse : Cond.selects y.cls y y ∈ lw_tbl) (hd : d' + 1 ≤ F.2.2.1) (hn : nL' ≤ 45) (h1 : K.1 + mc' ≤ F.2.2.2.1) (h2 : K.2 + ms' ≤ F.2.2.2.2) (hna : vs.length = na) (hs : st = vs.reverse ++ k_ra Z a :: rest) (hr : (rest.map fun v => v.category).sum ≤ 8) (hdg : decode cc pc = .ok (.invokevirtual idx, 3))
    (kk : ∀ (r' : ρ') (M1 : k_M), Sm Z G em F (K.1 + mc', K.2 + ms') (pc + 3) lv ((em' r').toList ++ rest) M1 (k r' M1)) : Sm Z G em F K pc lv st M (bd o' k) := by
  refine x_run (b' := F.1) (rest := rest) (cas := (k_ra Z a :: vs).toArray) (fun r' M1 hq H locs ls hl' hP => ?_) (fun _ _ h => h) kk
  subst hs
  have hrm := k_room C (mc' := mc') (ms' := ms') hd hn
  rcases hl with hl | hl
  · exact va_runV (Ts := []) (own := own) (C := y.cls) (As := vs) (rest := rest) ⟨C.1, C.2.1, C.2.2.1, C.2.2.2.1, fun w h => by cases h⟩ (hM r' M1 hq) ⟨⟨rfl, rfl, hrm.1, hrm.2, k_code C hy.1, List.mem_singleton.mpr rfl, k_word C hy.1 rfl, k_word C hy.2.1 rfl, hy.2.2.1, k_ar hy.2.2.2, k_word C hl rfl⟩, k_word C hi rfl, k_word C hse rfl⟩ ⟨k_blind, k_recv C hP hb hk hkd hcn, k_pre C hP⟩ rfl hna hl'.1 rfl (lv_room hr) hdg (k_fit C h1 h2)
  · exact va_runVN (Ts := []) (own := own) (C := y.cls) (host := "WheelCity") (As := vs) (rest := rest) ⟨C.1, C.2.1, C.2.2.1, C.2.2.2.1, fun w h => by cases h⟩ (hM r' M1 hq) ⟨⟨⟨rfl, rfl, hrm.1, hrm.2, k_code C hy.1, List.mem_singleton.mpr rfl⟩, k_word C hy.1 rfl, k_word C hy.2.1 rfl, hy.2.2.1, k_ar hy.2.2.2, k_wordM C hl⟩, k_word C hi rfl, k_word C hse rfl⟩ ⟨k_blind, k_recv C hP hb hk hkd hcn, k_pre C hP⟩ rfl hna hl'.1 rfl (lv_room hr) hdg (k_fit C h1 h2)
theorem x_callS (C : k_C Z G own cc F ret nm) {ρ' : Type} {em' : ρ' → Option Value} {y : MethodName} {c' : ByteArray} {nL' : Nat} {ret' : Option FieldType} {d' mc' ms' idx na : Nat} {vs : List Value} {o' : Option (ρ' × k_M)} {k : ρ' → k_M → Option (ρ × k_M)}
    (hM : Con F.1 Z G.2.1 y c' nL' ret' d' mc' ms' em' vs M o') (hy : k_cy y c' nL' ret' na) (hl : k_lk own idx y) (hi : Cond.static y ∈ lw_tbl) (hd : d' + 1 ≤ F.2.2.1) (hn : nL' ≤ 45) (h1 : K.1 + mc' ≤ F.2.2.2.1) (h2 : K.2 + ms' ≤ F.2.2.2.2) (hna : vs.length = na) (hs : st = vs.reverse ++ rest) (hr : (rest.map fun v => v.category).sum ≤ 8) (hdg : decode cc pc = .ok (.invokestatic idx, 3))
    (kk : ∀ (r' : ρ') (M1 : k_M), Sm Z G em F (K.1 + mc', K.2 + ms') (pc + 3) lv ((em' r').toList ++ rest) M1 (k r' M1)) : Sm Z G em F K pc lv st M (bd o' k) := by
  refine x_run (b' := F.1) (rest := rest) (cas := vs.toArray) (fun r' M1 hq H locs ls hl' hP => ?_) (fun _ _ h => h) kk
  subst hs
  have hrm := k_room C (mc' := mc') (ms' := ms') hd hn
  rcases hl with hl | hl
  · exact va_runS (Ts := []) (own := own) (As := vs) (rest := rest) ⟨C.1, C.2.1, C.2.2.1, C.2.2.2.1, fun w h => by cases h⟩ (hM r' M1 hq) ⟨⟨rfl, rfl, hrm.1, hrm.2, k_code C hy.1, List.mem_singleton.mpr rfl, k_word C hy.1 rfl, k_word C hy.2.1 rfl, hy.2.2.1, k_ar hy.2.2.2, k_word C hl rfl⟩, k_word C hi rfl⟩ ⟨k_blind, k_pre C hP⟩ rfl hna hl'.1 rfl (lv_room hr) hdg (k_fit C h1 h2)
  · exact va_runSN (Ts := []) (own := own) (host := "WheelCity") (As := vs) (rest := rest) ⟨C.1, C.2.1, C.2.2.1, C.2.2.2.1, fun w h => by cases h⟩ (hM r' M1 hq) ⟨⟨⟨rfl, rfl, hrm.1, hrm.2, k_code C hy.1, List.mem_singleton.mpr rfl⟩, k_word C hy.1 rfl, k_word C hy.2.1 rfl, hy.2.2.1, k_ar hy.2.2.2, k_wordM C hl⟩, k_word C hi rfl, trivial⟩ ⟨k_blind, k_pre C hP⟩ rfl hna hl'.1 rfl (lv_room hr) hdg (k_fit C h1 h2)
theorem k_size {ls : Array Slot} (C : k_C Z G own cc F ret nm) (hl : lv_has ls F.2.1 lv) : (g_c G).maxLocals = ls.size := C.2.2.1.trans hl.1.symm
def mxI (x y : Int32) : Int32 := if x < y then y else x
def mnI (x y : Int32) : Int32 := if y < x then y else x
theorem x_max (C : k_C Z G own cc F ret nm) {idx : Nat} {x y : Int32} (hl : Cond.methodLink own idx Lib.Math.max.name ∈ lw_tbl) (h1 : 1 ≤ F.2.2.1) (hr : (rest.map fun v => v.category).sum ≤ 8) (h2 : K.1 ≤ F.2.2.2.1) (h3 : K.2 ≤ F.2.2.2.2) (hdg : decode cc pc = .ok (.invokestatic idx, 3)) (kk : Sm Z G em F K (pc + 3) lv (.int (mxI x y) :: rest) M o) : Sm Z G em F K pc lv (.int y :: .int x :: rest) M o := fun r M' ho H locs ls hl' hP hL =>
  va_mmax C.1 C.2.1 (k_size C hl') C.2.2.2.1 (k_word C hl rfl) (k_word C (by decide +kernel) rfl) (k_word C (by decide +kernel) rfl) (k_word C (by decide +kernel) rfl) (by rw [C.2.2.2.2.2.2.2.2.1]; exact h1) (by rw [C.2.2.2.2.2.2.2.2.1]; show _ ≤ 64 * _; omega) (by rw [C.2.2.2.2.2.2.2.2.1]; exact h2) (by rw [C.2.2.2.2.2.2.2.2.1]; exact h3) hdg (kk r M' ho H locs ls hl' hP hL)
theorem x_min (C : k_C Z G own cc F ret nm) {idx : Nat} {x y : Int32} (hl : Cond.methodLink own idx Lib.Math.min.name ∈ lw_tbl) (h1 : 1 ≤ F.2.2.1) (hr : (rest.map fun v => v.category).sum ≤ 8) (h2 : K.1 ≤ F.2.2.2.1) (h3 : K.2 ≤ F.2.2.2.2) (hdg : decode cc pc = .ok (.invokestatic idx, 3)) (kk : Sm Z G em F K (pc + 3) lv (.int (mnI x y) :: rest) M o) : Sm Z G em F K pc lv (.int y :: .int x :: rest) M o := fun r M' ho H locs ls hl' hP hL =>
  va_mmin C.1 C.2.1 (k_size C hl') C.2.2.2.1 (k_word C hl rfl) (k_word C (by decide +kernel) rfl) (k_word C (by decide +kernel) rfl) (k_word C (by decide +kernel) rfl) (by rw [C.2.2.2.2.2.2.2.2.1]; exact h1) (by rw [C.2.2.2.2.2.2.2.2.1]; show _ ≤ 64 * _; omega) (by rw [C.2.2.2.2.2.2.2.2.1]; exact h2) (by rw [C.2.2.2.2.2.2.2.2.1]; exact h3) hdg (kk r M' ho H locs ls hl' hP hL)
theorem x_ldc (C : k_C Z G own cc F ret nm) {idx : Nat} {v : Int32} (hc : Cond.constant own idx v ∈ lw_tbl) (hdg : decode cc pc = .ok (.ldc idx, 2)) (kk : Sm Z G em F K (pc + 2) lv (.int v :: st) M o) : Sm Z G em F K pc lv st M o := fun r M' ho H locs ls hl hP hL => lv_ldc C.1 C.2.1 C.2.2.2.1 (k_word C hc rfl) hdg (kk r M' ho H locs ls hl hP hL)
theorem x_ldcw (C : k_C Z G own cc F ret nm) {idx : Nat} {v : Int32} (hc : Cond.constant own idx v ∈ lw_tbl) (hdg : decode cc pc = .ok (.ldc_w idx, 3)) (kk : Sm Z G em F K (pc + 3) lv (.int v :: st) M o) : Sm Z G em F K pc lv st M o := fun r M' ho H locs ls hl hP hL => lv_ldcw C.1 C.2.1 C.2.2.2.1 (k_word C hc rfl) hdg (kk r M' ho H locs ls hl hP hL)
theorem x_ldc2 (C : k_C Z G own cc F ret nm) {idx : Nat} {v : Int64} (hc : Cond.constantLong own idx v ∈ lw_tbl) (hdg : decode cc pc = .ok (.ldc2_w idx, 3)) (kk : Sm Z G em F K (pc + 3) lv (.long v :: st) M o) : Sm Z G em F K pc lv st M o := fun r M' ho H locs ls hl hP hL => lv_ldc2 C.1 C.2.1 C.2.2.2.1 (k_word C hc rfl) hdg (kk r M' ho H locs ls hl hP hL)
def ushr (x y : Int32) : Int32 := (x.toUInt32 >>> (y.toUInt32 &&& Int32.toUInt32 31)).toInt32
def ushrL (x : Int64) (y : Int32) : Int64 := (x.toUInt64 >>> (y.toInt64.toUInt64 &&& Int64.toUInt64 63)).toInt64
theorem x_iushr (C : k_C Z G own cc F ret nm) {x y : Int32} (hdg : decode cc pc = .ok (.iushr, 1)) (kk : Sm Z G em F K (pc + 1) lv (.int (ushr x y) :: rest) M o) : Sm Z G em F K pc lv (.int y :: .int x :: rest) M o := fun r M' ho H locs ls hl hP hL => lv_iushr C.1 C.2.1 hdg rfl (kk r M' ho H locs ls hl hP hL)
theorem x_lushr (C : k_C Z G own cc F ret nm) {x : Int64} {y : Int32} (hdg : decode cc pc = .ok (.lushr, 1)) (kk : Sm Z G em F K (pc + 1) lv (.long (ushrL x y) :: rest) M o) : Sm Z G em F K pc lv (.int y :: .long x :: rest) M o := fun r M' ho H locs ls hl hP hL => lv_lushr C.1 C.2.1 hdg rfl (kk r M' ho H locs ls hl hP hL)
abbrev k_ta (Z : k_Z) (t : Nat) : Value := .ref (Z.2.2.2.1 t)
theorem x_gets (C : k_C Z G own cc F ret nm) {idx t : Nat} (ht : t < 4) (hl : Cond.fieldLink own idx (k_stN t).1 (k_stN t).2.1 "[I" ∈ lw_tbl ∨ Cond.fieldLinkNest own idx (k_stN t).1 (k_stN t).2.1 "[I" "WheelCity" ∈ lw_tbl) (hdg : decode cc pc = .ok (.getstatic idx, 3)) (kk : Sm Z G em F K (pc + 3) lv (k_ta Z t :: st) M o) : Sm Z G em F K pc lv st M o := by
  intro r M' ho H locs ls hl' hP hL
  have hZ := (C.2.2.2.2.2.2.2.2.2.2.2.1 t ht).1.moved C.2.2.2.2.1.alike
  obtain ⟨cf, kf, fi, f, a, cell, h1, h2, h3, h4, h5, h6, h7, h8⟩ := hZ
  have hcell : H[a]? = some cell := by rw [hP.1.2.1 a (Array.getElem?_eq_some_iff.mp h5).1]; exact h5
  rcases hl with hl | hl
  · exact W.gets C.1 C.2.1 C.2.2.2.1 (k_word C hl rfl) h1 h2 h3 h4 hcell (fun e => by rw [e] at h6; cases h6) h7 rfl hdg (kk r M' ho H locs ls hl' hP hL)
  · exact va_WgetsN C.1 C.2.1 C.2.2.2.1 (k_wordN C hl) h1 h2 h3 h4 hcell (fun e => by rw [e] at h6; cases h6) h7 rfl hdg (kk r M' ho H locs ls hl' hP hL)
theorem x_tald (C : k_C Z G own cc F ret nm) {t : Nat} {i : Int32} {k : Int32 → Option (ρ × k_M)} (ht : t < 4) (hdg : decode cc pc = .ok (.iaload, 1)) (kk : ∀ v : Int32, Sm Z G em F K (pc + 1) lv (.int v :: rest) M (k v)) : Sm Z G em F K pc lv (.int i :: k_ta Z t :: rest) M (rdT t i k) := by
  intro r M' ho H locs ls hl hP hL
  unfold rdT at ho
  by_cases hi : ix i (k_stN t).2.2 = true
  · rw [if_pos hi] at ho
    obtain ⟨cell, h1, h2, h3, h4, h5, h6, h7⟩ := (C.2.2.2.2.2.2.2.2.2.2.2.1 t ht).2.moved C.2.2.2.2.1.alike
    have hlt := ix_lt hi
    refine W.iald (v := .int ((k_stV t).getD i.toNatClampNeg 0)) C.1 C.2.1 (by rw [hP.1.2.1 _ (Array.getElem?_eq_some_iff.mp h1).1]; exact h1) h2 h3 ?_ (h6 _ hlt) rfl rfl hdg (kk _ r M' ho H locs ls hl hP hL)
    intro q
    rcases q with q | q
    · exact ix_in hi (Or.inl q)
    · omega
  · rw [if_neg hi] at ho; cases ho
theorem x_tlen (C : k_C Z G own cc F ret nm) {t : Nat} {v : Int32} (ht : t < 4) (hv : Int32.ofNat (k_stN t).2.2 = v) (hdg : decode cc pc = .ok (.arraylength, 1)) (kk : Sm Z G em F K (pc + 1) lv (.int v :: rest) M o) : Sm Z G em F K pc lv (k_ta Z t :: rest) M o := by
  intro r M' ho H locs ls hl hP hL
  obtain ⟨cell, h1, h2, h3, h4, h5, h6, h7⟩ := (C.2.2.2.2.2.2.2.2.2.2.2.1 t ht).2.moved C.2.2.2.2.1.alike
  exact W.alen C.1 C.2.1 (by rw [hP.1.2.1 _ (Array.getElem?_eq_some_iff.mp h1).1]; exact h1) h2 (h5.trans hv) rfl rfl hdg (kk r M' ho H locs ls hl hP hL)
end XC
/-- a contract out of a walk -/
theorem k_con {ρ : Type} {b : Bool} {Z : k_Z} {l : Launch} {y : MethodName} {cc : ByteArray} {nL : Nat} {ret : Option FieldType} {d mc ms : Nat} {em : ρ → Option Value} {vs : List Value} {M : k_M} {o : Option (ρ × k_M)} (hg : k_Gd Z) (hy : plainName y.cls = true) (hlen : (lg_sl vs).length ≤ nL)
    (h : ∀ G : k_G, G.2.1 = l → k_C Z G y.cls cc (b, nL, d, mc, ms) ret y.name → Sm Z G em (b, nL, d, mc, ms) (0, 0) 0 (lv_args 0 vs) [] M o) : Con b Z l y cc nL ret d mc ms em vs M o := by
  intro r M' ho
  refine Met.ofW (cc := cc) (maxL := nL) (ret := ret) hy rfl ?_
  intro p e s m args below meth c s₁ B hml hv
  obtain ⟨rfl, hW, hP⟩ := hv
  have hn := (name_of_methodNamed B.named B.method).1
  have hl := lv_entry vs (n := nL) hlen
  have key := h (p, l, e, k_rm d mc ms, s, m, vs.toArray, below, meth, c) rfl ⟨B.exec, B.bytes, hml, findClass_of_methodNamed B.named, hW, B.returns, B.notSynchronized, hn, rfl, hg⟩ r M' ho s.heap [] _ hl hP (fun q hq => by cases hq)
  rw [lg_entry_eq]
  exact key
