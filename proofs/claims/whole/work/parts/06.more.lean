/-! ===== worlds by their base, rows of references, copies ===== -/
theorem k_inU (ws : List Cond) (is : List Nat) (h : ws = is.filterMap (fun i => lw_tbl[i]?)) (hg : ws.all goodWord = true) : ∀ w ∈ ws, w ∈ lw_tbl ∧ goodWord w = true := by
  intro w hw
  refine ⟨?_, List.all_eq_true.mp hg w hw⟩
  rw [h] at hw
  obtain ⟨i, -, hi⟩ := List.mem_filterMap.mp hw
  exact List.mem_of_getElem? hi
def k_fu : Nat := 1000000000
def isW (w : Nat) : Prop := w = 3 ∨ w = 23 ∨ w = 43
theorem isW3 : isW 3 := Or.inl rfl
theorem isW23 : isW 23 := Or.inr (Or.inl rfl)
theorem isW43 : isW 43 := Or.inr (Or.inr rfl)
theorem kW {w : Nat} (j : Nat) {q : Nat × Nat} (hw : isW w) (h : k_tabW[j]? = some q) : k_st (w + j) = q := by
  have hj : j < 20 := (List.getElem?_eq_some_iff.mp h).1
  have key : ∀ j : Nat, j < 20 → some (k_st (3 + j)) = k_tabW[j]? ∧ some (k_st (23 + j)) = k_tabW[j]? ∧ some (k_st (43 + j)) = k_tabW[j]? := by decide +kernel
  have k3 := key j hj
  rw [h] at k3
  rcases hw with rfl | rfl | rfl
  · exact Option.some.inj k3.1
  · exact Option.some.inj k3.2.1
  · exact Option.some.inj k3.2.2
/-- a whole row written -/
def sIr (M : k_M) (a : Nat) (f : Nat → Int32) : k_M := (fun b => if b = a then f else M.1 b, M.2)
theorem sIr_at (M : k_M) (a : Nat) (f : Nat → Int32) : (sIr M a f).1 a = f := if_pos rfl
theorem sIr_ne (M : k_M) {a b : Nat} (f : Nat → Int32) (h : b ≠ a) : (sIr M a f).1 b = M.1 b := if_neg h
theorem k_E_sIr {Z : k_Z} (M : k_M) {a b : Nat} (f : Nat → Int32) (h : b ≠ a) : k_E Z (sIr M a f) b = k_E Z M b := by
  unfold k_E
  rw [sIr_ne M f h]
  rfl
def acp {β : Type} (M : k_M) (a0 n0 a n : Nat) (sp dp len : Int32) (k : k_M → Option β) : Option β := if (¬ sp < 0 ∧ ¬ dp < 0 ∧ ¬ len < 0) ∧ sp.toNatClampNeg + len.toNatClampNeg ≤ n0 ∧ dp.toNatClampNeg + len.toNatClampNeg ≤ n then k (sIr M a (va_cpy (M.1 a0) (M.1 a) sp.toNatClampNeg dp.toNatClampNeg len.toNatClampNeg)) else none
def rdR {β : Type} (M : k_M) (a n : Nat) (i : Int32) (k : Option Nat → Option β) : Option β := if ix i n = true then k (M.2.2.1 a i.toNatClampNeg) else none
def okR (M : k_M) (q : Option Nat) : Prop := ∀ r, q = some r → 105 ≤ r ∧ r < M.2.2.2
def okRb (M : k_M) (q : Option Nat) : Bool := match q with
  | none => true
  | some r => decide (105 ≤ r ∧ r < M.2.2.2)
def wrR {β : Type} (M : k_M) (a n : Nat) (i : Int32) (q : Option Nat) (k : k_M → Option β) : Option β := if (ix i n && okRb M q) = true then k (sR M a i.toNatClampNeg q) else none
def rdLL {β : Type} (a : Nat) (i : Int32) (k : Nat → Option β) : Option β := if ix i 4 = true then k (a + (i.toNatClampNeg + 1)) else none
section XM
variable {Z : k_Z} {G : k_G} {ρ : Type} {em : ρ → Option Value} {F : k_F} {K : Nat × Nat} {pc : Nat} {lv lv' : List (Nat × Value)} {st rest : List Value} {M : k_M} {o o2 : Option (ρ × k_M)} {own : String} {cc : ByteArray} {ret : Option FieldType} {nm : String}
theorem x_aald (C : k_C Z G own cc F ret nm) {a n : Nat} {i : Int32} {k : Option Nat → Option (ρ × k_M)} (hb : F.1 = true) (hk : k_st a = (13, n)) (hdg : decode cc pc = .ok (.aaload, 1)) (kk : ∀ v : Option Nat, Sm Z G em F K (pc + 1) lv (k_rn Z v :: rest) M (k v)) : Sm Z G em F K pc lv (.int i :: k_ra Z a :: rest) M (rdR M a n i k) := by
  intro r M' ho H locs ls hl hP hL
  unfold rdR at ho
  by_cases hi : ix i n = true
  · rw [if_pos hi] at ho
    have hE := hP.1.2.2 a (k_lt hP hb hk (by omega))
    rw [k_E_st M hk (by omega), k_e_rule] at hE
    have hlt := ix_lt hi
    exact W.aald (v := k_rn Z (M.2.2.1 a i.toNatClampNeg)) C.1 C.2.1 hE (((k_K C).2 2 _ rfl).1 n (fun j => va_rf ((M.2.2.1 a j).map (fun a => k_h Z + a)))) rfl (fun q => by cases q) (by show ¬ (i < 0 ∨ (arrV _ _ _).slots.size ≤ _); rw [arrV_size]; exact ix_in hi) (by show (arrV _ _ _).slots[_]? = _; rw [arrV_read _ _ hlt]; rfl) rfl rfl hdg (kk _ r M' ho H locs ls hl hP hL)
  · rw [if_neg hi] at ho; cases ho
theorem k_st_rows : ∀ j : Nat, j < 4 → k_st (66 + (j + 1)) = (12, 40) := by decide +kernel
theorem x_aall (C : k_C Z G own cc F ret nm) {i : Int32} {k : Nat → Option (ρ × k_M)} (hb : F.1 = true) (hdg : decode cc pc = .ok (.aaload, 1)) (kk : ∀ v : Nat, k_st v = (12, 40) → Sm Z G em F K (pc + 1) lv (k_ra Z v :: rest) M (k v)) : Sm Z G em F K pc lv (.int i :: k_ra Z 66 :: rest) M (rdLL 66 i k) := by
  intro r M' ho H locs ls hl hP hL
  unfold rdLL at ho
  by_cases hi : ix i 4 = true
  · rw [if_pos hi] at ho
    have hk : k_st 66 = (14, 4) := rfl
    have hE := hP.1.2.2 66 (k_lt hP hb hk (by omega))
    rw [k_E_st M hk (by omega), k_e_rows] at hE
    have hlt := ix_lt hi
    have e : (M.2.2.1 66 i.toNatClampNeg) = some (66 + (i.toNatClampNeg + 1)) := (hP.2 hb).1 66 14 4 _ _ hk (if_pos hlt)
    refine W.aald (v := k_ra Z (66 + (i.toNatClampNeg + 1))) C.1 C.2.1 hE (((k_K C).2 3 _ rfl).1 4 (fun j => va_rf ((M.2.2.1 66 j).map (fun a => k_h Z + a)))) rfl (fun q => by cases q) (by show ¬ (i < 0 ∨ (arrV _ _ _).slots.size ≤ _); rw [arrV_size]; exact ix_in hi) ?_ rfl rfl hdg (kk _ (k_st_rows _ hlt) r M' ho H locs ls hl hP hL)
    show (arrV _ _ _).slots[_]? = _
    rw [arrV_read _ _ hlt]
    show some (va_rf ((M.2.2.1 66 i.toNatClampNeg).map (fun a => k_h Z + a))) = _
    rw [e]
    rfl
  · rw [if_neg hi] at ho; cases ho
theorem k_Sh_sR {a n j : Nat} {v : Option Nat} (hk : k_st a = (13, n)) (h : k_Sh M) : k_Sh (sR M a j v) := by
  intro b kd n' j' o' h1 h2
  by_cases hb : b = a
  · subst hb
    rw [hk] at h1
    cases h1
    cases h2
  · rw [sR_ne M j v hb]
    exact h b kd n' j' o' h1 h2
/-- the class of a rule's cell, and that it may stand in a row of rules -/
theorem k_castR (C : k_C Z G own cc F ret nm) (t : Int32) : ∀ r, vwCl[k_tag t]? = some r → ∃ comp, (g_s G).vm.findClass "WheelCity$Rule" = some comp ∧ (g_s G).vm.assignable (Z.2.1.1 (k_tag t)) comp = true := by
  intro r hr
  have hcl := ((k_K C).1 _ r hr).2.1
  have key : Cond.castable r.1 "WheelCity$Rule" ∈ lw_tbl := by
    unfold k_tag at hr
    by_cases h1 : t = 1
    · rw [if_pos h1] at hr; cases hr; decide +kernel
    · rw [if_neg h1] at hr
      by_cases h2 : t = 2
      · rw [if_pos h2] at hr; cases hr; decide +kernel
      · rw [if_neg h2] at hr
        by_cases h3 : t = 3
        · rw [if_pos h3] at hr; cases hr; decide +kernel
        · rw [if_neg h3] at hr
          by_cases h4 : t = 4
          · rw [if_pos h4] at hr; cases hr; decide +kernel
          · rw [if_neg h4] at hr; cases hr; decide +kernel
  obtain ⟨A0, h⟩ := C.2.2.2.2.2.2.2.2.2.1
  obtain ⟨c0, t0, f1, f2, f3⟩ := Cond.castable_spec (va_Nw.use (A := #[]) rfl (va_Nw.warmC C.2.2.2.2.1 (va_Nw.of rfl (h _ key))))
  cases hcl.symm.trans f1
  exact ⟨t0, f2, f3⟩
theorem x_aast (C : k_C Z G own cc F ret nm) {a n : Nat} {i : Int32} {q : Option Nat} {k : k_M → Option (ρ × k_M)} (hb : F.1 = true) (hk : k_st a = (13, n)) (hdg : decode cc pc = .ok (.aastore, 1)) (kk : ∀ M1 : k_M, Sm Z G em F K (pc + 1) lv rest M1 (k M1)) : Sm Z G em F K pc lv (k_rn Z q :: .int i :: k_ra Z a :: rest) M (wrR M a n i q k) := by
  intro r M' ho H locs ls hl hP hL
  unfold wrR at ho
  by_cases hi2 : (ix i n && okRb M q) = true
  · rw [if_pos hi2] at ho
    simp only [Bool.and_eq_true] at hi2
    obtain ⟨hi, hq⟩ := hi2
    have hE := hP.1.2.2 a (k_lt hP hb hk (by omega))
    rw [k_E_st M hk (by omega), k_e_rule] at hE
    have hlt := ix_lt hi
    have fin : ∀ H' : Heap, H'[k_h Z + a]? = some ((vp_cell (Z.2.2.1 13) (n, .inr (.inr (.inr (.inr (fun j => (M.2.2.1 a j).map (fun a => k_h Z + a))))))).setSlot i.toNatClampNeg (k_rn Z q)) → H'.size = H.size → (∀ q, q ≠ k_h Z + a → H'[q]? = H[q]?) → W G.1 G.2.1 G.2.2.1 (g_R G) (g_s G) (g_m G) (g_a G) (g_b G) (g_t G) (g_c G) H' (locs ++ [⟨k_h Z + a, i.toNatClampNeg⟩]) K.1 K.2 (MQ (g_b G) (k_Qc F.1 Z em r M') (g_a G) (g_s G) F.2.2.2.1 F.2.2.2.2 (k_fr Z)) (F0 (g_m G) (pc + 1) ls rest) := by
      intro H1 e z oq
      refine kk _ r M' ho H1 _ ls hl ⟨k_upd hP.1 rfl z oq (fun k hk => k_E_sR M _ _ hk) ?_, fun hb => ⟨k_Sh_sR hk (hP.2 hb).1, (hP.2 hb).2⟩⟩ (k_lcs hL (Nat.le_add_right _ _))
      rw [k_E_st _ hk (by omega), k_e_rule, sR_at]
      show H1[k_h Z + a]? = some (vp_cell _ _)
      rw [e, vp_cell_q, vp_cell_q, arrV_store]
      congr 2
      funext j
      by_cases hj : j = i.toNatClampNeg
      · subst hj
        simp [updV, k_up, k_rn]
      · simp [updV, k_up, hj]
    cases q with
    | none =>
      exact va_WaastN (C := "WheelCity$Rule") C.1 C.2.1 hE (((k_K C).2 2 _ rfl).1 n (fun j => va_rf ((M.2.2.1 a j).map (fun a => k_h Z + a)))) (fun q => by cases q) (by show ¬ (i < 0 ∨ (arrV _ _ _).slots.size ≤ _); rw [arrV_size]; exact ix_in hi) rfl rfl hdg fin
    | some v =>
      have hv : 105 ≤ v ∧ v < M.2.2.2 := of_decide_eq_true hq
      have hEv := hP.1.2.2 v hv.2
      rw [k_E_rl M hv.1] at hEv
      obtain ⟨rv, hr, cv, g1, g2, g3, -⟩ := hEv
      obtain ⟨comp, c1, c2⟩ := k_castR C (M.1 v 3) rv hr
      obtain ⟨kA, comp', k1, k2, k3, -⟩ := ((k_K C).2 2 _ rfl).2
      have hcc : comp' = comp := Option.some.inj (k3.symm.trans c1)
      subst hcc
      obtain ⟨kC, hkC, -⟩ := ((k_K C).1 _ rv hr).2.2
      have h0 : ¬ i < 0 := fun q => ix_in hi (Or.inl q)
      obtain ⟨kcomp, hkcomp⟩ : ∃ kcomp, (g_s G).vm.classes[comp']? = some kcomp := by
        obtain ⟨p0, kq, kp, e1, e2, e3, -⟩ := Cond.superclass_spec (cls := "WheelCity$Camp") (sup := "WheelCity$Rule") ((k_K C).1 1 _ rfl).2.1 (k_word C (w := .superclass "WheelCity$Camp" "WheelCity$Rule") (by decide +kernel) rfl)
        cases k3.symm.trans e1
        exact ⟨kp, e3⟩
      exact W.aast C.1 C.2.1 hE (fun q h => by cases h) (fun h => by cases h) k1 k2 rfl hkcomp ⟨h0, by show _ < (arrV _ _ _).slots.size; rw [arrV_size]; exact hlt⟩ g1 (fun q h => by rw [g3] at h; cases h) (by rw [g2]; exact hkC) (by rw [g2]; exact c2) rfl rfl hdg fin
  · rw [if_neg hi2] at ho; cases ho
theorem k_nat (C : k_C Z G own cc F ret nm) (h1 : 1 ≤ F.2.2.1) (hr : (rest.map fun v => v.category).sum ≤ 8) : 2 * 0 + (rest.map fun v => v.category).sum + (nativeFrameWords "java/lang/System" "arraycopy" 5 + 11) ≤ (g_R G).locals := by
  rw [C.2.2.2.2.2.2.2.2.1]
  have h5 : nativeFrameWords "java/lang/System" "arraycopy" 5 ≤ 40 := by decide +kernel
  show _ ≤ 64 * _
  omega
theorem x_copy (C : k_C Z G own cc F ret nm) {idx a0 n0 a n : Nat} {sp dp len : Int32} {k : k_M → Option (ρ × k_M)} (hb : F.1 = true) (hk0 : k_st a0 = (11, n0)) (hk : k_st a = (11, n)) (hl0 : Cond.methodLink own idx arraycopyName ∈ lw_tbl) (h1 : 1 ≤ F.2.2.1) (hr : (rest.map fun v => v.category).sum ≤ 8) (hdg : decode cc pc = .ok (.invokestatic idx, 3)) (kk : ∀ M1 : k_M, Sm Z G em F K (pc + 3) lv rest M1 (k M1)) : Sm Z G em F K pc lv (.int len :: .int dp :: k_ra Z a :: .int sp :: k_ra Z a0 :: rest) M (acp M a0 n0 a n sp dp len k) := by
  intro r M' ho H locs ls hl hP hL
  unfold acp at ho
  by_cases hc : (¬ sp < 0 ∧ ¬ dp < 0 ∧ ¬ len < 0) ∧ sp.toNatClampNeg + len.toNatClampNeg ≤ n0 ∧ dp.toNatClampNeg + len.toNatClampNeg ≤ n
  · rw [if_pos hc] at ho
    obtain ⟨⟨p1, p2, p3⟩, p4, p5⟩ := hc
    have hE0 := hP.1.2.2 a0 (k_lt hP hb hk0 (by omega))
    rw [k_E_st M hk0 (by omega), k_e_int] at hE0
    have hE := hP.1.2.2 a (k_lt hP hb hk (by omega))
    rw [k_E_st M hk (by omega), k_e_int] at hE
    have nn : ∀ z : Int32, ¬ z < 0 → z.toInt = (z.toNatClampNeg : Int) := by
      intro z hz
      have hz0 : (0 : Int) ≤ z.toInt := by
        have := Int32.not_lt.mp hz
        simpa using Int32.le_iff_toInt_le.mp this
      show z.toInt = ((z.toInt.toNat : Nat) : Int)
      omega
    have hK := k_K C
    intro T hT X
    have hc0 : H[k_h Z + a0]? = some (vp_cell (Z.2.2.1 11) (n0, .inl (M.1 a0))) := hE0
    have hc1 : H[k_h Z + a]? = some (vp_cell (Z.2.2.1 11) (n, .inl (M.1 a))) := hE
    obtain ⟨-, k0, hk0', cm0, hkk0⟩ := (hK.2 0 _ rfl).1 n0 (fun j => .int (M.1 a0 j))
    obtain ⟨vm', X', step⟩ := X.arraycopy C.1 C.2.2.2.1 (k_word C hl0 rfl) (k_word C (w := .native arraycopyName) (by decide +kernel) rfl) (k_word C (w := .static arraycopyName) (by decide +kernel) rfl) (k_word C (w := .initialized "java/lang/System") (by decide +kernel) rfl) (src := k_h Z + a0) (dst := k_h Z + a) (cs := vp_cell (Z.2.2.1 11) (n0, .inl (M.1 a0))) (cd := vp_cell (Z.2.2.1 11) (n, .inl (M.1 a))) (srcPos := sp) (destPos := dp) (n := len) (by rw [hT]; exact hc0) (by rw [hT]; exact hc1)
      (fun _ h => by cases h) (fun _ h => by cases h) (fun h => by cases h) (fun h => by cases h) hk0' hk0' hkk0 hkk0 (by simp [refKind]) p1 p2 p3
      (by rw [nn sp p1, nn len p3]; show ¬ _ > ((arrV _ n0 (fun j => .int (M.1 a0 j))).slots.size : Int); rw [arrV_size]; omega)
      (by rw [nn dp p2, nn len p3]; show ¬ _ > ((arrV _ n (fun j => .int (M.1 a j))).slots.size : Int); rw [arrV_size]; omega)
      (fun vm₁ _ i hi => by
        have e : (vp_cell (Z.2.2.1 11) (n0, .inl (M.1 a0))).slots.getD (sp.toNatClampNeg + i) .null = .int (M.1 a0 (sp.toNatClampNeg + i)) := by
          show (arrV (Z.2.2.1 11) n0 (fun j => .int (M.1 a0 j))).slots.getD _ _ = _
          rw [Array.getD_eq_getD_getElem?, arrV_read _ _ (by omega)]
          rfl
        refine ⟨?_, ?_⟩
        · rw [e]
          rfl
        · rw [e]
          exact trivial)
      (g := F0 (g_m G) pc ls (.int len :: .int dp :: k_ra Z a :: .int sp :: k_ra Z a0 :: rest)) rfl (by rw [k_size C hl]) (rest := rest) rfl (by rw [C.2.1]; exact hdg) (by rw [C.2.2.2.2.2.2.2.2.1]; exact h1) (k_nat C h1 hr)
    have e1 : copied (vp_cell (Z.2.2.1 11) (n0, .inl (M.1 a0))) (vp_cell (Z.2.2.1 11) (n, .inl (M.1 a))) sp dp len = vp_cell (Z.2.2.1 11) (n, .inl (va_cpy (M.1 a0) (M.1 a) sp.toNatClampNeg dp.toNatClampNeg len.toNatClampNeg)) := va_copied (fun z => .int z) _ _ (M.1 a0) (M.1 a) p4
    rw [e1] at X' step
    have hlz : k_h Z + a < H.size := (Array.getElem?_eq_some_iff.mp hc1).1
    generalize hcell : vp_cell (Z.2.2.1 11) (n, .inl (va_cpy (M.1 a0) (M.1 a) sp.toNatClampNeg dp.toNatClampNeg len.toNatClampNeg)) = cell at X' step
    have hheap : ((T.setVm vm').setCell (k_h Z + a) cell).heap = H.setIfInBounds (k_h Z + a) cell := by rw [← hT]; rfl
    have oq : ∀ q : Nat, q ≠ k_h Z + a → (H.setIfInBounds (k_h Z + a) cell)[q]? = H[q]? := fun q hq => by simp [Array.getElem?_setIfInBounds, Ne.symm hq]
    obtain ⟨t, a1, b1⟩ := kk _ r M' ho _ _ ls hl ⟨k_upd hP.1 rfl (by simp) oq (fun k hk => k_E_sIr M _ hk) (by
        rw [k_E_st _ hk (by omega), k_e_int, sIr_at]
        show (H.setIfInBounds (k_h Z + a) cell)[k_h Z + a]? = some (vp_cell _ _)
        rw [hcell]
        simp [Array.getElem?_setIfInBounds, hlz]), hP.2⟩ (fun q hq => by
        rcases List.mem_append.mp hq with h | h
        · exact hL q h
        · obtain ⟨z, -, hz⟩ := List.mem_map.mp h
          rw [← hz]
          exact Nat.le_add_right _ _) _ hheap X'
    exact ⟨t, step t a1, b1⟩
  · rw [if_neg hc] at ho; cases ho
end XM
