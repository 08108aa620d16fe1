/-! ===== cells made by the constructors: their numbers are the table's, in the order in which they are made ===== -/
def aOb (M : k_M) : k_M := (fun b => if b = M.2.2.2 then (fun _ => 0) else M.1 b, fun b => if b = M.2.2.2 then (fun _ => 0) else M.2.1 b, fun b => if b = M.2.2.2 then (fun _ => none) else M.2.2.1 b, M.2.2.2 + 1)
def nwO {β : Type} (M : k_M) (kd n : Nat) (k : Nat → k_M → Option β) : Option β := if k_st M.2.2.2 = (kd, n) then k M.2.2.2 (aOb M) else none
def nwC {β : Type} (M : k_M) (k : Nat → k_M → Option β) : Option β := if k_st M.2.2.2 = (11, 13) then k M.2.2.2 (sIr (aOb M) M.2.2.2 (fun j => (k_stV 1).getD j 0)) else none
/-- a field told in a constructor: the cell is there, and of the class -/
def pI0 {β : Type} (M : k_M) (a kd j : Nat) (v : Int32) (k : k_M → Option β) : Option β := if a < M.2.2.2 ∧ k_st a = (kd, 0) then k (sI M a j v) else none
def pR0 {β : Type} (M : k_M) (a kd j q : Nat) (k : k_M → Option β) : Option β := if a < M.2.2.2 ∧ k_st a = (kd, 0) then k (sR M a j (some q)) else none
def wI0 {β : Type} (M : k_M) (a n : Nat) (i v : Int32) (k : k_M → Option β) : Option β := if (a < M.2.2.2 ∧ k_st a = (11, n)) ∧ ix i n = true then k (sI M a i.toNatClampNeg v) else none
theorem k_fl_h (h : Nat) : ∀ (ts : List Nat) (j : Nat), k_fl h (fun _ => 0) (fun _ => 0) (fun _ => none) j ts = k_fl 0 (fun _ => 0) (fun _ => 0) (fun _ => none) j ts
  | [], _ => rfl
  | t :: ts, j => by
    simp only [k_fl]
    rw [k_fl_h h ts (j + 1)]
    congr 1
theorem k_push {Z : k_Z} {M M1 : k_M} {H H1 : Heap} (hP : k_Rg Z M H) (hn : M1.2.2.2 = M.2.2.2 + 1) (hk : ∀ k, k ≠ M.2.2.2 → k_E Z M1 k = k_E Z M k) (z : H1.size = H.size + 1) (o1 : ∀ q : Nat, q < H.size → H1[q]? = H[q]?) (hE : va_at Z.2.1 vwCl (k_h Z + M.2.2.2, k_E Z M1 M.2.2.2) H1) : k_Rg Z M1 H1 := by
  have hs := hP.1
  refine ⟨by rw [z, hs, hn]; omega, fun q hq => (o1 q (by omega)).trans (hP.2.1 q hq), fun k hk' => ?_⟩
  by_cases hkn : k = M.2.2.2
  · subst hkn
    exact hE
  · rw [hk k hkn]
    have hlt : k < M.2.2.2 := by omega
    exact (hP.2.2 k hlt).kept (o1 _ (by show k_h Z + k < _; omega))
theorem k_E_aOb {Z : k_Z} (M : k_M) {k : Nat} (h : k ≠ M.2.2.2) : k_E Z (aOb M) k = k_E Z M k := by
  unfold k_E
  rw [show (aOb M).1 k = M.1 k from if_neg h, show (aOb M).2.1 k = M.2.1 k from if_neg h, show (aOb M).2.2.1 k = M.2.2.1 k from if_neg h]
theorem k_E_aObN {Z : k_Z} (M : k_M) {kd n : Nat} (h : k_st M.2.2.2 = (kd, n)) (hkd : kd < 15) : k_E Z (aOb M) M.2.2.2 = k_e Z (kd, n) (fun _ => 0) (fun _ => 0) (fun _ => none) := by
  rw [k_E_st _ h hkd, show (aOb M).1 M.2.2.2 = fun _ => 0 from if_pos rfl, show (aOb M).2.1 M.2.2.2 = fun _ => 0 from if_pos rfl, show (aOb M).2.2.1 M.2.2.2 = fun _ => none from if_pos rfl]
section XK
variable {Z : k_Z} {G : k_G} {ρ : Type} {em : ρ → Option Value} {F : k_F} {K : Nat × Nat} {pc : Nat} {lv lv' : List (Nat × Value)} {st rest : List Value} {M : k_M} {o o2 : Option (ρ × k_M)} {own : String} {cc : ByteArray} {ret : Option FieldType} {nm : String}
theorem x_new0 (C : k_C Z G own cc F ret nm) {idx kd N : Nat} {r : vw_C} {ty : Nat → FieldType} {k : Nat → k_M → Option (ρ × k_M)} (hb : F.1 = false) (hkd : kd < 11) (hr : vwCl[kd]? = some r) (hN : r.2.2 = N) (hty : ∀ k, k < r.2.2 → parseFieldDescriptor (r.2.1 k).2.2.1 = some (ty k)) (hdf : ∀ j, j < N → defaultValue (ty j) = vp_V (k_fl 0 (fun _ => 0) (fun _ => 0) (fun _ => none) 0 (k_fty kd)) j) (hws : ∀ w ∈ u_ws r.1 r.2.1 r.2.2, w ∈ lw_tbl ∧ goodWord w = true) (hcl : Cond.classLink own idx r.1 ∈ lw_tbl) (hin : Cond.instantiable r.1 N ∈ lw_tbl) (hini : Cond.initialized r.1 ∈ lw_tbl) (h1 : K.1 + 1 ≤ F.2.2.2.1) (h2 : K.2 + N ≤ F.2.2.2.2) (hdg : decode cc pc = .ok (.new idx, 3)) (kk : ∀ (q : Nat) (M1 : k_M), Sm Z G em F (K.1 + 1, K.2 + N) (pc + 3) lv (k_ra Z q :: st) M1 (k q M1)) : Sm Z G em F K pc lv st M (nwO M kd 0 k) := by
  intro r' M' ho H locs ls hl hP hL
  unfold nwO at ho
  by_cases hc : k_st M.2.2.2 = (kd, 0)
  · rw [if_pos hc] at ho
    have hKn := (k_K C).1 _ _ hr
    have hts : ∀ w ∈ u_ws r.1 r.2.1 r.2.2, w.before (g_a G) (g_s G) = true := fun w hw => k_word C (hws w hw).1 (hws w hw).2
    refine W.newcK C.1 C.2.1 C.2.2.2.1 (k_word C hcl rfl) (k_word C hin rfl) (k_word C hini rfl) rfl hdg (by rw [C.2.2.2.2.2.2.2.2.1]; exact h1) (by rw [C.2.2.2.2.2.2.2.2.1]; exact h2) hKn.2.1 hP.1.1 fun H1 kC hkC e1 z1 o1 => ?_
    refine kk M.2.2.2 (aOb M) r' M' ho H1 locs ls hl ⟨k_push hP.1 rfl (fun k hk => k_E_aOb M hk) (by rw [z1, ← hP.1.1]) (fun q hq => o1 q (by rw [← hP.1.1]; exact hq)) ?_, fun h => by rw [hb] at h; cases h⟩ hL
    rw [k_E_aObN M hc (by omega), k_e_obj hkd, k_fl_h]
    exact ⟨r, hr, (u_born ty hts (fun w h => h) hKn hkC e1 hty).to (fun j hj => hdf j (by rw [← hN]; exact hj))⟩
  · rw [if_neg hc] at ho; cases ho
theorem k_cA (C : k_C Z G own cc F ret nm) {cA : ClassId} {t : Nat} {c0 : ClassId} {ty : FieldType} (hty : ∀ c, ty ≠ .object c) (ht : (k_tys Z)[t]? = some (c0, ty)) (h : (g_s G).vm.findClass ("[" ++ ty.toString) = some cA) : cA = c0 := by
  have h2 := ((k_K C).2 t _ ht).2
  cases ty with
  | object c => exact absurd rfl (hty c)
  | _ => exact Option.some.inj (h.symm.trans h2)
theorem x_newI0 (C : k_C Z G own cc F ret nm) {n : Int32} {N : Nat} {k : Nat → k_M → Option (ρ × k_M)} (hb : F.1 = false) (hn : ¬ n < 0) (hN : n.toNatClampNeg = N) (hN2 : N ≤ 100000) (h1 : K.1 + 1 ≤ F.2.2.2.1) (h2 : K.2 + N ≤ F.2.2.2.2) (hdg : decode cc pc = .ok (.newarray .int, 2)) (kk : ∀ (q : Nat) (M1 : k_M), Sm Z G em F (K.1 + 1, K.2 + N) (pc + 2) lv (k_ra Z q :: rest) M1 (k q M1)) : Sm Z G em F K pc lv (.int n :: rest) M (nwO M 11 N k) := by
  intro r' M' ho H locs ls hl hP hL
  unfold nwO at ho
  by_cases hc : k_st M.2.2.2 = (11, N)
  · rw [if_pos hc] at ho
    refine va_newaK (atype := .int) C.1 C.2.1 (k_word C (w := .arrayClass .int) (by decide +kernel) rfl) rfl hdg rfl hn hN (by show N * 4 ≤ _; omega) (by rw [C.2.2.2.2.2.2.2.2.1]; exact h1) (by rw [C.2.2.2.2.2.2.2.2.1]; exact h2) hP.1.1 fun H1 cA e1 z1 o1 hA hf => ?_
    have hcA : cA = Z.2.2.1 11 := k_cA C (t := 0) (ty := .int) (fun c h => by cases h) rfl hf
    subst hcA
    refine kk M.2.2.2 (aOb M) r' M' ho H1 locs ls hl ⟨k_push hP.1 rfl (fun k hk => k_E_aOb M hk) (by rw [z1, ← hP.1.1]) (fun q hq => o1 q (by rw [← hP.1.1]; exact hq)) ?_, fun h => by rw [hb] at h; cases h⟩ hL
    rw [k_E_aObN M hc (by omega), k_e_int]
    exact e1
  · rw [if_neg hc] at ho; cases ho
theorem x_newJ0 (C : k_C Z G own cc F ret nm) {n : Int32} {N : Nat} {k : Nat → k_M → Option (ρ × k_M)} (hb : F.1 = false) (hn : ¬ n < 0) (hN : n.toNatClampNeg = N) (hN2 : N ≤ 100000) (h1 : K.1 + 1 ≤ F.2.2.2.1) (h2 : K.2 + N ≤ F.2.2.2.2) (hdg : decode cc pc = .ok (.newarray .long, 2)) (kk : ∀ (q : Nat) (M1 : k_M), Sm Z G em F (K.1 + 1, K.2 + N) (pc + 2) lv (k_ra Z q :: rest) M1 (k q M1)) : Sm Z G em F K pc lv (.int n :: rest) M (nwO M 12 N k) := by
  intro r' M' ho H locs ls hl hP hL
  unfold nwO at ho
  by_cases hc : k_st M.2.2.2 = (12, N)
  · rw [if_pos hc] at ho
    refine va_newaK (atype := .long) C.1 C.2.1 (k_word C (w := .arrayClass .long) (by decide +kernel) rfl) rfl hdg rfl hn hN (by show N * 8 ≤ _; omega) (by rw [C.2.2.2.2.2.2.2.2.1]; exact h1) (by rw [C.2.2.2.2.2.2.2.2.1]; exact h2) hP.1.1 fun H1 cA e1 z1 o1 hA hf => ?_
    have hcA : cA = Z.2.2.1 12 := k_cA C (t := 1) (ty := .long) (fun c h => by cases h) rfl hf
    subst hcA
    refine kk M.2.2.2 (aOb M) r' M' ho H1 locs ls hl ⟨k_push hP.1 rfl (fun k hk => k_E_aOb M hk) (by rw [z1, ← hP.1.1]) (fun q hq => o1 q (by rw [← hP.1.1]; exact hq)) ?_, fun h => by rw [hb] at h; cases h⟩ hL
    rw [k_E_aObN M hc (by omega), k_e_long]
    exact e1
  · rw [if_neg hc] at ho; cases ho
theorem x_newQ0 (C : k_C Z G own cc F ret nm) {idx : Nat} {k : Nat → k_M → Option (ρ × k_M)} (hb : F.1 = false) (hcl : Cond.classLink own idx "WheelCity$Rule" ∈ lw_tbl) (h1 : K.1 + 1 ≤ F.2.2.2.1) (h2 : K.2 + 4 ≤ F.2.2.2.2) (hdg : decode cc pc = .ok (.anewarray idx, 3)) (kk : ∀ (q : Nat) (M1 : k_M), Sm Z G em F (K.1 + 1, K.2 + 4) (pc + 3) lv (k_ra Z q :: rest) M1 (k q M1)) : Sm Z G em F K pc lv (.int 4 :: rest) M (nwO M 13 4 k) := by
  intro r' M' ho H locs ls hl hP hL
  unfold nwO at ho
  by_cases hc : k_st M.2.2.2 = (13, 4)
  · rw [if_pos hc] at ho
    obtain ⟨A0, hA0⟩ := C.2.2.2.2.2.2.2.2.2.1
    have hover : va_AO "WheelCity$Rule" (g_s G) := va_AO.moved C.2.2.2.2.1.alike (va_AO.of (hA0 (.arrayOver (.object "WheelCity$Rule")) (by decide +kernel)))
    refine W.anew (C := "WheelCity$Rule") C.1 C.2.1 C.2.2.2.1 (k_word C hcl rfl) (va_AO.use hover) rfl hdg rfl (by decide) (by decide) (by rw [C.2.2.2.2.2.2.2.2.1]; exact h1) (by rw [C.2.2.2.2.2.2.2.2.1]; exact h2) fun cA kA comp e1 e2 e3 e4 => ?_
    obtain ⟨kA', comp', k1, k2, k3, k4⟩ := ((k_K C).2 2 _ rfl).2
    have hcA : cA = Z.2.2.1 13 := Option.some.inj (e1.symm.trans k4)
    subst hcA
    have hz := hP.1.1
    have key := kk M.2.2.2 (aOb M) r' M' ho (H.push { cls := Z.2.2.1 13, slots := Array.replicate (Int32.toNatClampNeg 4) .null, vm := .none }) locs ls hl ⟨k_push hP.1 rfl (fun k hk => k_E_aOb M hk) (by rw [Array.size_push]) (fun q hq => by rw [Array.getElem?_push, if_neg (Nat.ne_of_lt hq)]) ?_, fun h => by rw [hb] at h; cases h⟩ hL
    · rw [hz]
      exact key
    · rw [k_E_aObN M hc (by omega), k_e_rule]
      show (H.push _)[k_h Z + M.2.2.2]? = some (vp_cell _ _)
      rw [← hz, Array.getElem?_push_size, vp_cell_q]
      rfl
  · rw [if_neg hc] at ho; cases ho
/-- the static row LAW_FIRST, whole -/
def k_LF (Z : k_Z) : Prop := ∃ cell : Cell, Z.1.heap[Z.2.2.2.1 1]? = some cell ∧ cell.cls = Z.2.2.1 11 ∧ cell.slots = (vp_cell (Z.2.2.1 11) (13, .inl (fun j => (k_stV 1).getD j 0))).slots ∧ (∀ k, cell.vm ≠ .statics k) ∧ cell.vm ≠ .unknown
theorem x_clone0 (C : k_C Z G own cc F ret nm) (hLF : k_LF Z) {idx : Nat} {k : Nat → k_M → Option (ρ × k_M)} (hb : F.1 = false) (hl0 : Cond.methodLink own idx ⟨"[I", "clone", "()Ljava/lang/Object;"⟩ ∈ lw_tbl) (hf1 : 1 ≤ F.2.2.1) (hr : (rest.map fun v => v.category).sum ≤ 8) (h1 : K.1 + 1 ≤ F.2.2.2.1) (h2 : K.2 + 13 ≤ F.2.2.2.2) (hdg : decode cc pc = .ok (.invokevirtual idx, 3)) (kk : ∀ (q : Nat) (M1 : k_M), k_st q = (11, 13) → Sm Z G em F (K.1 + 1, K.2 + 13) (pc + 3) lv (k_ra Z q :: rest) M1 (k q M1)) : Sm Z G em F K pc lv (k_ta Z 1 :: rest) M (nwC M k) := by
  intro r' M' ho H locs ls hl hP hL
  unfold nwC at ho
  by_cases hc : k_st M.2.2.2 = (11, 13)
  · rw [if_pos hc] at ho
    obtain ⟨cell, c1, c2, c3, c4, c5⟩ := hLF
    have hsz : cell.slots.size = 13 := by rw [c3]; exact arrV_size _ _ _
    have hcellE : ({ cls := cell.cls, slots := cell.slots } : Cell) = vp_cell (Z.2.2.1 11) (13, .inl (fun j => (k_stV 1).getD j 0)) := by rw [c2, c3]; rfl
    obtain ⟨A0, hA0⟩ := C.2.2.2.2.2.2.2.2.2.1
    obtain ⟨cc0, t0', f1, f2, f3⟩ := Cond.castable_spec (va_Nw.use (A := g_a G) rfl (va_Nw.warmC C.2.2.2.2.1 (va_Nw.of rfl (hA0 (.castable "[I" "java/lang/Cloneable") (by decide +kernel)))))
    have hnm : (g_s G).vm.findClass "[I" = some (Z.2.2.1 11) := ((k_K C).2 0 _ rfl).2
    cases hnm.symm.trans f1
    intro T hT X
    have hcellT : T.heap[Z.2.2.2.1 1]? = some cell := by rw [hT, hP.1.2.1 _ (Array.getElem?_eq_some_iff.mp c1).1]; exact c1
    obtain ⟨-, kA, hkA, comp, hkind⟩ := State.isArrayOf_alike X.warmed.alike (((k_K C).2 0 _ rfl).1 0 (fun _ => .null))
    obtain ⟨-, kS, hkS, compS, hkindS⟩ := ((k_K C).2 0 _ rfl).1 0 (fun _ => .null)
    obtain ⟨vm', X', st'⟩ := X.cloneArray C.1 C.2.2.2.1 (k_word C hl0 rfl) (k_word C (w := .sameMethod "[I" "java/lang/Object" "clone" "()Ljava/lang/Object;") (by decide +kernel) rfl) (k_word C (w := .native ⟨"java/lang/Object", "clone", "()Ljava/lang/Object;"⟩) (by decide +kernel) rfl) (k_word C (w := .instanceMethod ⟨"java/lang/Object", "clone", "()Ljava/lang/Object;"⟩) (by decide +kernel) rfl) (k_word C (w := .selects "[I" ⟨"[I", "clone", "()Ljava/lang/Object;"⟩ ⟨"java/lang/Object", "clone", "()Ljava/lang/Object;"⟩) (by decide +kernel) rfl) (a := Z.2.2.2.1 1) (cell := cell) hcellT c4 c5 (by rw [c2]; exact hnm) f2 (by rw [c2]; exact f3)
      (fun i v hv => by
        rw [c2]
        have hk' : T.vm.classes[Z.2.2.1 11]? = some kA := hkA
        have hv2 : fits .int v = true := by
          rw [c3] at hv
          exact va_fit (cA := Z.2.2.1 11) (n := 13) (F := fun j => .int ((k_stV 1).getD j 0)) (ty := .int) (fun _ _ => rfl) i v hv
        simpa [State.fitsSlot, State.slotType?, hk', hkind] using hv2)
      (g := F0 (g_m G) pc ls (k_ta Z 1 :: rest)) rfl (by rw [k_size C hl]) rfl (by rw [C.2.1]; exact hdg) (by rw [C.2.2.2.2.2.2.2.2.1]; exact hf1) (by rw [C.2.2.2.2.2.2.2.2.1]; show 2 * 0 + _ + 14 ≤ 64 * _; omega) (by rw [C.2.2.2.2.2.2.2.2.1]; exact h1) (by rw [hsz, C.2.2.2.2.2.2.2.2.1]; exact h2) (hloader := by rw [c2]; exact Vm.clonesLoader_of_array hkS hkindS)
    rw [hcellE, hsz] at X'
    have hz := hP.1.1
    generalize hH1 : H.push (vp_cell (Z.2.2.1 11) (13, .inl (fun j => (k_stV 1).getD j 0))) = H1
    have z1 : H1.size = H.size + 1 := by rw [← hH1, Array.size_push]
    have e1 : H1[H.size]? = some (vp_cell (Z.2.2.1 11) (13, .inl (fun j => (k_stV 1).getD j 0))) := by rw [← hH1, Array.getElem?_push_size]
    have o1 : ∀ q : Nat, q < H.size → H1[q]? = H[q]? := fun q hq => by rw [← hH1, Array.getElem?_push, if_neg (Nat.ne_of_lt hq)]
    obtain ⟨t, b1, b2⟩ := kk M.2.2.2 _ hc r' M' ho H1 locs ls hl ⟨k_push hP.1 rfl (fun k hk => by rw [k_E_sIr _ _ hk, k_E_aOb M hk]) z1 o1 (by
        rw [k_E_st _ hc (by omega), k_e_int, sIr_at, ← hz]
        exact e1), fun h => by rw [hb] at h; cases h⟩ hL ((T.setVm vm').pushCell (vp_cell (Z.2.2.1 11) (13, .inl (fun j => (k_stV 1).getD j 0)))) (by rw [← hH1, ← hT]; rfl) X'
    refine ⟨t, st' t ?_, b2⟩
    rw [hcellE, hT, hz]
    exact b1
  · rw [if_neg hc] at ho; cases ho
end XK
