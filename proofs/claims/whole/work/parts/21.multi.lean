/-- new long[4][40]: five cells, the rows behind the row of rows -/
def aMu (M : k_M) : k_M := (fun b => if M.2.2.2 ≤ b ∧ b < M.2.2.2 + 5 then (fun _ => 0) else M.1 b, fun b => if M.2.2.2 ≤ b ∧ b < M.2.2.2 + 5 then (fun _ => 0) else M.2.1 b, fun b => if b = M.2.2.2 then (fun i => if i < 4 then some (M.2.2.2 + 1 + i) else none) else if M.2.2.2 ≤ b ∧ b < M.2.2.2 + 5 then (fun _ => none) else M.2.2.1 b, M.2.2.2 + 5)
def nwL {β : Type} (M : k_M) (k : Nat → k_M → Option β) : Option β := if k_st M.2.2.2 = (14, 4) ∧ ∀ i : Nat, i < 4 → k_st (M.2.2.2 + 1 + i) = (12, 40) then k M.2.2.2 (aMu M) else none
theorem k_aoa {u U : State} (hvm : u.vm.Alike U.vm) {A B : Array Value} (h : (Cond.arrayOver (.array .long)).before A u = true) : (Cond.arrayOver (.array .long)).before B U = true := by
  unfold Cond.before Cond.holds at h ⊢
  simp only [Cond.value, beq_iff_eq] at h ⊢
  cases hc : u.vm.findClass (FieldType.array FieldType.long).toString with
  | none => simp [hc] at h
  | some comp =>
    simp only [hc, Option.bind_some, Option.bind_eq_some_iff, Option.map_eq_some_iff] at h
    obtain ⟨c, hi, k, hk, hb⟩ := h
    obtain ⟨k', hk', he⟩ := hvm.2.2 _ _ hk
    have hi' : (U.vm.classes.findIdx? fun (x : Class) => match x.kind with | .array component _ => component == comp | _ => false) = some c := by
      have hbe : U.vm.bare = u.vm.bare := by first | exact hvm.bare_eq | exact hvm.bare_eq.symm
      have h1 := va_idx_bare U.vm comp
      have h2 := va_idx_bare u.vm comp
      rw [hbe, h2] at h1
      exact h1.symm.trans hi
    have f1 : U.vm.findClass (FieldType.array FieldType.long).toString = some comp := by rw [hvm.findClass]; exact hc
    rw [f1, Option.bind_some]
    refine (congrArg (fun o : Option Nat => o.bind (fun c => (U.vm.classes[c]?).map fun (k : Class) => match k.kind with | .array _ ty => decide (ty = FieldType.array FieldType.long) && decide (U.vm.findClass ("[" ++ (FieldType.array FieldType.long).toString) = some c) | _ => false)) hi').trans ?_
    rw [Option.bind_some, hk', Option.map_some]
    have ek : k'.kind = k.kind := by rw [he]
    rw [ek, hvm.findClass]
    exact congrArg some hb
section XN
variable {Z : k_Z} {G : k_G} {ρ : Type} {em : ρ → Option Value} {F : k_F} {K : Nat × Nat} {pc : Nat} {lv lv' : List (Nat × Value)} {st rest : List Value} {M : k_M} {o o2 : Option (ρ × k_M)} {own : String} {cc : ByteArray} {ret : Option FieldType} {nm : String}
theorem vo_outer (c : ClassId) (N h0 : Nat) : ∀ i : Nat, Jvm.Free.Multi.outerC c N h0 i = arrV c N (fun j => va_rf (if j < i then some (h0 + 1 + j) else none))
  | 0 => by
    show ({ cls := c, slots := Array.replicate N .null, vm := .none } : Cell) = _
    unfold arrV
    congr 1
    apply Array.ext
    · simp
    · intro j h1 h2
      simp [va_rf]
  | i + 1 => by
    show (Jvm.Free.Multi.outerC c N h0 i).setSlot i (.ref (h0 + 1 + i)) = _
    rw [vo_outer c N h0 i, arrV_store]
    refine congrArg (arrV c N) (funext fun j => ?_)
    by_cases e : j = i
    · subst e
      simp [updV, va_rf]
    · by_cases h : j < i
      · simp [updV, e, h, Nat.lt_succ_of_lt h]
      · simp [updV, e, h, show ¬ j < i + 1 by omega]
theorem x_multi0 (C : k_C Z G own cc F ret nm) {idx : Nat} {k : Nat → k_M → Option (ρ × k_M)} (hb : F.1 = false) (hcl : Cond.classLink own idx ("[" ++ (FieldType.array FieldType.long).toString) ∈ lw_tbl) (h1 : K.1 + 5 ≤ F.2.2.2.1) (h2 : K.2 + 164 ≤ F.2.2.2.2) (hdg : decode cc pc = .ok (.multianewarray idx 2, 4)) (kk : ∀ (q : Nat) (M1 : k_M), Sm Z G em F (K.1 + 5, K.2 + 164) (pc + 4) lv (k_ra Z q :: rest) M1 (k q M1)) : Sm Z G em F K pc lv (.int 40 :: .int 4 :: rest) M (nwL M k) := by
  intro r' M' ho H locs ls hl hP hL
  unfold nwL at ho
  by_cases hc : k_st M.2.2.2 = (14, 4) ∧ ∀ i : Nat, i < 4 → k_st (M.2.2.2 + 1 + i) = (12, 40)
  · rw [if_pos hc] at ho
    obtain ⟨A0, hA0⟩ := C.2.2.2.2.2.2.2.2.2.1
    have hover : (Cond.arrayOver (.array .long)).before (g_a G) (g_s G) = true := k_aoa C.2.2.2.2.1.alike (hA0 (.arrayOver (.array .long)) (by decide +kernel))
    intro T hT Xs
    obtain ⟨vm₁, cA, comp, -, fA, fC, hO, -, X', step⟩ := Xs.multianewarray2F (ty := .long) C.1 C.2.2.2.1 (k_word C hcl rfl) hover (k_word C (w := .arrayClass .long) (by decide +kernel) rfl) (g := F0 (g_m G) pc ls (.int 40 :: .int 4 :: rest)) rfl (by rw [C.2.1]; exact hdg) rfl (by decide) (by decide) (by decide) (by decide) (by decide) rfl rfl (by rw [C.2.2.2.2.2.2.2.2.1]; exact h1) (by rw [C.2.2.2.2.2.2.2.2.1]; exact h2)
    have hcA : cA = Z.2.2.1 14 := Option.some.inj (fA.symm.trans ((k_K C).2 3 _ rfl).2)
    have hco : comp = Z.2.2.1 12 := Option.some.inj (fC.symm.trans ((k_K C).2 1 _ rfl).2)
    subst hcA; subst hco
    have e4 : (Int32.toNatClampNeg 4) = 4 := by decide
    have e40 : (Int32.toNatClampNeg 40) = 40 := by decide
    rw [e4, e40] at X' step
    generalize hF : Jvm.Free.Multi.fill (T.setVm vm₁) (Z.2.2.1 14) (Z.2.2.1 12) 4 40 (defaultValue .long) 4 = Fi at X' step
    have hTh : (T.setVm vm₁).heap = H := hT
    obtain ⟨f1, f2, -, -⟩ := Jvm.Free.Multi.fill_facts (T.setVm vm₁) (Z.2.2.1 14) (Z.2.2.1 12) 4 40 (defaultValue .long) 4
    rw [hF, hTh] at f1 f2
    have hold : ∀ x : Nat, x < H.size → Fi.heap[x]? = H[x]? := fun x hx => by
      have := Jvm.Free.Multi.fill_old (T.setVm vm₁) (Z.2.2.1 14) (Z.2.2.1 12) 4 40 (defaultValue .long) (a := x) (by rw [hTh]; exact hx) 4
      rw [hF, hTh] at this
      exact this
    have hrow : ∀ j : Nat, j < 4 → Fi.heap[H.size + 1 + j]? = some (vp_cell (Z.2.2.1 12) (40, .inr (.inl (fun _ => 0)))) := fun j hj => by
      have := Jvm.Free.Multi.fill_inner (T.setVm vm₁) (Z.2.2.1 14) (Z.2.2.1 12) 4 40 (defaultValue .long) 4 j hj
      rw [hF, hTh] at this
      rw [this, vp_cell_l]
      congr 1
    rw [vo_outer] at f2
    have hz := hP.1.1
    have hRg : k_Rg Z (aMu M) Fi.heap := by
      refine ⟨by rw [f1, hz]; show _ = k_h Z + (M.2.2.2 + 5); omega, fun q hq => (hold q (by omega)).trans (hP.1.2.1 q hq), fun k hk => ?_⟩
      have hk5 : k < M.2.2.2 + 5 := hk
      by_cases hk0 : k < M.2.2.2
      · have e : k_E Z (aMu M) k = k_E Z M k := by
          unfold k_E
          rw [show (aMu M).1 k = M.1 k from if_neg (by omega), show (aMu M).2.1 k = M.2.1 k from if_neg (by omega), show (aMu M).2.2.1 k = M.2.2.1 k from (if_neg (by omega)).trans (if_neg (by omega))]
        rw [e]
        exact (hP.1.2.2 k hk0).kept (hold _ (by show k_h Z + k < _; omega))
      · by_cases hkn : k = M.2.2.2
        · subst hkn
          rw [k_E_st _ hc.1 (by omega), k_e_rows, show (aMu M).2.2.1 M.2.2.2 = fun i => if i < 4 then some (M.2.2.2 + 1 + i) else none from if_pos rfl]
          show Fi.heap[k_h Z + M.2.2.2]? = some (vp_cell _ _)
          rw [← hz, f2, vp_cell_q]
          congr 2
          funext j
          by_cases hj : j < 4
          · simp only [hj, if_true, Option.map_some]
            congr 2
            omega
          · simp only [hj, if_false, Option.map_none]
        · obtain ⟨i, rfl⟩ : ∃ i, k = M.2.2.2 + 1 + i := ⟨k - M.2.2.2 - 1, by omega⟩
          rw [k_E_st _ (hc.2 i (by omega)) (by omega), k_e_long, show (aMu M).2.1 (M.2.2.2 + 1 + i) = fun _ => 0 from if_pos (by omega)]
          show Fi.heap[k_h Z + (M.2.2.2 + 1 + i)]? = some (vp_cell _ _)
          rw [show k_h Z + (M.2.2.2 + 1 + i) = H.size + 1 + i by omega]
          exact hrow i (by omega)
    obtain ⟨t, b1, b2⟩ := kk M.2.2.2 (aMu M) r' M' ho Fi.heap locs ls hl ⟨hRg, fun h => by rw [hb] at h; cases h⟩ hL Fi rfl X'
    refine ⟨t, step t ?_, b2⟩
    rw [hT, hz]
    exact b1
  · rw [if_neg hc] at ho; cases ho
end XN
