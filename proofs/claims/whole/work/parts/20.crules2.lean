def ckA {β : Type} (M : k_M) (a n : Nat) (k : Option β) : Option β := if a < M.2.2.2 ∧ k_st a = (11, n) then k else none
def nwM {β : Type} (M : k_M) (k : Nat → k_M → Option β) : Option β := if k_st M.2.2.2 = (14, 4) ∧ k_st (M.2.2.2 + 1) = (12, 40) ∧ k_st (M.2.2.2 + 2) = (12, 40) ∧ k_st (M.2.2.2 + 3) = (12, 40) ∧ k_st (M.2.2.2 + 4) = (12, 40) then k M.2.2.2 ((aOb (aOb (aOb (aOb (aOb M))))).1, (aOb (aOb (aOb (aOb (aOb M))))).2.1, (fun b => if b = M.2.2.2 then (fun i => if i < 4 then some (M.2.2.2 + 1 + i) else none) else (aOb (aOb (aOb (aOb (aOb M))))).2.2.1 b), M.2.2.2 + 5) else none
section XL
variable {Z : k_Z} {G : k_G} {ρ : Type} {em : ρ → Option Value} {F : k_F} {K : Nat × Nat} {pc : Nat} {lv lv' : List (Nat × Value)} {st rest : List Value} {M : k_M} {o o2 : Option (ρ × k_M)} {own : String} {cc : ByteArray} {ret : Option FieldType} {nm : String}
theorem x_putI0 (C : k_C Z G own cc F ret nm) {a kd idx j : Nat} {ty : FieldType} {v : Int32} {k : k_M → Option (ρ × k_M)} (hb : F.1 = false) (hkd : kd < 11) (hF : k_FL own idx kd j) (ht : (k_fty kd)[j]? = some 0) (hT : k_cls kd j ty) (hN : k_tbs kd) (hnw : narrow ty (.int v) = .int v) (hfit : fits ty (.int v) = true) (hdg : decode cc pc = .ok (.putfield idx, 3)) (kk : ∀ M1 : k_M, Sm Z G em F K (pc + 3) lv rest M1 (k M1)) : Sm Z G em F K pc lv (.int v :: k_ra Z a :: rest) M (pI0 M a kd j v k) := by
  intro r M' ho H locs ls hl hP hL
  unfold pI0 at ho
  by_cases hc : a < M.2.2.2 ∧ k_st a = (kd, 0)
  · rw [if_pos hc] at ho
    have hE := hP.1.2.2 a hc.1
    rw [k_E_st M hc.2 (by omega), k_e_obj hkd] at hE
    refine k_putv C hkd hE hF ht hT hN hnw hfit (fi' := k_up (M.1 a) j v) (fj' := M.2.1 a) (fr' := M.2.2.1 a) (fun i hi => k_up_ne _ _ hi) (fun _ _ => rfl) (fun _ _ => rfl) (by unfold k_fv; rw [if_pos rfl, k_up_self]) hdg (fun H1 i z oq hA => kk _ r M' ho H1 _ ls hl ⟨k_upd hP.1 rfl z oq (fun k hk => k_E_sI M j v hk) ?_, fun h => by rw [hb] at h; cases h⟩ (k_lcs hL (Nat.le_add_right _ _)))
    rw [k_E_st _ hc.2 (by omega), k_e_obj hkd, sI_at]
    exact hA
  · rw [if_neg hc] at ho; cases ho
theorem x_putJ0 (C : k_C Z G own cc F ret nm) : True := trivial
theorem x_putR0 (C : k_C Z G own cc F ret nm) {a kd idx j q : Nat} {ty : FieldType} {k : k_M → Option (ρ × k_M)} (hb : F.1 = false) (hnm : nm = "<init>") (hkd : kd < 11) (hF : k_FL own idx kd j) (ht : (k_fty kd)[j]? = some 2) (hN : k_tbs kd) (hT : ∀ r, vwCl[kd]? = some r → ((r.2.1 j).2.2.2 = true ∧ (r.2.1 j).1 = own) ∧ parseFieldDescriptor (r.2.1 j).2.2.1 = some ty) (hlk : ∀ r, vwCl[kd]? = some r → Cond.fieldLink own idx (r.2.1 j).1 (r.2.1 j).2.1 (r.2.1 j).2.2.1 ∈ lw_tbl) (hnw : ∀ a : Nat, narrow ty (.ref a) = .ref a) (hfit : ∀ a : Nat, fits ty (.ref a) = true) (hdg : decode cc pc = .ok (.putfield idx, 3)) (kk : ∀ M1 : k_M, Sm Z G em F K (pc + 3) lv rest M1 (k M1)) : Sm Z G em F K pc lv (k_ra Z q :: k_ra Z a :: rest) M (pR0 M a kd j q k) := by
  intro r' M' ho H locs ls hl hP hL
  unfold pR0 at ho
  by_cases hc : a < M.2.2.2 ∧ k_st a = (kd, 0)
  · rw [if_pos hc] at ho
    have hE := hP.1.2.2 a hc.1
    rw [k_E_st M hc.2 (by omega), k_e_obj hkd] at hE
    obtain ⟨r, hr, cell, q1, q2, q3, q4⟩ := hE
    obtain ⟨r2, ref, hr2, hj2, hws, -, -⟩ := hF
    have hrr : r2 = r := Option.some.inj (hr2.symm.trans hr)
    subst hrr
    obtain ⟨⟨hfin, hdecl⟩, hd⟩ := hT _ hr
    obtain ⟨⟨ty0, hty⟩, hnmm⟩ := hN _ hr
    have hK := k_K C
    have hts : ∀ w ∈ u_ws r2.1 r2.2.1 r2.2.2, w.before (g_a G) (g_s G) = true := fun w hw => k_word C (hws w hw).1 (hws w hw).2
    have hin : ∀ w ∈ u_ws r2.1 r2.2.1 r2.2.2, w ∈ u_ws r2.1 r2.2.1 r2.2.2 := fun w h => h
    have hap := va_apart (own := own) hts hin ty0 hty hnmm hK hr
    obtain ⟨hS, hfc, kC, hkC, hkind⟩ := hK.1 _ _ hr
    obtain ⟨cf, kf, fi0, f, hi, hsl⟩ := hS j hj2
    have hst := (u_facts hfc hkC (u_lays hts hin hj2) hi).1
    have hcf : (g_m G).cls = cf := by
      have hlay := hts _ (hin _ (u_in_lay hj2))
      unfold u_lay at hlay
      rw [if_pos hfin] at hlay
      obtain ⟨_, _, c', _, _, _, -, -, hf', -, -, -, hown2, -⟩ := Cond.laysFinal_spec hlay
      have e1 : c' = cf := by have := hi.symm.trans hf'; simp at this; exact this.1.symm
      rw [hdecl] at hown2
      rw [← e1]; exact Option.some.inj (C.2.2.2.1.symm.trans hown2)
    have hstore : narrow f.type (k_ra Z q) = k_ra Z q ∧ (g_s G).fitsSlot cell.cls .none f.slot (k_ra Z q) = true := by
      rw [q2]
      exact u_fits hfc hkC hkind (u_lays hts hin hj2) hi hd (hnw _) (hfit _)
    have hset := k_fl_set (h := k_h Z) (fi := M.1 a) (fi' := M.1 a) (fj := M.2.1 a) (fj' := M.2.1 a) (fr := M.2.2.1 a) (fr' := k_up (M.2.2.1 a) j (some q)) (k_fty kd) 0 j 2 (k_ra Z q) ht (fun _ _ => rfl) (fun _ _ => rfl) (fun i hi => k_up_ne _ _ (by omega)) (by unfold k_fv; rw [if_neg (by decide), if_neg (by decide), Nat.zero_add, k_up_self]; rfl)
    have hlen : j < (k_fl (k_h Z) (M.1 a) (M.2.1 a) (M.2.2.1 a) 0 (k_fty kd)).length := by rw [k_fl_len]; exact (List.getElem?_eq_some_iff.mp ht).1
    refine W.putFinK C.1 C.2.1 C.2.2.2.1 (k_word C (hlk _ hr) rfl) hi hst hcf (by rw [C.2.2.2.2.2.2.2.1]; exact hnm) hstore q1 q3 (by rw [hsl]; exact k2_hasslot (q4 j hj2)) rfl rfl hdg fun H1 e1 e2 e3 => ?_
    rw [hsl] at e1
    refine kk _ r' M' ho H1 _ ls hl ⟨k_upd hP.1 rfl e2 e3 (fun k hk => k_E_sR M _ _ hk) ?_, fun h => by rw [hb] at h; cases h⟩ (k_lcs hL (Nat.le_add_right _ _))
    rw [k_E_st _ hc.2 (by omega), k_e_obj hkd, sR_at]
    refine ⟨r2, hr, ?_⟩
    show t_OB _ _ _ _ _ (vp_V (k_fl (k_h Z) (M.1 a) (M.2.1 a) (k_up (M.2.2.1 a) j (some q)) 0 (k_fty kd)))
    rw [← hset]
    exact t_OB.to (V := updV (vp_V (k_fl (k_h Z) (M.1 a) (M.2.1 a) (M.2.2.1 a) 0 (k_fty kd))) j (k_ra Z q)) ⟨_, e1, q2, q3, t_set q4 hap hj2 (k_ra Z q)⟩ (fun i _ => vp_updV_set hlen (k_ra Z q) i)
  · rw [if_neg hc] at ho; cases ho
theorem x_iast0 (C : k_C Z G own cc F ret nm) {a n : Nat} {i x : Int32} {k : k_M → Option (ρ × k_M)} (hb : F.1 = false) (hdg : decode cc pc = .ok (.iastore, 1)) (kk : ∀ M1 : k_M, Sm Z G em F K (pc + 1) lv rest M1 (k M1)) : Sm Z G em F K pc lv (.int x :: .int i :: k_ra Z a :: rest) M (wI0 M a n i x k) := by
  intro r M' ho H locs ls hl hP hL
  unfold wI0 at ho
  by_cases hc : (a < M.2.2.2 ∧ k_st a = (11, n)) ∧ ix i n = true
  · rw [if_pos hc] at ho
    obtain ⟨⟨hlt0, hk⟩, hi⟩ := hc
    have hE := hP.1.2.2 a hlt0
    rw [k_E_st M hk (by omega), k_e_int] at hE
    have hlt := ix_lt hi
    refine W.iast C.1 C.2.1 hE (((k_K C).2 0 _ rfl).1 n (fun j => .int (M.1 a j))) (fun q => by cases q) (by show ¬ (i < 0 ∨ (arrV _ _ _).slots.size ≤ _); rw [arrV_size]; exact ix_in hi) rfl rfl hdg fun H1 e z oq => kk _ r M' ho H1 _ ls hl ⟨k_upd hP.1 rfl z oq (fun k hk => k_E_sI M _ _ hk) ?_, fun h => by rw [hb] at h; cases h⟩ (k_lcs hL (Nat.le_add_right _ _))
    rw [k_E_st _ hk (by omega), k_e_int, sI_at]
    show H1[k_h Z + a]? = some (vp_cell _ _)
    rw [e, vp_cell_i, vp_cell_i, arrV_store]
    congr 2
    funext q
    by_cases hq : q = i.toNatClampNeg
    · subst hq
      simp [updV, k_up]
    · simp [updV, k_up, hq]
  · rw [if_neg hc] at ho; cases ho
theorem x_castI0 (C : k_C Z G own cc F ret nm) {idx a n : Nat} (hl0 : Cond.classLink own idx "[I" ∈ lw_tbl) (hdg : decode cc pc = .ok (.checkcast idx, 3)) (kk : Sm Z G em F K (pc + 3) lv (k_ra Z a :: rest) M o) : Sm Z G em F K pc lv (k_ra Z a :: rest) M (ckA M a n o) := by
  intro r M' ho H locs ls hl hP hL
  unfold ckA at ho
  by_cases hc : a < M.2.2.2 ∧ k_st a = (11, n)
  · rw [if_pos hc] at ho
    have hE := hP.1.2.2 a hc.1
    rw [k_E_st M hc.2 (by omega), k_e_int] at hE
    have hP1 : va_P Z.2.1 vwCl [(k_h Z + a, .inl (Z.2.2.1 11, n, .inl (M.1 a)))] H := fun k q hq => by
      have hz : k < 1 := (List.getElem?_eq_some_iff.mp hq).1
      rw [show k = 0 by omega] at hq
      cases hq
      exact hE
    exact va_castA C.1 C.2.1 C.2.2.2.1 (k_word C hl0 rfl) hP1 0 rfl ((k_K C).2 0 _ rfl).2 hdg (kk r M' ho H locs ls hl hP hL)
  · rw [if_neg hc] at ho; cases ho
end XL
