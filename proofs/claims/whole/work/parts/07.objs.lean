/-! ===== rules as objects: made, asked, told apart ===== -/
/-- a new rule of the kind t behind all cells -/
def aRl (M : k_M) (t : Int32) : k_M := (fun b => if b = M.2.2.2 then (fun j => if j = 3 then t else 0) else M.1 b, M.2.1, M.2.2.1, M.2.2.2 + 1)
def nwR {β : Type} (M : k_M) (t : Int32) (k : Nat → k_M → Option β) : Option β := k M.2.2.2 (aRl M t)
def pFR {β : Type} (M : k_M) (a j : Nat) (v : Int32) (k : k_M → Option β) : Option β := if 105 ≤ a ∧ a < M.2.2.2 then k (sI M a j v) else none
def isRl {β : Type} (M : k_M) (a : Nat) (k : Option β) : Option β := if 105 ≤ a ∧ a < M.2.2.2 then k else none
theorem k_tag_fty (t : Int32) : k_fty (k_tag t) = [0, 0, 0] := by
  unfold k_tag
  repeat' split
  all_goals rfl
theorem k_tag5 {P : Nat → Prop} (t : Int32) (h1 : P 1) (h2 : P 4) (h3 : P 3) (h4 : P 0) (h5 : P 6) : P (k_tag t) := by
  unfold k_tag
  split
  · exact h1
  · split
    · exact h2
    · split
      · exact h3
      · split
        · exact h4
        · exact h5
section XO
variable {Z : k_Z} {G : k_G} {ρ : Type} {em : ρ → Option Value} {F : k_F} {K : Nat × Nat} {pc : Nat} {lv lv' : List (Nat × Value)} {st rest : List Value} {M : k_M} {o o2 : Option (ρ × k_M)} {own : String} {cc : ByteArray} {ret : Option FieldType} {nm : String}
theorem x_isRl {a : Nat} (kk : 105 ≤ a → a < M.2.2.2 → Sm Z G em F K pc lv st M o) : Sm Z G em F K pc lv st M (isRl M a o) := by
  intro r M' ho
  unfold isRl at ho
  by_cases hc : 105 ≤ a ∧ a < M.2.2.2
  · rw [if_pos hc] at ho
    exact kk hc.1 hc.2 r M' ho
  · rw [if_neg hc] at ho; cases ho
theorem x_newR (C : k_C Z G own cc F ret nm) {idx : Nat} {t : Int32} {r : vw_C} {ty : Nat → FieldType} {k : Nat → k_M → Option (ρ × k_M)} (hb : F.1 = true) (hr : vwCl[k_tag t]? = some r) (h3 : r.2.2 = 3) (hty : ∀ k, k < r.2.2 → parseFieldDescriptor (r.2.1 k).2.2.1 = some (ty k)) (hdf : ∀ j, j < 3 → defaultValue (ty j) = .int 0) (hws : ∀ w ∈ u_ws r.1 r.2.1 r.2.2, w ∈ lw_tbl ∧ goodWord w = true) (hcl : Cond.classLink own idx r.1 ∈ lw_tbl) (hin : Cond.instantiable r.1 3 ∈ lw_tbl) (hini : Cond.initialized r.1 ∈ lw_tbl) (h1 : K.1 + 1 ≤ F.2.2.2.1) (h2 : K.2 + 3 ≤ F.2.2.2.2) (hdg : decode cc pc = .ok (.new idx, 3)) (kk : ∀ (q : Nat) (M1 : k_M), Sm Z G em F (K.1 + 1, K.2 + 3) (pc + 3) lv (k_ra Z q :: st) M1 (k q M1)) : Sm Z G em F K pc lv st M (nwR M t k) := by
  intro r' M' ho H locs ls hl hP hL
  have hKn := (k_K C).1 _ _ hr
  have hts : ∀ w ∈ u_ws r.1 r.2.1 r.2.2, w.before (g_a G) (g_s G) = true := fun w hw => k_word C (hws w hw).1 (hws w hw).2
  have hn := (hP.2 hb).2
  refine W.newcK C.1 C.2.1 C.2.2.2.1 (k_word C hcl rfl) (k_word C hin rfl) (k_word C hini rfl) rfl hdg (by rw [C.2.2.2.2.2.2.2.2.1]; exact h1) (by rw [C.2.2.2.2.2.2.2.2.1]; exact h2) hKn.2.1 hP.1.1 fun H1 kC hkC e1 z1 o1 => ?_
  refine kk M.2.2.2 (aRl M t) r' M' ho H1 locs ls hl ⟨⟨?_, fun q hq => (o1 q (by omega)).trans (hP.1.2.1 q hq), fun k hk => ?_⟩, fun hb => ⟨(hP.2 hb).1, Nat.le_succ_of_le (hP.2 hb).2⟩⟩ hL
  · show H1.size = k_h Z + (M.2.2.2 + 1)
    omega
  · have hk' : k < M.2.2.2 + 1 := hk
    by_cases hkn : k = M.2.2.2
    · subst hkn
      have e3 : (aRl M t).1 M.2.2.2 = fun j => if j = 3 then t else 0 := if_pos rfl
      have eE : k_E Z (aRl M t) M.2.2.2 = .inr (k_tag t, [.int 0, .int 0, .int 0]) := by
        rw [k_E_rl _ hn, e3]
        rfl
      rw [eE]
      refine ⟨r, hr, (u_born ty hts (fun w h => h) hKn hkC e1 hty).to (fun j hj => ?_)⟩
      rw [h3] at hj
      show defaultValue (ty j) = _
      rw [hdf j hj]
      match j, hj with
      | 0, _ => rfl
      | 1, _ => rfl
      | 2, _ => rfl
    · have e4 : k_E Z (aRl M t) k = k_E Z M k := by
        unfold k_E
        rw [show (aRl M t).1 k = M.1 k from if_neg hkn]
        rfl
      rw [e4]
      have hlt : k < M.2.2.2 := by omega
      exact (hP.1.2.2 k hlt).kept (o1 _ (by show k_h Z + k < _; omega))
theorem x_objI (C : k_C Z G own cc F ret nm) {idx a : Nat} (hl0 : Cond.methodLink own idx objectInit ∈ lw_tbl) (h1 : 1 ≤ F.2.2.1) (hr : (rest.map fun v => v.category).sum ≤ 8) (hdg : decode cc pc = .ok (.invokespecial idx, 3)) (kk : Sm Z G em F K (pc + 3) lv rest M o) : Sm Z G em F K pc lv (.ref a :: rest) M o := fun r M' ho H locs ls hl hP hL =>
  W.objInit C.1 C.2.1 C.2.2.2.1 (k_word C hl0 rfl) (k_word C (w := .instanceMethod objectInit) (by decide +kernel) rfl) (k_word C (w := .code objectInit ⟨#[0xb1]⟩ 1 none) (by decide +kernel) rfl) rfl (by show ls.size = _; rw [C.2.2.1]; exact hl.1) rfl hdg (by rw [C.2.2.2.2.2.2.2.2.1]; exact h1) (by rw [C.2.2.2.2.2.2.2.2.1]; show 2 * 0 + _ + 12 ≤ 64 * _; omega) (kk r M' ho H locs ls hl hP hL)
/-- a final field of a rule, told in its constructor -/
theorem x_putFR (C : k_C Z G own cc F ret nm) {a idx j : Nat} {v : Int32} {k : k_M → Option (ρ × k_M)} (hj : j < 3) (hnm : nm = "<init>") (hF : ∀ t : Int32, k_FL own idx (k_tag t) j) (hN : ∀ t : Int32, k_tbs (k_tag t)) (hT : ∀ t : Int32, ∀ r, vwCl[k_tag t]? = some r → ((r.2.1 j).2.2.2 = true ∧ (r.2.1 j).1 = own) ∧ parseFieldDescriptor (r.2.1 j).2.2.1 = some .int) (hlk : ∀ t : Int32, ∀ r, vwCl[k_tag t]? = some r → Cond.fieldLink own idx (r.2.1 j).1 (r.2.1 j).2.1 (r.2.1 j).2.2.1 ∈ lw_tbl) (hdg : decode cc pc = .ok (.putfield idx, 3)) (kk : ∀ M1 : k_M, Sm Z G em F K (pc + 3) lv rest M1 (k M1)) : Sm Z G em F K pc lv (.int v :: k_ra Z a :: rest) M (pFR M a j v k) := by
  intro r' M' ho H locs ls hl hP hL
  unfold pFR at ho
  by_cases hc : 105 ≤ a ∧ a < M.2.2.2
  · rw [if_pos hc] at ho
    have hE := hP.1.2.2 a hc.2
    rw [k_E_rl M hc.1] at hE
    obtain ⟨r, hr, cell, q1, q2, q3, q4⟩ := hE
    obtain ⟨r2, ref, hr2, hj2, hws, -, -⟩ := hF (M.1 a 3)
    have hrr : r2 = r := Option.some.inj (hr2.symm.trans hr)
    subst hrr
    obtain ⟨⟨hfin, hdecl⟩, hd⟩ := hT _ _ hr
    obtain ⟨⟨ty0, hty⟩, hnmm⟩ := hN _ _ hr
    have hK := k_K C
    have hts : ∀ w ∈ u_ws r2.1 r2.2.1 r2.2.2, w.before (g_a G) (g_s G) = true := fun w hw => k_word C (hws w hw).1 (hws w hw).2
    have hin : ∀ w ∈ u_ws r2.1 r2.2.1 r2.2.2, w ∈ u_ws r2.1 r2.2.1 r2.2.2 := fun w h => h
    have hP1 : va_P Z.2.1 vwCl [(k_h Z + a, .inr (k_tag (M.1 a 3), k_fl (k_h Z) (M.1 a) (M.2.1 a) (M.2.2.1 a) 0 [0, 0, 0]))] H := fun k q hq => by
      have hz : k < 1 := (List.getElem?_eq_some_iff.mp hq).1
      rw [show k = 0 by omega] at hq
      cases hq
      exact ⟨r2, hr, cell, q1, q2, q3, q4⟩
    have hap := va_apart (own := own) hts hin ty0 hty hnmm hK hr
    obtain ⟨hS, hfc, kC, hkC, hkind⟩ := hK.1 _ _ hr
    obtain ⟨cf, kf, fi0, f, hi, hsl⟩ := hS j hj2
    have hst := (u_facts hfc hkC (u_lays hts hin hj2) hi).1
    have hcf : (g_m G).cls = cf := by
      have hlay := hts _ (hin _ (u_in_lay hj2))
      unfold u_lay at hlay
      rw [if_pos hfin] at hlay
      obtain ⟨_, _, c', _, _, _, -, -, hf', -, -, -, hown2, -⟩ := Cond.laysFinal_spec hlay
      have e1 : c' = cf := by have := hi.symm.trans hf'; simp at this; exact this.1.symm
      rw [hdecl] at hown2
      rw [← e1]; exact Option.some.inj (C.2.2.2.1.symm.trans hown2)
    have hstore : narrow f.type (.int v) = .int v ∧ (g_s G).fitsSlot cell.cls .none f.slot (.int v) = true := by
      rw [q2]
      exact u_fits hfc hkC hkind (u_lays hts hin hj2) hi hd rfl rfl
    have hset : (k_fl (k_h Z) (M.1 a) (M.2.1 a) (M.2.2.1 a) 0 [0, 0, 0]).set j (.int v) = k_fl (k_h Z) (k_up (M.1 a) j v) (M.2.1 a) (M.2.2.1 a) 0 [0, 0, 0] := k_fl_set (h := k_h Z) [0, 0, 0] 0 j 0 (.int v) (by match j, hj with | 0, _ => rfl | 1, _ => rfl | 2, _ => rfl) (fun i hi => k_up_ne _ _ (by omega)) (fun _ _ => rfl) (fun _ _ => rfl) (by unfold k_fv; rw [if_pos rfl, Nat.zero_add, k_up_self])
    refine W.putFinK C.1 C.2.1 C.2.2.2.1 (k_word C (hlk _ _ hr) rfl) hi hst hcf (by rw [C.2.2.2.2.2.2.2.1]; exact hnm) hstore q1 q3 (by rw [hsl]; exact k2_hasslot (q4 j hj2)) rfl rfl hdg fun H1 e1 e2 e3 => ?_
    rw [hsl] at e1
    refine kk _ r' M' ho H1 _ ls hl ⟨k_upd hP.1 rfl e2 e3 (fun k hk => k_E_sI M _ _ hk) ?_, hP.2⟩ (k_lcs hL (Nat.le_add_right _ _))
    rw [k_E_rl _ hc.1, sI_at]
    have e3' : k_up (M.1 a) j v 3 = M.1 a 3 := k_up_ne _ _ (by omega)
    rw [e3']
    refine ⟨r2, hr, ?_⟩
    show t_OB _ _ _ _ _ (vp_V (k_fl (k_h Z) (k_up (M.1 a) j v) (M.2.1 a) (M.2.2.1 a) 0 [0, 0, 0]))
    rw [← hset]
    exact t_OB.to (V := updV (vp_V (k_fl (k_h Z) (M.1 a) (M.2.1 a) (M.2.2.1 a) 0 [0, 0, 0])) j (.int v)) ⟨_, e1, q2, q3, t_set q4 hap hj2 (.int v)⟩ (fun i _ => vp_updV_set (by rw [k_fl_len]; exact hj) (.int v) i)
  · rw [if_neg hc] at ho; cases ho
theorem x_callI (C : k_C Z G own cc F ret nm) {ρ' : Type} {em' : ρ' → Option Value} {y : MethodName} {c' : ByteArray} {nL' : Nat} {d' mc' ms' idx b na : Nat} {vs : List Value} {o' : Option (ρ' × k_M)} {k : ρ' → k_M → Option (ρ × k_M)}
    (hM : Con F.1 Z G.2.1 y c' nL' none d' mc' ms' em' (.ref b :: vs) M o') (hy : k_cy y c' nL' none na) (hl : k_lk own idx y) (hi : Cond.instanceMethod y ∈ lw_tbl) (hyn : y.name = "<init>") (hd : d' + 1 ≤ F.2.2.1) (hn : nL' ≤ 45) (h1 : K.1 + mc' ≤ F.2.2.2.1) (h2 : K.2 + ms' ≤ F.2.2.2.2) (hna : vs.length = na) (hs : st = vs.reverse ++ .ref b :: rest) (hr : (rest.map fun v => v.category).sum ≤ 8) (hdg : decode cc pc = .ok (.invokespecial idx, 3))
    (kk : ∀ (r' : ρ') (M1 : k_M), Sm Z G em F (K.1 + mc', K.2 + ms') (pc + 3) lv ((em' r').toList ++ rest) M1 (k r' M1)) : Sm Z G em F K pc lv st M (bd o' k) := by
  refine x_run (b' := F.1) (rest := rest) (cas := (.ref b :: vs).toArray) (fun r' M1 hq H locs ls hl' hP => ?_) (fun _ _ h => h) kk
  subst hs
  have hrm := k_room C (mc' := mc') (ms' := ms') hd hn
  rcases hl with hl | hl
  · exact va_runI (Ts := []) (own := own) (As := vs) (rest := rest) ⟨C.1, C.2.1, C.2.2.1, C.2.2.2.1, fun w h => by cases h⟩ (hM r' M1 hq) ⟨⟨rfl, rfl, hrm.1, hrm.2, k_code C hy.1, List.mem_singleton.mpr rfl, k_word C hy.1 rfl, k_word C hy.2.1 rfl, hy.2.2.1, k_ar hy.2.2.2, k_word C hl rfl⟩, hyn, k_word C hi rfl⟩ ⟨k_blind, k_pre C hP⟩ rfl hna hl'.1 rfl (lv_room hr) hdg (k_fit C h1 h2)
  · exact va_runIN (Ts := []) (own := own) (host := "WheelCity") (As := vs) (rest := rest) ⟨C.1, C.2.1, C.2.2.1, C.2.2.2.1, fun w h => by cases h⟩ (hM r' M1 hq) ⟨⟨⟨rfl, rfl, hrm.1, hrm.2, k_code C hy.1, List.mem_singleton.mpr rfl⟩, k_word C hy.1 rfl, k_word C hy.2.1 rfl, hy.2.2.1, k_ar hy.2.2.2, k_wordM C hl⟩, hyn, k_word C hi rfl⟩ ⟨k_blind, k_pre C hP⟩ rfl hna hl'.1 rfl (lv_room hr) hdg (k_fit C h1 h2)
/-- the cell of a rule as a receiver -/
theorem k_recvR (C : k_C Z G own cc F ret nm) {a : Nat} {H : Heap} (hP : k_R F.1 Z M H) (ha : 105 ≤ a) (hlt : a < M.2.2.2) {r : vw_C} (hr : vwCl[k_tag (M.1 a 3)]? = some r) : ∃ cell : Cell, H[k_h Z + a]? = some cell ∧ cell.vm.isStatics = false ∧ (g_s G).vm.findClass r.1 = some cell.cls := by
  have hE := hP.1.2.2 a hlt
  rw [k_E_rl M ha] at hE
  obtain ⟨r', hr', cell, q1, q2, q3, -⟩ := hE
  have hrr : r' = r := Option.some.inj (hr'.symm.trans hr)
  subst hrr
  exact ⟨cell, q1, by rw [q3]; rfl, by rw [q2]; exact ((k_K C).1 _ _ hr).2.1⟩
/-- a call to a rule's method by the class of the rule -/
theorem x_callD (C : k_C Z G own cc F ret nm) {ρ' : Type} {em' : ρ' → Option Value} {x y : MethodName} {c' : ByteArray} {nL' : Nat} {ret' : Option FieldType} {d' mc' ms' idx a na : Nat} {vs : List Value} {o' : Option (ρ' × k_M)} {k : ρ' → k_M → Option (ρ × k_M)} {r : vw_C} {owner : String} (ha : 105 ≤ a) (hlt : a < M.2.2.2) (hr0 : vwCl[k_tag (M.1 a 3)]? = some r)
    (hM : Con F.1 Z G.2.1 y c' nL' ret' d' mc' ms' em' (k_ra Z a :: vs) M o') (hy : k_cy y c' nL' ret' na) (hl : Cond.methodLink own idx x ∈ lw_tbl) (hsm : Cond.sameMethod x.cls owner x.name x.desc ∈ lw_tbl) (hdc : va_Decl (g_s G) ⟨owner, x.name, x.desc⟩) (ho1 : owner ≠ "java/lang/invoke/MethodHandle" ∧ owner ≠ "java/lang/invoke/VarHandle") (hxd : x.desc = y.desc) (hse : Cond.selects r.1 x y ∈ lw_tbl) (hi : Cond.instanceMethod y ∈ lw_tbl) (hd : d' + 1 ≤ F.2.2.1) (hn : nL' ≤ 45) (h1 : K.1 + mc' ≤ F.2.2.2.1) (h2 : K.2 + ms' ≤ F.2.2.2.2) (hna : vs.length = na) (hs : st = vs.reverse ++ k_ra Z a :: rest) (hr : (rest.map fun v => v.category).sum ≤ 8) (hdg : decode cc pc = .ok (.invokevirtual idx, 3))
    (kk : ∀ (r' : ρ') (M1 : k_M), Sm Z G em F (K.1 + mc', K.2 + ms') (pc + 3) lv ((em' r').toList ++ rest) M1 (k r' M1)) : Sm Z G em F K pc lv st M (bd o' k) := by
  refine x_run (b' := F.1) (rest := rest) (cas := (k_ra Z a :: vs).toArray) (fun r' M1 hq H locs ls hl' hP => ?_) (fun _ _ h => h) kk
  subst hs
  have hrm := k_room C (mc' := mc') (ms' := ms') hd hn
  exact va_runU (Ts := []) (own := own) (C := r.1) (owner := owner) (x := x) (As := vs) (rest := rest) ⟨C.1, C.2.1, C.2.2.1, C.2.2.2.1, fun w h => by cases h⟩ (hM r' M1 hq) ⟨⟨rfl, rfl, hrm.1, hrm.2, k_code C hy.1, List.mem_singleton.mpr rfl⟩, k_word C hy.1 rfl, k_word C hy.2.1 rfl, ho1, by rw [hxd]; exact k_ar hy.2.2.2, k_word C hl rfl, k_word C hsm rfl, hdc, k_word C hse rfl, k_word C hi rfl⟩ ⟨k_blind, k_recvR C hP ha hlt hr0, k_pre C hP⟩ rfl hna hl'.1 rfl (lv_room hr) hdg (k_fit C h1 h2)
theorem k_decl (C : k_C Z G own cc F ret nm) {x : MethodName} (hw : Cond.declares x ∈ lw_tbl) : va_Decl (g_s G) x := by
  obtain ⟨A0, h⟩ := C.2.2.2.2.2.2.2.2.2.1
  exact va_Decl.abs (va_Nw.warmD C.2.2.2.2.1 (va_Nw.of rfl (h _ hw)))
theorem k_declI (C : k_C Z G own cc F ret nm) {x : MethodName} {b : ByteArray} {n : Nat} {rt : Option FieldType} (hw : Cond.instanceMethod x ∈ lw_tbl) (hc : Cond.code x b n rt ∈ lw_tbl) : va_Decl (g_s G) x := va_Decl.of (k_word C hw rfl) (k_word C hc rfl)
/-- a call to what the class above has; x: as it is named, y: whose code it is -/
theorem x_callSU (C : k_C Z G own cc F ret nm) {ρ' : Type} {em' : ρ' → Option Value} {x y : MethodName} {c' : ByteArray} {nL' : Nat} {ret' : Option FieldType} {d' mc' ms' idx a na : Nat} {vs : List Value} {o' : Option (ρ' × k_M)} {k : ρ' → k_M → Option (ρ × k_M)} (ha : 105 ≤ a) (hlt : a < M.2.2.2)
    (hM : Con F.1 Z G.2.1 y c' nL' ret' d' mc' ms' em' (k_ra Z a :: vs) M o') (hy : k_cy y c' nL' ret' na) (hyx : y.name = x.name ∧ y.desc = x.desc) (hl : Cond.methodLink own idx x ∈ lw_tbl) (hsm : Cond.sameMethod x.cls y.cls x.name x.desc ∈ lw_tbl) (hsup : Cond.superclass own x.cls ∈ lw_tbl) (hsub : x.cls = y.cls ∨ Cond.superclass x.cls y.cls ∈ lw_tbl) (hno : x.name ≠ "<init>") (hi : Cond.instanceMethod y ∈ lw_tbl) (hd : d' + 1 ≤ F.2.2.1) (hn : nL' ≤ 45) (h1 : K.1 + mc' ≤ F.2.2.2.1) (h2 : K.2 + ms' ≤ F.2.2.2.2) (hna : vs.length = na) (hs : st = vs.reverse ++ k_ra Z a :: rest) (hr : (rest.map fun v => v.category).sum ≤ 8) (hdg : decode cc pc = .ok (.invokespecial idx, 3))
    (kk : ∀ (r' : ρ') (M1 : k_M), Sm Z G em F (K.1 + mc', K.2 + ms') (pc + 3) lv ((em' r').toList ++ rest) M1 (k r' M1)) : Sm Z G em F K pc lv st M (bd o' k) := by
  refine x_run (b' := F.1) (rest := rest) (cas := (k_ra Z a :: vs).toArray) (fun r' M1 hq H locs ls hl' hP => ?_) (fun _ _ h => h) kk
  subst hs
  have hrm := k_room C (mc' := mc') (ms' := ms') hd hn
  have hinst := k_word C hi rfl
  have hcode := k_word C hy.1 rfl
  have hini := k_word C hy.2.1 rfl
  obtain ⟨mk, methM, hnamed, hmethM, hstM, habM⟩ := Cond.instanceMethod_spec hinst
  obtain ⟨methM', cM, hmethM', -, -, -, -, -, -, hsigM⟩ := Cond.code_spec hnamed hcode
  cases hmethM.symm.trans hmethM'
  obtain ⟨ps, dk, kp, hps, hdk, hkp, hsuper, -, -, hnid⟩ := Cond.superclass_spec C.2.2.2.1 (k_word C hsup rfl)
  have hcm := findClass_of_methodNamed hnamed
  have hsub' : (g_s G).vm.isSubclass ps mk.cls = true := by
    rcases hsub with e | h
    · rw [e] at hps
      have hpm : ps = mk.cls := Option.some.inj (hps.symm.trans hcm)
      rw [hpm]; simp [Vm.isSubclass, Vm.isSubclassAux]
    · obtain ⟨p2, k2, kp2, e1, e2, e3, e4, -⟩ := Cond.superclass_spec hps (k_word C h rfl)
      have hpm : p2 = mk.cls := Option.some.inj (e1.symm.trans hcm)
      have hsz : p2 < (g_s G).vm.classes.size := (Array.getElem?_eq_some_iff.mp e3).1
      obtain ⟨n, hn1⟩ := Nat.exists_eq_succ_of_ne_zero (Nat.ne_of_gt (Nat.lt_of_le_of_lt (Nat.zero_le p2) hsz))
      rw [← hpm]
      simp [Vm.isSubclass, Vm.isSubclassAux, hn1, e2, e4]
  have hK : Back G.2.1 (g_R G) G.1 G.2.2.1 (g_b G) (g_s G) (g_a G) y 3 8 (PreOf (g_R G) mc' ms' (k_Pc F.1 Z M (k_ra Z a :: vs))) (PostOf (k_Qc F.1 Z em' r' M1) mc' ms' (k_fr Z)) := back_of (bytes := c') (maxL := nL') (ret := ret') (hM r' M1 hq) k_blind rfl rfl hrm.1 hrm.2 (k_code C hy.1) (List.mem_singleton.mpr rfl) (fun a' U hW => word_at hW (Or.inl (by first | rfl | simp [Cond.onTables, Cond.keeps, Cond.steady])) hini)
  obtain ⟨r, hr0, cellB, q1, q2, q3, -⟩ : va_at Z.2.1 vwCl (k_h Z + a, .inr (k_tag (M.1 a 3), k_fl (k_h Z) (M.1 a) (M.2.1 a) (M.2.2.1 a) 0 [0, 0, 0])) H := by
    have hE := hP.1.2.2 a hlt
    rw [k_E_rl M ha] at hE
    exact hE
  obtain ⟨kB, hkB, -⟩ := ((k_K C).1 _ _ hr0).2.2
  intro T hT X
  have hn' : (g_s G).methodNamed? ⟨y.cls, x.name, x.desc⟩ = some mk := by rw [← hyx.1, ← hyx.2]; exact hnamed
  obtain ⟨vm₁, X₁, hstep₁⟩ := X.invokespecialUp C.1 C.2.2.2.1 (k_word C hl rfl) (k_word C hsm rfl) hn' hmethM hstM habM hno hdk hnid hps hsuper hsub' (a := k_h Z + a) (cell := cellB) (by rw [hT]; exact q1)
    (fun z h => by rw [q3] at h; cases h) (by rw [q2]; exact hkB) (g := F0 (g_m G) pc ls (vs.reverse ++ k_ra Z a :: rest)) rfl (argsL := vs) (rest := rest) (hna.trans (k_ar hy.2.2.2 _ hsigM)) rfl (by rw [C.2.1]; exact hdg)
  obtain ⟨v, ⟨U', l2, c2, s2⟩, X', ⟨g', mk', t, L, e1, e2, hqq, e3, hL, e4, e5⟩, hsteps⟩ := hK (g_m G) (g_t G) (g_c G) ⟨T.setVm vm₁, locs, K.1, K.2⟩ { F0 (g_m G) pc ls (vs.reverse ++ k_ra Z a :: rest) with stack := rest } (.invokespecial idx) mk (k_ra Z a :: vs).toArray X₁ rfl (by show ls.size = _; rw [C.2.2.1]; exact hl'.1) (by rw [C.2.1]; exact hdg) (lv_room hr) (X₁.named hnamed) ⟨(k_fit C h1 h2).1, (k_fit C h1 h2).2, k_pre C hP (T.setVm vm₁) hT X₁.warmed⟩
  dsimp only [Pt.U, Pt.locs, Pt.cells, Pt.slots] at X' e1 e2 e3 e4 e5 hsteps
  subst e3; subst e4; subst e5
  exact ⟨v, (T.setVm vm₁).calling g' mk' (k_ra Z a :: vs).toArray, t, U', L, hT, X', hL, e1, e2, hqq, fun target h => hstep₁ _ (by rw [doInvoke_state]; exact hsteps.trans h)⟩
/-- instanceof, asked of a rule -/
theorem x_instR (C : k_C Z G own cc F ret nm) {idx a : Nat} {nmc : String} {v : Int32} {r : vw_C} (ha : 105 ≤ a) (hlt : a < M.2.2.2) (hr0 : vwCl[k_tag (M.1 a 3)]? = some r) (hl : Cond.classLink own idx nmc ∈ lw_tbl) (hv : (v = 1 ∧ (r.1 = nmc ∨ Cond.castable r.1 nmc ∈ lw_tbl)) ∨ (v = 0 ∧ (r.1, nmc) ∈ k_ncl)) (hdg : decode cc pc = .ok (.instanceof idx, 3)) (kk : Sm Z G em F K (pc + 3) lv (.int v :: rest) M o) : Sm Z G em F K pc lv (k_ra Z a :: rest) M o := by
  intro r' M' ho H locs ls hl' hP hL
  have hrc := k_recvR C hP ha hlt hr0
  have k2 := kk r' M' ho H locs ls hl' hP hL
  rcases hv with ⟨rfl, h | h⟩ | ⟨rfl, h⟩
  · rw [h] at hrc
    exact va_instE C.1 C.2.1 C.2.2.2.1 (k_word C hl rfl) hrc hdg k2
  · obtain ⟨A0, hA⟩ := C.2.2.2.2.2.2.2.2.2.1
    exact va_instY C.1 C.2.1 C.2.2.2.1 (k_word C hl rfl) (va_Nw.warmC C.2.2.2.2.1 (va_Nw.of rfl (hA _ h))) hrc hdg k2
  · exact va_instNo C.1 C.2.1 C.2.2.2.1 (k_word C hl rfl) (va_Nc.moved C.2.2.2.2.1.alike (C.2.2.2.2.2.2.2.2.2.2.2.2.1 _ h)) hrc hdg k2
end XO
def insV (kd c : Nat) : Int32 := if kd = c ∨ (kd = 0 ∧ c = 4) ∨ (kd = 6 ∧ c = 3) then 1 else 0
def insR {β : Type} (M : k_M) (a c : Nat) (k : Int32 → Option β) : Option β := isRl M a (k (insV (k_tag (M.1 a 3)) c))
theorem k_tags (t : Int32) : k_tag t = 1 ∨ k_tag t = 4 ∨ k_tag t = 3 ∨ k_tag t = 0 ∨ k_tag t = 6 := k_tag5 (P := fun n => n = 1 ∨ n = 4 ∨ n = 3 ∨ n = 0 ∨ n = 6) t (by decide) (by decide) (by decide) (by decide) (by decide)
theorem k_ca1 : Cond.castable "WheelCity$Best" "WheelCity$Near" ∈ lw_tbl := by decide +kernel
theorem k_ca2 : Cond.castable "WheelCity$Told" "WheelCity$Loop" ∈ lw_tbl := by decide +kernel
section XP
variable {Z : k_Z} {G : k_G} {ρ : Type} {em : ρ → Option Value} {F : k_F} {K : Nat × Nat} {pc : Nat} {lv lv' : List (Nat × Value)} {st rest : List Value} {M : k_M} {o o2 : Option (ρ × k_M)} {own : String} {cc : ByteArray} {ret : Option FieldType} {nm : String}
theorem x_inst (C : k_C Z G own cc F ret nm) {idx a : Nat} {k : Int32 → Option (ρ × k_M)} (c : Nat) (nmc : String) (hc : (c, nmc) ∈ [(1, "WheelCity$Camp"), (4, "WheelCity$Near"), (3, "WheelCity$Loop"), (0, "WheelCity$Best"), (6, "WheelCity$Told")]) (hl : Cond.classLink own idx nmc ∈ lw_tbl) (hdg : decode cc pc = .ok (.instanceof idx, 3)) (kk : ∀ v : Int32, Sm Z G em F K (pc + 3) lv (.int v :: rest) M (k v)) : Sm Z G em F K pc lv (k_ra Z a :: rest) M (insR M a c k) := by
  unfold insR
  refine x_isRl (fun ha hlt => ?_)
  have hcs : (c = 1 ∧ nmc = "WheelCity$Camp") ∨ (c = 4 ∧ nmc = "WheelCity$Near") ∨ (c = 3 ∧ nmc = "WheelCity$Loop") ∨ (c = 0 ∧ nmc = "WheelCity$Best") ∨ (c = 6 ∧ nmc = "WheelCity$Told") := by simpa using hc
  have ht := k_tags (M.1 a 3)
  generalize hkd : k_tag (M.1 a 3) = kd at ht ⊢
  rcases ht with rfl | rfl | rfl | rfl | rfl
  · refine x_instR C ha hlt (r := (RX2, TX2, 3)) (v := insV 1 c) (by rw [hkd]; rfl) hl ?_ hdg (kk _)
    rcases hcs with ⟨rfl, rfl⟩ | ⟨rfl, rfl⟩ | ⟨rfl, rfl⟩ | ⟨rfl, rfl⟩ | ⟨rfl, rfl⟩
    · exact Or.inl ⟨rfl, Or.inl rfl⟩
    · exact Or.inr ⟨rfl, by decide +kernel⟩
    · exact Or.inr ⟨rfl, by decide +kernel⟩
    · exact Or.inr ⟨rfl, by decide +kernel⟩
    · exact Or.inr ⟨rfl, by decide +kernel⟩
  · refine x_instR C ha hlt (r := (RX5, TX5, 3)) (v := insV 4 c) (by rw [hkd]; rfl) hl ?_ hdg (kk _)
    rcases hcs with ⟨rfl, rfl⟩ | ⟨rfl, rfl⟩ | ⟨rfl, rfl⟩ | ⟨rfl, rfl⟩ | ⟨rfl, rfl⟩
    · exact Or.inr ⟨rfl, by decide +kernel⟩
    · exact Or.inl ⟨rfl, Or.inl rfl⟩
    · exact Or.inr ⟨rfl, by decide +kernel⟩
    · exact Or.inr ⟨rfl, by decide +kernel⟩
    · exact Or.inr ⟨rfl, by decide +kernel⟩
  · refine x_instR C ha hlt (r := (RX4, TX4, 3)) (v := insV 3 c) (by rw [hkd]; rfl) hl ?_ hdg (kk _)
    rcases hcs with ⟨rfl, rfl⟩ | ⟨rfl, rfl⟩ | ⟨rfl, rfl⟩ | ⟨rfl, rfl⟩ | ⟨rfl, rfl⟩
    · exact Or.inr ⟨rfl, by decide +kernel⟩
    · exact Or.inr ⟨rfl, by decide +kernel⟩
    · exact Or.inl ⟨rfl, Or.inl rfl⟩
    · exact Or.inr ⟨rfl, by decide +kernel⟩
    · exact Or.inr ⟨rfl, by decide +kernel⟩
  · refine x_instR C ha hlt (r := (RX1, TX1, 3)) (v := insV 0 c) (by rw [hkd]; rfl) hl ?_ hdg (kk _)
    rcases hcs with ⟨rfl, rfl⟩ | ⟨rfl, rfl⟩ | ⟨rfl, rfl⟩ | ⟨rfl, rfl⟩ | ⟨rfl, rfl⟩
    · exact Or.inr ⟨rfl, by decide +kernel⟩
    · exact Or.inl ⟨rfl, Or.inr k_ca1⟩
    · exact Or.inr ⟨rfl, by decide +kernel⟩
    · exact Or.inl ⟨rfl, Or.inl rfl⟩
    · exact Or.inr ⟨rfl, by decide +kernel⟩
  · refine x_instR C ha hlt (r := (RX8, TX8, 3)) (v := insV 6 c) (by rw [hkd]; rfl) hl ?_ hdg (kk _)
    rcases hcs with ⟨rfl, rfl⟩ | ⟨rfl, rfl⟩ | ⟨rfl, rfl⟩ | ⟨rfl, rfl⟩ | ⟨rfl, rfl⟩
    · exact Or.inr ⟨rfl, by decide +kernel⟩
    · exact Or.inr ⟨rfl, by decide +kernel⟩
    · exact Or.inl ⟨rfl, Or.inr k_ca2⟩
    · exact Or.inr ⟨rfl, by decide +kernel⟩
    · exact Or.inl ⟨rfl, Or.inl rfl⟩
theorem x_callDV (C : k_C Z G own cc F ret nm) {ρ' : Type} {em' : ρ' → Option Value} {y : MethodName} {c' : ByteArray} {nL' : Nat} {ret' : Option FieldType} {d' mc' ms' idx a na : Nat} {vs : List Value} {o' : Option (ρ' × k_M)} {k : ρ' → k_M → Option (ρ × k_M)} {r : vw_C} (ha : 105 ≤ a) (hlt : a < M.2.2.2) (hr0 : vwCl[k_tag (M.1 a 3)]? = some r) (hcn : r.1 = y.cls)
    (hM : Con F.1 Z G.2.1 y c' nL' ret' d' mc' ms' em' (k_ra Z a :: vs) M o') (hy : k_cy y c' nL' ret' na) (hl : Cond.methodLink own idx y ∈ lw_tbl) (hse : Cond.selects y.cls y y ∈ lw_tbl) (hi : Cond.instanceMethod y ∈ lw_tbl) (hd : d' + 1 ≤ F.2.2.1) (hn : nL' ≤ 45) (h1 : K.1 + mc' ≤ F.2.2.2.1) (h2 : K.2 + ms' ≤ F.2.2.2.2) (hna : vs.length = na) (hs : st = vs.reverse ++ k_ra Z a :: rest) (hr : (rest.map fun v => v.category).sum ≤ 8) (hdg : decode cc pc = .ok (.invokevirtual idx, 3))
    (kk : ∀ (r' : ρ') (M1 : k_M), Sm Z G em F (K.1 + mc', K.2 + ms') (pc + 3) lv ((em' r').toList ++ rest) M1 (k r' M1)) : Sm Z G em F K pc lv st M (bd o' k) := by
  refine x_run (b' := F.1) (rest := rest) (cas := (k_ra Z a :: vs).toArray) (fun r' M1 hq H locs ls hl' hP => ?_) (fun _ _ h => h) kk
  subst hs
  have hrm := k_room C (mc' := mc') (ms' := ms') hd hn
  have hrc := k_recvR C hP ha hlt hr0
  rw [hcn] at hrc
  exact va_runV (Ts := []) (own := own) (C := y.cls) (As := vs) (rest := rest) ⟨C.1, C.2.1, C.2.2.1, C.2.2.2.1, fun w h => by cases h⟩ (hM r' M1 hq) ⟨⟨rfl, rfl, hrm.1, hrm.2, k_code C hy.1, List.mem_singleton.mpr rfl, k_word C hy.1 rfl, k_word C hy.2.1 rfl, hy.2.2.1, k_ar hy.2.2.2, k_word C hl rfl⟩, k_word C hi rfl, k_word C hse rfl⟩ ⟨k_blind, hrc, k_pre C hP⟩ rfl hna hl'.1 rfl (lv_room hr) hdg (k_fit C h1 h2)
end XP
