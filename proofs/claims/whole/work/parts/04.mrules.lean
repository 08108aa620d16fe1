/-! ===== branches, fields, arrays, statics, ends ===== -/
section XB
variable {Z : k_Z} {G : k_G} {ρ : Type} {em : ρ → Option Value} {F : k_F} {K : Nat × Nat} {pc : Nat} {lv lv' : List (Nat × Value)} {st rest : List Value} {M : k_M} {o o2 : Option (ρ × k_M)} {own : String} {cc : ByteArray} {ret : Option FieldType} {nm : String}
theorem x_icmp_eq (C : k_C Z G own cc F ret nm) {x y : Int32} {off : Int} {tgt : Nat} (hdg : decode cc pc = .ok (.if_icmp .eq off, 3)) (ht : (pc : Int) + off = (tgt : Int)) [inst : Decidable (x = y)] (kt : x = y → Sm Z G em F K tgt lv rest M o) (kf : ¬ (x = y) → Sm Z G em F K (pc + 3) lv rest M o2) : Sm Z G em F K pc lv (.int y :: .int x :: rest) M (@ite _ (x = y) inst o o2) := fun r M' ho H locs ls hl hP hL => lv_icmp_eq C.1 C.2.1 hdg ht (fun c => kt c r M' (by rw [if_pos c] at ho; exact ho) H locs ls hl hP hL) (fun c => kf c r M' (by rw [if_neg c] at ho; exact ho) H locs ls hl hP hL)
theorem x_icmp_ne (C : k_C Z G own cc F ret nm) {x y : Int32} {off : Int} {tgt : Nat} (hdg : decode cc pc = .ok (.if_icmp .ne off, 3)) (ht : (pc : Int) + off = (tgt : Int)) [inst : Decidable (x = y)] (kf : x = y → Sm Z G em F K (pc + 3) lv rest M o) (kt : ¬ x = y → Sm Z G em F K tgt lv rest M o2) : Sm Z G em F K pc lv (.int y :: .int x :: rest) M (@ite _ (x = y) inst o o2) := fun r M' ho H locs ls hl hP hL => lv_icmp_ne C.1 C.2.1 hdg ht (fun c => kt c r M' (by rw [if_neg c] at ho; exact ho) H locs ls hl hP hL) (fun c => kf c r M' (by rw [if_pos c] at ho; exact ho) H locs ls hl hP hL)
theorem x_icmp_ge (C : k_C Z G own cc F ret nm) {x y : Int32} {off : Int} {tgt : Nat} (hdg : decode cc pc = .ok (.if_icmp .ge off, 3)) (ht : (pc : Int) + off = (tgt : Int)) [inst : Decidable (y ≤ x)] (kt : y ≤ x → Sm Z G em F K tgt lv rest M o) (kf : ¬ (y ≤ x) → Sm Z G em F K (pc + 3) lv rest M o2) : Sm Z G em F K pc lv (.int y :: .int x :: rest) M (@ite _ (y ≤ x) inst o o2) := fun r M' ho H locs ls hl hP hL => lv_icmp_ge C.1 C.2.1 hdg ht (fun c => kt c r M' (by rw [if_pos c] at ho; exact ho) H locs ls hl hP hL) (fun c => kf c r M' (by rw [if_neg c] at ho; exact ho) H locs ls hl hP hL)
theorem x_icmp_gt (C : k_C Z G own cc F ret nm) {x y : Int32} {off : Int} {tgt : Nat} (hdg : decode cc pc = .ok (.if_icmp .gt off, 3)) (ht : (pc : Int) + off = (tgt : Int)) [inst : Decidable (y < x)] (kt : y < x → Sm Z G em F K tgt lv rest M o) (kf : ¬ (y < x) → Sm Z G em F K (pc + 3) lv rest M o2) : Sm Z G em F K pc lv (.int y :: .int x :: rest) M (@ite _ (y < x) inst o o2) := fun r M' ho H locs ls hl hP hL => lv_icmp_gt C.1 C.2.1 hdg ht (fun c => kt c r M' (by rw [if_pos c] at ho; exact ho) H locs ls hl hP hL) (fun c => kf c r M' (by rw [if_neg c] at ho; exact ho) H locs ls hl hP hL)
theorem x_icmp_le (C : k_C Z G own cc F ret nm) {x y : Int32} {off : Int} {tgt : Nat} (hdg : decode cc pc = .ok (.if_icmp .le off, 3)) (ht : (pc : Int) + off = (tgt : Int)) [inst : Decidable (x ≤ y)] (kt : x ≤ y → Sm Z G em F K tgt lv rest M o) (kf : ¬ (x ≤ y) → Sm Z G em F K (pc + 3) lv rest M o2) : Sm Z G em F K pc lv (.int y :: .int x :: rest) M (@ite _ (x ≤ y) inst o o2) := fun r M' ho H locs ls hl hP hL => lv_icmp_le C.1 C.2.1 hdg ht (fun c => kt c r M' (by rw [if_pos c] at ho; exact ho) H locs ls hl hP hL) (fun c => kf c r M' (by rw [if_neg c] at ho; exact ho) H locs ls hl hP hL)
theorem x_icmp_lt (C : k_C Z G own cc F ret nm) {x y : Int32} {off : Int} {tgt : Nat} (hdg : decode cc pc = .ok (.if_icmp .lt off, 3)) (ht : (pc : Int) + off = (tgt : Int)) [inst : Decidable (x < y)] (kt : x < y → Sm Z G em F K tgt lv rest M o) (kf : ¬ (x < y) → Sm Z G em F K (pc + 3) lv rest M o2) : Sm Z G em F K pc lv (.int y :: .int x :: rest) M (@ite _ (x < y) inst o o2) := fun r M' ho H locs ls hl hP hL => lv_icmp_lt C.1 C.2.1 hdg ht (fun c => kt c r M' (by rw [if_pos c] at ho; exact ho) H locs ls hl hP hL) (fun c => kf c r M' (by rw [if_neg c] at ho; exact ho) H locs ls hl hP hL)
theorem x_if_eq (C : k_C Z G own cc F ret nm) {x : Int32} {off : Int} {tgt : Nat} (hdg : decode cc pc = .ok (.ifCond .eq off, 3)) (ht : (pc : Int) + off = (tgt : Int)) [inst : Decidable (x = 0)] (kt : x = 0 → Sm Z G em F K tgt lv rest M o) (kf : ¬ (x = 0) → Sm Z G em F K (pc + 3) lv rest M o2) : Sm Z G em F K pc lv (.int x :: rest) M (@ite _ (x = 0) inst o o2) := fun r M' ho H locs ls hl hP hL => lv_if_eq C.1 C.2.1 hdg ht (fun c => kt c r M' (by rw [if_pos c] at ho; exact ho) H locs ls hl hP hL) (fun c => kf c r M' (by rw [if_neg c] at ho; exact ho) H locs ls hl hP hL)
theorem x_if_ne (C : k_C Z G own cc F ret nm) {x : Int32} {off : Int} {tgt : Nat} (hdg : decode cc pc = .ok (.ifCond .ne off, 3)) (ht : (pc : Int) + off = (tgt : Int)) [inst : Decidable (x = 0)] (kf : x = 0 → Sm Z G em F K (pc + 3) lv rest M o) (kt : ¬ x = 0 → Sm Z G em F K tgt lv rest M o2) : Sm Z G em F K pc lv (.int x :: rest) M (@ite _ (x = 0) inst o o2) := fun r M' ho H locs ls hl hP hL => lv_if_ne C.1 C.2.1 hdg ht (fun c => kt c r M' (by rw [if_neg c] at ho; exact ho) H locs ls hl hP hL) (fun c => kf c r M' (by rw [if_pos c] at ho; exact ho) H locs ls hl hP hL)
theorem x_if_ge (C : k_C Z G own cc F ret nm) {x : Int32} {off : Int} {tgt : Nat} (hdg : decode cc pc = .ok (.ifCond .ge off, 3)) (ht : (pc : Int) + off = (tgt : Int)) [inst : Decidable (0 ≤ x)] (kt : 0 ≤ x → Sm Z G em F K tgt lv rest M o) (kf : ¬ (0 ≤ x) → Sm Z G em F K (pc + 3) lv rest M o2) : Sm Z G em F K pc lv (.int x :: rest) M (@ite _ (0 ≤ x) inst o o2) := fun r M' ho H locs ls hl hP hL => lv_if_ge C.1 C.2.1 hdg ht (fun c => kt c r M' (by rw [if_pos c] at ho; exact ho) H locs ls hl hP hL) (fun c => kf c r M' (by rw [if_neg c] at ho; exact ho) H locs ls hl hP hL)
theorem x_if_gt (C : k_C Z G own cc F ret nm) {x : Int32} {off : Int} {tgt : Nat} (hdg : decode cc pc = .ok (.ifCond .gt off, 3)) (ht : (pc : Int) + off = (tgt : Int)) [inst : Decidable (0 < x)] (kt : 0 < x → Sm Z G em F K tgt lv rest M o) (kf : ¬ (0 < x) → Sm Z G em F K (pc + 3) lv rest M o2) : Sm Z G em F K pc lv (.int x :: rest) M (@ite _ (0 < x) inst o o2) := fun r M' ho H locs ls hl hP hL => lv_if_gt C.1 C.2.1 hdg ht (fun c => kt c r M' (by rw [if_pos c] at ho; exact ho) H locs ls hl hP hL) (fun c => kf c r M' (by rw [if_neg c] at ho; exact ho) H locs ls hl hP hL)
theorem x_if_le (C : k_C Z G own cc F ret nm) {x : Int32} {off : Int} {tgt : Nat} (hdg : decode cc pc = .ok (.ifCond .le off, 3)) (ht : (pc : Int) + off = (tgt : Int)) [inst : Decidable (x ≤ 0)] (kt : x ≤ 0 → Sm Z G em F K tgt lv rest M o) (kf : ¬ (x ≤ 0) → Sm Z G em F K (pc + 3) lv rest M o2) : Sm Z G em F K pc lv (.int x :: rest) M (@ite _ (x ≤ 0) inst o o2) := fun r M' ho H locs ls hl hP hL => lv_if_le C.1 C.2.1 hdg ht (fun c => kt c r M' (by rw [if_pos c] at ho; exact ho) H locs ls hl hP hL) (fun c => kf c r M' (by rw [if_neg c] at ho; exact ho) H locs ls hl hP hL)
theorem x_if_lt (C : k_C Z G own cc F ret nm) {x : Int32} {off : Int} {tgt : Nat} (hdg : decode cc pc = .ok (.ifCond .lt off, 3)) (ht : (pc : Int) + off = (tgt : Int)) [inst : Decidable (x < 0)] (kt : x < 0 → Sm Z G em F K tgt lv rest M o) (kf : ¬ (x < 0) → Sm Z G em F K (pc + 3) lv rest M o2) : Sm Z G em F K pc lv (.int x :: rest) M (@ite _ (x < 0) inst o o2) := fun r M' ho H locs ls hl hP hL => lv_if_lt C.1 C.2.1 hdg ht (fun c => kt c r M' (by rw [if_pos c] at ho; exact ho) H locs ls hl hP hL) (fun c => kf c r M' (by rw [if_neg c] at ho; exact ho) H locs ls hl hP hL)
theorem x_goto (C : k_C Z G own cc F ret nm) {off : Int} {tgt : Nat} (hdg : decode cc pc = .ok (.goto off, 3)) (ht : (pc : Int) + off = (tgt : Int)) (kk : Sm Z G em F K tgt lv st M o) : Sm Z G em F K pc lv st M o := fun r M' ho H locs ls hl hP hL => lv_goto C.1 C.2.1 hdg ht (kk r M' ho H locs ls hl hP hL)
/-- a nullable reference: two roads -/
def nul {β : Type} (q : Option Nat) (n : β) (k : Nat → β) : β := match q with
  | none => n
  | some a => k a
theorem x_ifnull (C : k_C Z G own cc F ret nm) {q : Option Nat} {k : Nat → Option (ρ × k_M)} {off : Int} {tgt : Nat} (hdg : decode cc pc = .ok (.ifnull off, 3)) (ht : (pc : Int) + off = (tgt : Int)) (kt : q = none → Sm Z G em F K tgt lv rest M o) (kf : ∀ a, q = some a → Sm Z G em F K (pc + 3) lv rest M (k a)) : Sm Z G em F K pc lv (k_rn Z q :: rest) M (nul q o k) := by
  intro r M' ho H locs ls hl hP hL
  cases q with
  | none => exact lv_ifnullN C.1 C.2.1 hdg ht (kt rfl r M' ho H locs ls hl hP hL)
  | some a => exact lv_ifnull C.1 C.2.1 hdg (kf a rfl r M' ho H locs ls hl hP hL)
theorem x_ifnonnull (C : k_C Z G own cc F ret nm) {q : Option Nat} {k : Nat → Option (ρ × k_M)} {off : Int} {tgt : Nat} (hdg : decode cc pc = .ok (.ifnonnull off, 3)) (ht : (pc : Int) + off = (tgt : Int)) (kt : q = none → Sm Z G em F K (pc + 3) lv rest M o) (kf : ∀ a, q = some a → Sm Z G em F K tgt lv rest M (k a)) : Sm Z G em F K pc lv (k_rn Z q :: rest) M (nul q o k) := by
  intro r M' ho H locs ls hl hP hL
  cases q with
  | none => exact lv_ifnonnullN C.1 C.2.1 hdg (kt rfl r M' ho H locs ls hl hP hL)
  | some a => exact lv_ifnonnull C.1 C.2.1 hdg ht (kf a rfl r M' ho H locs ls hl hP hL)
theorem x_tsw (C : k_C Z G own cc F ret nm) {x : Int32} {dflt lo hi : Int} {offs : Array Int} {len n tgt : Nat} {f : Nat → Option (ρ × k_M)} (hdg : decode cc pc = .ok (.tableswitch dflt lo hi offs, len)) (hn : hi + 1 = lo + n) (ht : (pc : Int) + dflt = (tgt : Int)) (tg : Nat → Nat) (hoff : ∀ i, i < n → ∃ off, offs[i]? = some off ∧ (pc : Int) + off = (tg i : Int)) (kf : ∀ i, i < n → x.toInt = lo + i → Sm Z G em F K (tg i) lv rest M (f i)) (kd : Sm Z G em F K tgt lv rest M o) : Sm Z G em F K pc lv (.int x :: rest) M (tsw x lo n f o) := by
  intro r M' ho H locs ls hl hP hL
  unfold tsw at ho
  by_cases hx : x.toInt < lo ∨ lo + n ≤ x.toInt
  · rw [if_pos hx] at ho
    exact lv_tableOut C.1 C.2.1 hdg (by omega) ht (kd r M' ho H locs ls hl hP hL)
  · rw [if_neg hx] at ho
    have h1 : ¬ x.toInt < lo := fun q => hx (Or.inl q)
    have h2 : ¬ lo + n ≤ x.toInt := fun q => hx (Or.inr q)
    obtain ⟨off, e1, e2⟩ := hoff (x.toInt - lo).toNat (by omega)
    exact lv_tableIn C.1 C.2.1 hdg h1 (by omega) e1 e2 (kf _ (by omega) (by omega) r M' ho H locs ls hl hP hL)
/-- words of the tables at a method's entry -/
theorem k_word (C : k_C Z G own cc F ret nm) {w : Cond} (hw : w ∈ lw_tbl) (hg : goodWord w = true) : w.before (g_a G) (g_s G) = true := by
  obtain ⟨A0, h⟩ := C.2.2.2.2.2.2.2.2.2.1
  exact word_at C.2.2.2.2.1 (good_of_word hg) (h w hw)
theorem k_wordN (C : k_C Z G own cc F ret nm) {a : String} {i : Nat} {b n d h : String} (hw : Cond.fieldLinkNest a i b n d h ∈ lw_tbl) : (Cond.fieldLinkNest a i b n d h).before (g_a G) (g_s G) = true := by
  obtain ⟨A0, h⟩ := C.2.2.2.2.2.2.2.2.2.1
  exact va_Nw.use rfl (va_Nw.warmF C.2.2.2.2.1 (va_Nw.of rfl (h _ hw)))
theorem k_K (C : k_C Z G own cc F ret nm) : va_K Z.2.1 vwCl (k_tys Z) (g_s G) := va_K.moved C.2.2.2.2.1.alike C.2.2.2.2.2.2.2.2.2.2.1
/-- the link of a field: own's entry idx is the field j of the class kd -/
def k_FL (own : String) (idx kd j : Nat) : Prop := ∃ (r : vw_C) (ref : String), vwCl[kd]? = some r ∧ j < r.2.2 ∧ (∀ w ∈ u_ws r.1 r.2.1 r.2.2, w ∈ lw_tbl ∧ goodWord w = true) ∧ (Cond.fieldLink own idx ref (r.2.1 j).2.1 (r.2.1 j).2.2.1 ∈ lw_tbl ∨ Cond.fieldLinkNest own idx ref (r.2.1 j).2.1 (r.2.1 j).2.2.1 "WheelCity" ∈ lw_tbl) ∧ (ref = (r.2.1 j).1 ∨ Cond.sameField ref (r.2.1 j).1 (r.2.1 j).2.1 (r.2.1 j).2.2.1 ∈ lw_tbl)
theorem k_lt {b : Bool} {a kd n : Nat} {H : Heap} (hP : k_R b Z M H) (hb : b = true) (hk : k_st a = (kd, n)) (hkd : kd < 15) : a < M.2.2.2 := Nat.lt_of_lt_of_le (k_st_lt hk hkd) (hP.2 hb).2
theorem k_same (C : k_C Z G own cc F ret nm) {ref O n d : String} (h : ref = O ∨ Cond.sameField ref O n d ∈ lw_tbl) : ∀ x, (g_s G).fieldFound? O n d = some x → (g_s G).fieldFound? ref n d = some x := by
  rcases h with rfl | h
  · exact fun _ h => h
  · exact u_same (args := g_a G) (k_word C h rfl)
/-- reading a field of an object whose cell is known -/
theorem k_getv (C : k_C Z G own cc F ret nm) {a kd idx j t : Nat} {fi : Nat → Int32} {fj : Nat → Int64} {fr : Nat → Option Nat} {H : Heap} {locs : List Loc} {ls : Array Slot} {c1 c2 : Nat} {Q : State → Prop} (hE : va_at Z.2.1 vwCl (k_h Z + a, .inr (kd, k_fl (k_h Z) fi fj fr 0 (k_fty kd))) H) (hF : k_FL own idx kd j) (ht : (k_fty kd)[j]? = some t) (hdg : decode cc pc = .ok (.getfield idx, 3))
    (kk : W G.1 G.2.1 G.2.2.1 (g_R G) (g_s G) (g_m G) (g_a G) (g_b G) (g_t G) (g_c G) H locs c1 c2 Q (F0 (g_m G) (pc + 3) ls (k_fv (k_h Z) fi fj fr j t :: rest))) :
    W G.1 G.2.1 G.2.2.1 (g_R G) (g_s G) (g_m G) (g_a G) (g_b G) (g_t G) (g_c G) H locs c1 c2 Q (F0 (g_m G) pc ls (k_ra Z a :: rest)) := by
  obtain ⟨r, ref, hr, hj, hws, hl, hsm⟩ := hF
  have hK := k_K C
  have hts : ∀ w ∈ u_ws r.1 r.2.1 r.2.2, w.before (g_a G) (g_s G) = true := fun w hw => k_word C (hws w hw).1 (hws w hw).2
  have hv := k_fl_get (h := k_h Z) (fi := fi) (fj := fj) (fr := fr) (k_fty kd) 0 j t ht
  rw [Nat.zero_add] at hv
  have hP1 : va_P Z.2.1 vwCl [(k_h Z + a, .inr (kd, k_fl (k_h Z) fi fj fr 0 (k_fty kd)))] H := fun k q hq => by
    have hz : k < 1 := (List.getElem?_eq_some_iff.mp hq).1
    rw [show k = 0 by omega] at hq
    cases hq
    exact hE
  rcases hl with hl | hl
  · exact va_get C.1 C.2.1 (C := r.1) (T := r.2.1) (N := r.2.2) (Ts := u_ws r.1 r.2.1 r.2.2) hts (fun w h => h) C.2.2.2.1 hK hP1 0 rfl hr j hj (k_word C hl rfl) (k_same C hsm) hv hdg kk
  · exact va_getN C.1 C.2.1 (C := r.1) (T := r.2.1) (N := r.2.2) (Ts := u_ws r.1 r.2.1 r.2.2) hts (fun w h => h) C.2.2.2.1 hK hP1 0 rfl hr j hj (k_wordN C hl) (k_same C hsm) hv hdg kk
theorem x_getI (C : k_C Z G own cc F ret nm) {a kd n idx j : Nat} (hb : F.1 = true) (hk : k_st a = (kd, n)) (hkd : kd < 11) (hF : k_FL own idx kd j) (ht : (k_fty kd)[j]? = some 0) (hdg : decode cc pc = .ok (.getfield idx, 3)) (kk : Sm Z G em F K (pc + 3) lv (.int (M.1 a j) :: rest) M o) : Sm Z G em F K pc lv (k_ra Z a :: rest) M o := by
  intro r M' ho H locs ls hl hP hL
  have hE := hP.1.2.2 a (k_lt hP hb hk (by omega))
  rw [k_E_st M hk (by omega), k_e_obj hkd] at hE
  exact k_getv C hE hF ht hdg (kk r M' ho H locs ls hl hP hL)
theorem x_getJ (C : k_C Z G own cc F ret nm) {a kd n idx j : Nat} (hb : F.1 = true) (hk : k_st a = (kd, n)) (hkd : kd < 11) (hF : k_FL own idx kd j) (ht : (k_fty kd)[j]? = some 1) (hdg : decode cc pc = .ok (.getfield idx, 3)) (kk : Sm Z G em F K (pc + 3) lv (.long (M.2.1 a j) :: rest) M o) : Sm Z G em F K pc lv (k_ra Z a :: rest) M o := by
  intro r M' ho H locs ls hl hP hL
  have hE := hP.1.2.2 a (k_lt hP hb hk (by omega))
  rw [k_E_st M hk (by omega), k_e_obj hkd] at hE
  exact k_getv C hE hF ht hdg (kk r M' ho H locs ls hl hP hL)
theorem x_getR (C : k_C Z G own cc F ret nm) {a kd n idx j f : Nat} (g : Nat) (hb : F.1 = true) (hk : k_st a = (kd, n)) (hkd : kd < 11) (hF : k_FL own idx kd j) (ht : (k_fty kd)[j]? = some 2) (hf : k_off kd j = some f) (hg : a + f = g) (hdg : decode cc pc = .ok (.getfield idx, 3)) (kk : Sm Z G em F K (pc + 3) lv (k_ra Z g :: rest) M o) : Sm Z G em F K pc lv (k_ra Z a :: rest) M o := by
  intro r M' ho H locs ls hl hP hL
  have hE := hP.1.2.2 a (k_lt hP hb hk (by omega))
  rw [k_E_st M hk (by omega), k_e_obj hkd] at hE
  subst hg
  refine k_getv C hE hF ht hdg ?_
  have e : k_fv (k_h Z) (M.1 a) (M.2.1 a) (M.2.2.1 a) j 2 = k_ra Z (a + f) := by
    unfold k_fv
    rw [(hP.2 hb).1 a kd n j f hk hf]
    rfl
  rw [e]
  exact kk r M' ho H locs ls hl hP hL
/-- reading a field of a rule -/
def gRl {β : Type} (M : k_M) (a j : Nat) (k : Int32 → Option β) : Option β := if 105 ≤ a ∧ a < M.2.2.2 then k (M.1 a j) else none
theorem k_E_rl (M : k_M) {a : Nat} (h : 105 ≤ a) : k_E Z M a = .inr (k_tag (M.1 a 3), k_fl (k_h Z) (M.1 a) (M.2.1 a) (M.2.2.1 a) 0 [0, 0, 0]) := by
  unfold k_E k_kq
  rw [if_neg (by omega)]
  have h7 := k_tag_lt (M.1 a 3)
  rw [k_e_obj (by omega)]
  have e : k_fty (k_tag (M.1 a 3)) = [0, 0, 0] := by
    unfold k_tag
    repeat' split
    all_goals rfl
  rw [e]
theorem x_getRl (C : k_C Z G own cc F ret nm) {a idx j : Nat} {k : Int32 → Option (ρ × k_M)} (hj : j < 3) (hF : ∀ t : Int32, k_FL own idx (k_tag t) j) (hdg : decode cc pc = .ok (.getfield idx, 3)) (kk : ∀ v : Int32, Sm Z G em F K (pc + 3) lv (.int v :: rest) M (k v)) : Sm Z G em F K pc lv (k_ra Z a :: rest) M (gRl M a j k) := by
  intro r M' ho H locs ls hl hP hL
  unfold gRl at ho
  by_cases hc : 105 ≤ a ∧ a < M.2.2.2
  · rw [if_pos hc] at ho
    have hE := hP.1.2.2 a hc.2
    rw [k_E_rl M hc.1] at hE
    have e : k_fty (k_tag (M.1 a 3)) = [0, 0, 0] := by
      unfold k_tag
      repeat' split
      all_goals rfl
    rw [← e] at hE
    refine k_getv C hE (hF _) (t := 0) (by rw [e]; match j, hj with | 0, _ => rfl | 1, _ => rfl | 2, _ => rfl) hdg (kk _ r M' ho H locs ls hl hP hL)
  · rw [if_neg hc] at ho; cases ho
/-- what makes a field's store whole -/
theorem k_putv (C : k_C Z G own cc F ret nm) {a kd idx j t : Nat} {ty : FieldType} {v : Value} {H : Heap} {locs : List Loc} {ls : Array Slot} {c1 c2 : Nat} {Q : State → Prop} {fi fi' : Nat → Int32} {fj fj' : Nat → Int64} {fr fr' : Nat → Option Nat} (hkd : kd < 11) (hE : va_at Z.2.1 vwCl (k_h Z + a, .inr (kd, k_fl (k_h Z) fi fj fr 0 (k_fty kd))) H) (hF : k_FL own idx kd j) (ht : (k_fty kd)[j]? = some t)
    (hT : ∀ r, vwCl[kd]? = some r → (r.2.1 j).2.2.2 = false ∧ parseFieldDescriptor (r.2.1 j).2.2.1 = some ty) (hN : ∀ r, vwCl[kd]? = some r → (∃ ty0 : Nat → FieldType, ∀ k, k < r.2.2 → parseFieldDescriptor (r.2.1 k).2.2.1 = some (ty0 k)) ∧ ∀ a, a < r.2.2 → ∀ b, b < r.2.2 → a ≠ b → (r.2.1 a).2.1 ≠ (r.2.1 b).2.1) (hnw : narrow ty v = v) (hfit : fits ty v = true)
    (h1 : ∀ i, i ≠ j → fi' i = fi i) (h2 : ∀ i, i ≠ j → fj' i = fj i) (h3 : ∀ i, i ≠ j → fr' i = fr i) (hv : k_fv (k_h Z) fi' fj' fr' j t = v) (hdg : decode cc pc = .ok (.putfield idx, 3))
    (kk : ∀ (H1 : Heap) (i : Nat), H1.size = H.size → (∀ q, q ≠ k_h Z + a → H1[q]? = H[q]?) → va_at Z.2.1 vwCl (k_h Z + a, .inr (kd, k_fl (k_h Z) fi' fj' fr' 0 (k_fty kd))) H1 → W G.1 G.2.1 G.2.2.1 (g_R G) (g_s G) (g_m G) (g_a G) (g_b G) (g_t G) (g_c G) H1 (locs ++ [⟨k_h Z + a, i⟩]) c1 c2 Q (F0 (g_m G) (pc + 3) ls rest)) :
    W G.1 G.2.1 G.2.2.1 (g_R G) (g_s G) (g_m G) (g_a G) (g_b G) (g_t G) (g_c G) H locs c1 c2 Q (F0 (g_m G) pc ls (v :: k_ra Z a :: rest)) := by
  obtain ⟨r, ref, hr, hj, hws, hl, hsm⟩ := hF
  obtain ⟨hfin, hd⟩ := hT r hr
  obtain ⟨⟨ty0, hty⟩, hnm⟩ := hN r hr
  have hK := k_K C
  have hts : ∀ w ∈ u_ws r.1 r.2.1 r.2.2, w.before (g_a G) (g_s G) = true := fun w hw => k_word C (hws w hw).1 (hws w hw).2
  have hin : ∀ w ∈ u_ws r.1 r.2.1 r.2.2, w ∈ u_ws r.1 r.2.1 r.2.2 := fun w h => h
  have hap := va_apart (own := own) hts hin ty0 hty hnm hK hr
  obtain ⟨r', g1, cell, q1, q2, q3, q4⟩ := hE
  have hrr : r' = r := Option.some.inj (g1.symm.trans hr)
  subst hrr
  obtain ⟨hS, hfc, kC, hkC, hkind⟩ := hK.1 kd _ hr
  obtain ⟨cf, kf, fi0, f, hi, hsl⟩ := hS j hj
  have hlay := hts _ (hin _ (u_in_lay hj))
  unfold u_lay at hlay
  rw [if_neg (by rw [hfin]; decide)] at hlay
  have hst := (u_facts hfc hkC (u_lays hts hin hj) hi).1
  have h6 := u_store hfc hkC hkind hlay hi hd hnw hfit
  have hset := k_fl_set (h := k_h Z) (k_fty kd) 0 j t v ht (fun i hi => h1 i (by omega)) (fun i hi => h2 i (by omega)) (fun i hi => h3 i (by omega)) (by rw [Nat.zero_add]; exact hv)
  have hlen : j < (k_fl (k_h Z) fi fj fr 0 (k_fty kd)).length := by rw [k_fl_len]; exact (List.getElem?_eq_some_iff.mp ht).1
  have fin : ∀ H' : Heap, H'[k_h Z + a]? = some (cell.setSlot f.slot v) → H'.size = H.size → (∀ q, q ≠ k_h Z + a → H'[q]? = H[q]?) → W G.1 G.2.1 G.2.2.1 (g_R G) (g_s G) (g_m G) (g_a G) (g_b G) (g_t G) (g_c G) H' (locs ++ [⟨k_h Z + a, f.slot⟩]) c1 c2 Q (F0 (g_m G) (pc + 3) ls rest) := by
    intro H' e1 e2 e3
    rw [hsl] at e1
    refine kk H' _ e2 e3 ⟨r', hr, ?_⟩
    show t_OB _ _ _ _ _ (vp_V (k_fl (k_h Z) fi' fj' fr' 0 (k_fty kd)))
    rw [← hset]
    exact t_OB.to (V := updV (vp_V (k_fl (k_h Z) fi fj fr 0 (k_fty kd))) j v) ⟨_, e1, q2, q3, t_set q4 hap hj v⟩ (fun i _ => vp_updV_set hlen v i)
  rcases hl with hl | hl
  · exact W.putK C.1 C.2.1 (f := f) ⟨C.2.2.2.1, k_word C hl rfl, ⟨_, _, _, k_same C hsm _ hi⟩, hst⟩ (by rw [q2]; exact h6) q1 q3 (by rw [hsl]; exact k2_hasslot (q4 j hj)) rfl rfl hdg fin
  · exact va_WputK C.1 C.2.1 (f := f) C.2.2.2.1 (k_wordN C hl) (k_same C hsm _ hi) hst (by rw [q2]; exact h6) q1 q3 (by rw [hsl]; exact k2_hasslot (q4 j hj)) rfl rfl hdg fin
theorem k_Sh_sI {a j : Nat} {v : Int32} (h : k_Sh M) : k_Sh (sI M a j v) := h
theorem k_Sh_sJ {a j : Nat} {v : Int64} (h : k_Sh M) : k_Sh (sJ M a j v) := h
theorem k_lcs {locs : List Loc} {b i : Nat} (h : ∀ q ∈ locs, k_h Z ≤ q.base) (hb : k_h Z ≤ b) : ∀ q ∈ locs ++ [⟨b, i⟩], k_h Z ≤ q.base := by
  intro q hq
  rcases List.mem_append.mp hq with h1 | h1
  · exact h q h1
  · rw [List.mem_singleton] at h1
    subst h1
    exact hb
/-- the field tables in one word -/
def k_cls (kd j : Nat) (ty : FieldType) : Prop := ∀ r, vwCl[kd]? = some r → (r.2.1 j).2.2.2 = false ∧ parseFieldDescriptor (r.2.1 j).2.2.1 = some ty
def k_tbs (kd : Nat) : Prop := ∀ r, vwCl[kd]? = some r → (∃ ty0 : Nat → FieldType, ∀ k, k < r.2.2 → parseFieldDescriptor (r.2.1 k).2.2.1 = some (ty0 k)) ∧ ∀ a, a < r.2.2 → ∀ b, b < r.2.2 → a ≠ b → (r.2.1 a).2.1 ≠ (r.2.1 b).2.1
theorem x_putI (C : k_C Z G own cc F ret nm) {a kd n idx j : Nat} {ty : FieldType} {v : Int32} (hb : F.1 = true) (hk : k_st a = (kd, n)) (hkd : kd < 11) (hF : k_FL own idx kd j) (ht : (k_fty kd)[j]? = some 0) (hT : k_cls kd j ty) (hN : k_tbs kd) (hnw : narrow ty (.int v) = .int v) (hfit : fits ty (.int v) = true) (hdg : decode cc pc = .ok (.putfield idx, 3)) {k : k_M → Option (ρ × k_M)} (kk : ∀ M1 : k_M, Sm Z G em F K (pc + 3) lv rest M1 (k M1)) : Sm Z G em F K pc lv (.int v :: k_ra Z a :: rest) M (bN (sI M a j v) k) := by
  intro r M' ho H locs ls hl hP hL
  have hE := hP.1.2.2 a (k_lt hP hb hk (by omega))
  rw [k_E_st M hk (by omega), k_e_obj hkd] at hE
  refine k_putv C hkd hE hF ht hT hN hnw hfit (fi' := k_up (M.1 a) j v) (fj' := M.2.1 a) (fr' := M.2.2.1 a) (fun i hi => k_up_ne _ _ hi) (fun _ _ => rfl) (fun _ _ => rfl) (by unfold k_fv; rw [if_pos rfl, k_up_self]) hdg (fun H1 i z oq hA => kk _ r M' ho H1 _ ls hl ⟨k_upd hP.1 rfl z oq (fun k hk => k_E_sI M j v hk) ?_, hP.2⟩ (k_lcs hL (Nat.le_add_right _ _)))
  rw [k_E_st _ hk (by omega), k_e_obj hkd, sI_at]
  exact hA
theorem x_putJ (C : k_C Z G own cc F ret nm) {a kd n idx j : Nat} {v : Int64} (hb : F.1 = true) (hk : k_st a = (kd, n)) (hkd : kd < 11) (hF : k_FL own idx kd j) (ht : (k_fty kd)[j]? = some 1) (hT : k_cls kd j .long) (hN : k_tbs kd) (hdg : decode cc pc = .ok (.putfield idx, 3)) {k : k_M → Option (ρ × k_M)} (kk : ∀ M1 : k_M, Sm Z G em F K (pc + 3) lv rest M1 (k M1)) : Sm Z G em F K pc lv (.long v :: k_ra Z a :: rest) M (bN (sJ M a j v) k) := by
  intro r M' ho H locs ls hl hP hL
  have hE := hP.1.2.2 a (k_lt hP hb hk (by omega))
  rw [k_E_st M hk (by omega), k_e_obj hkd] at hE
  refine k_putv C hkd hE hF ht hT hN rfl rfl (fi' := M.1 a) (fj' := k_up (M.2.1 a) j v) (fr' := M.2.2.1 a) (fun _ _ => rfl) (fun i hi => k_up_ne _ _ hi) (fun _ _ => rfl) (by unfold k_fv; rw [if_neg (by decide), if_pos rfl, k_up_self]) hdg (fun H1 i z oq hA => kk _ r M' ho H1 _ ls hl ⟨k_upd hP.1 rfl z oq (fun k hk => k_E_sJ M j v hk) ?_, hP.2⟩ (k_lcs hL (Nat.le_add_right _ _)))
  rw [k_E_st _ hk (by omega), k_e_obj hkd, sJ_at]
  exact hA
theorem ix_in {i : Int32} {n : Nat} (h : ix i n = true) : vp_in i n := (of_decide_eq_true (p := ¬ (i < 0 ∨ n ≤ i.toNatClampNeg)) h)
theorem ix_lt {i : Int32} {n : Nat} (h : ix i n = true) : i.toNatClampNeg < n := Nat.not_le.mp fun q => ix_in h (Or.inr q)
theorem x_iald (C : k_C Z G own cc F ret nm) {a n : Nat} {i : Int32} {k : Int32 → Option (ρ × k_M)} (hb : F.1 = true) (hk : k_st a = (11, n)) (hdg : decode cc pc = .ok (.iaload, 1)) (kk : ∀ v : Int32, Sm Z G em F K (pc + 1) lv (.int v :: rest) M (k v)) : Sm Z G em F K pc lv (.int i :: k_ra Z a :: rest) M (rdI M a n i k) := by
  intro r M' ho H locs ls hl hP hL
  unfold rdI at ho
  by_cases hi : ix i n = true
  · rw [if_pos hi] at ho
    have hE := hP.1.2.2 a (k_lt hP hb hk (by omega))
    rw [k_E_st M hk (by omega), k_e_int] at hE
    have hlt := ix_lt hi
    exact W.iald (v := .int (M.1 a i.toNatClampNeg)) C.1 C.2.1 hE (((k_K C).2 0 _ rfl).1 n (fun j => .int (M.1 a j))) (fun q => by cases q) (by show ¬ (i < 0 ∨ (arrV _ _ _).slots.size ≤ _); rw [arrV_size]; exact ix_in hi) (by show (arrV _ _ _).slots[_]? = _; rw [arrV_read _ _ hlt]) rfl rfl hdg (kk _ r M' ho H locs ls hl hP hL)
  · rw [if_neg hi] at ho; cases ho
theorem x_lald (C : k_C Z G own cc F ret nm) {a n : Nat} {i : Int32} {k : Int64 → Option (ρ × k_M)} (hb : F.1 = true) (hk : k_st a = (12, n)) (hdg : decode cc pc = .ok (.laload, 1)) (kk : ∀ v : Int64, Sm Z G em F K (pc + 1) lv (.long v :: rest) M (k v)) : Sm Z G em F K pc lv (.int i :: k_ra Z a :: rest) M (rdJ M a n i k) := by
  intro r M' ho H locs ls hl hP hL
  unfold rdJ at ho
  by_cases hi : ix i n = true
  · rw [if_pos hi] at ho
    have hE := hP.1.2.2 a (k_lt hP hb hk (by omega))
    rw [k_E_st M hk (by omega), k_e_long] at hE
    have hlt := ix_lt hi
    exact W.lald (v := .long (M.2.1 a i.toNatClampNeg)) C.1 C.2.1 hE (((k_K C).2 1 _ rfl).1 n (fun j => .long (M.2.1 a j))) (fun q => by cases q) (by show ¬ (i < 0 ∨ (arrV _ _ _).slots.size ≤ _); rw [arrV_size]; exact ix_in hi) (by show (arrV _ _ _).slots[_]? = _; rw [arrV_read _ _ hlt]) rfl rfl hdg (kk _ r M' ho H locs ls hl hP hL)
  · rw [if_neg hi] at ho; cases ho
theorem x_iast (C : k_C Z G own cc F ret nm) {a n : Nat} {i x : Int32} {k : k_M → Option (ρ × k_M)} (hb : F.1 = true) (hk : k_st a = (11, n)) (hdg : decode cc pc = .ok (.iastore, 1)) (kk : ∀ M1 : k_M, Sm Z G em F K (pc + 1) lv rest M1 (k M1)) : Sm Z G em F K pc lv (.int x :: .int i :: k_ra Z a :: rest) M (wrI M a n i x k) := by
  intro r M' ho H locs ls hl hP hL
  unfold wrI at ho
  by_cases hi : ix i n = true
  · rw [if_pos hi] at ho
    have hE := hP.1.2.2 a (k_lt hP hb hk (by omega))
    rw [k_E_st M hk (by omega), k_e_int] at hE
    have hlt := ix_lt hi
    refine W.iast C.1 C.2.1 hE (((k_K C).2 0 _ rfl).1 n (fun j => .int (M.1 a j))) (fun q => by cases q) (by show ¬ (i < 0 ∨ (arrV _ _ _).slots.size ≤ _); rw [arrV_size]; exact ix_in hi) rfl rfl hdg fun H1 e z oq => kk _ r M' ho H1 _ ls hl ⟨k_upd hP.1 rfl z oq (fun k hk => k_E_sI M _ _ hk) ?_, hP.2⟩ (k_lcs hL (Nat.le_add_right _ _))
    rw [k_E_st _ hk (by omega), k_e_int, sI_at]
    show H1[k_h Z + a]? = some (vp_cell _ _)
    rw [e, vp_cell_i, vp_cell_i, arrV_store]
    congr 2
    funext q
    by_cases hq : q = i.toNatClampNeg
    · subst hq
      simp [updV, k_up]
    · simp [updV, k_up, hq]
  · rw [if_neg hi] at ho; cases ho
theorem x_last (C : k_C Z G own cc F ret nm) {a n : Nat} {i : Int32} {x : Int64} {k : k_M → Option (ρ × k_M)} (hb : F.1 = true) (hk : k_st a = (12, n)) (hdg : decode cc pc = .ok (.lastore, 1)) (kk : ∀ M1 : k_M, Sm Z G em F K (pc + 1) lv rest M1 (k M1)) : Sm Z G em F K pc lv (.long x :: .int i :: k_ra Z a :: rest) M (wrJ M a n i x k) := by
  intro r M' ho H locs ls hl hP hL
  unfold wrJ at ho
  by_cases hi : ix i n = true
  · rw [if_pos hi] at ho
    have hE := hP.1.2.2 a (k_lt hP hb hk (by omega))
    rw [k_E_st M hk (by omega), k_e_long] at hE
    have hlt := ix_lt hi
    refine W.last C.1 C.2.1 hE (((k_K C).2 1 _ rfl).1 n (fun j => .long (M.2.1 a j))) (fun q => by cases q) (by show ¬ (i < 0 ∨ (arrV _ _ _).slots.size ≤ _); rw [arrV_size]; exact ix_in hi) rfl rfl hdg fun H1 e z oq => kk _ r M' ho H1 _ ls hl ⟨k_upd hP.1 rfl z oq (fun k hk => k_E_sJ M _ _ hk) ?_, hP.2⟩ (k_lcs hL (Nat.le_add_right _ _))
    rw [k_E_st _ hk (by omega), k_e_long, sJ_at]
    show H1[k_h Z + a]? = some (vp_cell _ _)
    rw [e, vp_cell_l, vp_cell_l, arrV_store]
    congr 2
    funext q
    by_cases hq : q = i.toNatClampNeg
    · subst hq
      simp [updV, k_up]
    · simp [updV, k_up, hq]
  · rw [if_neg hi] at ho; cases ho
theorem x_ilen (C : k_C Z G own cc F ret nm) {a n : Nat} {v : Int32} (hb : F.1 = true) (hk : k_st a = (11, n)) (hv : Int32.ofNat n = v) (hdg : decode cc pc = .ok (.arraylength, 1)) (kk : Sm Z G em F K (pc + 1) lv (.int v :: rest) M o) : Sm Z G em F K pc lv (k_ra Z a :: rest) M o := by
  intro r M' ho H locs ls hl hP hL
  have hE := hP.1.2.2 a (k_lt hP hb hk (by omega))
  rw [k_E_st M hk (by omega), k_e_int] at hE
  exact W.alen C.1 C.2.1 hE (((k_K C).2 0 _ rfl).1 n (fun j => .int (M.1 a j))) (by show ((arrV _ _ _).slots.size).toInt32 = v; rw [arrV_size]; exact hv) rfl rfl hdg (kk r M' ho H locs ls hl hP hL)
theorem x_llen (C : k_C Z G own cc F ret nm) {a n : Nat} {v : Int32} (hb : F.1 = true) (hk : k_st a = (12, n)) (hv : Int32.ofNat n = v) (hdg : decode cc pc = .ok (.arraylength, 1)) (kk : Sm Z G em F K (pc + 1) lv (.int v :: rest) M o) : Sm Z G em F K pc lv (k_ra Z a :: rest) M o := by
  intro r M' ho H locs ls hl hP hL
  have hE := hP.1.2.2 a (k_lt hP hb hk (by omega))
  rw [k_E_st M hk (by omega), k_e_long] at hE
  exact W.alen C.1 C.2.1 hE (((k_K C).2 1 _ rfl).1 n (fun j => .long (M.2.1 a j))) (by show ((arrV _ _ _).slots.size).toInt32 = v; rw [arrV_size]; exact hv) rfl rfl hdg (kk r M' ho H locs ls hl hP hL)
/-- an end -/
theorem x_end (C : k_C Z G own cc F ret nm) {v : ρ} {r : ρ} {M' : k_M} {H : Heap} (ho : (some (v, M) : Option (ρ × k_M)) = some (r, M')) (hP : k_R F.1 Z M H) : ∀ t : State, t.heap = H → (g_s G).WarmedH t.vm → k_Qc F.1 Z em r M' (g_a G) (g_s G) (.returned (em v)) t := by
  intro t ht _
  cases ho
  exact ⟨rfl, by rw [ht]; exact hP⟩
theorem k_nz {v : Int32} (h : v = 0 ∨ v = 1) : narrow .boolean (.int v) = .int v := by
  rcases h with rfl | rfl <;> rfl
theorem k_fz {v : Int32} (h : v = 0 ∨ v = 1) : fits .boolean (.int v) = true := by
  rcases h with rfl | rfl <;> rfl
/-- the instructions of a method, decided at once -/
def k_dec (c : ByteArray) (l : List (Nat × Instr × Nat)) : Bool := l.all (fun q => decide (decode c q.1 = .ok (q.2.1, q.2.2)))
theorem k_dg {c : ByteArray} {l : List (Nat × Instr × Nat)} (h : k_dec c l = true) (i pc : Nat) (ins : Instr) (len : Nat) (hi : l[i]? = some (pc, ins, len)) : decode c pc = .ok (ins, len) := of_decide_eq_true (List.all_eq_true.mp h (pc, ins, len) (List.mem_of_getElem? hi))
end XB
section XE
variable {Z : k_Z} {G : k_G} {F : k_F} {K : Nat × Nat} {pc : Nat} {lv : List (Nat × Value)} {st : List Value} {M : k_M} {own : String} {cc : ByteArray} {ret : Option FieldType} {nm : String}
theorem x_iret {v : Int32} (C : k_C Z G own cc F (some .int) nm) (h1 : K.1 ≤ F.2.2.2.1) (h2 : K.2 ≤ F.2.2.2.2) (hdg : decode cc pc = .ok (.ireturn, 1)) : Sm Z G emI F K pc lv [.int v] M (some (v, M)) := fun r M' ho H locs ls hl hP hL => W.widen h1 h2 (W.iret C.1 C.2.1 C.2.2.2.2.2.1 (x_end (em := emI) C ho hP) hL hdg C.2.2.2.2.2.2.1)
theorem x_zret {v : Int32} {ty : FieldType} (C : k_C Z G own cc F (some ty) nm) (h1 : K.1 ≤ F.2.2.2.1) (h2 : K.2 ≤ F.2.2.2.2) (hn : narrow ty (.int v) = .int v) (hdg : decode cc pc = .ok (.ireturn, 1)) : Sm Z G emI F K pc lv [.int v] M (some (v, M)) := fun r M' ho H locs ls hl hP hL => W.widen h1 h2 (W.zret C.1 C.2.1 C.2.2.2.2.2.1 hn (x_end (em := emI) C ho hP) hL hdg C.2.2.2.2.2.2.1)
theorem x_lret {v : Int64} (C : k_C Z G own cc F (some .long) nm) (h1 : K.1 ≤ F.2.2.2.1) (h2 : K.2 ≤ F.2.2.2.2) (hdg : decode cc pc = .ok (.lreturn, 1)) : Sm Z G emJ F K pc lv [.long v] M (some (v, M)) := fun r M' ho H locs ls hl hP hL => W.widen h1 h2 (W.lret C.1 C.2.1 C.2.2.2.2.2.1 (x_end (em := emJ) C ho hP) hL hdg C.2.2.2.2.2.2.1)
theorem x_vret (C : k_C Z G own cc F none nm) (h1 : K.1 ≤ F.2.2.2.1) (h2 : K.2 ≤ F.2.2.2.2) (hdg : decode cc pc = .ok (.return_, 1)) : Sm Z G emV F K pc lv [] M (some ((), M)) := fun r M' ho H locs ls hl hP hL => W.widen h1 h2 (W.vret C.1 C.2.1 C.2.2.2.2.2.1 (x_end (em := emV) C ho hP) hL hdg C.2.2.2.2.2.2.1)
theorem x_aret {v : Option Nat} {n : String} (C : k_C Z G own cc F (some (.object n)) nm) (h1 : K.1 ≤ F.2.2.2.1) (h2 : K.2 ≤ F.2.2.2.2) (hdg : decode cc pc = .ok (.areturn, 1)) : Sm Z G (emR Z) F K pc lv [k_rn Z v] M (some (v, M)) := fun r M' ho H locs ls hl hP hL => W.widen h1 h2 (W.aret C.1 C.2.1 C.2.2.2.2.2.1 (Or.inl ⟨_, rfl⟩) (by cases v with | none => exact Or.inl rfl | some a => exact Or.inr ⟨_, rfl⟩) (x_end (em := emR Z) C ho hP) hL hdg C.2.2.2.2.2.2.1)
end XE

