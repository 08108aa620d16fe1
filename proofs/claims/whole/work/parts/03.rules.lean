/-! ===== the judgement Sm: from this place of a method's body on, wherever the pure picture o answers, the machine ends with that answer and that memory ===== -/
abbrev k_F : Type := Bool × Nat × Nat × Nat × Nat
def k_rm (d mc ms : Nat) : Room := { frames := d, cells := mc, slots := ms, locals := 64 * d }
def k_fr (Z : k_Z) : Addr → Prop := fun q => k_h Z ≤ q
def k_R (b : Bool) (Z : k_Z) (M : k_M) (H : Heap) : Prop := k_Rg Z M H ∧ (b = true → k_Sh M ∧ 105 ≤ M.2.2.2)
def k_stN : Nat → String × String × Nat
  | 0 => ("WheelCity$World", "LAW_MOST", 13)
  | 1 => ("WheelCity$World", "LAW_FIRST", 13)
  | 2 => ("WheelCity$Land", "SHED_OF_KIND", 6)
  | _ => ("WheelCity$Land", "LEFT_BY_ONE", 6)
def k_stV : Nat → List Int32
  | 0 => [5, 5, 5, 5, 5, 5, 20, 5, 9, 9, 9, 9, 4]
  | 1 => [1, 1, 1, 1, 1, 1, 10, 0, 1, 1, 1, 5, 2]
  | 2 => [-1, 1, 0, 2, 1, 0]
  | _ => [0, 0, 1, 1, 0, 2]
def k_tys (Z : k_Z) : List (ClassId × FieldType) := [(Z.2.2.1 11, .int), (Z.2.2.1 12, .long), (Z.2.2.1 13, .object "WheelCity$Rule"), (Z.2.2.1 14, .array .long)]
def k_stat (Z : k_Z) : Prop := ∀ i : Nat, i < 4 → va_Z (k_stN i).1 (k_stN i).2.1 "[I" (.ref (Z.2.2.2.1 i)) (k_fr Z) Z.1 Z.1.heap ∧ va_T .int (Z.2.2.2.1 i) (k_stN i).2.2 (fun j => .int ((k_stV i).getD j 0)) (k_fr Z) Z.1 Z.1.heap
/-- the texts, by their numbers: entry of Tape's pool, the text -/
def k_txN : List (Nat × String) := [(41, "way"), (90, "in"), (92, "and"), (97, "place"), (99, "well"), (101, "mine"), (103, "meadow"), (105, "spring"), (107, "pit")]
def k_txL : List Nat := [3, 2, 3, 5, 4, 4, 6, 6, 3]
def k_txB : List (List Int32) := [[119, 97, 121], [105, 110], [97, 110, 100], [112, 108, 97, 99, 101], [119, 101, 108, 108], [109, 105, 110, 101], [109, 101, 97, 100, 111, 119], [115, 112, 114, 105, 110, 103], [112, 105, 116]]
def k_str (Z : k_Z) : Prop := vk_S 9 k_txL k_txB (fun i => Z.2.2.2.2 (2 * i)) (fun i => Z.2.2.2.2 (2 * i + 1)) (k_fr Z) Z.1 Z.1.heap ∧ (∀ i : Nat, i < 9 → vk_R "WheelCity$Tape" (k_txN.getD i (0, "")).1 (k_txN.getD i (0, "")).2 (Z.2.2.2.2 (2 * i)) Z.1) ∧ va_Z "java/lang/String" "COMPACT_STRINGS" "Z" (.int 1) (k_fr Z) Z.1 Z.1.heap ∧ va_Zq "jdk/internal/util/Preconditions" "SIOOBE_FORMATTER" "Ljava/util/function/BiFunction;" (k_fr Z) Z.1 Z.1.heap
def k_ncl : List (String × String) := [("WheelCity$Camp", "WheelCity$Near"), ("WheelCity$Camp", "WheelCity$Loop"), ("WheelCity$Camp", "WheelCity$Best"), ("WheelCity$Camp", "WheelCity$Told"), ("WheelCity$Near", "WheelCity$Camp"), ("WheelCity$Near", "WheelCity$Loop"), ("WheelCity$Near", "WheelCity$Best"), ("WheelCity$Near", "WheelCity$Told"), ("WheelCity$Loop", "WheelCity$Camp"), ("WheelCity$Loop", "WheelCity$Near"), ("WheelCity$Loop", "WheelCity$Best"), ("WheelCity$Loop", "WheelCity$Told"), ("WheelCity$Best", "WheelCity$Camp"), ("WheelCity$Best", "WheelCity$Loop"), ("WheelCity$Best", "WheelCity$Told"), ("WheelCity$Told", "WheelCity$Camp"), ("WheelCity$Told", "WheelCity$Near"), ("WheelCity$Told", "WheelCity$Best")]
def k_nc (Z : k_Z) : Prop := ∀ q ∈ k_ncl, va_Nc q.1 q.2 Z.1
def k_Gd (Z : k_Z) : Prop := (∃ A0 : Array Value, ∀ w ∈ lw_tbl, w.before A0 Z.1 = true) ∧ va_K Z.2.1 vwCl (k_tys Z) Z.1 ∧ k_stat Z ∧ k_nc Z ∧ k_str Z
abbrev g_R (G : k_G) : Room := G.2.2.2.1
abbrev g_s (G : k_G) : State := G.2.2.2.2.1
abbrev g_m (G : k_G) : MethodId := G.2.2.2.2.2.1
abbrev g_a (G : k_G) : Array Value := G.2.2.2.2.2.2.1
abbrev g_b (G : k_G) : List Frame := G.2.2.2.2.2.2.2.1
abbrev g_t (G : k_G) : Method := G.2.2.2.2.2.2.2.2.1
abbrev g_c (G : k_G) : Code := G.2.2.2.2.2.2.2.2.2
def k_C (Z : k_Z) (G : k_G) (own : String) (cc : ByteArray) (F : k_F) (ret : Option FieldType) (nm : String) : Prop :=
  G.1.tables.exec = Jvm.exec ∧ (g_c G).code = cc ∧ (g_c G).maxLocals = F.2.1 ∧ (g_s G).vm.findClass own = some (g_m G).cls ∧ Z.1.WarmedH (g_s G).vm ∧ (g_t G).sig.returnType = ret ∧ (g_t G).locks = false ∧ (g_t G).name = nm ∧ g_R G = k_rm F.2.2.1 F.2.2.2.1 F.2.2.2.2 ∧ k_Gd Z
def k_Pc (b : Bool) (Z : k_Z) (M : k_M) (vs : List Value) : Array Value → State → Prop := fun a U => a = vs.toArray ∧ Z.1.WarmedH U.vm ∧ k_R b Z M U.heap
def k_Qc {ρ : Type} (b : Bool) (Z : k_Z) (em : ρ → Option Value) (r : ρ) (M' : k_M) : Array Value → State → Outcome → State → Prop := fun _ _ oc t => oc = .returned (em r) ∧ k_R b Z M' t.heap
def Sm (Z : k_Z) (G : k_G) {ρ : Type} (em : ρ → Option Value) (F : k_F) (K : Nat × Nat) (pc : Nat) (lv : List (Nat × Value)) (st : List Value) (M : k_M) (o : Option (ρ × k_M)) : Prop :=
  ∀ (r : ρ) (M' : k_M), o = some (r, M') → ∀ (H : Heap) (locs : List Loc) (ls : Array Slot), lv_has ls F.2.1 lv → k_R F.1 Z M H → (∀ q ∈ locs, k_h Z ≤ q.base) →
    W G.1 G.2.1 G.2.2.1 (g_R G) (g_s G) (g_m G) (g_a G) (g_b G) (g_t G) (g_c G) H locs K.1 K.2 (MQ (g_b G) (k_Qc F.1 Z em r M') (g_a G) (g_s G) F.2.2.2.1 F.2.2.2.2 (k_fr Z)) (F0 (g_m G) pc ls st)
/-- a method's contract: wherever the picture answers -/
def Con {ρ : Type} (b : Bool) (Z : k_Z) (l : Launch) (y : MethodName) (cc : ByteArray) (nL : Nat) (ret : Option FieldType) (d mc ms : Nat) (em : ρ → Option Value) (vs : List Value) (M : k_M) (o : Option (ρ × k_M)) : Prop :=
  ∀ (r : ρ) (M' : k_M), o = some (r, M') → Met l y [.code y cc nL ret] (k_rm d mc ms) (k_Pc b Z M vs) (k_Qc b Z em r M') mc ms (k_fr Z)
/-- the pictures' words -/
def ix (i : Int32) (n : Nat) : Bool := decide (¬ (i < 0 ∨ n ≤ i.toNatClampNeg))
def rdI {β : Type} (M : k_M) (a n : Nat) (i : Int32) (k : Int32 → Option β) : Option β := if ix i n = true then k (M.1 a i.toNatClampNeg) else none
def wrI {β : Type} (M : k_M) (a n : Nat) (i v : Int32) (k : k_M → Option β) : Option β := if ix i n = true then k (sI M a i.toNatClampNeg v) else none
def rdJ {β : Type} (M : k_M) (a n : Nat) (i : Int32) (k : Int64 → Option β) : Option β := if ix i n = true then k (M.2.1 a i.toNatClampNeg) else none
def wrJ {β : Type} (M : k_M) (a n : Nat) (i : Int32) (v : Int64) (k : k_M → Option β) : Option β := if ix i n = true then k (sJ M a i.toNatClampNeg v) else none
def rdT {β : Type} (t : Nat) (i : Int32) (k : Int32 → Option β) : Option β := if ix i (k_stN t).2.2 = true then k ((k_stV t).getD i.toNatClampNeg 0) else none
def bN {α β : Type} (a : α) (k : α → β) : β := k a
def bd {α β : Type} (o : Option (α × k_M)) (k : α → k_M → Option β) : Option β := match o with
  | none => none
  | some q => k q.1 q.2
def dv {β : Type} (y : Int32) (k : Option β) : Option β := if y = 0 then none else k
def ckZ {β : Type} (v : Int32) (k : Option β) : Option β := if v = 0 ∨ v = 1 then k else none
def tsw {β : Type} (x : Int32) (lo : Int) (n : Nat) (f : Nat → β) (d : β) : β := if x.toInt < lo ∨ lo + n ≤ x.toInt then d else f (x.toInt - lo).toNat
def emI : Int32 → Option Value := fun v => some (.int v)
def emJ : Int64 → Option Value := fun v => some (.long v)
def emV : Unit → Option Value := fun _ => none
def emR (Z : k_Z) : Option Nat → Option Value := fun v => some (k_rn Z v)
section XR
variable {Z : k_Z} {G : k_G} {ρ : Type} {em : ρ → Option Value} {F : k_F} {K : Nat × Nat} {pc : Nat} {lv lv' : List (Nat × Value)} {st rest : List Value} {M : k_M} {o o2 : Option (ρ × k_M)} {own : String} {cc : ByteArray} {ret : Option FieldType} {nm : String}
theorem x_none : Sm Z G em F K pc lv st M none := fun _ _ h => by cases h
theorem x_lv (ks : List Nat) (hl : lv_pick lv ks = lv') (kk : Sm Z G em F K pc lv' st M o) : Sm Z G em F K pc lv st M o := fun r M' ho H locs ls h hP hL => kk r M' ho H locs ls (lv_sub h ks hl) hP hL
theorem x_nm {α : Type} {e : α} {w : α → Value} {k : α → Option (ρ × k_M)} (kk : ∀ v : α, v = e → Sm Z G em F K pc lv (w v :: rest) M (k v)) : Sm Z G em F K pc lv (w e :: rest) M (bN e k) := kk e rfl
theorem x_iload_n (C : k_C Z G own cc F ret nm) {k : Fin 4} {x : Int32} (hdg : decode cc pc = .ok (.iload_n k, 1)) (i : Nat) (hi : lv[i]? = some (k.val, .int x)) (kk : Sm Z G em F K (pc + 1) lv (.int x :: st) M o) : Sm Z G em F K pc lv st M o := fun r M' ho H locs ls hl hP hL => lv_iload_n C.1 C.2.1 hdg rfl (lv_at hl i hi) (kk r M' ho H locs ls hl hP hL)
theorem x_iload (C : k_C Z G own cc F ret nm) {k : Nat} {x : Int32} (hdg : decode cc pc = .ok (.iload k, 2)) (i : Nat) (hi : lv[i]? = some (k, .int x)) (kk : Sm Z G em F K (pc + 2) lv (.int x :: st) M o) : Sm Z G em F K pc lv st M o := fun r M' ho H locs ls hl hP hL => lv_iload C.1 C.2.1 hdg (lv_at hl i hi) (kk r M' ho H locs ls hl hP hL)
theorem x_lload_n (C : k_C Z G own cc F ret nm) {k : Fin 4} {x : Int64} (hdg : decode cc pc = .ok (.lload_n k, 1)) (i : Nat) (hi : lv[i]? = some (k.val, .long x)) (kk : Sm Z G em F K (pc + 1) lv (.long x :: st) M o) : Sm Z G em F K pc lv st M o := fun r M' ho H locs ls hl hP hL => lv_lload_n C.1 C.2.1 hdg rfl (lv_at hl i hi) (kk r M' ho H locs ls hl hP hL)
theorem x_aload_n (C : k_C Z G own cc F ret nm) {k : Fin 4} {x : Nat} (hdg : decode cc pc = .ok (.aload_n k, 1)) (i : Nat) (hi : lv[i]? = some (k.val, .ref x)) (kk : Sm Z G em F K (pc + 1) lv (.ref x :: st) M o) : Sm Z G em F K pc lv st M o := fun r M' ho H locs ls hl hP hL => lv_aload_n C.1 C.2.1 hdg rfl (lv_at hl i hi) (kk r M' ho H locs ls hl hP hL)
theorem x_aload (C : k_C Z G own cc F ret nm) {k : Nat} {x : Nat} (hdg : decode cc pc = .ok (.aload k, 2)) (i : Nat) (hi : lv[i]? = some (k, .ref x)) (kk : Sm Z G em F K (pc + 2) lv (.ref x :: st) M o) : Sm Z G em F K pc lv st M o := fun r M' ho H locs ls hl hP hL => lv_aload C.1 C.2.1 hdg (lv_at hl i hi) (kk r M' ho H locs ls hl hP hL)
theorem x_aload_q (C : k_C Z G own cc F ret nm) {k : Fin 4} {x : Option Nat} (hdg : decode cc pc = .ok (.aload_n k, 1)) (i : Nat) (hi : lv[i]? = some (k.val, k_rn Z x)) (kk : Sm Z G em F K (pc + 1) lv (k_rn Z x :: st) M o) : Sm Z G em F K pc lv st M o := by
  intro r M' ho H locs ls hl hP hL
  cases x with
  | none => exact lv_aload_nN C.1 C.2.1 hdg rfl (lv_at hl i hi) (kk r M' ho H locs ls hl hP hL)
  | some x => exact lv_aload_n C.1 C.2.1 hdg rfl (lv_at hl i hi) (kk r M' ho H locs ls hl hP hL)
theorem x_istore_n (C : k_C Z G own cc F ret nm) {k : Fin 4} {x : Int32} (hdg : decode cc pc = .ok (.istore_n k, 1)) (hn : k.val < F.2.1) (hl' : (k.val, Value.int x) :: lv.filter (fun q => !(q.1 == k.val) && !(q.1 + 1 == k.val && q.2.category == 2)) = lv') (kk : Sm Z G em F K (pc + 1) lv' rest M o) : Sm Z G em F K pc lv (.int x :: rest) M o := fun r M' ho H locs ls hl hP hL => lv_istore_n C.1 C.2.1 hdg rfl hl hn hl' (fun ls' h' => kk r M' ho H locs ls' h' hP hL)
theorem x_istore (C : k_C Z G own cc F ret nm) {k : Nat} {x : Int32} (hdg : decode cc pc = .ok (.istore k, 2)) (hn : k < F.2.1) (hl' : (k, Value.int x) :: lv.filter (fun q => !(q.1 == k) && !(q.1 + 1 == k && q.2.category == 2)) = lv') (kk : Sm Z G em F K (pc + 2) lv' rest M o) : Sm Z G em F K pc lv (.int x :: rest) M o := fun r M' ho H locs ls hl hP hL => lv_istore C.1 C.2.1 hdg hl hn hl' (fun ls' h' => kk r M' ho H locs ls' h' hP hL)
theorem x_astore_n (C : k_C Z G own cc F ret nm) {k : Fin 4} {x : Nat} (hdg : decode cc pc = .ok (.astore_n k, 1)) (hn : k.val < F.2.1) (hl' : (k.val, Value.ref x) :: lv.filter (fun q => !(q.1 == k.val) && !(q.1 + 1 == k.val && q.2.category == 2)) = lv') (kk : Sm Z G em F K (pc + 1) lv' rest M o) : Sm Z G em F K pc lv (.ref x :: rest) M o := fun r M' ho H locs ls hl hP hL => lv_astore_n C.1 C.2.1 hdg rfl hl hn hl' (fun ls' h' => kk r M' ho H locs ls' h' hP hL)
theorem x_astore (C : k_C Z G own cc F ret nm) {k : Nat} {x : Nat} (hdg : decode cc pc = .ok (.astore k, 2)) (hn : k < F.2.1) (hl' : (k, Value.ref x) :: lv.filter (fun q => !(q.1 == k) && !(q.1 + 1 == k && q.2.category == 2)) = lv') (kk : Sm Z G em F K (pc + 2) lv' rest M o) : Sm Z G em F K pc lv (.ref x :: rest) M o := fun r M' ho H locs ls hl hP hL => lv_astore C.1 C.2.1 hdg hl hn hl' (fun ls' h' => kk r M' ho H locs ls' h' hP hL)
theorem x_astore_q (C : k_C Z G own cc F ret nm) {k : Fin 4} {x : Option Nat} (hdg : decode cc pc = .ok (.astore_n k, 1)) (hn : k.val < F.2.1) (hl' : (k.val, k_rn Z x) :: lv.filter (fun q => !(q.1 == k.val) && !(q.1 + 1 == k.val && q.2.category == 2)) = lv') (kk : Sm Z G em F K (pc + 1) lv' rest M o) : Sm Z G em F K pc lv (k_rn Z x :: rest) M o := by
  intro r M' ho H locs ls hl hP hL
  cases x with
  | none => exact lv_astore_nN C.1 C.2.1 hdg rfl hl hn hl' (fun ls' h' => kk r M' ho H locs ls' h' hP hL)
  | some x => exact lv_astore_n C.1 C.2.1 hdg rfl hl hn hl' (fun ls' h' => kk r M' ho H locs ls' h' hP hL)
theorem x_iinc (C : k_C Z G own cc F ret nm) {i : Nat} {n : Int} {x v : Int32} (hdg : decode cc pc = .ok (.iinc i n, 3)) (k : Nat) (hk : lv[k]? = some (i, .int x)) (hv : Int32.ofInt n = v) (hn : i < F.2.1) (hl' : (i, Value.int (x + v)) :: lv.filter (fun q => !(q.1 == i) && !(q.1 + 1 == i && q.2.category == 2)) = lv') (kk : Sm Z G em F K (pc + 3) lv' st M o) : Sm Z G em F K pc lv st M o := fun r M' ho H locs ls hl hP hL => lv_iinc C.1 C.2.1 hdg hl hk (by rw [hv]) hn hl' (fun ls' h' => kk r M' ho H locs ls' h' hP hL)
theorem x_iconst (C : k_C Z G own cc F ret nm) {n : Int} {v : Int32} (hdg : decode cc pc = .ok (.iconst n, 1)) (hv : Int32.ofInt n = v) (kk : Sm Z G em F K (pc + 1) lv (.int v :: st) M o) : Sm Z G em F K pc lv st M o := fun r M' ho H locs ls hl hP hL => lv_iconst C.1 C.2.1 hdg hv (kk r M' ho H locs ls hl hP hL)
theorem x_bipush (C : k_C Z G own cc F ret nm) {n : Int} {v : Int32} (hdg : decode cc pc = .ok (.bipush n, 2)) (hv : (Int8.ofInt n).toInt32 = v) (kk : Sm Z G em F K (pc + 2) lv (.int v :: st) M o) : Sm Z G em F K pc lv st M o := fun r M' ho H locs ls hl hP hL => lv_bipush C.1 C.2.1 hdg hv (kk r M' ho H locs ls hl hP hL)
theorem x_sipush (C : k_C Z G own cc F ret nm) {n : Int} {v : Int32} (hdg : decode cc pc = .ok (.sipush n, 3)) (hv : (Int16.ofInt n).toInt32 = v) (kk : Sm Z G em F K (pc + 3) lv (.int v :: st) M o) : Sm Z G em F K pc lv st M o := fun r M' ho H locs ls hl hP hL => lv_sipush C.1 C.2.1 hdg hv (kk r M' ho H locs ls hl hP hL)
theorem x_lconst (C : k_C Z G own cc F ret nm) {n : Fin 2} {v : Int64} (hdg : decode cc pc = .ok (.lconst n, 1)) (hv : Int64.ofNat (n : Nat) = v) (kk : Sm Z G em F K (pc + 1) lv (.long v :: st) M o) : Sm Z G em F K pc lv st M o := fun r M' ho H locs ls hl hP hL => lv_lconst C.1 C.2.1 hdg hv (kk r M' ho H locs ls hl hP hL)
theorem x_null (C : k_C Z G own cc F ret nm) (hdg : decode cc pc = .ok (.aconst_null, 1)) (kk : Sm Z G em F K (pc + 1) lv (k_rn Z none :: st) M o) : Sm Z G em F K pc lv st M o := fun r M' ho H locs ls hl hP hL => lv_null C.1 C.2.1 hdg (kk r M' ho H locs ls hl hP hL)
theorem x_dup (C : k_C Z G own cc F ret nm) {v : Value} (hdg : decode cc pc = .ok (.dup, 1)) (hv : v.category = 1) (kk : Sm Z G em F K (pc + 1) lv (v :: v :: rest) M o) : Sm Z G em F K pc lv (v :: rest) M o := fun r M' ho H locs ls hl hP hL => lv_dup C.1 C.2.1 hdg hv (kk r M' ho H locs ls hl hP hL)
theorem x_dup2 (C : k_C Z G own cc F ret nm) {va vb : Value} (hdg : decode cc pc = .ok (.dup2, 1)) (hva : va.category = 1) (hvb : vb.category = 1) (kk : Sm Z G em F K (pc + 1) lv (va :: vb :: va :: vb :: rest) M o) : Sm Z G em F K pc lv (va :: vb :: rest) M o := fun r M' ho H locs ls hl hP hL => lv_dup2_11 C.1 C.2.1 hdg hva hvb (kk r M' ho H locs ls hl hP hL)
theorem x_pop (C : k_C Z G own cc F ret nm) {v : Value} (hdg : decode cc pc = .ok (.pop, 1)) (hv : v.category = 1) (kk : Sm Z G em F K (pc + 1) lv rest M o) : Sm Z G em F K pc lv (v :: rest) M o := fun r M' ho H locs ls hl hP hL => lv_pop C.1 C.2.1 hdg hv (kk r M' ho H locs ls hl hP hL)
theorem x_iadd (C : k_C Z G own cc F ret nm) {x y : Int32} (hdg : decode cc pc = .ok (.iadd, 1)) (kk : Sm Z G em F K (pc + 1) lv (.int (x + y) :: rest) M o) : Sm Z G em F K pc lv (.int y :: .int x :: rest) M o := fun r M' ho H locs ls hl hP hL => lv_iadd C.1 C.2.1 hdg (kk r M' ho H locs ls hl hP hL)
theorem x_isub (C : k_C Z G own cc F ret nm) {x y : Int32} (hdg : decode cc pc = .ok (.isub, 1)) (kk : Sm Z G em F K (pc + 1) lv (.int (x - y) :: rest) M o) : Sm Z G em F K pc lv (.int y :: .int x :: rest) M o := fun r M' ho H locs ls hl hP hL => lv_isub C.1 C.2.1 hdg (kk r M' ho H locs ls hl hP hL)
theorem x_imul (C : k_C Z G own cc F ret nm) {x y : Int32} (hdg : decode cc pc = .ok (.imul, 1)) (kk : Sm Z G em F K (pc + 1) lv (.int (x * y) :: rest) M o) : Sm Z G em F K pc lv (.int y :: .int x :: rest) M o := fun r M' ho H locs ls hl hP hL => lv_imul C.1 C.2.1 hdg (kk r M' ho H locs ls hl hP hL)
theorem x_iand (C : k_C Z G own cc F ret nm) {x y : Int32} (hdg : decode cc pc = .ok (.iand, 1)) (kk : Sm Z G em F K (pc + 1) lv (.int (x &&& y) :: rest) M o) : Sm Z G em F K pc lv (.int y :: .int x :: rest) M o := fun r M' ho H locs ls hl hP hL => lv_iand C.1 C.2.1 hdg (kk r M' ho H locs ls hl hP hL)
theorem x_ior (C : k_C Z G own cc F ret nm) {x y : Int32} (hdg : decode cc pc = .ok (.ior, 1)) (kk : Sm Z G em F K (pc + 1) lv (.int (x ||| y) :: rest) M o) : Sm Z G em F K pc lv (.int y :: .int x :: rest) M o := fun r M' ho H locs ls hl hP hL => lv_ior C.1 C.2.1 hdg (kk r M' ho H locs ls hl hP hL)
theorem x_ixor (C : k_C Z G own cc F ret nm) {x y : Int32} (hdg : decode cc pc = .ok (.ixor, 1)) (kk : Sm Z G em F K (pc + 1) lv (.int (x ^^^ y) :: rest) M o) : Sm Z G em F K pc lv (.int y :: .int x :: rest) M o := fun r M' ho H locs ls hl hP hL => lv_ixor C.1 C.2.1 hdg (kk r M' ho H locs ls hl hP hL)
theorem x_ishl (C : k_C Z G own cc F ret nm) {x y : Int32} (hdg : decode cc pc = .ok (.ishl, 1)) (kk : Sm Z G em F K (pc + 1) lv (.int (x <<< (y &&& 31)) :: rest) M o) : Sm Z G em F K pc lv (.int y :: .int x :: rest) M o := fun r M' ho H locs ls hl hP hL => lv_ishl C.1 C.2.1 hdg (kk r M' ho H locs ls hl hP hL)
theorem x_ishr (C : k_C Z G own cc F ret nm) {x y : Int32} (hdg : decode cc pc = .ok (.ishr, 1)) (kk : Sm Z G em F K (pc + 1) lv (.int (x >>> (y &&& 31)) :: rest) M o) : Sm Z G em F K pc lv (.int y :: .int x :: rest) M o := fun r M' ho H locs ls hl hP hL => lv_ishr C.1 C.2.1 hdg (kk r M' ho H locs ls hl hP hL)
theorem x_idivC (C : k_C Z G own cc F ret nm) {x y : Int32} (hdg : decode cc pc = .ok (.idiv, 1)) (hy : ¬ y = 0) (kk : Sm Z G em F K (pc + 1) lv (.int (x / y) :: rest) M o) : Sm Z G em F K pc lv (.int y :: .int x :: rest) M o := fun r M' ho H locs ls hl hP hL => lv_idiv C.1 C.2.1 hdg hy (kk r M' ho H locs ls hl hP hL)
theorem x_iremC (C : k_C Z G own cc F ret nm) {x y : Int32} (hdg : decode cc pc = .ok (.irem, 1)) (hy : ¬ y = 0) (kk : Sm Z G em F K (pc + 1) lv (.int (x - x / y * y) :: rest) M o) : Sm Z G em F K pc lv (.int y :: .int x :: rest) M o := fun r M' ho H locs ls hl hP hL => lv_irem C.1 C.2.1 hdg hy (kk r M' ho H locs ls hl hP hL)
theorem x_dv {y : Int32} (kk : ¬ y = 0 → Sm Z G em F K pc lv st M o) : Sm Z G em F K pc lv st M (dv y o) := by
  intro r M' ho
  unfold dv at ho
  by_cases hy : y = 0
  · rw [if_pos hy] at ho; cases ho
  · rw [if_neg hy] at ho
    exact kk hy r M' ho
theorem x_ckZ {v : Int32} (kk : v = 0 ∨ v = 1 → Sm Z G em F K pc lv st M o) : Sm Z G em F K pc lv st M (ckZ v o) := by
  intro r M' ho
  unfold ckZ at ho
  by_cases hy : v = 0 ∨ v = 1
  · rw [if_pos hy] at ho
    exact kk hy r M' ho
  · rw [if_neg hy] at ho; cases ho
theorem x_ladd (C : k_C Z G own cc F ret nm) {x y : Int64} (hdg : decode cc pc = .ok (.ladd, 1)) (kk : Sm Z G em F K (pc + 1) lv (.long (x + y) :: rest) M o) : Sm Z G em F K pc lv (.long y :: .long x :: rest) M o := fun r M' ho H locs ls hl hP hL => lv_ladd C.1 C.2.1 hdg (kk r M' ho H locs ls hl hP hL)
theorem x_lsub (C : k_C Z G own cc F ret nm) {x y : Int64} (hdg : decode cc pc = .ok (.lsub, 1)) (kk : Sm Z G em F K (pc + 1) lv (.long (x - y) :: rest) M o) : Sm Z G em F K pc lv (.long y :: .long x :: rest) M o := fun r M' ho H locs ls hl hP hL => lv_lsub C.1 C.2.1 hdg (kk r M' ho H locs ls hl hP hL)
theorem x_lmul (C : k_C Z G own cc F ret nm) {x y : Int64} (hdg : decode cc pc = .ok (.lmul, 1)) (kk : Sm Z G em F K (pc + 1) lv (.long (x * y) :: rest) M o) : Sm Z G em F K pc lv (.long y :: .long x :: rest) M o := fun r M' ho H locs ls hl hP hL => lv_lmul C.1 C.2.1 hdg (kk r M' ho H locs ls hl hP hL)
theorem x_land (C : k_C Z G own cc F ret nm) {x y : Int64} (hdg : decode cc pc = .ok (.land, 1)) (kk : Sm Z G em F K (pc + 1) lv (.long (x &&& y) :: rest) M o) : Sm Z G em F K pc lv (.long y :: .long x :: rest) M o := fun r M' ho H locs ls hl hP hL => lv_land C.1 C.2.1 hdg (kk r M' ho H locs ls hl hP hL)
theorem x_lor (C : k_C Z G own cc F ret nm) {x y : Int64} (hdg : decode cc pc = .ok (.lor, 1)) (kk : Sm Z G em F K (pc + 1) lv (.long (x ||| y) :: rest) M o) : Sm Z G em F K pc lv (.long y :: .long x :: rest) M o := fun r M' ho H locs ls hl hP hL => lv_lor C.1 C.2.1 hdg (kk r M' ho H locs ls hl hP hL)
theorem x_lshl (C : k_C Z G own cc F ret nm) {x : Int64} {y : Int32} (hdg : decode cc pc = .ok (.lshl, 1)) (kk : Sm Z G em F K (pc + 1) lv (.long (x <<< (y.toInt64 &&& 63)) :: rest) M o) : Sm Z G em F K pc lv (.int y :: .long x :: rest) M o := fun r M' ho H locs ls hl hP hL => lv_lshl C.1 C.2.1 hdg rfl (kk r M' ho H locs ls hl hP hL)
theorem x_lshr (C : k_C Z G own cc F ret nm) {x : Int64} {y : Int32} (hdg : decode cc pc = .ok (.lshr, 1)) (kk : Sm Z G em F K (pc + 1) lv (.long (x >>> (y.toInt64 &&& 63)) :: rest) M o) : Sm Z G em F K pc lv (.int y :: .long x :: rest) M o := fun r M' ho H locs ls hl hP hL => lv_lshr C.1 C.2.1 hdg rfl (kk r M' ho H locs ls hl hP hL)
theorem x_i2l (C : k_C Z G own cc F ret nm) {x : Int32} (hdg : decode cc pc = .ok (.i2l, 1)) (kk : Sm Z G em F K (pc + 1) lv (.long x.toInt64 :: rest) M o) : Sm Z G em F K pc lv (.int x :: rest) M o := fun r M' ho H locs ls hl hP hL => lv_i2l C.1 C.2.1 hdg rfl (kk r M' ho H locs ls hl hP hL)
theorem x_l2i (C : k_C Z G own cc F ret nm) {x : Int64} (hdg : decode cc pc = .ok (.l2i, 1)) (kk : Sm Z G em F K (pc + 1) lv (.int x.toInt32 :: rest) M o) : Sm Z G em F K pc lv (.long x :: rest) M o := fun r M' ho H locs ls hl hP hL => lv_l2i C.1 C.2.1 hdg rfl (kk r M' ho H locs ls hl hP hL)
theorem x_i2b (C : k_C Z G own cc F ret nm) {x : Int32} (hdg : decode cc pc = .ok (.i2b, 1)) (kk : Sm Z G em F K (pc + 1) lv (.int x.toInt8.toInt32 :: rest) M o) : Sm Z G em F K pc lv (.int x :: rest) M o := fun r M' ho H locs ls hl hP hL => lv_i2b C.1 C.2.1 hdg rfl (kk r M' ho H locs ls hl hP hL)
theorem x_i2s (C : k_C Z G own cc F ret nm) {x : Int32} (hdg : decode cc pc = .ok (.i2s, 1)) (kk : Sm Z G em F K (pc + 1) lv (.int x.toInt16.toInt32 :: rest) M o) : Sm Z G em F K pc lv (.int x :: rest) M o := fun r M' ho H locs ls hl hP hL => lv_i2s C.1 C.2.1 hdg rfl (kk r M' ho H locs ls hl hP hL)
theorem x_lcmp (C : k_C Z G own cc F ret nm) {x y : Int64} (hdg : decode cc pc = .ok (.lcmp, 1)) (kk : Sm Z G em F K (pc + 1) lv (.int (lg_cmp x y) :: rest) M o) : Sm Z G em F K pc lv (.long y :: .long x :: rest) M o := fun r M' ho H locs ls hl hP hL => W.lcmp C.1 C.2.1 hdg (kk r M' ho H locs ls hl hP hL)
end XR
