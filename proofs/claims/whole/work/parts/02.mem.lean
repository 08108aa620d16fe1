/-! ===== the memory that the methods' pure pictures speak of: ints, longs and references by cell and place, and how many cells there are ===== -/
abbrev k_M : Type := (Nat → Nat → Int32) × (Nat → Nat → Int64) × (Nat → Nat → Option Nat) × Nat
/-- what stays over the whole run: the state at the law's entry, the tables' numbers, the array classes by kind, where the static arrays and the texts lie -/
abbrev k_Z : Type := State × va_G × (Nat → ClassId) × (Nat → Nat) × (Nat → Nat)
/-- what stays over one method's body -/
abbrev k_G : Type := Program × Launch × Env × Room × State × MethodId × Array Value × List Frame × Method × Code
def k_h (Z : k_Z) : Nat := Z.1.heap.size
/-- the fields' sorts by the class's number in vwCl: 0 an int or a boolean, 1 a long, 2 a reference -/
def k_fty : Nat → List Nat
  | 2 => [0, 2, 2, 2, 2, 2, 2, 0, 2, 2, 2, 2, 2, 2, 2, 2]
  | 5 => [2, 0, 0, 0, 0, 0]
  | 7 => [2, 0, 0]
  | 8 => [2, 2, 0, 0, 0, 0, 2, 0, 2, 2]
  | 9 => [2, 2, 2, 2, 0, 2, 0, 2, 2, 2, 2, 2, 2, 2]
  | 10 => [0, 2, 0, 2, 2, 2, 0, 0, 0, 2, 2, 2, 0, 0, 0, 0, 1, 0, 0, 0, 0, 2, 2, 2, 2, 2, 0, 2, 2, 2, 2, 2, 0, 0, 2, 2, 0, 2, 2, 2, 2, 2, 2, 0, 0, 0, 2, 0, 0, 0, 2, 0, 2]
  | _ => [0, 0, 0]
/-- a World's cells from its own address on: itself, its Land, the Land's fourteen rows, law, shed, rule, did -/
def k_tabW : List (Nat × Nat) := [(8, 0), (2, 0), (11, 8), (11, 8), (11, 8), (11, 8), (11, 8), (11, 32), (11, 12), (11, 12), (11, 12), (11, 12), (11, 12), (11, 12), (11, 8), (11, 8), (11, 13), (11, 3), (13, 4), (11, 4)]
/-- the cells by their numbers: (number of the class in vwCl, 0); arrays: 11 ints, 12 longs, 13 rules, 14 rows of longs, with their lengths -/
def k_tab : List (Nat × Nat) := [(9, 0), (5, 0), (11, 200)] ++ k_tabW ++ k_tabW ++ k_tabW ++ [(11, 18), (11, 4), (11, 4), (14, 4), (12, 40), (12, 40), (12, 40), (12, 40), (11, 4), (11, 4), (11, 4), (7, 0), (11, 30),
  (10, 0), (11, 24), (11, 60), (11, 13), (11, 13), (11, 12), (11, 1100), (11, 200), (11, 24), (11, 60), (11, 8), (11, 8), (11, 8), (11, 6), (11, 6), (11, 6), (11, 6), (11, 6), (11, 64), (11, 18), (11, 4), (11, 4), (12, 160), (11, 4), (11, 4), (11, 4), (11, 30), (11, 150), (11, 5)]
theorem k_tab_len : k_tab.length = 105 := by decide +kernel
def k_st (a : Nat) : Nat × Nat := k_tab.getD a (99, 0)
theorem k_st_lt {a kd n : Nat} (h : k_st a = (kd, n)) (hk : kd < 15) : a < 105 := by
  by_cases ha : a < 105
  · exact ha
  · exfalso
    unfold k_st at h
    rw [List.getD_eq_getElem?_getD, List.getElem?_eq_none (by rw [k_tab_len]; omega)] at h
    simp only [Option.getD_none, Prod.mk.injEq] at h
    omega
/-- a rule's class by its kind -/
def k_tag (t : Int32) : Nat := if t = 1 then 1 else if t = 2 then 4 else if t = 3 then 3 else if t = 4 then 0 else 6
theorem k_tag_lt (t : Int32) : k_tag t < 7 := by
  unfold k_tag
  repeat' split
  all_goals omega
def k_kq (k : Nat) (fi : Nat → Int32) : Nat × Nat := if k < 105 then k_st k else (k_tag (fi 3), 0)
abbrev k_ra (Z : k_Z) (a : Nat) : Value := .ref (k_h Z + a)
def k_rn (Z : k_Z) (o : Option Nat) : Value := va_rf (o.map (fun a => k_h Z + a))
def k_fv (h : Nat) (fi : Nat → Int32) (fj : Nat → Int64) (fr : Nat → Option Nat) (j : Nat) (t : Nat) : Value := if t = 0 then .int (fi j) else if t = 1 then .long (fj j) else va_rf ((fr j).map (fun a => h + a))
def k_fl (h : Nat) (fi : Nat → Int32) (fj : Nat → Int64) (fr : Nat → Option Nat) : Nat → List Nat → List Value
  | _, [] => []
  | j, t :: ts => k_fv h fi fj fr j t :: k_fl h fi fj fr (j + 1) ts
theorem k_fl_get {h : Nat} {fi : Nat → Int32} {fj : Nat → Int64} {fr : Nat → Option Nat} : ∀ (ts : List Nat) (j0 j t : Nat), ts[j]? = some t → (k_fl h fi fj fr j0 ts)[j]? = some (k_fv h fi fj fr (j0 + j) t)
  | [], _, j, _, hj => by simp at hj
  | t0 :: ts, j0, j, t, hj => by
    cases j with
    | zero => simp at hj; subst hj; simp [k_fl]
    | succ j =>
      simp only [List.getElem?_cons_succ] at hj
      have h1 := k_fl_get (h := h) (fi := fi) (fj := fj) (fr := fr) ts (j0 + 1) j t hj
      simp only [k_fl, List.getElem?_cons_succ]
      rw [h1]
      congr 2
      omega
theorem k_fl_len {h : Nat} {fi : Nat → Int32} {fj : Nat → Int64} {fr : Nat → Option Nat} : ∀ (ts : List Nat) (j0 : Nat), (k_fl h fi fj fr j0 ts).length = ts.length
  | [], _ => rfl
  | _ :: ts, j0 => by simp only [k_fl, List.length_cons, k_fl_len ts (j0 + 1)]
theorem k_fl_congr {h : Nat} {fi fi' : Nat → Int32} {fj fj' : Nat → Int64} {fr fr' : Nat → Option Nat} : ∀ (ts : List Nat) (j0 : Nat), (∀ i, j0 ≤ i → fi i = fi' i) → (∀ i, j0 ≤ i → fj i = fj' i) → (∀ i, j0 ≤ i → fr i = fr' i) → k_fl h fi fj fr j0 ts = k_fl h fi' fj' fr' j0 ts
  | [], _, _, _, _ => rfl
  | t :: ts, j0, h1, h2, h3 => by
    simp only [k_fl]
    rw [k_fl_congr ts (j0 + 1) (fun i hi => h1 i (by omega)) (fun i hi => h2 i (by omega)) (fun i hi => h3 i (by omega))]
    unfold k_fv
    rw [h1 j0 (Nat.le_refl _), h2 j0 (Nat.le_refl _), h3 j0 (Nat.le_refl _)]
/-- a write at one place of one cell -/
def k_up {α : Type} (f : Nat → α) (j : Nat) (v : α) : Nat → α := fun i => if i = j then v else f i
theorem k_up_self {α : Type} (f : Nat → α) (j : Nat) (v : α) : k_up f j v j = v := if_pos rfl
theorem k_up_ne {α : Type} (f : Nat → α) {i j : Nat} (v : α) (h : i ≠ j) : k_up f j v i = f i := if_neg h
def sI (M : k_M) (a j : Nat) (v : Int32) : k_M := (fun b => if b = a then k_up (M.1 a) j v else M.1 b, M.2)
def sJ (M : k_M) (a j : Nat) (v : Int64) : k_M := (M.1, fun b => if b = a then k_up (M.2.1 a) j v else M.2.1 b, M.2.2)
def sR (M : k_M) (a j : Nat) (v : Option Nat) : k_M := (M.1, M.2.1, fun b => if b = a then k_up (M.2.2.1 a) j v else M.2.2.1 b, M.2.2.2)
theorem k_fl_set {h : Nat} {fi fi' : Nat → Int32} {fj fj' : Nat → Int64} {fr fr' : Nat → Option Nat} : ∀ (ts : List Nat) (j0 j t : Nat) (v : Value), ts[j]? = some t → (∀ i, i ≠ j0 + j → fi' i = fi i) → (∀ i, i ≠ j0 + j → fj' i = fj i) → (∀ i, i ≠ j0 + j → fr' i = fr i) → k_fv h fi' fj' fr' (j0 + j) t = v → (k_fl h fi fj fr j0 ts).set j v = k_fl h fi' fj' fr' j0 ts
  | [], _, j, _, _, hj, _, _, _, _ => by simp at hj
  | t0 :: ts, j0, j, t, v, hj, h1, h2, h3, hv => by
    cases j with
    | zero =>
      simp at hj
      subst hj
      simp only [k_fl, List.set_cons_zero]
      rw [show k_fv h fi' fj' fr' j0 t0 = v from hv]
      congr 1
      exact k_fl_congr ts (j0 + 1) (fun i hi => (h1 i (by omega)).symm) (fun i hi => (h2 i (by omega)).symm) (fun i hi => (h3 i (by omega)).symm)
    | succ j =>
      simp only [List.getElem?_cons_succ] at hj
      simp only [k_fl, List.set_cons_succ]
      have e1 : k_fv h fi' fj' fr' j0 t0 = k_fv h fi fj fr j0 t0 := by
        unfold k_fv
        rw [h1 j0 (by omega), h2 j0 (by omega), h3 j0 (by omega)]
      rw [e1, k_fl_set ts (j0 + 1) j t v hj (fun i hi => h1 i (by omega)) (fun i hi => h2 i (by omega)) (fun i hi => h3 i (by omega)) (by rw [← hv]; congr 1; omega)]
/-- a cell of the real heap by its kind and its rows -/
def k_e (Z : k_Z) (q : Nat × Nat) (fi : Nat → Int32) (fj : Nat → Int64) (fr : Nat → Option Nat) : va_E :=
  if q.1 < 11 then .inr (q.1, k_fl (k_h Z) fi fj fr 0 (k_fty q.1)) else if q.1 = 11 then .inl (Z.2.2.1 11, q.2, .inl fi) else if q.1 = 12 then .inl (Z.2.2.1 12, q.2, .inr (.inl fj)) else .inl (Z.2.2.1 q.1, q.2, .inr (.inr (.inr (.inr (fun j => (fr j).map (fun a => k_h Z + a))))))
def k_E (Z : k_Z) (M : k_M) (k : Nat) : va_E := k_e Z (k_kq k (M.1 k)) (M.1 k) (M.2.1 k) (M.2.2.1 k)
/-- the heap holds the memory, and all that was there before as it was -/
def k_Rg (Z : k_Z) (M : k_M) (H : Heap) : Prop := H.size = k_h Z + M.2.2.2 ∧ (∀ q : Nat, q < k_h Z → H[q]? = Z.1.heap[q]?) ∧ ∀ k : Nat, k < M.2.2.2 → va_at Z.2.1 vwCl (k_h Z + k, k_E Z M k) H
/-- which cell a reference field of a made object holds: so many cells behind its own -/
def k_off : Nat → Nat → Option Nat
  | 2, j => if j = 0 ∨ j = 7 then none else if j < 7 then some j else if j < 16 then some (j - 1) else none
  | 5, j => if j = 0 then some 1 else none
  | 7, j => if j = 0 then some 1 else none
  | 8, j => if j = 0 then some 1 else if j = 1 then some 16 else if j = 6 then some 17 else if j = 8 then some 18 else if j = 9 then some 19 else none
  | 9, j => [some 1, some 3, some 23, some 43, none, some 63, none, some 64, some 65, some 66, some 71, some 72, some 73, some 74].getD j none
  | 10, j => [none, some 1, none, some 2, some 3, some 4, none, none, none, some 5, some 6, some 7, none, none, none, none, none, none, none, none, none, some 8, some 9, some 10, some 11, some 12, none, some 13, some 14, some 15, some 16, some 17, none, none, some 18, some 19, none, some 20, some 21, some 22, some 23, some 24, some 25, none, none, none, some 26, none, none, none, some 27, none, some 28].getD j none
  | 14, j => if j < 4 then some (j + 1) else none
  | _, _ => none
def k_Sh (M : k_M) : Prop := ∀ (a kd n j o : Nat), k_st a = (kd, n) → k_off kd j = some o → M.2.2.1 a j = some (a + o)
def k_Rn (Z : k_Z) (M : k_M) (H : Heap) : Prop := k_Rg Z M H ∧ k_Sh M ∧ 105 ≤ M.2.2.2
theorem k_upd {Z : k_Z} {M M1 : k_M} {H H1 : Heap} {a : Nat} (h : k_Rg Z M H) (hn : M1.2.2.2 = M.2.2.2) (hs : H1.size = H.size) (oq : ∀ q : Nat, q ≠ k_h Z + a → H1[q]? = H[q]?) (hE : ∀ k, k ≠ a → k_E Z M1 k = k_E Z M k) (hA : va_at Z.2.1 vwCl (k_h Z + a, k_E Z M1 a) H1) : k_Rg Z M1 H1 := by
  refine ⟨by rw [hs, hn]; exact h.1, fun q hq => (oq q (by omega)).trans (h.2.1 q hq), fun k hk => ?_⟩
  by_cases hka : k = a
  · subst hka
    exact hA
  · rw [hE k hka]
    exact (h.2.2 k (by rw [← hn]; exact hk)).kept (oq _ (by show k_h Z + k ≠ k_h Z + a; omega))
theorem sI_at (M : k_M) (a j : Nat) (v : Int32) : (sI M a j v).1 a = k_up (M.1 a) j v := if_pos rfl
theorem sI_ne (M : k_M) {a b : Nat} (j : Nat) (v : Int32) (h : b ≠ a) : (sI M a j v).1 b = M.1 b := if_neg h
theorem sJ_at (M : k_M) (a j : Nat) (v : Int64) : (sJ M a j v).2.1 a = k_up (M.2.1 a) j v := if_pos rfl
theorem sJ_ne (M : k_M) {a b : Nat} (j : Nat) (v : Int64) (h : b ≠ a) : (sJ M a j v).2.1 b = M.2.1 b := if_neg h
theorem sR_at (M : k_M) (a j : Nat) (v : Option Nat) : (sR M a j v).2.2.1 a = k_up (M.2.2.1 a) j v := if_pos rfl
theorem sR_ne (M : k_M) {a b : Nat} (j : Nat) (v : Option Nat) (h : b ≠ a) : (sR M a j v).2.2.1 b = M.2.2.1 b := if_neg h
theorem k_E_sI {Z : k_Z} (M : k_M) {a b : Nat} (j : Nat) (v : Int32) (h : b ≠ a) : k_E Z (sI M a j v) b = k_E Z M b := by
  unfold k_E
  rw [sI_ne M j v h]
  rfl
theorem k_E_sJ {Z : k_Z} (M : k_M) {a b : Nat} (j : Nat) (v : Int64) (h : b ≠ a) : k_E Z (sJ M a j v) b = k_E Z M b := by
  unfold k_E
  rw [sJ_ne M j v h]
  rfl
theorem k_E_sR {Z : k_Z} (M : k_M) {a b : Nat} (j : Nat) (v : Option Nat) (h : b ≠ a) : k_E Z (sR M a j v) b = k_E Z M b := by
  unfold k_E
  rw [sR_ne M j v h]
  rfl
theorem k_E_st {Z : k_Z} (M : k_M) {a kd n : Nat} (h : k_st a = (kd, n)) (hk : kd < 15) : k_E Z M a = k_e Z (kd, n) (M.1 a) (M.2.1 a) (M.2.2.1 a) := by
  unfold k_E k_kq
  rw [if_pos (k_st_lt h hk), h]
theorem k_e_obj {Z : k_Z} {kd n : Nat} {fi : Nat → Int32} {fj : Nat → Int64} {fr : Nat → Option Nat} (h : kd < 11) : k_e Z (kd, n) fi fj fr = .inr (kd, k_fl (k_h Z) fi fj fr 0 (k_fty kd)) := if_pos h
theorem k_e_int {Z : k_Z} {n : Nat} {fi : Nat → Int32} {fj : Nat → Int64} {fr : Nat → Option Nat} : k_e Z (11, n) fi fj fr = .inl (Z.2.2.1 11, n, .inl fi) := rfl
theorem k_e_long {Z : k_Z} {n : Nat} {fi : Nat → Int32} {fj : Nat → Int64} {fr : Nat → Option Nat} : k_e Z (12, n) fi fj fr = .inl (Z.2.2.1 12, n, .inr (.inl fj)) := rfl
theorem k_e_rule {Z : k_Z} {n : Nat} {fi : Nat → Int32} {fj : Nat → Int64} {fr : Nat → Option Nat} : k_e Z (13, n) fi fj fr = .inl (Z.2.2.1 13, n, .inr (.inr (.inr (.inr (fun j => (fr j).map (fun a => k_h Z + a)))))) := rfl
theorem k_e_rows {Z : k_Z} {n : Nat} {fi : Nat → Int32} {fj : Nat → Int64} {fr : Nat → Option Nat} : k_e Z (14, n) fi fj fr = .inl (Z.2.2.1 14, n, .inr (.inr (.inr (.inr (fun j => (fr j).map (fun a => k_h Z + a)))))) := rfl
