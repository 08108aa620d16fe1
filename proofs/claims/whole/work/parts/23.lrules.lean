/-! ===== the law's own rules: its script, and from the constructors' world to the methods' ===== -/
def rdX {β : Type} (L : Nat) (xs : Nat → Int32) (i : Int32) (k : Int32 → Option β) : Option β := if ix i L = true then k (xs i.toNatClampNeg) else none
/-- the made cells stand as the table has them -/
def kShb (M : k_M) : Bool := decide (105 ≤ M.2.2.2) && (List.range 105).all (fun a => (List.range 60).all (fun j => match k_off (k_st a).1 j with
  | none => true
  | some o => decide (M.2.2.1 a j = some (a + o))))
theorem k_off_lt {kd j o : Nat} (h : k_off kd j = some o) : kd < 15 ∧ j < 60 := by
  unfold k_off at h
  split at h
  · refine ⟨by omega, ?_⟩
    by_cases hj : j < 60
    · exact hj
    · rw [if_neg (by omega), if_neg (by omega), if_neg (by omega)] at h; cases h
  · refine ⟨by omega, ?_⟩
    by_cases hj : j = 0
    · omega
    · rw [if_neg hj] at h; cases h
  · refine ⟨by omega, ?_⟩
    by_cases hj : j = 0
    · omega
    · rw [if_neg hj] at h; cases h
  · refine ⟨by omega, ?_⟩
    by_cases hj : j < 60
    · exact hj
    · rw [if_neg (by omega), if_neg (by omega), if_neg (by omega), if_neg (by omega), if_neg (by omega)] at h; cases h
  · refine ⟨by omega, ?_⟩
    by_cases hj : j < 60
    · exact hj
    · rw [List.getD_eq_getElem?_getD, List.getElem?_eq_none (by simp; omega)] at h; cases h
  · refine ⟨by omega, ?_⟩
    by_cases hj : j < 60
    · exact hj
    · rw [List.getD_eq_getElem?_getD, List.getElem?_eq_none (by simp; omega)] at h; cases h
  · refine ⟨by omega, ?_⟩
    by_cases hj : j < 60
    · exact hj
    · rw [if_neg (by omega)] at h; cases h
  · cases h
theorem kShb_ok {M : k_M} (h : kShb M = true) : k_Sh M ∧ 105 ≤ M.2.2.2 := by
  unfold kShb at h
  simp only [Bool.and_eq_true, decide_eq_true_eq] at h
  refine ⟨fun a kd n j o' h1 h2 => ?_, h.1⟩
  have hl := k_off_lt h2
  have ha := k_st_lt h1 hl.1
  have h3 := List.all_eq_true.mp (List.all_eq_true.mp h.2 a (List.mem_range.mpr ha)) j (List.mem_range.mpr hl.2)
  rw [h1] at h3
  dsimp only at h3
  rw [h2] at h3
  exact of_decide_eq_true h3
section XX
variable {Z : k_Z} {G : k_G} {ρ : Type} {em : ρ → Option Value} {F : k_F} {K : Nat × Nat} {pc : Nat} {lv lv' : List (Nat × Value)} {st rest : List Value} {M : k_M} {o o2 : Option (ρ × k_M)} {own : String} {cc : ByteArray} {ret : Option FieldType} {nm : String}
theorem x_xld (C : k_C Z G own cc F ret nm) {b L : Nat} {xs : Nat → Int32} {i : Int32} {k : Int32 → Option (ρ × k_M)} (hX : va_X b L xs Z.1 Z.1.heap) (hdg : decode cc pc = .ok (.iaload, 1)) (kk : ∀ v : Int32, Sm Z G em F K (pc + 1) lv (.int v :: rest) M (k v)) : Sm Z G em F K pc lv (.int i :: .ref b :: rest) M (rdX L xs i k) := by
  intro r M' ho H locs ls hl hP hL
  unfold rdX at ho
  by_cases hi : ix i L = true
  · rw [if_pos hi] at ho
    obtain ⟨scr, c1, c2, c3, c4, c5⟩ := va_X.moved C.2.2.2.2.1.alike hX
    have hlt := ix_lt hi
    refine W.iald (v := .int (xs i.toNatClampNeg)) C.1 C.2.1 (k_old hP c1) c2 c3 (by rw [c4]; exact ix_in hi) (c5 _ hlt) rfl rfl hdg (kk _ r M' ho H locs ls hl hP hL)
  · rw [if_neg hi] at ho; cases ho
theorem x_xlen (C : k_C Z G own cc F ret nm) {b L : Nat} {xs : Nat → Int32} (hX : va_X b L xs Z.1 Z.1.heap) (hdg : decode cc pc = .ok (.arraylength, 1)) (kk : Sm Z G em F K (pc + 1) lv (.int (Int32.ofNat L) :: rest) M o) : Sm Z G em F K pc lv (.ref b :: rest) M o := by
  intro r M' ho H locs ls hl hP hL
  obtain ⟨scr, c1, c2, c3, c4, c5⟩ := va_X.moved C.2.2.2.2.1.alike hX
  exact W.alen C.1 C.2.1 (k_old hP c1) c2 (by rw [c4]) rfl rfl hdg (kk r M' ho H locs ls hl hP hL)
def upS {β : Type} (M : k_M) (o : Option β) : Option β := if kShb M = true then o else none
theorem x_up {F2 : Nat × Nat × Nat × Nat} (kk : Sm Z G em (true, F2) K pc lv st M o) : Sm Z G em (false, F2) K pc lv st M (upS M o) := by
  intro r M' ho H locs ls hl hP hL T hT X
  unfold upS at ho
  by_cases hs : kShb M = true
  · rw [if_pos hs] at ho
    obtain ⟨t, a1, oc, b1, b2, ⟨b3, b4⟩, b5⟩ := kk r M' ho H locs ls hl ⟨hP.1, fun _ => kShb_ok hs⟩ hL T hT X
    exact ⟨t, a1, oc, b1, b2, ⟨b3, b4.1, fun h => by cases h⟩, b5⟩
  · rw [if_neg hs] at ho; cases ho
end XX
