/-! ===== what the Statement gives of the start, in the words of the machine layer ===== -/
abbrev gd_N : List Cond := flatC (Jvm.Cond.and given_1 narrow_1)
theorem gd_nc : ∀ q ∈ k_ncl, Cond.not (.castable q.1 q.2) ∈ gd_N := by decide +kernel
theorem gd_st1 : ∀ i, i < 4 → Cond.arrayOf (.static (k_stN i).1 (k_stN i).2.1 "[I") .int ∈ gd_N := by decide +kernel
theorem gd_st2 : ∀ i, i < 4 → Cond.eq (.length (.static (k_stN i).1 (k_stN i).2.1 "[I")) (.int (Int32.ofNat (k_stN i).2.2)) ∈ gd_N := by decide +kernel
theorem gd_st3 : ∀ i, i < 4 → ∀ j, j < (k_stN i).2.2 → Cond.eq (.elem (.static (k_stN i).1 (k_stN i).2.1 "[I") (.int (Int32.ofNat j))) (.int ((k_stV i).getD j 0)) ∈ gd_N := by decide +kernel
theorem gd_st4 : ∀ i, i < 4 → Cond.laysStatic (k_stN i).1 (k_stN i).2.1 "[I" ∈ lw_tbl ∧ Cond.initialized (k_stN i).1 ∈ lw_tbl := by decide +kernel
def gd_tm (i : Nat) : Term := .string "WheelCity$Tape" (k_txN.getD i (0, "")).1
theorem gd_t1 : ∀ i, i < 9 → Cond.exactly (gd_tm i) "java/lang/String" ∈ gd_N ∧ Cond.eq (.field (gd_tm i) "java/lang/String" "coder" "B") (.int 0) ∈ gd_N ∧ Cond.arrayOf (.field (gd_tm i) "java/lang/String" "value" "[B") .byte ∈ gd_N ∧ Cond.eq (.length (.field (gd_tm i) "java/lang/String" "value" "[B")) (.int (Int32.ofNat (k_txL.getD i 0))) ∈ gd_N := by decide +kernel
theorem gd_t2 : ∀ i, i < 9 → ∀ j, j < k_txL.getD i 0 → Cond.eq (.elem (.field (gd_tm i) "java/lang/String" "value" "[B") (.int (Int32.ofNat j))) (.int ((k_txB.getD i []).getD j 0)) ∈ gd_N := by decide +kernel
theorem gd_t3 : ∀ i, i < 9 → ∀ j, j < 9 → i ≠ j → Cond.not (Cond.eq (gd_tm i) (gd_tm j)) ∈ gd_N ∨ Cond.not (Cond.eq (gd_tm j) (gd_tm i)) ∈ gd_N := by decide +kernel
theorem gd_t4 : ∀ i, i < 9 → Cond.stringRef "WheelCity$Tape" (k_txN.getD i (0, "")).1 (k_txN.getD i (0, "")).2 ∈ lw_tbl := by decide +kernel
theorem gd_len {A : Array Value} {s : State} {t : Term} {v : Value} {a : Nat} {cell : Cell} (h : (Term.length t).eval A s none [] s = some v) (ht : t.eval A s none [] s = some (.ref a)) (hc : s.arrayAt? a = some cell) : cell.slots.size < 2 ^ 31 := by
  by_cases p : cell.slots.size < 2 ^ 31
  · exact p
  · simp [Term.eval, ht, hc, p] at h
theorem gd_slots {cell : Cell} {c : ClassId} {N : Nat} {f : Nat → Value} (hsz : cell.slots.size = N) (h : ∀ j, j < N → cell.slots[j]? = some (f j)) : cell.slots = (arrV c N f).slots := by
  apply Array.ext
  · rw [hsz, arrV_size]
  · intro i h2 h3
    have hi : i < N := by omega
    have e3 : cell.slots[i]? = (arrV c N f).slots[i]? := (h i hi).trans (arrV_read c f hi).symm
    rw [Array.getElem?_eq_getElem h2, Array.getElem?_eq_getElem h3] at e3
    exact Option.some.inj e3
set_option maxHeartbeats 4000000 in
theorem good_of {s : State} {A : Array Value} (hts : ∀ w ∈ lw_tbl, w.before A s = true) (hgv : (Jvm.Cond.and given_1 narrow_1).before A s = true) : ∃ Z : k_Z, Z.1 = s ∧ k_Gd Z ∧ k_LF Z := by
  have hs := flat_of_before _ hgv
  have hA : ∀ a : Nat, a < s.heap.size → ¬ (fun q : Nat => s.heap.size ≤ q) a := fun a h => Nat.not_le.mpr h
  obtain ⟨c0, i0, hk0⟩ := u_known (C := RX1) (T := TX1) (N := 3) (n := 3) hts (fun w h => (iu_0 w h).1) (hts (.instantiable RX1 3) (List.mem_of_getElem? (i := 838) (by decide +kernel)))
  obtain ⟨c1, i1, hk1⟩ := u_known (C := RX2) (T := TX2) (N := 3) (n := 3) hts (fun w h => (iu_1 w h).1) (hts (.instantiable RX2 3) (List.mem_of_getElem? (i := 782) (by decide +kernel)))
  obtain ⟨c2, i2, hk2⟩ := u_known (C := RX3) (T := TX3) (N := 16) (n := 16) hts (fun w h => (iu_2 w h).1) (hts (.instantiable RX3 16) (List.mem_of_getElem? (i := 169) (by decide +kernel)))
  obtain ⟨c3, i3, hk3⟩ := u_known (C := RX4) (T := TX4) (N := 3) (n := 3) hts (fun w h => (iu_3 w h).1) (hts (.instantiable RX4 3) (List.mem_of_getElem? (i := 828) (by decide +kernel)))
  obtain ⟨c4, i4, hk4⟩ := u_known (C := RX5) (T := TX5) (N := 3) (n := 3) hts (fun w h => (iu_4 w h).1) (hts (.instantiable RX5 3) (List.mem_of_getElem? (i := 818) (by decide +kernel)))
  obtain ⟨c5, i5, hk5⟩ := u_known (C := RX7) (T := TX7) (N := 6) (n := 6) hts (fun w h => (iu_5 w h).1) (hts (.instantiable RX7 6) (List.mem_of_getElem? (i := 136) (by decide +kernel)))
  obtain ⟨c6, i6, hk6⟩ := u_known (C := RX8) (T := TX8) (N := 3) (n := 3) hts (fun w h => (iu_6 w h).1) (hts (.instantiable RX8 3) (List.mem_of_getElem? (i := 848) (by decide +kernel)))
  obtain ⟨c7, i7, hk7⟩ := u_known (C := RX9) (T := TX9) (N := 3) (n := 3) hts (fun w h => (iu_7 w h).1) (hts (.instantiable RX9 3) (List.mem_of_getElem? (i := 305) (by decide +kernel)))
  obtain ⟨c8, i8, hk8⟩ := u_known (C := RX10) (T := TX10) (N := 10) (n := 10) hts (fun w h => (iu_8 w h).1) (hts (.instantiable RX10 10) (List.mem_of_getElem? (i := 163) (by decide +kernel)))
  obtain ⟨c9, i9, hk9⟩ := u_known (C := RX11) (T := TX11) (N := 14) (n := 14) hts (fun w h => (iu_9 w h).1) (hts (.instantiable RX11 14) (List.mem_of_getElem? (i := 128) (by decide +kernel)))
  obtain ⟨c10, i10, hk10⟩ := u_known (C := RX12) (T := TX12) (N := 53) (n := 53) hts (fun w h => (iu_10 w h).1) (hts (.instantiable RX12 53) (List.mem_of_getElem? (i := 1091) (by decide +kernel)))
  obtain ⟨y11, k11, m11, e11, f11, g11⟩ := Cond.arrayClass_spec (hts (.arrayClass .int) (by decide +kernel))
  obtain ⟨y12, k12, m12, e12, f12, g12⟩ := Cond.arrayClass_spec (hts (.arrayClass .long) (by decide +kernel))
  obtain ⟨m13, y13, k13, e13, -, f13, g13, h13⟩ := Cond.arrayOver_spec (hts (.arrayOver (.object "WheelCity$Rule")) (by decide +kernel))
  obtain ⟨m14, y14, k14, e14, f14, g14, h14⟩ := Cond.arrayOver_specA (hts (.arrayOver (.array .long)) (by decide +kernel))
  have hst : ∀ i : Nat, ∃ t : Nat, i < 4 → (Term.static (k_stN i).1 (k_stN i).2.1 "[I").eval A s none [] s = some (.ref t) ∧ va_T .int t (k_stN i).2.2 (fun j => .int ((k_stV i).getD j 0)) (fun q : Nat => s.heap.size ≤ q) s s.heap := by
    intro i
    by_cases hi : i < 4
    · obtain ⟨t, h1, h2⟩ := va_Tof (f := fun j => .int ((k_stV i).getD j 0)) (A := fun q : Nat => s.heap.size ≤ q) ((by decide +kernel : ∀ i, i < 4 → (k_stN i).2.2 < 2 ^ 31) i hi) (hs _ (gd_st1 i hi)) (va_eqt (hs _ (gd_st2 i hi))) (fun j hj => va_eqt (hs _ (gd_st3 i hi j hj))) hA
      exact ⟨t, fun _ => ⟨h1, h2⟩⟩
    · exact ⟨0, fun h => absurd h hi⟩
  obtain ⟨ta, hta⟩ := Classical.axiomOfChoice hst
  obtain ⟨adK, adV, hS, hSe⟩ := vk_Sof (N := 9) (tm := gd_tm) (len := k_txL) (byt := k_txB) (A := fun q : Nat => s.heap.size ≤ q) ((by decide +kernel : ∀ i, i < 9 → k_txL.getD i 0 < 2 ^ 31)) (fun i hi => hs _ (gd_t1 i hi).1) (fun i hi => hs _ (gd_t1 i hi).2.1) (fun i hi => hs _ (gd_t1 i hi).2.2.1) (fun i hi => hs _ (gd_t1 i hi).2.2.2) (fun i hi j hj => hs _ (gd_t2 i hi j hj)) (fun i j hi hj hij => (gd_t3 i hi j hj hij).elim (fun h => Or.inl (hs _ h)) (fun h => Or.inr (hs _ h))) hA
  refine ⟨(s, ((fun k => if k = 0 then c0 else if k = 1 then c1 else if k = 2 then c2 else if k = 3 then c3 else if k = 4 then c4 else if k = 5 then c5 else if k = 6 then c6 else if k = 7 then c7 else if k = 8 then c8 else if k = 9 then c9 else c10), (fun k => if k = 0 then i0 else if k = 1 then i1 else if k = 2 then i2 else if k = 3 then i3 else if k = 4 then i4 else if k = 5 then i5 else if k = 6 then i6 else if k = 7 then i7 else if k = 8 then i8 else if k = 9 then i9 else i10)), (fun k => if k = 11 then y11 else if k = 12 then y12 else if k = 13 then y13 else y14), ta, (fun n => if n % 2 = 0 then adK (n / 2) else adV (n / 2))), rfl, ⟨⟨A, hts⟩, ⟨?_, ?_⟩, ?_, ?_, ?_, ?_, ?_, ?_⟩, ?_⟩
  · intro k q hq
    match k, hq with
    | 0, hq => cases hq; exact hk0
    | 1, hq => cases hq; exact hk1
    | 2, hq => cases hq; exact hk2
    | 3, hq => cases hq; exact hk3
    | 4, hq => cases hq; exact hk4
    | 5, hq => cases hq; exact hk5
    | 6, hq => cases hq; exact hk6
    | 7, hq => cases hq; exact hk7
    | 8, hq => cases hq; exact hk8
    | 9, hq => cases hq; exact hk9
    | 10, hq => cases hq; exact hk10
    | k + 11, hq => simp [vwCl] at hq
  · intro k q hq
    match k, hq with
    | 0, hq => cases hq; exact ⟨fun n z => ⟨fun _ h => (by cases h), k11, f11, m11, g11⟩, e11⟩
    | 1, hq => cases hq; exact ⟨fun n z => ⟨fun _ h => (by cases h), k12, f12, m12, g12⟩, e12⟩
    | 2, hq => cases hq; exact ⟨fun n z => ⟨fun _ h => (by cases h), k13, f13, m13, g13⟩, k13, m13, f13, g13, e13, h13⟩
    | 3, hq => cases hq; exact ⟨fun n z => ⟨fun _ h => (by cases h), k14, f14, m14, g14⟩, h14⟩
    | k + 4, hq => simp [k_tys] at hq
  · intro i hi
    exact ⟨va_Zof (hts _ (gd_st4 i hi).1) (hts _ (gd_st4 i hi).2) (hta i hi).1 hA, (hta i hi).2⟩
  · exact fun q hq => va_Nc.of (hs _ (gd_nc q hq))
  · have e1 : (fun i => (fun n => if n % 2 = 0 then adK (n / 2) else adV (n / 2)) (2 * i)) = adK := funext fun i => by show (if (2 * i) % 2 = 0 then adK (2 * i / 2) else adV (2 * i / 2)) = adK i; rw [if_pos (by omega), show 2 * i / 2 = i by omega]
    have e2 : (fun i => (fun n => if n % 2 = 0 then adK (n / 2) else adV (n / 2)) (2 * i + 1)) = adV := funext fun i => by show (if (2 * i + 1) % 2 = 0 then adK ((2 * i + 1) / 2) else adV ((2 * i + 1) / 2)) = adV i; rw [if_neg (by omega), show (2 * i + 1) / 2 = i by omega]
    show vk_S 9 k_txL k_txB (fun i => (fun n => if n % 2 = 0 then adK (n / 2) else adV (n / 2)) (2 * i)) (fun i => (fun n => if n % 2 = 0 then adK (n / 2) else adV (n / 2)) (2 * i + 1)) (fun q : Nat => s.heap.size ≤ q) s s.heap
    rw [e1, e2]
    exact hS
  · intro i hi
    show vk_R _ _ _ (if (2 * i) % 2 = 0 then adK (2 * i / 2) else adV (2 * i / 2)) s
    rw [if_pos (by omega), show 2 * i / 2 = i by omega]
    exact vk_R.of (hts _ (gd_t4 i hi)) (hSe i hi)
  · exact va_Zof (hts _ (by decide +kernel)) (hts _ (by decide +kernel)) (va_eqt (hs (.eq (.static "java/lang/String" "COMPACT_STRINGS" "Z") (.int 1)) (by decide +kernel))) hA
  · exact va_Zqof (hts _ (by decide +kernel)) (hts _ (by decide +kernel)) (hs (.isRef (.static "jdk/internal/util/Preconditions" "SIOOBE_FORMATTER" "Ljava/util/function/BiFunction;")) (by decide +kernel)) hA
  · obtain ⟨a0, cI, cell, kI, q1, q2, q3, q4, q5, q6, -⟩ := Cond.exactly_spec (hs (.exactly (.static "WheelCity$World" "LAW_FIRST" "[I") "[I") (by decide +kernel))
    obtain ⟨h1, cell2, g1, g2, g3, g4, g5, g6, -⟩ := hta 1 (by decide)
    cases q1.symm.trans h1
    cases q3.symm.trans g1
    have hlen := va_eqt (hs _ (gd_st2 1 (by decide)))
    obtain ⟨a3, cell3, l1, l2, l3⟩ := Term.length_spec hlen
    cases h1.symm.trans l1
    obtain ⟨w1, w2, w3, -⟩ := State.arrayAt?_spec l2
    cases g1.symm.trans w1
    have hsm := gd_len hlen l1 l2
    have hsz : cell.slots.size = 13 := by
      have e := congrArg Int32.toNatClampNeg g5
      rw [show (cell.slots.size.toInt32).toNatClampNeg = cell.slots.size from Int32.toNatClampNeg_ofNat_of_lt hsm] at e
      rw [e]
      decide
    refine ⟨cell, g1, ?_, ?_, ?_, g3⟩
    · have hy : cI = y11 := Option.some.inj (q2.symm.trans (va_nm_int e11))
      rw [q6, hy]
      rfl
    · exact gd_slots (f := fun j => Value.int ((k_stV 1).getD j 0)) hsz g6
    · intro k h
      rw [h] at w3
      cases w3
