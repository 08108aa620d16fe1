theorem nw_RL_7 : Cond.classLink RL 7 RX11 ∈ lw_tbl ∧ Cond.instantiable RX11 14 ∈ lw_tbl ∧ Cond.initialized RX11 ∈ lw_tbl := ⟨List.mem_of_getElem? (i := 127) (by decide +kernel), List.mem_of_getElem? (i := 128) (by decide +kernel), List.mem_of_getElem? (i := 107) (by decide +kernel)⟩
theorem nw_RL_10 : Cond.classLink RL 10 RX12 ∈ lw_tbl ∧ Cond.instantiable RX12 53 ∈ lw_tbl ∧ Cond.initialized RX12 ∈ lw_tbl := ⟨List.mem_of_getElem? (i := 1090) (by decide +kernel), List.mem_of_getElem? (i := 1091) (by decide +kernel), List.mem_of_getElem? (i := 112) (by decide +kernel)⟩
theorem cy_X11_init : k_cy yX11_init cX11_init 1 none 0 := ⟨List.mem_of_getElem? (i := 131) (by decide +kernel), List.mem_of_getElem? (i := 107) (by decide +kernel), ⟨by decide +kernel, by decide +kernel⟩, by decide +kernel⟩
theorem im_X11_init : Cond.instanceMethod yX11_init ∈ lw_tbl := List.mem_of_getElem? (i := 130) (by decide +kernel)
theorem lk_RL_9 : k_lk RL 9 yX11_init := Or.inl (List.mem_of_getElem? (i := 129) (by decide +kernel))
theorem cy_X12_init : k_cy yX12_init cX12_init 1 none 0 := ⟨List.mem_of_getElem? (i := 1094) (by decide +kernel), List.mem_of_getElem? (i := 112) (by decide +kernel), ⟨by decide +kernel, by decide +kernel⟩, by decide +kernel⟩
theorem im_X12_init : Cond.instanceMethod yX12_init ∈ lw_tbl := List.mem_of_getElem? (i := 1093) (by decide +kernel)
theorem lk_RL_12 : k_lk RL 12 yX12_init := Or.inl (List.mem_of_getElem? (i := 1092) (by decide +kernel))
theorem df_9 : ∀ j, j < 14 → defaultValue (tyX11 j) = vp_V (k_fl 0 (fun _ => 0) (fun _ => 0) (fun _ => none) 0 (k_fty 9)) j := by decide +kernel
theorem df_10 : ∀ j, j < 53 → defaultValue (tyX12 j) = vp_V (k_fl 0 (fun _ => 0) (fun _ => 0) (fun _ => none) 0 (k_fty 10)) j := by decide +kernel
def M0 : k_M := (fun _ _ => 0, fun _ _ => 0, fun _ _ => none, 0)
/-- the law, from its entry on, as a function: the two objects made, then the loop -/
def f_start (L : Nat) (xs : Nat → Int32) (M : k_M) : Option (Int32 × k_M) := nwO M 9 0 (fun q M1 => bd (f_X11_init q M1) (fun _ M2 => nwO M2 10 0 (fun q2 M3 => bd (f_X12_init q2 M3) (fun _ M4 => if q = 0 ∧ q2 = 76 then upS M4 (f_law L xs 100 0 M4) else none))))
theorem m_start {Z : k_Z} {G : k_G} {b L : Nat} {xs : Nat → Int32} {nm : String} (C : k_C Z G RL cL_law (false, 4, 1312, 600000, 7302250) (some .boolean) nm) (hLF : k_LF Z) (hX : va_X b L xs Z.1 Z.1.heap) (M : k_M) : Sm Z G emI (false, 4, 1312, 600000, 7302250) (0, 0) 0 [(0, Value.ref b)] [] M (f_start L xs M) := by
  unfold f_start
  refine x_new0 C (kd := 9) (N := 14) (r := (RX11, TX11, 14)) (ty := tyX11) rfl (by decide) rfl rfl tyX11_ok df_9 iu_9 nw_RL_7.1 nw_RL_7.2.1 nw_RL_7.2.2 (Nat.le_of_ble_eq_true rfl) (Nat.le_of_ble_eq_true rfl) (k_dg dt_L_law_0 0 0 (.new 7) 3 rfl) (fun q M1 => ?_)
  refine x_dup C (k_dg dt_L_law_0 1 3 (.dup) 1 rfl) rfl ?_
  refine x_callI C (b := k_h Z + q) (vs := []) (rest := [k_ra Z q]) (c_X11_init C.2.2.2.2.2.2.2.2.2 G.2.1 hLF q M1) cy_X11_init lk_RL_9 im_X11_init rfl (by decide) (by decide) (Nat.le_of_ble_eq_true rfl) (Nat.le_of_ble_eq_true rfl) rfl rfl (Nat.le_of_ble_eq_true rfl) (k_dg dt_L_law_0 2 4 (.invokespecial 9) 3 rfl) (fun r2 M2 => ?_)
  show Sm Z G emI _ _ _ [(0, Value.ref b)] [k_ra Z q] _ _
  refine x_astore_n C (lv' := [(1, k_ra Z q), (0, Value.ref b)]) (k_dg dt_L_law_0 3 7 (.astore_n 1) 1 rfl) (by decide) rfl ?_
  refine x_new0 C (kd := 10) (N := 53) (r := (RX12, TX12, 53)) (ty := tyX12) rfl (by decide) rfl rfl tyX12_ok df_10 iu_10 nw_RL_10.1 nw_RL_10.2.1 nw_RL_10.2.2 (Nat.le_of_ble_eq_true rfl) (Nat.le_of_ble_eq_true rfl) (k_dg dt_L_law_0 4 8 (.new 10) 3 rfl) (fun q2 M3 => ?_)
  refine x_dup C (k_dg dt_L_law_0 5 11 (.dup) 1 rfl) rfl ?_
  refine x_callI C (b := k_h Z + q2) (vs := []) (rest := [k_ra Z q2]) (c_X12_init C.2.2.2.2.2.2.2.2.2 G.2.1 q2 M3) cy_X12_init lk_RL_12 im_X12_init rfl (by decide) (by decide) (Nat.le_of_ble_eq_true rfl) (Nat.le_of_ble_eq_true rfl) rfl rfl (Nat.le_of_ble_eq_true rfl) (k_dg dt_L_law_0 6 12 (.invokespecial 12) 3 rfl) (fun r4 M4 => ?_)
  show Sm Z G emI _ _ _ [(1, k_ra Z q), (0, Value.ref b)] [k_ra Z q2] _ _
  refine x_astore_n C (lv' := [(2, k_ra Z q2), (1, k_ra Z q), (0, Value.ref b)]) (k_dg dt_L_law_0 7 15 (.astore_n 2) 1 rfl) (by decide) rfl ?_
  refine x_iconst C (v := 0) (k_dg dt_L_law_0 8 16 (.iconst 0) 1 rfl) (by decide) ?_
  refine x_istore_n C (lv' := [(3, Value.int 0), (2, k_ra Z q2), (1, k_ra Z q), (0, Value.ref b)]) (k_dg dt_L_law_0 9 17 (.istore_n 3) 1 rfl) (by decide) rfl ?_
  by_cases hq : q = 0 ∧ q2 = 76
  · rw [if_pos hq]
    obtain ⟨rfl, rfl⟩ := hq
    refine x_lv [3, 2, 1, 0] rfl ?_
    refine x_up ?_
    exact m_law (nm := nm) C hX 100 105 3145 (by omega) (by omega) 0 M4
  · rw [if_neg hq]
    exact x_none
theorem hasRoom_le {s : State} {pl : Platform} (h : s.hasRoom pl room_1 = true) : s.hasRoom pl (k_rm 1312 600000 7302250) = true := by
  unfold State.hasRoom at h ⊢
  simp only [Bool.and_eq_true] at h ⊢
  obtain ⟨⟨⟨⟨a1, a2⟩, a7⟩, a8⟩, a9⟩ := h
  have a1' : s.localsInUse + 84000 + stackMargin ≤ realStackBytes / 8 := of_decide_eq_true a1
  have a2' : s.frames.length + 2048 ≤ pl.maxFrames ∧ s.frames.length + 2048 ≤ (pl.stackLimits s.me).1 ∧ s.localsInUse + 84000 ≤ pl.maxStackSlots ∧ s.localsInUse + 84000 ≤ (pl.stackLimits s.me).2 ∧ s.me.stackBytes = 0 := of_decide_eq_true a2
  refine ⟨⟨⟨⟨decide_eq_true ?_, decide_eq_true ?_⟩, a7⟩, a8⟩, a9⟩
  · show s.localsInUse + 64 * 1312 + stackMargin ≤ realStackBytes / 8
    omega
  · show s.frames.length + 1312 ≤ pl.maxFrames ∧ s.frames.length + 1312 ≤ (pl.stackLimits s.me).1 ∧ s.localsInUse + 64 * 1312 ≤ pl.maxStackSlots ∧ s.localsInUse + 64 * 1312 ≤ (pl.stackLimits s.me).2 ∧ s.me.stackBytes = 0
    obtain ⟨c1, c2, c3, c4, c5⟩ := a2'
    exact ⟨by omega, by omega, by omega, by omega, c5⟩
/-- THE CLAIM OUT OF THE PURE LAYER -/
theorem start_W {p : Program} {l : Launch} {e : Env} {s : State} {m : MethodId} {below : List Frame} {meth : Method} {c : Code} {b L : Nat} {xs : Nat → Int32} (Z : k_Z) (hZ : Z.1 = s) (hg : k_Gd Z) (hLF : k_LF Z) (hx : p.tables.exec = Jvm.exec) (hb : c.code = code) (hr : meth.sig.returnType = ret) (hml : c.maxLocals = 4) (hown : s.vm.findClass RL = some m.cls) (hX : va_X b L xs s s.heap) (hlocks : meth.locks = false) (hf : ∃ M1, f_start L xs M0 = some (1, M1)) :
    W p l e room_1 s m #[Value.ref b] below meth c s.heap [] 0 0 (fun t => ∃ o, t.status = .running ∧ Ended t below o ∧ o = .returned (some (.int 1)) ∧ Framed s o t [] 600000 7302250) (entryFrame m ([Value.ref b] : List Value).toArray 4) := by
  obtain ⟨M1, hf⟩ := hf
  subst hZ
  have C : k_C Z (p, l, e, k_rm 1312 600000 7302250, Z.1, m, #[Value.ref b], below, meth, c) RL cL_law (false, 4, 1312, 600000, 7302250) (some .boolean) meth.name := ⟨hx, hb, hml, hown, State.WarmedH.refl Z.1, hr, hlocks, rfl, rfl, hg⟩
  have hl := lv_entry [Value.ref b] (n := 4) (Nat.le_of_ble_eq_true rfl)
  have key := m_start C hLF hX M0 1 M1 hf Z.1.heap [] _ hl ⟨⟨rfl, fun _ _ => rfl, fun k hk => absurd hk (Nat.not_lt_zero k)⟩, fun h => by cases h⟩ (fun q hq => by cases hq)
  rw [lg_entry_eq]
  intro T hT X
  obtain ⟨t, a1, oc, b1, b2, ⟨b3, b4⟩, Lc, ⟨hv, hw, hs⟩, hfr⟩ := key T hT ⟨X.admits, X.cas, X.clock, X.frames, hasRoom_le X.room, X.hears, X.method, X.code, X.here, X.tail, X.warmed, X.limits, X.bytes, X.same⟩
  exact ⟨t, a1, oc, b1, b2, b3, hv, hw, hs.weaken (fun y hy hlt => absurd hlt (Nat.not_lt.mpr (hfr y hy))) (Nat.le_refl _) (Nat.le_refl _)⟩
