/-! ===== the pure layer: the memory behind the constructors ===== -/
def oInit : Option k_M := nwO M0 9 0 (fun q M1 => bd (f_X11_init q M1) (fun _ M2 => nwO M2 10 0 (fun q2 M3 => bd (f_X12_init q2 M3) (fun _ M4 => if q = 0 ∧ q2 = 76 then some M4 else none))))
def MI : k_M := oInit.getD M0
theorem oInit_some : oInit.isSome = true := by decide +kernel
theorem MI_sh : kShb MI = true := by decide +kernel
theorem MI_n : MI.2.2.2 = 105 := by decide +kernel
theorem if_bind {α β : Type} {c : Prop} [Decidable c] {o : Option α} {f : α → Option β} : (if c then o else none).bind f = if c then o.bind f else none := by
  split <;> rfl
theorem bd_bind {α β γ : Type} {o : Option (α × k_M)} {k : α → k_M → Option β} {f : β → Option γ} : (bd o k).bind f = bd o (fun a M => (k a M).bind f) := by
  cases o <;> rfl
theorem nwO_bind {β γ : Type} {M : k_M} {kd n : Nat} {k : Nat → k_M → Option β} {f : β → Option γ} : (nwO M kd n k).bind f = nwO M kd n (fun q M1 => (k q M1).bind f) := by
  unfold nwO
  exact if_bind
theorem f_start_eq (L : Nat) (xs : Nat → Int32) : f_start L xs M0 = f_law L xs 100 0 MI := by
  have e : f_start L xs M0 = oInit.bind (fun M4 => upS M4 (f_law L xs 100 0 M4)) := by
    unfold f_start oInit
    rw [nwO_bind]
    congr 1
    funext q M1
    rw [bd_bind]
    congr 1
    funext _ M2
    rw [nwO_bind]
    congr 1
    funext q2 M3
    rw [bd_bind]
    congr 1
    funext _ M4
    rw [if_bind]
    rfl
  rw [e]
  have h := oInit_some
  have hs := MI_sh
  unfold MI at hs ⊢
  cases ho : oInit with
  | none => rw [ho] at h; cases h
  | some M4 =>
    rw [ho] at hs
    show upS M4 (f_law L xs 100 0 M4) = _
    unfold upS
    exact if_pos hs
