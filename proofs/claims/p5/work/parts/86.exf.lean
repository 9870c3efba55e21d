/-! what the two exceptions of the class want: 'format' throws iaE, 'show' and 'showText' throw isE -/
def iaE : String := "java/lang/IllegalArgumentException"
def xfL : List Cond := (vx_atS RX11 84 iaE isN).filter (fun w => !goodWord w)
theorem xfL_ok : ∀ w ∈ xfL, w.onTables = true ∧ w.keepsFace = true := by decide +kernel
def XF (U : State) : Prop := ∀ w ∈ xfL, w.before #[] U = true
theorem XF.same {u U : State} (h : XF u) (hv : u.vm = U.vm) : XF U := fun w hw => va_tabs (xfL_ok w hw).1 hv (h w hw)
theorem XF.warm {s U : State} (hW : s.WarmedH U.vm) (h : XF s) : XF U := fun w hw => va_tabs (xfL_ok w hw).1 (rfl : (s.setVm U.vm).vm = U.vm) (Cond.before_shiftedFace (State.Shifted.of_warmed hW) w (xfL_ok w hw).2 (h w hw))
def xhL : List Cond := (vx_atS RX11 84 iaE isN).filter goodWord
theorem exf_m : ∀ w ∈ xhL, w ∈ lw_tbl := by decide +kernel
theorem exf_k : ∀ w ∈ xhL, goodWord w = true := fun w h => (List.mem_filter.mp h).2
theorem exf_g : ∀ w ∈ Cond.classLink RX11 80 iaE :: Cond.initialized iaE :: vx_atS RX11 84 iaE isN, vx_ot w = true := by decide +kernel
theorem exf_hat {args : Array Value} {s : State} (h1 : ∀ w ∈ xhL, w.before args s = true) (h : XF s) : ∀ w ∈ vx_atS RX11 84 iaE isN, w.before args s = true :=
  vx_hat (B := xfL) h1 (fun w hw => hw) (fun w hw => va_tabs (xfL_ok w hw).1 rfl (h w hw))
/-- both: the two texts, what every throw reads, the two handlers' casts -/
def EXB (sa sb : Nat) (A : Nat → Prop) (U : State) (H : Heap) : Prop := vk_R RX11 97 "there is no format" sa U ∧ vk_R RX11 82 "the text is no format" sb U ∧ vx_Zq Jvm.Bundle.tN "UNASSIGNED_STACK" Jvm.Bundle.steD A U H ∧ vx_Zq Jvm.Bundle.tN "SUPPRESSED_SENTINEL" Jvm.Bundle.listD A U H ∧ va_Nw (.castable isE isE) U ∧ va_Nw (.castable iaE iaE) U ∧ XW U ∧ XF U
theorem EXB.same {A : Nat → Prop} {sa sb : Nat} {u U : State} {H : Heap} (h : EXB sa sb A u H) (hv : u.vm = U.vm) : EXB sa sb A U H := by
  obtain ⟨h1, h2, h3, h4, h5, h6, h7, h8⟩ := h
  have ha : u.vm.Alike U.vm := by rw [hv]; exact Vm.Alike.refl _
  exact ⟨vk_R.same hv.symm h1, vk_R.same hv.symm h2, vx_Zq.moved ha h3, vx_Zq.moved ha h4, va_Nw.same rfl hv h5, va_Nw.same rfl hv h6, h7.same hv, h8.same hv⟩
theorem EXB.warm {A B : Nat → Prop} {sa sb : Nat} {s U : State} {H0 H : Heap} {locs : List Loc} (hW : s.WarmedH U.vm) (h : EXB sa sb A s H0) (hS : va_S A H0 H locs) (hB : ∀ q, B q → A q) : EXB sa sb B U H := by
  obtain ⟨h1, h2, h3, h4, h5, h6, h7, h8⟩ := h
  exact ⟨vk_R.warm hW h1, vk_R.warm hW h2, ((vx_Zq.moved hW.alike h3).kept (fun a x y => hS.2.1 a x y)).narrow hB, ((vx_Zq.moved hW.alike h4).kept (fun a x y => hS.2.1 a x y)).narrow hB, va_Nw.warmC hW h5, va_Nw.warmC hW h6, h7.warm hW, h8.warm hW⟩
/-- all that the class reads and doesn't write: its texts, and what its throws want -/
def TZX (aQ aT : Nat → Nat) (aF : Nat → Nat → Int32) (sa sb : Nat) (A : Nat → Prop) (U : State) (H : Heap) : Prop := TZA aQ aT aF A U H ∧ EXB sa sb A U H
theorem TZX.same {aQ aT : Nat → Nat} {aF : Nat → Nat → Int32} {sa sb : Nat} {A : Nat → Prop} {u U : State} {H : Heap} (h : TZX aQ aT aF sa sb A u H) (hv : u.vm = U.vm) : TZX aQ aT aF sa sb A U H := ⟨h.1.same hv, h.2.same hv⟩
theorem TZX.warm {aQ aT : Nat → Nat} {aF : Nat → Nat → Int32} {sa sb : Nat} {A B : Nat → Prop} {s U : State} {H0 H : Heap} {locs : List Loc} (hW : s.WarmedH U.vm) (h : TZX aQ aT aF sa sb A s H0) (hS : va_S A H0 H locs) (hB : ∀ q, B q → A q) : TZX aQ aT aF sa sb B U H := ⟨h.1.warm hW hS hB, h.2.warm hW hS hB⟩
