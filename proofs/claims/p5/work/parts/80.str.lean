/-! one text of the class's constants, as the JDK's own methods read it: its length is known, its bytes are any -/
def TZ1 (q t N : Nat) (f : Nat → Int32) (A : Nat → Prop) (U : State) (H : Heap) : Prop := va_O "java/lang/String" q A U H ∧ va_OF "java/lang/String" "coder" "B" (.int 0) q A U H ∧ va_OF "java/lang/String" "value" "[B" (.ref t) q A U H ∧ va_T .byte t N (fun j => .int (f j)) A U H ∧ va_Z "java/lang/String" "COMPACT_STRINGS" "Z" (.int 1) A U H ∧ va_Zq "jdk/internal/util/Preconditions" "SIOOBE_FORMATTER" "Ljava/util/function/BiFunction;" A U H
theorem TZ1.moved {q t N : Nat} {f : Nat → Int32} {A : Nat → Prop} {u U : State} {H : Heap} (hvm : u.vm.Alike U.vm) (h : TZ1 q t N f A u H) : TZ1 q t N f A U H := by
  obtain ⟨h1, h2, h3, h4, h5, h6⟩ := h
  exact ⟨va_O.moved hvm h1, va_OF.moved hvm h2, va_OF.moved hvm h3, va_T.moved hvm h4, va_Z.moved hvm h5, va_Zq.moved hvm h6⟩
theorem TZ1.kept {q t N : Nat} {f : Nat → Int32} {A : Nat → Prop} {U : State} {H H1 : Heap} (h : TZ1 q t N f A U H) (hq : ∀ a : Nat, a < H.size → ¬ A a → H1[a]? = H[a]?) : TZ1 q t N f A U H1 := by
  obtain ⟨h1, h2, h3, h4, h5, h6⟩ := h
  exact ⟨h1.kept hq, h2.kept hq, h3.kept hq, h4.kept hq, h5.kept hq, h6.kept hq⟩
theorem TZ1.narrow {q t N : Nat} {f : Nat → Int32} {A B : Nat → Prop} {U : State} {H : Heap} (h : TZ1 q t N f A U H) (hAB : ∀ q, B q → A q) : TZ1 q t N f B U H := by
  obtain ⟨h1, h2, h3, h4, h5, h6⟩ := h
  exact ⟨h1.narrow hAB, h2.narrow hAB, h3.narrow hAB, h4.narrow hAB, h5.narrow hAB, h6.narrow hAB⟩
theorem TZ1.same {q t N : Nat} {f : Nat → Int32} {A : Nat → Prop} {u U : State} {H : Heap} (h : TZ1 q t N f A u H) (hv : u.vm = U.vm) : TZ1 q t N f A U H := h.moved (by rw [hv]; exact Vm.Alike.refl _)
theorem TZ1.warm {q t N : Nat} {f : Nat → Int32} {A B : Nat → Prop} {s U : State} {H0 H : Heap} {locs : List Loc} (hW : s.WarmedH U.vm) (h : TZ1 q t N f A s H0) (hS : va_S A H0 H locs) (hB : ∀ q, B q → A q) : TZ1 q t N f B U H := ((h.moved hW.alike).kept (fun a x y => hS.2.1 a x y)).narrow hB
def TZR (own : String) (k : Nat) (tx : String) (q t N : Nat) (f : Nat → Int32) (A : Nat → Prop) (U : State) (H : Heap) : Prop := vk_R own k tx q U ∧ TZ1 q t N f A U H
theorem TZR.same {own tx : String} {k q t N : Nat} {f : Nat → Int32} {A : Nat → Prop} {u U : State} {H : Heap} (h : TZR own k tx q t N f A u H) (hv : u.vm = U.vm) : TZR own k tx q t N f A U H := ⟨vk_R.same hv.symm h.1, h.2.same hv⟩
theorem TZR.warm {own tx : String} {k q t N : Nat} {f : Nat → Int32} {A B : Nat → Prop} {s U : State} {H0 H : Heap} {locs : List Loc} (hW : s.WarmedH U.vm) (h : TZR own k tx q t N f A s H0) (hS : va_S A H0 H locs) (hB : ∀ q, B q → A q) : TZR own k tx q t N f B U H := ⟨vk_R.warm hW h.1, h.2.warm hW hS hB⟩
/-- all the texts that the class reads -/
def TZA (aQ aT : Nat → Nat) (aF : Nat → Nat → Int32) (A : Nat → Prop) (U : State) (H : Heap) : Prop := TZR RX8 124 "general" (aQ 0) (aT 0) 7 (aF 0) A U H ∧ TZR RX8 130 "am/pm" (aQ 1) (aT 1) 5 (aF 1) A U H ∧ TZR RX8 132 "a/p" (aQ 2) (aT 2) 3 (aF 2) A U H ∧ TZR RX8 62 "!$&'()*+-:<=>^{|}~ " (aQ 3) (aT 3) 19 (aF 3) A U H ∧ TZR RX0 25 "########" (aQ 4) (aT 4) 8 (aF 4) A U H ∧ TZR RX0 155 "January February March April May June July August September October November December " (aQ 5) (aT 5) 86 (aF 5) A U H ∧ TZR RX0 166 "Sunday Monday Tuesday Wednesday Thursday Friday Saturday " (aQ 6) (aT 6) 57 (aF 6) A U H
theorem TZA.same {aQ aT : Nat → Nat} {aF : Nat → Nat → Int32} {A : Nat → Prop} {u U : State} {H : Heap} (h : TZA aQ aT aF A u H) (hv : u.vm = U.vm) : TZA aQ aT aF A U H := by
  obtain ⟨h0, h1, h2, h3, h4, h5, h6⟩ := h
  exact ⟨h0.same hv, h1.same hv, h2.same hv, h3.same hv, h4.same hv, h5.same hv, h6.same hv⟩
theorem TZA.warm {aQ aT : Nat → Nat} {aF : Nat → Nat → Int32} {A B : Nat → Prop} {s U : State} {H0 H : Heap} {locs : List Loc} (hW : s.WarmedH U.vm) (h : TZA aQ aT aF A s H0) (hS : va_S A H0 H locs) (hB : ∀ q, B q → A q) : TZA aQ aT aF B U H := by
  obtain ⟨h0, h1, h2, h3, h4, h5, h6⟩ := h
  exact ⟨h0.warm hW hS hB, h1.warm hW hS hB, h2.warm hW hS hB, h3.warm hW hS hB, h4.warm hW hS hB, h5.warm hW hS hB, h6.warm hW hS hB⟩
