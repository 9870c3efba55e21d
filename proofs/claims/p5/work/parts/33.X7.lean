def ow_X7_decimal : List Cond := [Cond.fieldLink RX7 12 "NumberFormats$Pen" "decimal" "LNumberFormats$Decimal;"]
def pw_X7_decimal : List Cond := Cond.code yX7_decimal cX7_decimal 1 (some (.object "NumberFormats$Decimal")) :: (ow_X7_decimal ++ (wsX70))
set_option maxRecDepth 20000 in
theorem mo_X7_decimal : ∀ w ∈ ow_X7_decimal, w ∈ lw_tbl := by decide +kernel
set_option maxRecDepth 20000 in
theorem mc_X7_decimal : Cond.code yX7_decimal cX7_decimal 1 (some (.object "NumberFormats$Decimal")) ∈ lw_tbl := by decide +kernel
theorem m_X7_decimal : ∀ w ∈ pw_X7_decimal, w ∈ lw_tbl := List.forall_mem_cons.mpr ⟨mc_X7_decimal, (List.forall_mem_append.mpr ⟨mo_X7_decimal, inX7⟩)⟩
theorem ko_X7_decimal : ∀ w ∈ ow_X7_decimal, goodWord w = true := by decide +kernel
theorem k_X7_decimal : pw_X7_decimal.all goodWord = true := List.all_eq_true.mpr (List.forall_mem_cons.mpr ⟨by decide +kernel, (List.forall_mem_append.mpr ⟨ko_X7_decimal, kX_X7⟩)⟩)
set_option maxHeartbeats 400000 in
set_option maxRecDepth 100000 in
theorem c_X7_decimal (l : Launch) (D : va_G) (cI cD cJ : ClassId) (sz : Nat) (pe : Nat) (pe_decimal : Nat) (pe_row : Nat) (pe_turned : Nat) (pe_length : Int32) (pe_slots : Int32) (pe_slotsPut : Int32) (pe_hidden : Int32) (pe_zeroSeen : Int32) (pe_groups : Int32) : Met l yX7_decimal pw_X7_decimal ({ frames := 0, cells := 0, slots := 0, locals := 0 }) (va_Pc [.ref pe] (fun U => va_P D vwCl [(pe, .inr (5, [.ref pe_decimal, .ref pe_row, .ref pe_turned, .int pe_length, .int pe_slots, .int pe_slotsPut, .int pe_hidden, .int pe_zeroSeen, .int pe_groups]))] U.heap ∧ va_K D vwCl (ty3 cI cD cJ) U)) (va_Qr (fun (_ : Unit) => True) (fun _ (ra : Nat) _ => pe_decimal = ra) (fun _ => False)) 0 0 (fun _ => False) := by
  refine Met.ofW (cc := cX7_decimal) (maxL := 1) (ret := (some (.object "NumberFormats$Decimal"))) (by decide +kernel) rfl ?_
  intro p e s m args below meth c s₁ B hml hv
  obtain ⟨rfl, hP, hK⟩ := hv
  have hx := B.exec
  have hb := B.bytes
  have hr := B.returns
  have hts := atoms_spec (ws := pw_X7_decimal) B.pre
  have hown : s.vm.findClass RX7 = some m.cls := findClass_of_methodNamed B.named
  have hlocks := B.notSynchronized
  have hS : va_S (fun _ => False) s.heap s.heap [] := va_S.rf
  have hw : ∀ (k : Nat) (w : Cond), ow_X7_decimal[k]? = some w → w.before _ s = true := fun k w h => hts w (List.mem_cons_of_mem _ (have h9 := List.mem_of_getElem? h; List.mem_append_left _ h9))
  have iX7 : ∀ w ∈ u_ws RX7 TX7 9, w ∈ pw_X7_decimal := fun w h9 => List.mem_cons_of_mem _ (List.mem_append_right _ (h9))
  have hl := lv_entry ([.ref pe]) (n := 1) (Nat.le_of_ble_eq_true rfl)
  rw [lg_entry_eq]
  generalize (lg_sl ([.ref pe]) ++ List.replicate (1 - (lg_sl ([.ref pe])).length) Slot.unset).toArray = ls at hl ⊢
  have hl : lv_has ls 1 [(0, .ref pe)] := hl
  refine lv_aload_n hx hb dX7_decimal_0 rfl (lv_at hl 0 rfl) ?_
  refine va_get (D := D) (ci := 5) (v := .ref pe_decimal) (C := RX7) (T := TX7) (N := 9) hx hb hts iX7 hown hK hP 0 rfl rfl 0 (by decide) (hw 0 (.fieldLink RX7 12 "NumberFormats$Pen" "decimal" "LNumberFormats$Decimal;") rfl) (fun _ h9 => h9) rfl dX7_decimal_1 ?_
  exact W.aret (v := .ref pe_decimal) hx hb hr (Or.inl ⟨_, rfl⟩) (Or.inr ⟨_, rfl⟩) (fun t ht hW => ⟨⟨(), pe_decimal, rfl, trivial, rfl⟩, hS.F ht⟩) hS.2.2 dX7_decimal_4

def ow_X7_clear : List Cond := [Cond.fieldLink RX7 25 "NumberFormats$Pen" "length" "I"]
def pw_X7_clear : List Cond := Cond.code yX7_clear cX7_clear 1 none :: (ow_X7_clear ++ (wsX70))
set_option maxRecDepth 20000 in
theorem mo_X7_clear : ∀ w ∈ ow_X7_clear, w ∈ lw_tbl := by decide +kernel
set_option maxRecDepth 20000 in
theorem mc_X7_clear : Cond.code yX7_clear cX7_clear 1 none ∈ lw_tbl := by decide +kernel
theorem m_X7_clear : ∀ w ∈ pw_X7_clear, w ∈ lw_tbl := List.forall_mem_cons.mpr ⟨mc_X7_clear, (List.forall_mem_append.mpr ⟨mo_X7_clear, inX7⟩)⟩
theorem ko_X7_clear : ∀ w ∈ ow_X7_clear, goodWord w = true := by decide +kernel
theorem k_X7_clear : pw_X7_clear.all goodWord = true := List.all_eq_true.mpr (List.forall_mem_cons.mpr ⟨by decide +kernel, (List.forall_mem_append.mpr ⟨ko_X7_clear, kX_X7⟩)⟩)
set_option maxHeartbeats 400000 in
set_option maxRecDepth 100000 in
theorem c_X7_clear (l : Launch) (D : va_G) (cI cD cJ : ClassId) (sz : Nat) (pe : Nat) (pe_decimal : Nat) (pe_row : Nat) (pe_turned : Nat) (pe_length : Int32) (pe_slots : Int32) (pe_slotsPut : Int32) (pe_hidden : Int32) (pe_zeroSeen : Int32) (pe_groups : Int32) (iv_pe_length : 0 ≤ (pe_length : Int32).toInt ∧ (pe_length : Int32).toInt ≤ 1024) (iv_pe_slots : 0 ≤ (pe_slots : Int32).toInt ∧ (pe_slots : Int32).toInt ≤ 256) (iv_pe_zeroSeen : (pe_zeroSeen : Int32).toInt = 0 ∨ (pe_zeroSeen : Int32).toInt = 1) (iv_pe_groups : (pe_groups : Int32).toInt = 0 ∨ (pe_groups : Int32).toInt = 1) : Met l yX7_clear pw_X7_clear ({ frames := 0, cells := 0, slots := 0, locals := 0 }) (va_Pc [.ref pe] (fun U => U.heap.size = sz ∧ va_P D vwCl [(pe, .inr (5, [.ref pe_decimal, .ref pe_row, .ref pe_turned, .int pe_length, .int pe_slots, .int pe_slotsPut, .int pe_hidden, .int pe_zeroSeen, .int pe_groups]))] U.heap ∧ va_K D vwCl (ty3 cI cD cJ) U ∧ va_D (fun _ => True) [(pe, .inr (5, [.ref pe_decimal, .ref pe_row, .ref pe_turned, .int pe_length, .int pe_slots, .int pe_slotsPut, .int pe_hidden, .int pe_zeroSeen, .int pe_groups]))])) (va_Qv (fun (pe_length2 : Int32) => (0 ≤ (pe_length2 : Int32).toInt ∧ (pe_length2 : Int32).toInt ≤ 1024)) (fun (pe_length2 : Int32) (t : State) => va_P D vwCl [(pe, .inr (5, [.ref pe_decimal, .ref pe_row, .ref pe_turned, .int pe_length2, .int pe_slots, .int pe_slotsPut, .int pe_hidden, .int pe_zeroSeen, .int pe_groups]))] t.heap ∧ va_K D vwCl (ty3 cI cD cJ) t ∧ va_D (va_A [(pe, .inr (5, [.ref pe_decimal, .ref pe_row, .ref pe_turned, .int pe_length, .int pe_slots, .int pe_slotsPut, .int pe_hidden, .int pe_zeroSeen, .int pe_groups]))] sz) [(pe, .inr (5, [.ref pe_decimal, .ref pe_row, .ref pe_turned, .int pe_length2, .int pe_slots, .int pe_slotsPut, .int pe_hidden, .int pe_zeroSeen, .int pe_groups]))]) (va_A [(pe, .inr (5, [.ref pe_decimal, .ref pe_row, .ref pe_turned, .int pe_length, .int pe_slots, .int pe_slotsPut, .int pe_hidden, .int pe_zeroSeen, .int pe_groups]))] sz)) 0 0 (va_A [(pe, .inr (5, [.ref pe_decimal, .ref pe_row, .ref pe_turned, .int pe_length, .int pe_slots, .int pe_slotsPut, .int pe_hidden, .int pe_zeroSeen, .int pe_groups]))] sz) := by
  refine Met.ofW (cc := cX7_clear) (maxL := 1) (ret := none) (by decide +kernel) rfl ?_
  intro p e s m args below meth c s₁ B hml hv
  obtain ⟨rfl, hsz, hP, hK, hD0⟩ := hv
  have hx := B.exec
  have hb := B.bytes
  have hr := B.returns
  have hts := atoms_spec (ws := pw_X7_clear) B.pre
  have hown : s.vm.findClass RX7 = some m.cls := findClass_of_methodNamed B.named
  have hlocks := B.notSynchronized
  subst hsz
  have hD := hD0.self (sz := s.heap.size)
  generalize hAe : va_A [(pe, .inr (5, [.ref pe_decimal, .ref pe_row, .ref pe_turned, .int pe_length, .int pe_slots, .int pe_slotsPut, .int pe_hidden, .int pe_zeroSeen, .int pe_groups]))] s.heap.size = A at hD ⊢
  have hA : ∀ q : Nat, s.heap.size ≤ q → A q := fun q h => by rw [← hAe]; exact Or.inr h
  have hS : va_S A s.heap s.heap [] := va_S.rf
  have hw : ∀ (k : Nat) (w : Cond), ow_X7_clear[k]? = some w → w.before _ s = true := fun k w h => hts w (List.mem_cons_of_mem _ (have h9 := List.mem_of_getElem? h; List.mem_append_left _ h9))
  have iX7 : ∀ w ∈ u_ws RX7 TX7 9, w ∈ pw_X7_clear := fun w h9 => List.mem_cons_of_mem _ (List.mem_append_right _ (h9))
  have n_0 : ((0 : Int32)).toInt = 0 := by decide
  have hl := lv_entry ([.ref pe]) (n := 1) (Nat.le_of_ble_eq_true rfl)
  rw [lg_entry_eq]
  generalize (lg_sl ([.ref pe]) ++ List.replicate (1 - (lg_sl ([.ref pe])).length) Slot.unset).toArray = ls at hl ⊢
  have hl : lv_has ls 1 [(0, .ref pe)] := hl
  refine lv_aload_n hx hb dX7_clear_0 rfl (lv_at hl 0 rfl) ?_
  refine lv_iconst (v := 0) hx hb dX7_clear_1 (by decide) ?_
  refine va_put (D := D) (ci := 5) (v := .int 0) (ty := .int) (C := RX7) (T := TX7) (N := 9) hx hb hts iX7 tyX7 tyX7_ok nmX7 hown hK hP hD hS 0 rfl rfl 3 (by decide) (hw 0 (.fieldLink RX7 25 "NumberFormats$Pen" "length" "I") rfl) (fun _ h9 => h9) rfl (by decide +kernel) rfl rfl (Nat.le_of_ble_eq_true rfl) dX7_clear_2 (fun H locs hP hD hS => ?_)
  have hP : va_P D vwCl [(pe, .inr (5, [.ref pe_decimal, .ref pe_row, .ref pe_turned, .int 0, .int pe_slots, .int pe_slotsPut, .int pe_hidden, .int pe_zeroSeen, .int pe_groups]))] H := hP
  have hD : va_D A [(pe, .inr (5, [.ref pe_decimal, .ref pe_row, .ref pe_turned, .int 0, .int pe_slots, .int pe_slotsPut, .int pe_hidden, .int pe_zeroSeen, .int pe_groups]))] := hD
  have hP9 := hP.sub (ws' := [(pe, .inr (5, [.ref pe_decimal, .ref pe_row, .ref pe_turned, .int 0, .int pe_slots, .int pe_slotsPut, .int pe_hidden, .int pe_zeroSeen, .int pe_groups]))]) [0] rfl
  have hD9 := hD.sub (ws' := [(pe, .inr (5, [.ref pe_decimal, .ref pe_row, .ref pe_turned, .int 0, .int pe_slots, .int pe_slotsPut, .int pe_hidden, .int pe_zeroSeen, .int pe_groups]))]) [0] (by decide) rfl
  exact W.vret hx hb hr (fun t ht hW => ⟨⟨(0), rfl, (by (try dsimp only); first | omega | assumption), by rw [ht]; exact hP9, va_K.moved hW.alike hK, hD9⟩, hS.F ht⟩) hS.2.2 dX7_clear_5

def ow_X7_length : List Cond := [Cond.fieldLink RX7 25 "NumberFormats$Pen" "length" "I"]
def pw_X7_length : List Cond := Cond.code yX7_length cX7_length 1 (some .int) :: (ow_X7_length ++ (wsX70))
set_option maxRecDepth 20000 in
theorem mo_X7_length : ∀ w ∈ ow_X7_length, w ∈ lw_tbl := by decide +kernel
set_option maxRecDepth 20000 in
theorem mc_X7_length : Cond.code yX7_length cX7_length 1 (some .int) ∈ lw_tbl := by decide +kernel
theorem m_X7_length : ∀ w ∈ pw_X7_length, w ∈ lw_tbl := List.forall_mem_cons.mpr ⟨mc_X7_length, (List.forall_mem_append.mpr ⟨mo_X7_length, inX7⟩)⟩
theorem ko_X7_length : ∀ w ∈ ow_X7_length, goodWord w = true := by decide +kernel
theorem k_X7_length : pw_X7_length.all goodWord = true := List.all_eq_true.mpr (List.forall_mem_cons.mpr ⟨by decide +kernel, (List.forall_mem_append.mpr ⟨ko_X7_length, kX_X7⟩)⟩)
set_option maxHeartbeats 400000 in
set_option maxRecDepth 100000 in
theorem c_X7_length (l : Launch) (D : va_G) (cI cD cJ : ClassId) (sz : Nat) (pe : Nat) (pe_decimal : Nat) (pe_row : Nat) (pe_turned : Nat) (pe_length : Int32) (pe_slots : Int32) (pe_slotsPut : Int32) (pe_hidden : Int32) (pe_zeroSeen : Int32) (pe_groups : Int32) (iv_pe_length : 0 ≤ (pe_length : Int32).toInt ∧ (pe_length : Int32).toInt ≤ 1024) (iv_pe_slots : 0 ≤ (pe_slots : Int32).toInt ∧ (pe_slots : Int32).toInt ≤ 256) (iv_pe_zeroSeen : (pe_zeroSeen : Int32).toInt = 0 ∨ (pe_zeroSeen : Int32).toInt = 1) (iv_pe_groups : (pe_groups : Int32).toInt = 0 ∨ (pe_groups : Int32).toInt = 1) : Met l yX7_length pw_X7_length ({ frames := 0, cells := 0, slots := 0, locals := 0 }) (va_Pc [.ref pe] (fun U => va_P D vwCl [(pe, .inr (5, [.ref pe_decimal, .ref pe_row, .ref pe_turned, .int pe_length, .int pe_slots, .int pe_slotsPut, .int pe_hidden, .int pe_zeroSeen, .int pe_groups]))] U.heap ∧ va_K D vwCl (ty3 cI cD cJ) U)) (va_Qi (fun (r : Int32) (u : Unit) => True) (fun _ _ => True) (fun _ => False)) 0 0 (fun _ => False) := by
  refine Met.ofW (cc := cX7_length) (maxL := 1) (ret := (some .int)) (by decide +kernel) rfl ?_
  intro p e s m args below meth c s₁ B hml hv
  obtain ⟨rfl, hP, hK⟩ := hv
  have hx := B.exec
  have hb := B.bytes
  have hr := B.returns
  have hts := atoms_spec (ws := pw_X7_length) B.pre
  have hown : s.vm.findClass RX7 = some m.cls := findClass_of_methodNamed B.named
  have hlocks := B.notSynchronized
  have hS : va_S (fun _ => False) s.heap s.heap [] := va_S.rf
  have hw : ∀ (k : Nat) (w : Cond), ow_X7_length[k]? = some w → w.before _ s = true := fun k w h => hts w (List.mem_cons_of_mem _ (have h9 := List.mem_of_getElem? h; List.mem_append_left _ h9))
  have iX7 : ∀ w ∈ u_ws RX7 TX7 9, w ∈ pw_X7_length := fun w h9 => List.mem_cons_of_mem _ (List.mem_append_right _ (h9))
  have hl := lv_entry ([.ref pe]) (n := 1) (Nat.le_of_ble_eq_true rfl)
  rw [lg_entry_eq]
  generalize (lg_sl ([.ref pe]) ++ List.replicate (1 - (lg_sl ([.ref pe])).length) Slot.unset).toArray = ls at hl ⊢
  have hl : lv_has ls 1 [(0, .ref pe)] := hl
  refine lv_aload_n hx hb dX7_length_0 rfl (lv_at hl 0 rfl) ?_
  refine va_get (D := D) (ci := 5) (v := .int pe_length) (C := RX7) (T := TX7) (N := 9) hx hb hts iX7 hown hK hP 0 rfl rfl 3 (by decide) (hw 0 (.fieldLink RX7 25 "NumberFormats$Pen" "length" "I") rfl) (fun _ h9 => h9) rfl dX7_length_1 ?_
  exact W.iret (v := pe_length) hx hb hr (fun t ht hW => ⟨⟨pe_length, (), rfl, trivial, trivial⟩, hS.F ht⟩) hS.2.2 dX7_length_4

def ow_X7_at : List Cond := [Cond.fieldLink RX7 25 "NumberFormats$Pen" "length" "I", Cond.fieldLink RX7 18 "NumberFormats$Pen" "row" "[I"]
def pw_X7_at : List Cond := Cond.code yX7_at cX7_at 2 (some .int) :: (ow_X7_at ++ (wsX70))
set_option maxRecDepth 20000 in
theorem mo_X7_at : ∀ w ∈ ow_X7_at, w ∈ lw_tbl := by decide +kernel
set_option maxRecDepth 20000 in
theorem mc_X7_at : Cond.code yX7_at cX7_at 2 (some .int) ∈ lw_tbl := by decide +kernel
theorem m_X7_at : ∀ w ∈ pw_X7_at, w ∈ lw_tbl := List.forall_mem_cons.mpr ⟨mc_X7_at, (List.forall_mem_append.mpr ⟨mo_X7_at, inX7⟩)⟩
theorem ko_X7_at : ∀ w ∈ ow_X7_at, goodWord w = true := by decide +kernel
theorem k_X7_at : pw_X7_at.all goodWord = true := List.all_eq_true.mpr (List.forall_mem_cons.mpr ⟨by decide +kernel, (List.forall_mem_append.mpr ⟨ko_X7_at, kX_X7⟩)⟩)
set_option maxHeartbeats 400000 in
set_option maxRecDepth 100000 in
theorem c_X7_at (l : Launch) (D : va_G) (cI cD cJ : ClassId) (sz : Nat) (pe : Nat) (pe_decimal : Nat) (pe_row : Nat) (pe_turned : Nat) (pe_length : Int32) (pe_slots : Int32) (pe_slotsPut : Int32) (pe_hidden : Int32) (pe_zeroSeen : Int32) (pe_groups : Int32) (pe_rowF : Nat → Int32) (p1 : Int32) (iv_pe_length : 0 ≤ (pe_length : Int32).toInt ∧ (pe_length : Int32).toInt ≤ 1024) (iv_pe_slots : 0 ≤ (pe_slots : Int32).toInt ∧ (pe_slots : Int32).toInt ≤ 256) (iv_pe_zeroSeen : (pe_zeroSeen : Int32).toInt = 0 ∨ (pe_zeroSeen : Int32).toInt = 1) (iv_pe_groups : (pe_groups : Int32).toInt = 0 ∨ (pe_groups : Int32).toInt = 1) : Met l yX7_at pw_X7_at ({ frames := 0, cells := 0, slots := 0, locals := 0 }) (va_Pc [.ref pe, .int p1] (fun U => va_P D vwCl [(pe, .inr (5, [.ref pe_decimal, .ref pe_row, .ref pe_turned, .int pe_length, .int pe_slots, .int pe_slotsPut, .int pe_hidden, .int pe_zeroSeen, .int pe_groups])), (pe_row, .inl (cI, 1024, .inl pe_rowF))] U.heap ∧ va_K D vwCl (ty3 cI cD cJ) U)) (va_Qi (fun (r : Int32) (u : Unit) => True) (fun _ _ => True) (fun _ => False)) 0 0 (fun _ => False) := by
  refine Met.ofW (cc := cX7_at) (maxL := 2) (ret := (some .int)) (by decide +kernel) rfl ?_
  intro p e s m args below meth c s₁ B hml hv
  obtain ⟨rfl, hP, hK⟩ := hv
  have hx := B.exec
  have hb := B.bytes
  have hr := B.returns
  have hts := atoms_spec (ws := pw_X7_at) B.pre
  have hown : s.vm.findClass RX7 = some m.cls := findClass_of_methodNamed B.named
  have hlocks := B.notSynchronized
  have hS : va_S (fun _ => False) s.heap s.heap [] := va_S.rf
  have hw : ∀ (k : Nat) (w : Cond), ow_X7_at[k]? = some w → w.before _ s = true := fun k w h => hts w (List.mem_cons_of_mem _ (have h9 := List.mem_of_getElem? h; List.mem_append_left _ h9))
  have iX7 : ∀ w ∈ u_ws RX7 TX7 9, w ∈ pw_X7_at := fun w h9 => List.mem_cons_of_mem _ (List.mem_append_right _ (h9))
  have n_m1 : (((-1) : Int32)).toInt = (-1) := by decide
  have n_0 : ((0 : Int32)).toInt = 0 := by decide
  have n_1024 : ((1024 : Int32)).toInt = 1024 := by decide
  have hl := lv_entry ([.ref pe, .int p1]) (n := 2) (Nat.le_of_ble_eq_true rfl)
  rw [lg_entry_eq]
  generalize (lg_sl ([.ref pe, .int p1]) ++ List.replicate (2 - (lg_sl ([.ref pe, .int p1])).length) Slot.unset).toArray = ls at hl ⊢
  have hl : lv_has ls 2 [(0, .ref pe), (1, .int p1)] := hl
  have b_p1 := ti_b p1
  refine lv_iload_n hx hb dX7_at_0 rfl (lv_at hl 1 rfl) ?_
  refine lv_if_lt (tgt := 30) hx hb dX7_at_1 (by decide) (fun c_1 => ?_) (fun c_1 => ?_)
  · have ic_1 : (p1 : Int32).toInt < (0 : Int32).toInt := (fa_lt p1 0).mp c_1
    refine lv_iconst (v := (-1)) hx hb dX7_at_30 (by decide) ?_
    exact W.iret (v := (-1)) hx hb hr (fun t ht hW => ⟨⟨(-1), (), rfl, trivial, trivial⟩, hS.F ht⟩) hS.2.2 dX7_at_31
  · have ic_1 : ¬ ((p1 : Int32).toInt < (0 : Int32).toInt) := fun h9 => c_1 ((fa_lt p1 0).mpr h9)
    refine lv_iload_n hx hb dX7_at_4 rfl (lv_at hl 1 rfl) ?_
    refine lv_aload_n hx hb dX7_at_5 rfl (lv_at hl 0 rfl) ?_
    refine va_get (D := D) (ci := 5) (v := .int pe_length) (C := RX7) (T := TX7) (N := 9) hx hb hts iX7 hown hK hP 0 rfl rfl 3 (by decide) (hw 0 (.fieldLink RX7 25 "NumberFormats$Pen" "length" "I") rfl) (fun _ h9 => h9) rfl dX7_at_6 ?_
    refine lv_icmp_ge (tgt := 30) hx hb dX7_at_9 (by decide) (fun c_2 => ?_) (fun c_2 => ?_)
    · have ic_2 : (pe_length : Int32).toInt ≤ (p1 : Int32).toInt := (fa_le pe_length p1).mp c_2
      refine lv_iconst (v := (-1)) hx hb dX7_at_30 (by decide) ?_
      exact W.iret (v := (-1)) hx hb hr (fun t ht hW => ⟨⟨(-1), (), rfl, trivial, trivial⟩, hS.F ht⟩) hS.2.2 dX7_at_31
    · have ic_2 : ¬ ((pe_length : Int32).toInt ≤ (p1 : Int32).toInt) := fun h9 => c_2 ((fa_le pe_length p1).mpr h9)
      refine lv_iload_n hx hb dX7_at_12 rfl (lv_at hl 1 rfl) ?_
      refine lv_aload_n hx hb dX7_at_13 rfl (lv_at hl 0 rfl) ?_
      refine va_get (D := D) (ci := 5) (v := .ref pe_row) (C := RX7) (T := TX7) (N := 9) hx hb hts iX7 hown hK hP 0 rfl rfl 1 (by decide) (hw 1 (.fieldLink RX7 18 "NumberFormats$Pen" "row" "[I") rfl) (fun _ h9 => h9) rfl dX7_at_14 ?_
      refine va_alen hx hb hK hP 1 0 rfl rfl (v := 1024) rfl dX7_at_17 ?_
      refine lv_icmp_ge (tgt := 30) hx hb dX7_at_18 (by decide) (fun c_3 => ?_) (fun c_3 => ?_)
      · have ic_3 : (1024 : Int32).toInt ≤ (p1 : Int32).toInt := (fa_le 1024 p1).mp c_3
        refine lv_iconst (v := (-1)) hx hb dX7_at_30 (by decide) ?_
        exact W.iret (v := (-1)) hx hb hr (fun t ht hW => ⟨⟨(-1), (), rfl, trivial, trivial⟩, hS.F ht⟩) hS.2.2 dX7_at_31
      · have ic_3 : ¬ ((1024 : Int32).toInt ≤ (p1 : Int32).toInt) := fun h9 => c_3 ((fa_le 1024 p1).mpr h9)
        refine lv_aload_n hx hb dX7_at_21 rfl (lv_at hl 0 rfl) ?_
        refine va_get (D := D) (ci := 5) (v := .ref pe_row) (C := RX7) (T := TX7) (N := 9) hx hb hts iX7 hown hK hP 0 rfl rfl 1 (by decide) (hw 1 (.fieldLink RX7 18 "NumberFormats$Pen" "row" "[I") rfl) (fun _ h9 => h9) rfl dX7_at_22 ?_
        refine lv_iload_n hx hb dX7_at_25 rfl (lv_at hl 1 rfl) ?_
        have h_26 : vp_in p1 1024 := by rw [vp_in_iff]; omega
        refine va_iald hx hb hK hP 1 0 rfl rfl h_26 dX7_at_26 ?_
        refine lv_topi (fun x_4 ex_4 => ?_)
        refine lv_goto (tgt := 31) hx hb dX7_at_27 (by decide) ?_
        exact W.iret (v := x_4) hx hb hr (fun t ht hW => ⟨⟨x_4, (), rfl, trivial, trivial⟩, hS.F ht⟩) hS.2.2 dX7_at_31

def ow_X7_add : List Cond := [Cond.fieldLink RX7 25 "NumberFormats$Pen" "length" "I", Cond.fieldLink RX7 18 "NumberFormats$Pen" "row" "[I"]
def pw_X7_add : List Cond := Cond.code yX7_add cX7_add 2 none :: (ow_X7_add ++ (wsX70))
set_option maxRecDepth 20000 in
theorem mo_X7_add : ∀ w ∈ ow_X7_add, w ∈ lw_tbl := by decide +kernel
set_option maxRecDepth 20000 in
theorem mc_X7_add : Cond.code yX7_add cX7_add 2 none ∈ lw_tbl := by decide +kernel
theorem m_X7_add : ∀ w ∈ pw_X7_add, w ∈ lw_tbl := List.forall_mem_cons.mpr ⟨mc_X7_add, (List.forall_mem_append.mpr ⟨mo_X7_add, inX7⟩)⟩
theorem ko_X7_add : ∀ w ∈ ow_X7_add, goodWord w = true := by decide +kernel
theorem k_X7_add : pw_X7_add.all goodWord = true := List.all_eq_true.mpr (List.forall_mem_cons.mpr ⟨by decide +kernel, (List.forall_mem_append.mpr ⟨ko_X7_add, kX_X7⟩)⟩)
set_option maxHeartbeats 400000 in
set_option maxRecDepth 100000 in
theorem c_X7_add (l : Launch) (D : va_G) (cI cD cJ : ClassId) (sz : Nat) (pe : Nat) (pe_decimal : Nat) (pe_row : Nat) (pe_turned : Nat) (pe_length : Int32) (pe_slots : Int32) (pe_slotsPut : Int32) (pe_hidden : Int32) (pe_zeroSeen : Int32) (pe_groups : Int32) (pe_rowF : Nat → Int32) (p1 : Int32) (iv_pe_length : 0 ≤ (pe_length : Int32).toInt ∧ (pe_length : Int32).toInt ≤ 1024) (iv_pe_slots : 0 ≤ (pe_slots : Int32).toInt ∧ (pe_slots : Int32).toInt ≤ 256) (iv_pe_zeroSeen : (pe_zeroSeen : Int32).toInt = 0 ∨ (pe_zeroSeen : Int32).toInt = 1) (iv_pe_groups : (pe_groups : Int32).toInt = 0 ∨ (pe_groups : Int32).toInt = 1) : Met l yX7_add pw_X7_add ({ frames := 0, cells := 0, slots := 0, locals := 0 }) (va_Pc [.ref pe, .int p1] (fun U => U.heap.size = sz ∧ va_P D vwCl [(pe, .inr (5, [.ref pe_decimal, .ref pe_row, .ref pe_turned, .int pe_length, .int pe_slots, .int pe_slotsPut, .int pe_hidden, .int pe_zeroSeen, .int pe_groups])), (pe_row, .inl (cI, 1024, .inl pe_rowF))] U.heap ∧ va_K D vwCl (ty3 cI cD cJ) U ∧ va_D (fun _ => True) [(pe, .inr (5, [.ref pe_decimal, .ref pe_row, .ref pe_turned, .int pe_length, .int pe_slots, .int pe_slotsPut, .int pe_hidden, .int pe_zeroSeen, .int pe_groups])), (pe_row, .inl (cI, 1024, .inl pe_rowF))])) (va_Qv (fun (u : Int32 × (Nat → Int32)) => match u with | (pe_length2, pe_rowF2) => (0 ≤ (pe_length2 : Int32).toInt ∧ (pe_length2 : Int32).toInt ≤ 1024)) (fun (u : Int32 × (Nat → Int32)) (t : State) => match u with | (pe_length2, pe_rowF2) => va_P D vwCl [(pe, .inr (5, [.ref pe_decimal, .ref pe_row, .ref pe_turned, .int pe_length2, .int pe_slots, .int pe_slotsPut, .int pe_hidden, .int pe_zeroSeen, .int pe_groups])), (pe_row, .inl (cI, 1024, .inl pe_rowF2))] t.heap ∧ va_K D vwCl (ty3 cI cD cJ) t ∧ va_D (va_A [(pe, .inr (5, [.ref pe_decimal, .ref pe_row, .ref pe_turned, .int pe_length, .int pe_slots, .int pe_slotsPut, .int pe_hidden, .int pe_zeroSeen, .int pe_groups])), (pe_row, .inl (cI, 1024, .inl pe_rowF))] sz) [(pe, .inr (5, [.ref pe_decimal, .ref pe_row, .ref pe_turned, .int pe_length2, .int pe_slots, .int pe_slotsPut, .int pe_hidden, .int pe_zeroSeen, .int pe_groups])), (pe_row, .inl (cI, 1024, .inl pe_rowF2))]) (va_A [(pe, .inr (5, [.ref pe_decimal, .ref pe_row, .ref pe_turned, .int pe_length, .int pe_slots, .int pe_slotsPut, .int pe_hidden, .int pe_zeroSeen, .int pe_groups])), (pe_row, .inl (cI, 1024, .inl pe_rowF))] sz)) 0 0 (va_A [(pe, .inr (5, [.ref pe_decimal, .ref pe_row, .ref pe_turned, .int pe_length, .int pe_slots, .int pe_slotsPut, .int pe_hidden, .int pe_zeroSeen, .int pe_groups])), (pe_row, .inl (cI, 1024, .inl pe_rowF))] sz) := by
  refine Met.ofW (cc := cX7_add) (maxL := 2) (ret := none) (by decide +kernel) rfl ?_
  intro p e s m args below meth c s₁ B hml hv
  obtain ⟨rfl, hsz, hP, hK, hD0⟩ := hv
  have hx := B.exec
  have hb := B.bytes
  have hr := B.returns
  have hts := atoms_spec (ws := pw_X7_add) B.pre
  have hown : s.vm.findClass RX7 = some m.cls := findClass_of_methodNamed B.named
  have hlocks := B.notSynchronized
  subst hsz
  have hD := hD0.self (sz := s.heap.size)
  generalize hAe : va_A [(pe, .inr (5, [.ref pe_decimal, .ref pe_row, .ref pe_turned, .int pe_length, .int pe_slots, .int pe_slotsPut, .int pe_hidden, .int pe_zeroSeen, .int pe_groups])), (pe_row, .inl (cI, 1024, .inl pe_rowF))] s.heap.size = A at hD ⊢
  have hA : ∀ q : Nat, s.heap.size ≤ q → A q := fun q h => by rw [← hAe]; exact Or.inr h
  have hS : va_S A s.heap s.heap [] := va_S.rf
  have hw : ∀ (k : Nat) (w : Cond), ow_X7_add[k]? = some w → w.before _ s = true := fun k w h => hts w (List.mem_cons_of_mem _ (have h9 := List.mem_of_getElem? h; List.mem_append_left _ h9))
  have iX7 : ∀ w ∈ u_ws RX7 TX7 9, w ∈ pw_X7_add := fun w h9 => List.mem_cons_of_mem _ (List.mem_append_right _ (h9))
  have n_1 : ((1 : Int32)).toInt = 1 := by decide
  have n_1024 : ((1024 : Int32)).toInt = 1024 := by decide
  have hl := lv_entry ([.ref pe, .int p1]) (n := 2) (Nat.le_of_ble_eq_true rfl)
  rw [lg_entry_eq]
  generalize (lg_sl ([.ref pe, .int p1]) ++ List.replicate (2 - (lg_sl ([.ref pe, .int p1])).length) Slot.unset).toArray = ls at hl ⊢
  have hl : lv_has ls 2 [(0, .ref pe), (1, .int p1)] := hl
  have b_p1 := ti_b p1
  refine lv_aload_n hx hb dX7_add_0 rfl (lv_at hl 0 rfl) ?_
  refine va_get (D := D) (ci := 5) (v := .int pe_length) (C := RX7) (T := TX7) (N := 9) hx hb hts iX7 hown hK hP 0 rfl rfl 3 (by decide) (hw 0 (.fieldLink RX7 25 "NumberFormats$Pen" "length" "I") rfl) (fun _ h9 => h9) rfl dX7_add_1 ?_
  refine lv_aload_n hx hb dX7_add_4 rfl (lv_at hl 0 rfl) ?_
  refine va_get (D := D) (ci := 5) (v := .ref pe_row) (C := RX7) (T := TX7) (N := 9) hx hb hts iX7 hown hK hP 0 rfl rfl 1 (by decide) (hw 1 (.fieldLink RX7 18 "NumberFormats$Pen" "row" "[I") rfl) (fun _ h9 => h9) rfl dX7_add_5 ?_
  refine va_alen hx hb hK hP 1 0 rfl rfl (v := 1024) rfl dX7_add_8 ?_
  refine lv_icmp_ge (tgt := 32) hx hb dX7_add_9 (by decide) (fun c_1 => ?_) (fun c_1 => ?_)
  · have ic_1 : (1024 : Int32).toInt ≤ (pe_length : Int32).toInt := (fa_le 1024 pe_length).mp c_1
    have hP9 := hP.sub (ws' := [(pe, .inr (5, [.ref pe_decimal, .ref pe_row, .ref pe_turned, .int pe_length, .int pe_slots, .int pe_slotsPut, .int pe_hidden, .int pe_zeroSeen, .int pe_groups])), (pe_row, .inl (cI, 1024, .inl pe_rowF))]) [0, 1] rfl
    have hD9 := hD.sub (ws' := [(pe, .inr (5, [.ref pe_decimal, .ref pe_row, .ref pe_turned, .int pe_length, .int pe_slots, .int pe_slotsPut, .int pe_hidden, .int pe_zeroSeen, .int pe_groups])), (pe_row, .inl (cI, 1024, .inl pe_rowF))]) [0, 1] (by decide) rfl
    exact W.vret hx hb hr (fun t ht hW => ⟨⟨(pe_length, pe_rowF), rfl, (by (try dsimp only); first | omega | assumption), by rw [ht]; exact hP9, va_K.moved hW.alike hK, hD9⟩, hS.F ht⟩) hS.2.2 dX7_add_32
  · have ic_1 : ¬ ((1024 : Int32).toInt ≤ (pe_length : Int32).toInt) := fun h9 => c_1 ((fa_le 1024 pe_length).mpr h9)
    refine lv_aload_n hx hb dX7_add_12 rfl (lv_at hl 0 rfl) ?_
    refine va_get (D := D) (ci := 5) (v := .ref pe_row) (C := RX7) (T := TX7) (N := 9) hx hb hts iX7 hown hK hP 0 rfl rfl 1 (by decide) (hw 1 (.fieldLink RX7 18 "NumberFormats$Pen" "row" "[I") rfl) (fun _ h9 => h9) rfl dX7_add_13 ?_
    refine lv_aload_n hx hb dX7_add_16 rfl (lv_at hl 0 rfl) ?_
    refine va_get (D := D) (ci := 5) (v := .int pe_length) (C := RX7) (T := TX7) (N := 9) hx hb hts iX7 hown hK hP 0 rfl rfl 3 (by decide) (hw 0 (.fieldLink RX7 25 "NumberFormats$Pen" "length" "I") rfl) (fun _ h9 => h9) rfl dX7_add_17 ?_
    refine lv_iload_n hx hb dX7_add_20 rfl (lv_at hl 1 rfl) ?_
    have h_21 : vp_in pe_length 1024 := by rw [vp_in_iff]; omega
    refine va_iast hx hb hK hP hD hS 1 0 rfl rfl h_21 dX7_add_21 (fun H locs hP hD hS => ?_)
    obtain ⟨f_2, ef_2⟩ : ∃ y : Nat → Int32, y = upd pe_rowF (pe_length : Int32).toNatClampNeg p1 := ⟨_, rfl⟩
    rw [← ef_2] at hP hD
    have hP : va_P D vwCl [(pe, .inr (5, [.ref pe_decimal, .ref pe_row, .ref pe_turned, .int pe_length, .int pe_slots, .int pe_slotsPut, .int pe_hidden, .int pe_zeroSeen, .int pe_groups])), (pe_row, .inl (cI, 1024, .inl f_2))] H := hP
    have hD : va_D A [(pe, .inr (5, [.ref pe_decimal, .ref pe_row, .ref pe_turned, .int pe_length, .int pe_slots, .int pe_slotsPut, .int pe_hidden, .int pe_zeroSeen, .int pe_groups])), (pe_row, .inl (cI, 1024, .inl f_2))] := hD
    refine lv_aload_n hx hb dX7_add_22 rfl (lv_at hl 0 rfl) ?_
    refine lv_dup hx hb dX7_add_23 rfl ?_
    refine va_get (D := D) (ci := 5) (v := .int pe_length) (C := RX7) (T := TX7) (N := 9) hx hb hts iX7 hown hK hP 0 rfl rfl 3 (by decide) (hw 0 (.fieldLink RX7 25 "NumberFormats$Pen" "length" "I") rfl) (fun _ h9 => h9) rfl dX7_add_24 ?_
    refine lv_iconst (v := 1) hx hb dX7_add_27 (by decide) ?_
    refine lv_iadd hx hb dX7_add_28 ?_
    refine lv_topi (fun x_3 ex_3 => ?_)
    have tx_3 := ti_add ex_3
    refine va_put (D := D) (ci := 5) (v := .int x_3) (ty := .int) (C := RX7) (T := TX7) (N := 9) hx hb hts iX7 tyX7 tyX7_ok nmX7 hown hK hP hD hS 0 rfl rfl 3 (by decide) (hw 0 (.fieldLink RX7 25 "NumberFormats$Pen" "length" "I") rfl) (fun _ h9 => h9) rfl (by decide +kernel) rfl rfl (Nat.le_of_ble_eq_true rfl) dX7_add_29 (fun H locs hP hD hS => ?_)
    have hP : va_P D vwCl [(pe, .inr (5, [.ref pe_decimal, .ref pe_row, .ref pe_turned, .int x_3, .int pe_slots, .int pe_slotsPut, .int pe_hidden, .int pe_zeroSeen, .int pe_groups])), (pe_row, .inl (cI, 1024, .inl f_2))] H := hP
    have hD : va_D A [(pe, .inr (5, [.ref pe_decimal, .ref pe_row, .ref pe_turned, .int x_3, .int pe_slots, .int pe_slotsPut, .int pe_hidden, .int pe_zeroSeen, .int pe_groups])), (pe_row, .inl (cI, 1024, .inl f_2))] := hD
    have hP9 := hP.sub (ws' := [(pe, .inr (5, [.ref pe_decimal, .ref pe_row, .ref pe_turned, .int x_3, .int pe_slots, .int pe_slotsPut, .int pe_hidden, .int pe_zeroSeen, .int pe_groups])), (pe_row, .inl (cI, 1024, .inl f_2))]) [0, 1] rfl
    have hD9 := hD.sub (ws' := [(pe, .inr (5, [.ref pe_decimal, .ref pe_row, .ref pe_turned, .int x_3, .int pe_slots, .int pe_slotsPut, .int pe_hidden, .int pe_zeroSeen, .int pe_groups])), (pe_row, .inl (cI, 1024, .inl f_2))]) [0, 1] (by decide) rfl
    exact W.vret hx hb hr (fun t ht hW => ⟨⟨(x_3, f_2), rfl, (by (try dsimp only); first | omega | assumption), by rw [ht]; exact hP9, va_K.moved hW.alike hK, hD9⟩, hS.F ht⟩) hS.2.2 dX7_add_32

def ow_X7_addText : List Cond := [Cond.methodLink RX7 42 yX10_length, Cond.instanceMethod yX10_length, Cond.selects RX10 yX10_length yX10_length, Cond.initialized RX10, Cond.methodLink RX7 45 yX10_at, Cond.instanceMethod yX10_at, Cond.selects RX10 yX10_at yX10_at, Cond.methodLink RX7 38 yX7_add, Cond.instanceMethod yX7_add, Cond.selects RX7 yX7_add yX7_add, Cond.initialized RX7]
def pw_X7_addText : List Cond := Cond.code yX7_addText cX7_addText 3 none :: (ow_X7_addText ++ (pw_X10_length ++ (pw_X10_at ++ (pw_X7_add))))
set_option maxRecDepth 20000 in
theorem mo_X7_addText : ∀ w ∈ ow_X7_addText, w ∈ lw_tbl := by decide +kernel
set_option maxRecDepth 20000 in
theorem mc_X7_addText : Cond.code yX7_addText cX7_addText 3 none ∈ lw_tbl := by decide +kernel
theorem m_X7_addText : ∀ w ∈ pw_X7_addText, w ∈ lw_tbl := List.forall_mem_cons.mpr ⟨mc_X7_addText, (List.forall_mem_append.mpr ⟨mo_X7_addText, (List.forall_mem_append.mpr ⟨m_X10_length, (List.forall_mem_append.mpr ⟨m_X10_at, m_X7_add⟩)⟩)⟩)⟩
theorem ko_X7_addText : ∀ w ∈ ow_X7_addText, goodWord w = true := by decide +kernel
theorem k_X7_addText : pw_X7_addText.all goodWord = true := List.all_eq_true.mpr (List.forall_mem_cons.mpr ⟨by decide +kernel, (List.forall_mem_append.mpr ⟨ko_X7_addText, (List.forall_mem_append.mpr ⟨(List.all_eq_true.mp k_X10_length), (List.forall_mem_append.mpr ⟨(List.all_eq_true.mp k_X10_at), (List.all_eq_true.mp k_X7_add)⟩)⟩)⟩)⟩)
set_option maxHeartbeats 400000 in
set_option maxRecDepth 100000 in
theorem c_X7_addText (l : Launch) (D : va_G) (cI cD cJ : ClassId) (sz : Nat) (pe : Nat) (pe_decimal : Nat) (pe_row : Nat) (pe_turned : Nat) (pe_length : Int32) (pe_slots : Int32) (pe_slotsPut : Int32) (pe_hidden : Int32) (pe_zeroSeen : Int32) (pe_groups : Int32) (pe_rowF : Nat → Int32) (x : Nat) (x_signs : Nat) (x_length : Int32) (x_signsF : Nat → Int32) (iv_pe_length : 0 ≤ (pe_length : Int32).toInt ∧ (pe_length : Int32).toInt ≤ 1024) (iv_pe_slots : 0 ≤ (pe_slots : Int32).toInt ∧ (pe_slots : Int32).toInt ≤ 256) (iv_pe_zeroSeen : (pe_zeroSeen : Int32).toInt = 0 ∨ (pe_zeroSeen : Int32).toInt = 1) (iv_pe_groups : (pe_groups : Int32).toInt = 0 ∨ (pe_groups : Int32).toInt = 1) (iv_x_length : 0 ≤ (x_length : Int32).toInt ∧ (x_length : Int32).toInt ≤ 255) (iv_x_signsF : ∀ k9 : Nat, k9 < 255 → 0 ≤ (x_signsF k9).toInt ∧ (x_signsF k9).toInt ≤ 255) : Met l yX7_addText pw_X7_addText ({ frames := 1, cells := 0, slots := 0, locals := 21 }) (va_Pc [.ref pe, .ref x] (fun U => U.heap.size = sz ∧ va_P D vwCl [(pe, .inr (5, [.ref pe_decimal, .ref pe_row, .ref pe_turned, .int pe_length, .int pe_slots, .int pe_slotsPut, .int pe_hidden, .int pe_zeroSeen, .int pe_groups])), (pe_row, .inl (cI, 1024, .inl pe_rowF)), (x, .inr (7, [.ref x_signs, .int x_length])), (x_signs, .inl (cI, 255, .inl x_signsF))] U.heap ∧ va_K D vwCl (ty3 cI cD cJ) U ∧ va_D (fun _ => True) [(pe, .inr (5, [.ref pe_decimal, .ref pe_row, .ref pe_turned, .int pe_length, .int pe_slots, .int pe_slotsPut, .int pe_hidden, .int pe_zeroSeen, .int pe_groups])), (pe_row, .inl (cI, 1024, .inl pe_rowF)), (x, .inr (7, [.ref x_signs, .int x_length])), (x_signs, .inl (cI, 255, .inl x_signsF))])) (va_Qv (fun (u : Int32 × (Nat → Int32)) => match u with | (pe_length2, pe_rowF2) => (0 ≤ (pe_length2 : Int32).toInt ∧ (pe_length2 : Int32).toInt ≤ 1024)) (fun (u : Int32 × (Nat → Int32)) (t : State) => match u with | (pe_length2, pe_rowF2) => va_P D vwCl [(pe, .inr (5, [.ref pe_decimal, .ref pe_row, .ref pe_turned, .int pe_length2, .int pe_slots, .int pe_slotsPut, .int pe_hidden, .int pe_zeroSeen, .int pe_groups])), (pe_row, .inl (cI, 1024, .inl pe_rowF2)), (x, .inr (7, [.ref x_signs, .int x_length])), (x_signs, .inl (cI, 255, .inl x_signsF))] t.heap ∧ va_K D vwCl (ty3 cI cD cJ) t ∧ va_D (va_A [(pe, .inr (5, [.ref pe_decimal, .ref pe_row, .ref pe_turned, .int pe_length, .int pe_slots, .int pe_slotsPut, .int pe_hidden, .int pe_zeroSeen, .int pe_groups])), (pe_row, .inl (cI, 1024, .inl pe_rowF)), (x, .inr (7, [.ref x_signs, .int x_length])), (x_signs, .inl (cI, 255, .inl x_signsF))] sz) [(pe, .inr (5, [.ref pe_decimal, .ref pe_row, .ref pe_turned, .int pe_length2, .int pe_slots, .int pe_slotsPut, .int pe_hidden, .int pe_zeroSeen, .int pe_groups])), (pe_row, .inl (cI, 1024, .inl pe_rowF2)), (x, .inr (7, [.ref x_signs, .int x_length])), (x_signs, .inl (cI, 255, .inl x_signsF))]) (va_A [(pe, .inr (5, [.ref pe_decimal, .ref pe_row, .ref pe_turned, .int pe_length, .int pe_slots, .int pe_slotsPut, .int pe_hidden, .int pe_zeroSeen, .int pe_groups])), (pe_row, .inl (cI, 1024, .inl pe_rowF)), (x, .inr (7, [.ref x_signs, .int x_length])), (x_signs, .inl (cI, 255, .inl x_signsF))] sz)) 0 0 (va_A [(pe, .inr (5, [.ref pe_decimal, .ref pe_row, .ref pe_turned, .int pe_length, .int pe_slots, .int pe_slotsPut, .int pe_hidden, .int pe_zeroSeen, .int pe_groups])), (pe_row, .inl (cI, 1024, .inl pe_rowF)), (x, .inr (7, [.ref x_signs, .int x_length])), (x_signs, .inl (cI, 255, .inl x_signsF))] sz) := by
  refine Met.ofW (cc := cX7_addText) (maxL := 3) (ret := none) (by decide +kernel) rfl ?_
  intro p e s m args below meth c s₁ B hml hv
  obtain ⟨rfl, hsz, hP, hK, hD0⟩ := hv
  have hx := B.exec
  have hb := B.bytes
  have hr := B.returns
  have hts := atoms_spec (ws := pw_X7_addText) B.pre
  have hown : s.vm.findClass RX7 = some m.cls := findClass_of_methodNamed B.named
  have hlocks := B.notSynchronized
  subst hsz
  have hD := hD0.self (sz := s.heap.size)
  generalize hAe : va_A [(pe, .inr (5, [.ref pe_decimal, .ref pe_row, .ref pe_turned, .int pe_length, .int pe_slots, .int pe_slotsPut, .int pe_hidden, .int pe_zeroSeen, .int pe_groups])), (pe_row, .inl (cI, 1024, .inl pe_rowF)), (x, .inr (7, [.ref x_signs, .int x_length])), (x_signs, .inl (cI, 255, .inl x_signsF))] s.heap.size = A at hD ⊢
  have hA : ∀ q : Nat, s.heap.size ≤ q → A q := fun q h => by rw [← hAe]; exact Or.inr h
  have hS : va_S A s.heap s.heap [] := va_S.rf
  have hw : ∀ (k : Nat) (w : Cond), ow_X7_addText[k]? = some w → w.before _ s = true := fun k w h => hts w (List.mem_cons_of_mem _ (have h9 := List.mem_of_getElem? h; List.mem_append_left _ h9))
  have i_X10_length : ∀ w ∈ pw_X10_length, w ∈ pw_X7_addText := fun w h9 => List.mem_cons_of_mem _ (List.mem_append_right _ (List.mem_append_left _ h9))
  have i_X10_at : ∀ w ∈ pw_X10_at, w ∈ pw_X7_addText := fun w h9 => List.mem_cons_of_mem _ (List.mem_append_right _ (List.mem_append_right _ (List.mem_append_left _ h9)))
  have i_X7_add : ∀ w ∈ pw_X7_add, w ∈ pw_X7_addText := fun w h9 => List.mem_cons_of_mem _ (List.mem_append_right _ (List.mem_append_right _ (List.mem_append_right _ (h9))))
  have n_0 : ((0 : Int32)).toInt = 0 := by decide
  have n_1 : ((1 : Int32)).toInt = 1 := by decide
  have hl := lv_entry ([.ref pe, .ref x]) (n := 3) (Nat.le_of_ble_eq_true rfl)
  rw [lg_entry_eq]
  generalize (lg_sl ([.ref pe, .ref x]) ++ List.replicate (3 - (lg_sl ([.ref pe, .ref x])).length) Slot.unset).toArray = ls at hl ⊢
  have hl : lv_has ls 3 [(0, .ref pe), (1, .ref x)] := hl
  refine zz_cap (fun Z hZ1 hZ2 => ?_)
  refine lv_iconst (v := 0) hx hb dX7_addText_0 (by decide) ?_
  refine lv_istore_n (lv' := [(2, .int 0), (0, .ref pe), (1, .ref x)]) hx hb dX7_addText_1 rfl hl (by decide) rfl (fun ls hl => ?_)
  have L_2 : ∀ (N : Nat) (x_1 : Int32) (x_2 : Int32) (f_3 : Nat → Int32) (H : Heap) (locs : List Loc) (ls : Array Slot), (0 ≤ (x_1 : Int32).toInt) → (0 ≤ (x_2 : Int32).toInt ∧ (x_2 : Int32).toInt ≤ 1024) → ((2147483647 - (x_1 : Int32).toInt).toNat < N) → va_P D vwCl [(pe, .inr (5, [.ref pe_decimal, .ref pe_row, .ref pe_turned, .int x_2, .int pe_slots, .int pe_slotsPut, .int pe_hidden, .int pe_zeroSeen, .int pe_groups])), (pe_row, .inl (cI, 1024, .inl f_3)), (x, .inr (7, [.ref x_signs, .int x_length])), (x_signs, .inl (cI, 255, .inl x_signsF))] H → va_D A [(pe, .inr (5, [.ref pe_decimal, .ref pe_row, .ref pe_turned, .int x_2, .int pe_slots, .int pe_slotsPut, .int pe_hidden, .int pe_zeroSeen, .int pe_groups])), (pe_row, .inl (cI, 1024, .inl f_3)), (x, .inr (7, [.ref x_signs, .int x_length])), (x_signs, .inl (cI, 255, .inl x_signsF))] → va_S A s.heap H locs → lv_has ls 3 [(2, .int x_1), (0, .ref pe), (1, .ref x)] → Z 0 0 H locs (F0 m 2 ls []) := by
    intro N
    induction N with
    | zero => intro _ _ _ _ _ _ _ _ hmu; exact absurd hmu (Nat.not_lt_zero _)
    | succ N ih_2 =>
      intro x_1 x_2 f_3 H locs ls g2_0 g2_1 hmu hP hD hS hl
      refine hZ2 ?_
      refine lv_iload_n hx hb dX7_addText_2 rfl (lv_at hl 0 rfl) ?_
      refine lv_aload_n hx hb dX7_addText_3 rfl (lv_at hl 2 rfl) ?_
      have hPc := hP.sub (ws' := [(x, .inr (7, [.ref x_signs, .int x_length]))]) [2] rfl
      refine va_calli (va_runV (As := []) (rest := [.int x_1]) ⟨hx, hb, hml, hown, hts⟩ (c_X10_length l D cI cD cJ H.size x x_signs x_length (by omega)) (cwV 0 hts (goodIn_app (goodIn_r _ [1, 2, 3, 4] rfl (by decide +kernel)) (goodIn_sub i_X10_length k_X10_length)) rfl rfl rfl (by decide +kernel) ⟨Nat.le_of_ble_eq_true rfl, Nat.le_of_ble_eq_true rfl⟩) ⟨fun a U g mk q => by obtain ⟨q0, qP, qK⟩ := q; exact ⟨q0, qP, va_K.moved (u := U) (U := U.calling g mk a) (Vm.Alike.refl U.vm) qK⟩, va_recv hK hPc (ci := 7) (q0 := 0) rfl rfl, fun U hU hW => ⟨rfl, by rw [hU]; exact hPc, va_K.moved hW.alike hK⟩⟩ rfl rfl hl.1 rfl (lv_room (Nat.le_of_ble_eq_true rfl)) dX7_addText_4 ⟨Nat.le_of_ble_eq_true rfl, Nat.le_of_ble_eq_true rfl⟩) hS (fun q _ h => h.elim) (fun q h => h.elim) (fun x_4 u t H1 locs ht hvm w_5 hB hz1 hk1 hS => ?_)
      have hP : va_P D vwCl [(pe, .inr (5, [.ref pe_decimal, .ref pe_row, .ref pe_turned, .int x_2, .int pe_slots, .int pe_slotsPut, .int pe_hidden, .int pe_zeroSeen, .int pe_groups])), (pe_row, .inl (cI, 1024, .inl f_3)), (x, .inr (7, [.ref x_signs, .int x_length])), (x_signs, .inl (cI, 255, .inl x_signsF))] H1 := hP.kept (fun k9 q9 h9 => hk1 q9.1 (vx_lt hP h9) (fun h => h))
      generalize H1 = H at hP hS ⊢
      try dsimp only at w_5
      refine lv_icmp_ge (tgt := 25) hx hb dX7_addText_7 (by decide) (fun c_6 => ?_) (fun c_6 => ?_)
      · have ic_6 : (x_4 : Int32).toInt ≤ (x_1 : Int32).toInt := (fa_le x_4 x_1).mp c_6
        have hP9 := hP.sub (ws' := [(pe, .inr (5, [.ref pe_decimal, .ref pe_row, .ref pe_turned, .int x_2, .int pe_slots, .int pe_slotsPut, .int pe_hidden, .int pe_zeroSeen, .int pe_groups])), (pe_row, .inl (cI, 1024, .inl f_3)), (x, .inr (7, [.ref x_signs, .int x_length])), (x_signs, .inl (cI, 255, .inl x_signsF))]) [0, 1, 2, 3] rfl
        have hD9 := hD.sub (ws' := [(pe, .inr (5, [.ref pe_decimal, .ref pe_row, .ref pe_turned, .int x_2, .int pe_slots, .int pe_slotsPut, .int pe_hidden, .int pe_zeroSeen, .int pe_groups])), (pe_row, .inl (cI, 1024, .inl f_3)), (x, .inr (7, [.ref x_signs, .int x_length])), (x_signs, .inl (cI, 255, .inl x_signsF))]) [0, 1, 2, 3] (by decide) rfl
        exact W.vret hx hb hr (fun t ht hW => ⟨⟨(x_2, f_3), rfl, (by (try dsimp only); first | omega | assumption), by rw [ht]; exact hP9, va_K.moved hW.alike hK, hD9⟩, hS.F ht⟩) hS.2.2 dX7_addText_25
      · have ic_6 : ¬ ((x_4 : Int32).toInt ≤ (x_1 : Int32).toInt) := fun h9 => c_6 ((fa_le x_4 x_1).mpr h9)
        refine lv_aload_n hx hb dX7_addText_10 rfl (lv_at hl 1 rfl) ?_
        refine lv_aload_n hx hb dX7_addText_11 rfl (lv_at hl 2 rfl) ?_
        refine lv_iload_n hx hb dX7_addText_12 rfl (lv_at hl 0 rfl) ?_
        have hPc := hP.sub (ws' := [(x, .inr (7, [.ref x_signs, .int x_length])), (x_signs, .inl (cI, 255, .inl x_signsF))]) [2, 3] rfl
        refine va_calli (va_runV (As := [.int x_1]) (rest := [.ref pe]) ⟨hx, hb, hml, hown, hts⟩ (c_X10_at l D cI cD cJ H.size x x_signs x_length x_signsF x_1 (by omega) (by assumption)) (cwV 1 hts (goodIn_app (goodIn_r _ [5, 6, 7, 4] rfl (by decide +kernel)) (goodIn_sub i_X10_at k_X10_at)) rfl rfl rfl (by decide +kernel) ⟨Nat.le_of_ble_eq_true rfl, Nat.le_of_ble_eq_true rfl⟩) ⟨fun a U g mk q => by obtain ⟨q0, qP, qK⟩ := q; exact ⟨q0, qP, va_K.moved (u := U) (U := U.calling g mk a) (Vm.Alike.refl U.vm) qK⟩, va_recv hK hPc (ci := 7) (q0 := 0) rfl rfl, fun U hU hW => ⟨rfl, by rw [hU]; exact hPc, va_K.moved hW.alike hK⟩⟩ rfl rfl hl.1 rfl (lv_room (Nat.le_of_ble_eq_true rfl)) dX7_addText_13 ⟨Nat.le_of_ble_eq_true rfl, Nat.le_of_ble_eq_true rfl⟩) hS (fun q _ h => h.elim) (fun q h => h.elim) (fun x_7 u t H1 locs ht hvm w_8 hB hz1 hk1 hS => ?_)
        have hP : va_P D vwCl [(pe, .inr (5, [.ref pe_decimal, .ref pe_row, .ref pe_turned, .int x_2, .int pe_slots, .int pe_slotsPut, .int pe_hidden, .int pe_zeroSeen, .int pe_groups])), (pe_row, .inl (cI, 1024, .inl f_3)), (x, .inr (7, [.ref x_signs, .int x_length])), (x_signs, .inl (cI, 255, .inl x_signsF))] H1 := hP.kept (fun k9 q9 h9 => hk1 q9.1 (vx_lt hP h9) (fun h => h))
        generalize H1 = H at hP hS ⊢
        try dsimp only at w_8
        have hPc := hP.sub (ws' := [(pe, .inr (5, [.ref pe_decimal, .ref pe_row, .ref pe_turned, .int x_2, .int pe_slots, .int pe_slotsPut, .int pe_hidden, .int pe_zeroSeen, .int pe_groups])), (pe_row, .inl (cI, 1024, .inl f_3))]) [0, 1] rfl
        have hDc := hD.sub (ws' := [(pe, .inr (5, [.ref pe_decimal, .ref pe_row, .ref pe_turned, .int x_2, .int pe_slots, .int pe_slotsPut, .int pe_hidden, .int pe_zeroSeen, .int pe_groups])), (pe_row, .inl (cI, 1024, .inl f_3))]) [0, 1] (by decide) rfl
        have hFc := va_free (wc := [(pe, .inr (5, [.ref pe_decimal, .ref pe_row, .ref pe_turned, .int x_2, .int pe_slots, .int pe_slotsPut, .int pe_hidden, .int pe_zeroSeen, .int pe_groups])), (pe_row, .inl (cI, 1024, .inl f_3))]) hD hS hA [0, 1] rfl
        refine va_callv (va_runV (As := [.int x_7]) (rest := []) ⟨hx, hb, hml, hown, hts⟩ (c_X7_add l D cI cD cJ H.size pe pe_decimal pe_row pe_turned x_2 pe_slots pe_slotsPut pe_hidden pe_zeroSeen pe_groups f_3 x_7 (by omega) (by omega) (by omega) (by omega)) (cwV 1 hts (goodIn_app (goodIn_r _ [8, 9, 10, 11] rfl (by decide +kernel)) (goodIn_sub i_X7_add k_X7_add)) rfl rfl rfl (by decide +kernel) ⟨Nat.le_of_ble_eq_true rfl, Nat.le_of_ble_eq_true rfl⟩) ⟨fun a U g mk q => by obtain ⟨q0, q1, qP, qK, qD⟩ := q; exact ⟨q0, q1, qP, va_K.moved (u := U) (U := U.calling g mk a) (Vm.Alike.refl U.vm) qK, qD⟩, va_recv hK hPc (ci := 5) (q0 := 0) rfl rfl, fun U hU hW => ⟨rfl, by rw [hU], by rw [hU]; exact hPc, va_K.moved hW.alike hK, hDc.weaken (fun _ _ _ _ => trivial)⟩⟩ rfl rfl hl.1 rfl (lv_room (Nat.le_of_ble_eq_true rfl)) dX7_addText_16 ⟨Nat.le_of_ble_eq_true rfl, Nat.le_of_ble_eq_true rfl⟩) hS (fun q _ h => hFc q h) hFc (fun u t H1 locs ht hvm w_9 hB hz1 hk1 hS => ?_)
        obtain ⟨u_10, u_11⟩ := u
        obtain ⟨hP1, hK1, hD1⟩ := hB
        rw [ht] at hP1
        try dsimp only at w_9
        obtain ⟨hP, hD⟩ := va_join (wr := [(x, .inr (7, [.ref x_signs, .int x_length])), (x_signs, .inl (cI, 255, .inl x_signsF))]) (w1 := [(pe, .inr (5, [.ref pe_decimal, .ref pe_row, .ref pe_turned, .int u_10, .int pe_slots, .int pe_slotsPut, .int pe_hidden, .int pe_zeroSeen, .int pe_groups])), (pe_row, .inl (cI, 1024, .inl u_11))]) hP hD [0, 1] [2, 3] rfl rfl (by decide) (by decide) hk1 hFc hP1 hD1
        generalize H1 = H at hP hS ⊢
        have hP : va_P D vwCl [(x, .inr (7, [.ref x_signs, .int x_length])), (x_signs, .inl (cI, 255, .inl x_signsF)), (pe, .inr (5, [.ref pe_decimal, .ref pe_row, .ref pe_turned, .int u_10, .int pe_slots, .int pe_slotsPut, .int pe_hidden, .int pe_zeroSeen, .int pe_groups])), (pe_row, .inl (cI, 1024, .inl u_11))] H := hP
        have hD : va_D A [(x, .inr (7, [.ref x_signs, .int x_length])), (x_signs, .inl (cI, 255, .inl x_signsF)), (pe, .inr (5, [.ref pe_decimal, .ref pe_row, .ref pe_turned, .int u_10, .int pe_slots, .int pe_slotsPut, .int pe_hidden, .int pe_zeroSeen, .int pe_groups])), (pe_row, .inl (cI, 1024, .inl u_11))] := hD
        obtain ⟨x_12, ex_12⟩ : ∃ y : Int32, y = x_1 + 1 := ⟨_, rfl⟩
        have tx_12 := ti_add ex_12
        refine lv_iinc (v := x_12) (lv' := [(2, .int x_12), (0, .ref pe), (1, .ref x)]) hx hb dX7_addText_19 hl (k := 0) rfl (by rw [ex_12]; rfl) (by decide) rfl (fun ls hl => ?_)
        refine lv_goto (tgt := 2) hx hb dX7_addText_22 (by decide) ?_
        exact hZ1 (ih_2 x_12 u_10 u_11 _ _ _ (by omega) (by omega) (by omega) (hP.sub [2, 3, 0, 1] rfl) (hD.sub [2, 3, 0, 1] (by decide) rfl) hS hl)
  exact hZ1 (L_2 (((2147483647 - (0 : Int32).toInt).toNat) + 1) 0 pe_length pe_rowF _ _ _ (by omega) (by omega) (by omega) hP hD hS hl)

def ow_X7_addNumber : List Cond := [Cond.fieldLink RX7 22 "NumberFormats$Pen" "turned" "[I", Cond.methodLink RX7 38 yX7_add, Cond.instanceMethod yX7_add, Cond.selects RX7 yX7_add yX7_add, Cond.initialized RX7, Cond.constantLong RX7 49 (10)]
def pw_X7_addNumber : List Cond := Cond.code yX7_addNumber cX7_addNumber 8 none :: (ow_X7_addNumber ++ (pw_X7_add ++ (wsX70)))
set_option maxRecDepth 20000 in
theorem mo_X7_addNumber : ∀ w ∈ ow_X7_addNumber, w ∈ lw_tbl := by decide +kernel
set_option maxRecDepth 20000 in
theorem mc_X7_addNumber : Cond.code yX7_addNumber cX7_addNumber 8 none ∈ lw_tbl := by decide +kernel
theorem m_X7_addNumber : ∀ w ∈ pw_X7_addNumber, w ∈ lw_tbl := List.forall_mem_cons.mpr ⟨mc_X7_addNumber, (List.forall_mem_append.mpr ⟨mo_X7_addNumber, (List.forall_mem_append.mpr ⟨m_X7_add, inX7⟩)⟩)⟩
theorem ko_X7_addNumber : ∀ w ∈ ow_X7_addNumber, goodWord w = true := by decide +kernel
theorem k_X7_addNumber : pw_X7_addNumber.all goodWord = true := List.all_eq_true.mpr (List.forall_mem_cons.mpr ⟨by decide +kernel, (List.forall_mem_append.mpr ⟨ko_X7_addNumber, (List.forall_mem_append.mpr ⟨(List.all_eq_true.mp k_X7_add), kX_X7⟩)⟩)⟩)
set_option maxHeartbeats 400000 in
set_option maxRecDepth 100000 in
theorem c_X7_addNumber (l : Launch) (D : va_G) (cI cD cJ : ClassId) (sz : Nat) (pe : Nat) (pe_decimal : Nat) (pe_row : Nat) (pe_turned : Nat) (pe_length : Int32) (pe_slots : Int32) (pe_slotsPut : Int32) (pe_hidden : Int32) (pe_zeroSeen : Int32) (pe_groups : Int32) (pe_rowF : Nat → Int32) (pe_turnedF : Nat → Int32) (p1 : Int64) (p2 : Int32) (iv_pe_length : 0 ≤ (pe_length : Int32).toInt ∧ (pe_length : Int32).toInt ≤ 1024) (iv_pe_slots : 0 ≤ (pe_slots : Int32).toInt ∧ (pe_slots : Int32).toInt ≤ 256) (iv_pe_zeroSeen : (pe_zeroSeen : Int32).toInt = 0 ∨ (pe_zeroSeen : Int32).toInt = 1) (iv_pe_groups : (pe_groups : Int32).toInt = 0 ∨ (pe_groups : Int32).toInt = 1) : Met l yX7_addNumber pw_X7_addNumber ({ frames := 1, cells := 0, slots := 0, locals := 21 }) (va_Pc [.ref pe, .long p1, .int p2] (fun U => U.heap.size = sz ∧ va_P D vwCl [(pe, .inr (5, [.ref pe_decimal, .ref pe_row, .ref pe_turned, .int pe_length, .int pe_slots, .int pe_slotsPut, .int pe_hidden, .int pe_zeroSeen, .int pe_groups])), (pe_row, .inl (cI, 1024, .inl pe_rowF)), (pe_turned, .inl (cI, 20, .inl pe_turnedF))] U.heap ∧ va_K D vwCl (ty3 cI cD cJ) U ∧ va_D (fun _ => True) [(pe, .inr (5, [.ref pe_decimal, .ref pe_row, .ref pe_turned, .int pe_length, .int pe_slots, .int pe_slotsPut, .int pe_hidden, .int pe_zeroSeen, .int pe_groups])), (pe_row, .inl (cI, 1024, .inl pe_rowF)), (pe_turned, .inl (cI, 20, .inl pe_turnedF))])) (va_Qv (fun (u : Int32 × (Nat → Int32) × (Nat → Int32)) => match u with | (pe_length2, pe_rowF2, pe_turnedF2) => (0 ≤ (pe_length2 : Int32).toInt ∧ (pe_length2 : Int32).toInt ≤ 1024)) (fun (u : Int32 × (Nat → Int32) × (Nat → Int32)) (t : State) => match u with | (pe_length2, pe_rowF2, pe_turnedF2) => va_P D vwCl [(pe, .inr (5, [.ref pe_decimal, .ref pe_row, .ref pe_turned, .int pe_length2, .int pe_slots, .int pe_slotsPut, .int pe_hidden, .int pe_zeroSeen, .int pe_groups])), (pe_row, .inl (cI, 1024, .inl pe_rowF2)), (pe_turned, .inl (cI, 20, .inl pe_turnedF2))] t.heap ∧ va_K D vwCl (ty3 cI cD cJ) t ∧ va_D (va_A [(pe, .inr (5, [.ref pe_decimal, .ref pe_row, .ref pe_turned, .int pe_length, .int pe_slots, .int pe_slotsPut, .int pe_hidden, .int pe_zeroSeen, .int pe_groups])), (pe_row, .inl (cI, 1024, .inl pe_rowF)), (pe_turned, .inl (cI, 20, .inl pe_turnedF))] sz) [(pe, .inr (5, [.ref pe_decimal, .ref pe_row, .ref pe_turned, .int pe_length2, .int pe_slots, .int pe_slotsPut, .int pe_hidden, .int pe_zeroSeen, .int pe_groups])), (pe_row, .inl (cI, 1024, .inl pe_rowF2)), (pe_turned, .inl (cI, 20, .inl pe_turnedF2))]) (va_A [(pe, .inr (5, [.ref pe_decimal, .ref pe_row, .ref pe_turned, .int pe_length, .int pe_slots, .int pe_slotsPut, .int pe_hidden, .int pe_zeroSeen, .int pe_groups])), (pe_row, .inl (cI, 1024, .inl pe_rowF)), (pe_turned, .inl (cI, 20, .inl pe_turnedF))] sz)) 0 0 (va_A [(pe, .inr (5, [.ref pe_decimal, .ref pe_row, .ref pe_turned, .int pe_length, .int pe_slots, .int pe_slotsPut, .int pe_hidden, .int pe_zeroSeen, .int pe_groups])), (pe_row, .inl (cI, 1024, .inl pe_rowF)), (pe_turned, .inl (cI, 20, .inl pe_turnedF))] sz) := by
  refine Met.ofW (cc := cX7_addNumber) (maxL := 8) (ret := none) (by decide +kernel) rfl ?_
  intro p e s m args below meth c s₁ B hml hv
  obtain ⟨rfl, hsz, hP, hK, hD0⟩ := hv
  have hx := B.exec
  have hb := B.bytes
  have hr := B.returns
  have hts := atoms_spec (ws := pw_X7_addNumber) B.pre
  have hown : s.vm.findClass RX7 = some m.cls := findClass_of_methodNamed B.named
  have hlocks := B.notSynchronized
  subst hsz
  have hD := hD0.self (sz := s.heap.size)
  generalize hAe : va_A [(pe, .inr (5, [.ref pe_decimal, .ref pe_row, .ref pe_turned, .int pe_length, .int pe_slots, .int pe_slotsPut, .int pe_hidden, .int pe_zeroSeen, .int pe_groups])), (pe_row, .inl (cI, 1024, .inl pe_rowF)), (pe_turned, .inl (cI, 20, .inl pe_turnedF))] s.heap.size = A at hD ⊢
  have hA : ∀ q : Nat, s.heap.size ≤ q → A q := fun q h => by rw [← hAe]; exact Or.inr h
  have hS : va_S A s.heap s.heap [] := va_S.rf
  have hw : ∀ (k : Nat) (w : Cond), ow_X7_addNumber[k]? = some w → w.before _ s = true := fun k w h => hts w (List.mem_cons_of_mem _ (have h9 := List.mem_of_getElem? h; List.mem_append_left _ h9))
  have i_X7_add : ∀ w ∈ pw_X7_add, w ∈ pw_X7_addNumber := fun w h9 => List.mem_cons_of_mem _ (List.mem_append_right _ (List.mem_append_left _ h9))
  have iX7 : ∀ w ∈ u_ws RX7 TX7 9, w ∈ pw_X7_addNumber := fun w h9 => List.mem_cons_of_mem _ (List.mem_append_right _ (List.mem_append_right _ (h9)))
  have n_m1 : (((-1) : Int32)).toInt = (-1) := by decide
  have n_0 : ((0 : Int32)).toInt = 0 := by decide
  have n_1 : ((1 : Int32)).toInt = 1 := by decide
  have n_20 : ((20 : Int32)).toInt = 20 := by decide
  have n_48 : ((48 : Int32)).toInt = 48 := by decide
  have nl_0 : ((0 : Int64)).toInt = 0 := by decide
  have nl_10 : ((10 : Int64)).toInt = 10 := by decide
  have hl := lv_entry ([.ref pe, .long p1, .int p2]) (n := 8) (Nat.le_of_ble_eq_true rfl)
  rw [lg_entry_eq]
  generalize (lg_sl ([.ref pe, .long p1, .int p2]) ++ List.replicate (8 - (lg_sl ([.ref pe, .long p1, .int p2])).length) Slot.unset).toArray = ls at hl ⊢
  have hl : lv_has ls 8 [(0, .ref pe), (1, .long p1), (3, .int p2)] := hl
  have b_p2 := ti_b p2
  refine zz_cap (fun Z hZ1 hZ2 => ?_)
  refine lv_iconst (v := 0) hx hb dX7_addNumber_0 (by decide) ?_
  refine lv_istore (lv' := [(4, .int 0), (0, .ref pe), (1, .long p1), (3, .int p2)]) hx hb dX7_addNumber_1 hl (by decide) rfl (fun ls hl => ?_)
  refine lv_lload_n hx hb dX7_addNumber_3 rfl (lv_at hl 2 rfl) ?_
  refine lv_lstore (lv' := [(5, .long p1), (4, .int 0), (0, .ref pe), (1, .long p1), (3, .int p2)]) hx hb dX7_addNumber_4 hl (by decide) rfl (fun ls hl => ?_)
  have L_6 : ∀ (N : Nat) (y_1 : Int64) (x_2 : Int32) (f_3 : Nat → Int32) (H : Heap) (locs : List Loc) (ls : Array Slot), (0 ≤ (x_2 : Int32).toInt) → ((x_2 : Int32).toInt ≤ 20) → ((20 - (x_2 : Int32).toInt).toNat < N) → va_P D vwCl [(pe, .inr (5, [.ref pe_decimal, .ref pe_row, .ref pe_turned, .int pe_length, .int pe_slots, .int pe_slotsPut, .int pe_hidden, .int pe_zeroSeen, .int pe_groups])), (pe_row, .inl (cI, 1024, .inl pe_rowF)), (pe_turned, .inl (cI, 20, .inl f_3))] H → va_D A [(pe, .inr (5, [.ref pe_decimal, .ref pe_row, .ref pe_turned, .int pe_length, .int pe_slots, .int pe_slotsPut, .int pe_hidden, .int pe_zeroSeen, .int pe_groups])), (pe_row, .inl (cI, 1024, .inl pe_rowF)), (pe_turned, .inl (cI, 20, .inl f_3))] → va_S A s.heap H locs → lv_has ls 8 [(5, .long y_1), (4, .int x_2), (0, .ref pe), (3, .int p2)] → Z 0 0 H locs (F0 m 6 ls []) := by
    intro N
    induction N with
    | zero => intro _ _ _ _ _ _ _ _ hmu; exact absurd hmu (Nat.not_lt_zero _)
    | succ N ih_6 =>
      intro y_1 x_2 f_3 H locs ls g6_0 g6_1 hmu hP hD hS hl
      refine hZ2 ?_
      refine lv_iload hx hb dX7_addNumber_6 (lv_at hl 1 rfl) ?_
      refine lv_aload_n hx hb dX7_addNumber_8 rfl (lv_at hl 2 rfl) ?_
      refine va_get (D := D) (ci := 5) (v := .ref pe_turned) (C := RX7) (T := TX7) (N := 9) hx hb hts iX7 hown hK hP 0 rfl rfl 2 (by decide) (hw 0 (.fieldLink RX7 22 "NumberFormats$Pen" "turned" "[I") rfl) (fun _ h9 => h9) rfl dX7_addNumber_9 ?_
      refine va_alen hx hb hK hP 2 0 rfl rfl (v := 20) rfl dX7_addNumber_12 ?_
      have K_57 : ∀ (H : Heap) (locs : List Loc) (ls : Array Slot), va_P D vwCl [(pe, .inr (5, [.ref pe_decimal, .ref pe_row, .ref pe_turned, .int pe_length, .int pe_slots, .int pe_slotsPut, .int pe_hidden, .int pe_zeroSeen, .int pe_groups])), (pe_row, .inl (cI, 1024, .inl pe_rowF)), (pe_turned, .inl (cI, 20, .inl f_3))] H → va_D A [(pe, .inr (5, [.ref pe_decimal, .ref pe_row, .ref pe_turned, .int pe_length, .int pe_slots, .int pe_slotsPut, .int pe_hidden, .int pe_zeroSeen, .int pe_groups])), (pe_row, .inl (cI, 1024, .inl pe_rowF)), (pe_turned, .inl (cI, 20, .inl f_3))] → va_S A s.heap H locs → lv_has ls 8 [(4, .int x_2), (0, .ref pe)] → Z 0 0 H locs (F0 m 57 ls []) := by
        intro  H locs ls  hP hD hS hl
        refine hZ2 ?_
        refine lv_iload hx hb dX7_addNumber_57 (lv_at hl 0 rfl) ?_
        refine lv_iconst (v := 1) hx hb dX7_addNumber_59 (by decide) ?_
        refine lv_isub hx hb dX7_addNumber_60 ?_
        refine lv_topi (fun x_4 ex_4 => ?_)
        have tx_4 := ti_sub ex_4
        refine lv_istore (lv' := [(7, .int x_4), (4, .int x_2), (0, .ref pe)]) hx hb dX7_addNumber_61 hl (by decide) rfl (fun ls hl => ?_)
        have L_63 : ∀ (N : Nat) (x_5 : Int32) (x_6 : Int32) (f_7 : Nat → Int32) (H : Heap) (locs : List Loc) (ls : Array Slot), ((x_5 : Int32).toInt ≤ 19) → (0 ≤ (x_6 : Int32).toInt ∧ (x_6 : Int32).toInt ≤ 1024) → (((x_5 : Int32).toInt + 2147483648).toNat < N) → va_P D vwCl [(pe, .inr (5, [.ref pe_decimal, .ref pe_row, .ref pe_turned, .int x_6, .int pe_slots, .int pe_slotsPut, .int pe_hidden, .int pe_zeroSeen, .int pe_groups])), (pe_row, .inl (cI, 1024, .inl f_7)), (pe_turned, .inl (cI, 20, .inl f_3))] H → va_D A [(pe, .inr (5, [.ref pe_decimal, .ref pe_row, .ref pe_turned, .int x_6, .int pe_slots, .int pe_slotsPut, .int pe_hidden, .int pe_zeroSeen, .int pe_groups])), (pe_row, .inl (cI, 1024, .inl f_7)), (pe_turned, .inl (cI, 20, .inl f_3))] → va_S A s.heap H locs → lv_has ls 8 [(7, .int x_5), (0, .ref pe)] → Z 0 0 H locs (F0 m 63 ls []) := by
          intro N
          induction N with
          | zero => intro _ _ _ _ _ _ _ _ hmu; exact absurd hmu (Nat.not_lt_zero _)
          | succ N ih_63 =>
            intro x_5 x_6 f_7 H locs ls g63_0 g63_1 hmu hP hD hS hl
            refine hZ2 ?_
            refine lv_iload hx hb dX7_addNumber_63 (lv_at hl 0 rfl) ?_
            refine lv_if_lt (tgt := 88) hx hb dX7_addNumber_65 (by decide) (fun c_8 => ?_) (fun c_8 => ?_)
            · have ic_8 : (x_5 : Int32).toInt < (0 : Int32).toInt := (fa_lt x_5 0).mp c_8
              have hP9 := hP.sub (ws' := [(pe, .inr (5, [.ref pe_decimal, .ref pe_row, .ref pe_turned, .int x_6, .int pe_slots, .int pe_slotsPut, .int pe_hidden, .int pe_zeroSeen, .int pe_groups])), (pe_row, .inl (cI, 1024, .inl f_7)), (pe_turned, .inl (cI, 20, .inl f_3))]) [0, 1, 2] rfl
              have hD9 := hD.sub (ws' := [(pe, .inr (5, [.ref pe_decimal, .ref pe_row, .ref pe_turned, .int x_6, .int pe_slots, .int pe_slotsPut, .int pe_hidden, .int pe_zeroSeen, .int pe_groups])), (pe_row, .inl (cI, 1024, .inl f_7)), (pe_turned, .inl (cI, 20, .inl f_3))]) [0, 1, 2] (by decide) rfl
              exact W.vret hx hb hr (fun t ht hW => ⟨⟨(x_6, f_7, f_3), rfl, (by (try dsimp only); first | omega | assumption), by rw [ht]; exact hP9, va_K.moved hW.alike hK, hD9⟩, hS.F ht⟩) hS.2.2 dX7_addNumber_88
            · have ic_8 : ¬ ((x_5 : Int32).toInt < (0 : Int32).toInt) := fun h9 => c_8 ((fa_lt x_5 0).mpr h9)
              refine lv_aload_n hx hb dX7_addNumber_68 rfl (lv_at hl 1 rfl) ?_
              refine lv_bipush (v := 48) hx hb dX7_addNumber_69 (by decide) ?_
              refine lv_aload_n hx hb dX7_addNumber_71 rfl (lv_at hl 1 rfl) ?_
              refine va_get (D := D) (ci := 5) (v := .ref pe_turned) (C := RX7) (T := TX7) (N := 9) hx hb hts iX7 hown hK hP 0 rfl rfl 2 (by decide) (hw 0 (.fieldLink RX7 22 "NumberFormats$Pen" "turned" "[I") rfl) (fun _ h9 => h9) rfl dX7_addNumber_72 ?_
              refine lv_iload hx hb dX7_addNumber_75 (lv_at hl 0 rfl) ?_
              have h_77 : vp_in x_5 20 := by rw [vp_in_iff]; omega
              refine va_iald hx hb hK hP 2 0 rfl rfl h_77 dX7_addNumber_77 ?_
              refine lv_topi (fun x_9 ex_9 => ?_)
              refine lv_iadd hx hb dX7_addNumber_78 ?_
              refine lv_topi (fun x_10 ex_10 => ?_)
              have tx_10 := ti_add ex_10
              have hPc := hP.sub (ws' := [(pe, .inr (5, [.ref pe_decimal, .ref pe_row, .ref pe_turned, .int x_6, .int pe_slots, .int pe_slotsPut, .int pe_hidden, .int pe_zeroSeen, .int pe_groups])), (pe_row, .inl (cI, 1024, .inl f_7))]) [0, 1] rfl
              have hDc := hD.sub (ws' := [(pe, .inr (5, [.ref pe_decimal, .ref pe_row, .ref pe_turned, .int x_6, .int pe_slots, .int pe_slotsPut, .int pe_hidden, .int pe_zeroSeen, .int pe_groups])), (pe_row, .inl (cI, 1024, .inl f_7))]) [0, 1] (by decide) rfl
              have hFc := va_free (wc := [(pe, .inr (5, [.ref pe_decimal, .ref pe_row, .ref pe_turned, .int x_6, .int pe_slots, .int pe_slotsPut, .int pe_hidden, .int pe_zeroSeen, .int pe_groups])), (pe_row, .inl (cI, 1024, .inl f_7))]) hD hS hA [0, 1] rfl
              refine va_callv (va_runV (As := [.int x_10]) (rest := []) ⟨hx, hb, hml, hown, hts⟩ (c_X7_add l D cI cD cJ H.size pe pe_decimal pe_row pe_turned x_6 pe_slots pe_slotsPut pe_hidden pe_zeroSeen pe_groups f_7 x_10 (by omega) (by omega) (by omega) (by omega)) (cwV 1 hts (goodIn_app (goodIn_r _ [2, 3, 4, 5] rfl (by decide +kernel)) (goodIn_sub i_X7_add k_X7_add)) rfl rfl rfl (by decide +kernel) ⟨Nat.le_of_ble_eq_true rfl, Nat.le_of_ble_eq_true rfl⟩) ⟨fun a U g mk q => by obtain ⟨q0, q1, qP, qK, qD⟩ := q; exact ⟨q0, q1, qP, va_K.moved (u := U) (U := U.calling g mk a) (Vm.Alike.refl U.vm) qK, qD⟩, va_recv hK hPc (ci := 5) (q0 := 0) rfl rfl, fun U hU hW => ⟨rfl, by rw [hU], by rw [hU]; exact hPc, va_K.moved hW.alike hK, hDc.weaken (fun _ _ _ _ => trivial)⟩⟩ rfl rfl hl.1 rfl (lv_room (Nat.le_of_ble_eq_true rfl)) dX7_addNumber_79 ⟨Nat.le_of_ble_eq_true rfl, Nat.le_of_ble_eq_true rfl⟩) hS (fun q _ h => hFc q h) hFc (fun u t H1 locs ht hvm w_11 hB hz1 hk1 hS => ?_)
              obtain ⟨u_12, u_13⟩ := u
              obtain ⟨hP1, hK1, hD1⟩ := hB
              rw [ht] at hP1
              try dsimp only at w_11
              obtain ⟨hP, hD⟩ := va_join (wr := [(pe_turned, .inl (cI, 20, .inl f_3))]) (w1 := [(pe, .inr (5, [.ref pe_decimal, .ref pe_row, .ref pe_turned, .int u_12, .int pe_slots, .int pe_slotsPut, .int pe_hidden, .int pe_zeroSeen, .int pe_groups])), (pe_row, .inl (cI, 1024, .inl u_13))]) hP hD [0, 1] [2] rfl rfl (by decide) (by decide) hk1 hFc hP1 hD1
              generalize H1 = H at hP hS ⊢
              have hP : va_P D vwCl [(pe_turned, .inl (cI, 20, .inl f_3)), (pe, .inr (5, [.ref pe_decimal, .ref pe_row, .ref pe_turned, .int u_12, .int pe_slots, .int pe_slotsPut, .int pe_hidden, .int pe_zeroSeen, .int pe_groups])), (pe_row, .inl (cI, 1024, .inl u_13))] H := hP
              have hD : va_D A [(pe_turned, .inl (cI, 20, .inl f_3)), (pe, .inr (5, [.ref pe_decimal, .ref pe_row, .ref pe_turned, .int u_12, .int pe_slots, .int pe_slotsPut, .int pe_hidden, .int pe_zeroSeen, .int pe_groups])), (pe_row, .inl (cI, 1024, .inl u_13))] := hD
              obtain ⟨x_14, ex_14⟩ : ∃ y : Int32, y = x_5 + (-1) := ⟨_, rfl⟩
              have tx_14 := ti_add ex_14
              refine lv_iinc (v := x_14) (lv' := [(7, .int x_14), (0, .ref pe)]) hx hb dX7_addNumber_82 hl (k := 0) rfl (by rw [ex_14]; rfl) (by decide) rfl (fun ls hl => ?_)
              refine lv_goto (tgt := 63) hx hb dX7_addNumber_85 (by decide) ?_
              exact hZ1 (ih_63 x_14 u_12 u_13 _ _ _ (by omega) (by omega) (by omega) (hP.sub [1, 2, 0] rfl) (hD.sub [1, 2, 0] (by decide) rfl) hS hl)
        exact hZ1 (L_63 ((((x_4 : Int32).toInt + 2147483648).toNat) + 1) x_4 pe_length pe_rowF _ _ _ (by omega) (by omega) (by omega) hP hD hS (lv_sub hl [0, 2] rfl))
      refine lv_icmp_ge (tgt := 57) hx hb dX7_addNumber_13 (by decide) (fun c_15 => ?_) (fun c_15 => ?_)
      · have ic_15 : (20 : Int32).toInt ≤ (x_2 : Int32).toInt := (fa_le 20 x_2).mp c_15
        exact hZ1 (K_57  _ _ _ hP hD hS (lv_sub hl [1, 2] rfl))
      · have ic_15 : ¬ ((20 : Int32).toInt ≤ (x_2 : Int32).toInt) := fun h9 => c_15 ((fa_le 20 x_2).mpr h9)
        refine lv_lload hx hb dX7_addNumber_16 (lv_at hl 0 rfl) ?_
        refine lv_lconst (v := 0) hx hb dX7_addNumber_18 (by decide) ?_
        refine W.lcmp hx hb dX7_addNumber_19 ?_
        refine lv_topi (fun x_16 ex_16 => ?_)
        have tx_16 := ti_lcmp ex_16
        have K_29 : ∀ (H : Heap) (locs : List Loc) (ls : Array Slot), va_P D vwCl [(pe, .inr (5, [.ref pe_decimal, .ref pe_row, .ref pe_turned, .int pe_length, .int pe_slots, .int pe_slotsPut, .int pe_hidden, .int pe_zeroSeen, .int pe_groups])), (pe_row, .inl (cI, 1024, .inl pe_rowF)), (pe_turned, .inl (cI, 20, .inl f_3))] H → va_D A [(pe, .inr (5, [.ref pe_decimal, .ref pe_row, .ref pe_turned, .int pe_length, .int pe_slots, .int pe_slotsPut, .int pe_hidden, .int pe_zeroSeen, .int pe_groups])), (pe_row, .inl (cI, 1024, .inl pe_rowF)), (pe_turned, .inl (cI, 20, .inl f_3))] → va_S A s.heap H locs → lv_has ls 8 [(5, .long y_1), (4, .int x_2), (0, .ref pe), (3, .int p2)] → Z 0 0 H locs (F0 m 29 ls []) := by
          intro  H locs ls  hP hD hS hl
          refine hZ2 ?_
          refine lv_aload_n hx hb dX7_addNumber_29 rfl (lv_at hl 2 rfl) ?_
          refine va_get (D := D) (ci := 5) (v := .ref pe_turned) (C := RX7) (T := TX7) (N := 9) hx hb hts iX7 hown hK hP 0 rfl rfl 2 (by decide) (hw 0 (.fieldLink RX7 22 "NumberFormats$Pen" "turned" "[I") rfl) (fun _ h9 => h9) rfl dX7_addNumber_30 ?_
          refine lv_iload hx hb dX7_addNumber_33 (lv_at hl 1 rfl) ?_
          refine lv_lload hx hb dX7_addNumber_35 (lv_at hl 0 rfl) ?_
          refine lv_ldc2 (v := 10) hx hb hown (hw 5 (.constantLong RX7 49 (10)) rfl) dX7_addNumber_37 ?_
          refine lv_lrem hx hb dX7_addNumber_40 (by decide) ?_
          refine lv_topl (fun y_17 ey_17 => ?_)
          have ty_17 := tl_rem ey_17 (by decide)
          rw [nl_10] at ty_17
          refine lv_l2i hx hb dX7_addNumber_41 rfl ?_
          refine lv_topi (fun x_18 ex_18 => ?_)
          have tx_18 := ti_l2i ex_18
          have h_42 : vp_in x_2 20 := by rw [vp_in_iff]; omega
          refine va_iast hx hb hK hP hD hS 2 0 rfl rfl h_42 dX7_addNumber_42 (fun H locs hP hD hS => ?_)
          obtain ⟨f_19, ef_19⟩ : ∃ y : Nat → Int32, y = upd f_3 (x_2 : Int32).toNatClampNeg x_18 := ⟨_, rfl⟩
          rw [← ef_19] at hP hD
          have hP : va_P D vwCl [(pe, .inr (5, [.ref pe_decimal, .ref pe_row, .ref pe_turned, .int pe_length, .int pe_slots, .int pe_slotsPut, .int pe_hidden, .int pe_zeroSeen, .int pe_groups])), (pe_row, .inl (cI, 1024, .inl pe_rowF)), (pe_turned, .inl (cI, 20, .inl f_19))] H := hP
          have hD : va_D A [(pe, .inr (5, [.ref pe_decimal, .ref pe_row, .ref pe_turned, .int pe_length, .int pe_slots, .int pe_slotsPut, .int pe_hidden, .int pe_zeroSeen, .int pe_groups])), (pe_row, .inl (cI, 1024, .inl pe_rowF)), (pe_turned, .inl (cI, 20, .inl f_19))] := hD
          refine lv_lload hx hb dX7_addNumber_43 (lv_at hl 0 rfl) ?_
          refine lv_ldc2 (v := 10) hx hb hown (hw 5 (.constantLong RX7 49 (10)) rfl) dX7_addNumber_45 ?_
          refine lv_ldiv hx hb dX7_addNumber_48 (by decide) ?_
          refine lv_topl (fun y_20 ey_20 => ?_)
          have ty_20 := tl_div ey_20 (by decide)
          rw [nl_10] at ty_20
          refine lv_lstore (lv' := [(5, .long y_20), (4, .int x_2), (0, .ref pe), (3, .int p2)]) hx hb dX7_addNumber_49 hl (by decide) rfl (fun ls hl => ?_)
          obtain ⟨x_21, ex_21⟩ : ∃ y : Int32, y = x_2 + 1 := ⟨_, rfl⟩
          have tx_21 := ti_add ex_21
          refine lv_iinc (v := x_21) (lv' := [(4, .int x_21), (5, .long y_20), (0, .ref pe), (3, .int p2)]) hx hb dX7_addNumber_51 hl (k := 1) rfl (by rw [ex_21]; rfl) (by decide) rfl (fun ls hl => ?_)
          refine lv_goto (tgt := 6) hx hb dX7_addNumber_54 (by decide) ?_
          exact hZ1 (ih_6 y_20 x_21 f_19 _ _ _ (by omega) (by omega) (by omega) hP hD hS (lv_sub hl [1, 0, 2, 3] rfl))
        refine lv_if_gt (tgt := 29) hx hb dX7_addNumber_20 (by decide) (fun c_22 => ?_) (fun c_22 => ?_)
        · have ic_22 : (0 : Int32).toInt < (x_16 : Int32).toInt := (fa_lt 0 x_16).mp c_22
          exact hZ1 (K_29  _ _ _ hP hD hS hl)
        · have ic_22 : ¬ ((0 : Int32).toInt < (x_16 : Int32).toInt) := fun h9 => c_22 ((fa_lt 0 x_16).mpr h9)
          refine lv_iload hx hb dX7_addNumber_23 (lv_at hl 1 rfl) ?_
          refine lv_iload_n hx hb dX7_addNumber_25 rfl (lv_at hl 3 rfl) ?_
          refine lv_icmp_ge (tgt := 57) hx hb dX7_addNumber_26 (by decide) (fun c_23 => ?_) (fun c_23 => ?_)
          · have ic_23 : (p2 : Int32).toInt ≤ (x_2 : Int32).toInt := (fa_le p2 x_2).mp c_23
            exact hZ1 (K_57  _ _ _ hP hD hS (lv_sub hl [1, 2] rfl))
          · have ic_23 : ¬ ((p2 : Int32).toInt ≤ (x_2 : Int32).toInt) := fun h9 => c_23 ((fa_le p2 x_2).mpr h9)
            exact hZ1 (K_29  _ _ _ hP hD hS hl)
  exact hZ1 (L_6 (((20 - (0 : Int32).toInt).toNat) + 1) p1 0 pe_turnedF _ _ _ (by omega) (by omega) (by omega) hP hD hS (lv_sub hl [0, 1, 2, 4] rfl))

def ow_X7_countHidden : List Cond := [Cond.fieldLink RX7 57 "NumberFormats$Pen" "slots" "I", Cond.methodLink RX7 77 yX2_kind, Cond.instanceMethod yX2_kind, Cond.selects RX2 yX2_kind yX2_kind, Cond.initialized RX2, Cond.methodLink RX7 80 yX2_sign, Cond.instanceMethod yX2_sign, Cond.selects RX2 yX2_sign yX2_sign, Cond.fieldLink RX7 12 "NumberFormats$Pen" "decimal" "LNumberFormats$Decimal;", Cond.methodLink RX7 83 yX1_wholeDigits, Cond.instanceMethod yX1_wholeDigits, Cond.selects RX1 yX1_wholeDigits yX1_wholeDigits, Cond.initialized RX1]
def pw_X7_countHidden : List Cond := Cond.code yX7_countHidden cX7_countHidden 7 (some .int) :: (ow_X7_countHidden ++ (pw_X2_kind ++ (pw_X2_sign ++ (pw_X1_wholeDigits ++ (wsX70)))))
set_option maxRecDepth 20000 in
theorem mo_X7_countHidden : ∀ w ∈ ow_X7_countHidden, w ∈ lw_tbl := by decide +kernel
set_option maxRecDepth 20000 in
theorem mc_X7_countHidden : Cond.code yX7_countHidden cX7_countHidden 7 (some .int) ∈ lw_tbl := by decide +kernel
theorem m_X7_countHidden : ∀ w ∈ pw_X7_countHidden, w ∈ lw_tbl := List.forall_mem_cons.mpr ⟨mc_X7_countHidden, (List.forall_mem_append.mpr ⟨mo_X7_countHidden, (List.forall_mem_append.mpr ⟨m_X2_kind, (List.forall_mem_append.mpr ⟨m_X2_sign, (List.forall_mem_append.mpr ⟨m_X1_wholeDigits, inX7⟩)⟩)⟩)⟩)⟩
theorem ko_X7_countHidden : ∀ w ∈ ow_X7_countHidden, goodWord w = true := by decide +kernel
theorem k_X7_countHidden : pw_X7_countHidden.all goodWord = true := List.all_eq_true.mpr (List.forall_mem_cons.mpr ⟨by decide +kernel, (List.forall_mem_append.mpr ⟨ko_X7_countHidden, (List.forall_mem_append.mpr ⟨(List.all_eq_true.mp k_X2_kind), (List.forall_mem_append.mpr ⟨(List.all_eq_true.mp k_X2_sign), (List.forall_mem_append.mpr ⟨(List.all_eq_true.mp k_X1_wholeDigits), kX_X7⟩)⟩)⟩)⟩)⟩)
set_option maxHeartbeats 400000 in
set_option maxRecDepth 100000 in
theorem c_X7_countHidden (l : Launch) (D : va_G) (cI cD cJ : ClassId) (sz : Nat) (pe : Nat) (pe_decimal : Nat) (pe_row : Nat) (pe_turned : Nat) (pe_length : Int32) (pe_slots : Int32) (pe_slotsPut : Int32) (pe_hidden : Int32) (pe_zeroSeen : Int32) (pe_groups : Int32) (pe_decimal_limbs : Nat) (pe_decimal_digits : Nat) (pe_decimal_used : Int32) (pe_decimal_count : Int32) (pe_decimal_scale : Int32) (f : Nat) (f_kinds : Nat) (f_signs : Nat) (f_sizes : Nat) (f_places : Nat) (f_limits : Nat) (f_starts : Nat) (f_sorts : Nat) (f_count : Int32) (f_sections : Int32) (f_fifth : Int32) (f_kindsF : Nat → Int32) (f_signsF : Nat → Int32) (p1 : Int32) (p2 : Int32) (iv_pe_length : 0 ≤ (pe_length : Int32).toInt ∧ (pe_length : Int32).toInt ≤ 1024) (iv_pe_slots : 0 ≤ (pe_slots : Int32).toInt ∧ (pe_slots : Int32).toInt ≤ 256) (iv_pe_zeroSeen : (pe_zeroSeen : Int32).toInt = 0 ∨ (pe_zeroSeen : Int32).toInt = 1) (iv_pe_groups : (pe_groups : Int32).toInt = 0 ∨ (pe_groups : Int32).toInt = 1) (iv_pe_decimal_used : 0 ≤ (pe_decimal_used : Int32).toInt ∧ (pe_decimal_used : Int32).toInt ≤ 100) (iv_pe_decimal_count : 0 ≤ (pe_decimal_count : Int32).toInt ∧ (pe_decimal_count : Int32).toInt ≤ 910) (iv_f_count : 0 ≤ (f_count : Int32).toInt ∧ (f_count : Int32).toInt ≤ 255) (iv_f_sections : 0 ≤ (f_sections : Int32).toInt ∧ (f_sections : Int32).toInt ≤ 4) : Met l yX7_countHidden pw_X7_countHidden ({ frames := 1, cells := 0, slots := 0, locals := 21 }) (va_Pc [.ref pe, .ref f, .int p1, .int p2] (fun U => va_P D vwCl [(pe, .inr (5, [.ref pe_decimal, .ref pe_row, .ref pe_turned, .int pe_length, .int pe_slots, .int pe_slotsPut, .int pe_hidden, .int pe_zeroSeen, .int pe_groups])), (pe_decimal, .inr (1, [.ref pe_decimal_limbs, .ref pe_decimal_digits, .int pe_decimal_used, .int pe_decimal_count, .int pe_decimal_scale])), (f, .inr (2, [.ref f_kinds, .ref f_signs, .ref f_sizes, .ref f_places, .ref f_limits, .ref f_starts, .ref f_sorts, .int f_count, .int f_sections, .int f_fifth])), (f_kinds, .inl (cI, 255, .inl f_kindsF)), (f_signs, .inl (cI, 255, .inl f_signsF))] U.heap ∧ va_K D vwCl (ty3 cI cD cJ) U)) (va_Qi (fun (r : Int32) (u : Unit) => True) (fun _ _ => True) (fun _ => False)) 0 0 (fun _ => False) := by
  refine Met.ofW (cc := cX7_countHidden) (maxL := 7) (ret := (some .int)) (by decide +kernel) rfl ?_
  intro p e s m args below meth c s₁ B hml hv
  obtain ⟨rfl, hP, hK⟩ := hv
  have hx := B.exec
  have hb := B.bytes
  have hr := B.returns
  have hts := atoms_spec (ws := pw_X7_countHidden) B.pre
  have hown : s.vm.findClass RX7 = some m.cls := findClass_of_methodNamed B.named
  have hlocks := B.notSynchronized
  have hS : va_S (fun _ => False) s.heap s.heap [] := va_S.rf
  have hw : ∀ (k : Nat) (w : Cond), ow_X7_countHidden[k]? = some w → w.before _ s = true := fun k w h => hts w (List.mem_cons_of_mem _ (have h9 := List.mem_of_getElem? h; List.mem_append_left _ h9))
  have i_X2_kind : ∀ w ∈ pw_X2_kind, w ∈ pw_X7_countHidden := fun w h9 => List.mem_cons_of_mem _ (List.mem_append_right _ (List.mem_append_left _ h9))
  have i_X2_sign : ∀ w ∈ pw_X2_sign, w ∈ pw_X7_countHidden := fun w h9 => List.mem_cons_of_mem _ (List.mem_append_right _ (List.mem_append_right _ (List.mem_append_left _ h9)))
  have i_X1_wholeDigits : ∀ w ∈ pw_X1_wholeDigits, w ∈ pw_X7_countHidden := fun w h9 => List.mem_cons_of_mem _ (List.mem_append_right _ (List.mem_append_right _ (List.mem_append_right _ (List.mem_append_left _ h9))))
  have iX7 : ∀ w ∈ u_ws RX7 TX7 9, w ∈ pw_X7_countHidden := fun w h9 => List.mem_cons_of_mem _ (List.mem_append_right _ (List.mem_append_right _ (List.mem_append_right _ (List.mem_append_right _ (h9)))))
  have n_m1 : (((-1) : Int32)).toInt = (-1) := by decide
  have n_0 : ((0 : Int32)).toInt = 0 := by decide
  have n_1 : ((1 : Int32)).toInt = 1 := by decide
  have n_35 : ((35 : Int32)).toInt = 35 := by decide
  have n_4 : ((4 : Int32)).toInt = 4 := by decide
  have n_48 : ((48 : Int32)).toInt = 48 := by decide
  have hl := lv_entry ([.ref pe, .ref f, .int p1, .int p2]) (n := 7) (Nat.le_of_ble_eq_true rfl)
  rw [lg_entry_eq]
  generalize (lg_sl ([.ref pe, .ref f, .int p1, .int p2]) ++ List.replicate (7 - (lg_sl ([.ref pe, .ref f, .int p1, .int p2])).length) Slot.unset).toArray = ls at hl ⊢
  have hl : lv_has ls 7 [(0, .ref pe), (1, .ref f), (2, .int p1), (3, .int p2)] := hl
  have b_p1 := ti_b p1
  have b_p2 := ti_b p2
  refine zz_cap (fun Z hZ1 hZ2 => ?_)
  refine lv_iconst (v := 0) hx hb dX7_countHidden_0 (by decide) ?_
  refine lv_istore (lv' := [(4, .int 0), (0, .ref pe), (1, .ref f), (2, .int p1), (3, .int p2)]) hx hb dX7_countHidden_1 hl (by decide) rfl (fun ls hl => ?_)
  refine lv_aload_n hx hb dX7_countHidden_3 rfl (lv_at hl 1 rfl) ?_
  refine va_get (D := D) (ci := 5) (v := .int pe_slots) (C := RX7) (T := TX7) (N := 9) hx hb hts iX7 hown hK hP 0 rfl rfl 4 (by decide) (hw 0 (.fieldLink RX7 57 "NumberFormats$Pen" "slots" "I") rfl) (fun _ h9 => h9) rfl dX7_countHidden_4 ?_
  refine lv_istore (lv' := [(5, .int pe_slots), (4, .int 0), (0, .ref pe), (1, .ref f), (2, .int p1), (3, .int p2)]) hx hb dX7_countHidden_7 hl (by decide) rfl (fun ls hl => ?_)
  refine lv_iload_n hx hb dX7_countHidden_9 rfl (lv_at hl 4 rfl) ?_
  refine lv_istore (lv' := [(6, .int p1), (5, .int pe_slots), (4, .int 0), (0, .ref pe), (1, .ref f), (2, .int p1), (3, .int p2)]) hx hb dX7_countHidden_10 hl (by decide) rfl (fun ls hl => ?_)
  have L_12 : ∀ (N : Nat) (x_1 : Int32) (x_2 : Int32) (x_3 : Int32) (H : Heap) (locs : List Loc) (ls : Array Slot), ((2147483647 - (x_1 : Int32).toInt).toNat < N) → va_P D vwCl [(pe, .inr (5, [.ref pe_decimal, .ref pe_row, .ref pe_turned, .int pe_length, .int pe_slots, .int pe_slotsPut, .int pe_hidden, .int pe_zeroSeen, .int pe_groups])), (pe_decimal, .inr (1, [.ref pe_decimal_limbs, .ref pe_decimal_digits, .int pe_decimal_used, .int pe_decimal_count, .int pe_decimal_scale])), (f, .inr (2, [.ref f_kinds, .ref f_signs, .ref f_sizes, .ref f_places, .ref f_limits, .ref f_starts, .ref f_sorts, .int f_count, .int f_sections, .int f_fifth])), (f_kinds, .inl (cI, 255, .inl f_kindsF)), (f_signs, .inl (cI, 255, .inl f_signsF))] H → va_S (fun _ => False) s.heap H locs → lv_has ls 7 [(6, .int x_1), (5, .int x_2), (4, .int x_3), (0, .ref pe), (1, .ref f), (3, .int p2)] → Z 0 0 H locs (F0 m 12 ls []) := by
    intro N
    induction N with
    | zero => intro _ _ _ _ _ _ hmu; exact absurd hmu (Nat.not_lt_zero _)
    | succ N ih_12 =>
      intro x_1 x_2 x_3 H locs ls  hmu hP hS hl
      refine hZ2 ?_
      refine lv_iload hx hb dX7_countHidden_12 (lv_at hl 0 rfl) ?_
      refine lv_iload_n hx hb dX7_countHidden_14 rfl (lv_at hl 5 rfl) ?_
      refine lv_icmp_ge (tgt := 80) hx hb dX7_countHidden_15 (by decide) (fun c_4 => ?_) (fun c_4 => ?_)
      · have ic_4 : (p2 : Int32).toInt ≤ (x_1 : Int32).toInt := (fa_le p2 x_1).mp c_4
        refine lv_iload hx hb dX7_countHidden_80 (lv_at hl 2 rfl) ?_
        exact W.iret (v := x_3) hx hb hr (fun t ht hW => ⟨⟨x_3, (), rfl, trivial, trivial⟩, hS.F ht⟩) hS.2.2 dX7_countHidden_82
      · have ic_4 : ¬ ((p2 : Int32).toInt ≤ (x_1 : Int32).toInt) := fun h9 => c_4 ((fa_le p2 x_1).mpr h9)
        refine lv_aload_n hx hb dX7_countHidden_18 rfl (lv_at hl 4 rfl) ?_
        refine lv_iload hx hb dX7_countHidden_19 (lv_at hl 0 rfl) ?_
        have hPc := hP.sub (ws' := [(f, .inr (2, [.ref f_kinds, .ref f_signs, .ref f_sizes, .ref f_places, .ref f_limits, .ref f_starts, .ref f_sorts, .int f_count, .int f_sections, .int f_fifth])), (f_kinds, .inl (cI, 255, .inl f_kindsF))]) [2, 3] rfl
        refine va_calli (va_runV (As := [.int x_1]) (rest := []) ⟨hx, hb, hml, hown, hts⟩ (c_X2_kind l D cI cD cJ H.size f f_kinds f_signs f_sizes f_places f_limits f_starts f_sorts f_count f_sections f_fifth f_kindsF x_1 (by omega) (by omega)) (cwV 1 hts (goodIn_app (goodIn_r _ [2, 3, 4, 5] rfl (by decide +kernel)) (goodIn_sub i_X2_kind k_X2_kind)) rfl rfl rfl (by decide +kernel) ⟨Nat.le_of_ble_eq_true rfl, Nat.le_of_ble_eq_true rfl⟩) ⟨fun a U g mk q => by obtain ⟨q0, qP, qK⟩ := q; exact ⟨q0, qP, va_K.moved (u := U) (U := U.calling g mk a) (Vm.Alike.refl U.vm) qK⟩, va_recv hK hPc (ci := 2) (q0 := 0) rfl rfl, fun U hU hW => ⟨rfl, by rw [hU]; exact hPc, va_K.moved hW.alike hK⟩⟩ rfl rfl hl.1 rfl (lv_room (Nat.le_of_ble_eq_true rfl)) dX7_countHidden_21 ⟨Nat.le_of_ble_eq_true rfl, Nat.le_of_ble_eq_true rfl⟩) hS (fun q _ h => h.elim) (fun q h => h.elim) (fun x_5 u t H1 locs ht hvm w_6 hB hz1 hk1 hS => ?_)
        have hP : va_P D vwCl [(pe, .inr (5, [.ref pe_decimal, .ref pe_row, .ref pe_turned, .int pe_length, .int pe_slots, .int pe_slotsPut, .int pe_hidden, .int pe_zeroSeen, .int pe_groups])), (pe_decimal, .inr (1, [.ref pe_decimal_limbs, .ref pe_decimal_digits, .int pe_decimal_used, .int pe_decimal_count, .int pe_decimal_scale])), (f, .inr (2, [.ref f_kinds, .ref f_signs, .ref f_sizes, .ref f_places, .ref f_limits, .ref f_starts, .ref f_sorts, .int f_count, .int f_sections, .int f_fifth])), (f_kinds, .inl (cI, 255, .inl f_kindsF)), (f_signs, .inl (cI, 255, .inl f_signsF))] H1 := hP.kept (fun k9 q9 h9 => hk1 q9.1 (vx_lt hP h9) (fun h => h))
        generalize H1 = H at hP hS ⊢
        refine lv_iconst (v := 4) hx hb dX7_countHidden_24 (by decide) ?_
        refine lv_icmp_eq (tgt := 31) hx hb dX7_countHidden_25 (by decide) (fun c_7 => ?_) (fun c_7 => ?_)
        · have ic_7 : (x_5 : Int32).toInt = (4 : Int32).toInt := (fa_eq x_5 4).mp c_7
          obtain ⟨x_8, ex_8⟩ : ∃ y : Int32, y = x_2 + (-1) := ⟨_, rfl⟩
          have tx_8 := ti_add ex_8
          refine lv_iinc (v := x_8) (lv' := [(5, .int x_8), (6, .int x_1), (4, .int x_3), (0, .ref pe), (1, .ref f), (3, .int p2)]) hx hb dX7_countHidden_31 hl (k := 1) rfl (by rw [ex_8]; rfl) (by decide) rfl (fun ls hl => ?_)
          refine lv_aload_n hx hb dX7_countHidden_34 rfl (lv_at hl 4 rfl) ?_
          refine lv_iload hx hb dX7_countHidden_35 (lv_at hl 1 rfl) ?_
          have hPc := hP.sub (ws' := [(f, .inr (2, [.ref f_kinds, .ref f_signs, .ref f_sizes, .ref f_places, .ref f_limits, .ref f_starts, .ref f_sorts, .int f_count, .int f_sections, .int f_fifth])), (f_signs, .inl (cI, 255, .inl f_signsF))]) [2, 4] rfl
          refine va_calli (va_runV (As := [.int x_1]) (rest := []) ⟨hx, hb, hml, hown, hts⟩ (c_X2_sign l D cI cD cJ H.size f f_kinds f_signs f_sizes f_places f_limits f_starts f_sorts f_count f_sections f_fifth f_signsF x_1 (by omega) (by omega)) (cwV 1 hts (goodIn_app (goodIn_r _ [6, 7, 8, 5] rfl (by decide +kernel)) (goodIn_sub i_X2_sign k_X2_sign)) rfl rfl rfl (by decide +kernel) ⟨Nat.le_of_ble_eq_true rfl, Nat.le_of_ble_eq_true rfl⟩) ⟨fun a U g mk q => by obtain ⟨q0, qP, qK⟩ := q; exact ⟨q0, qP, va_K.moved (u := U) (U := U.calling g mk a) (Vm.Alike.refl U.vm) qK⟩, va_recv hK hPc (ci := 2) (q0 := 0) rfl rfl, fun U hU hW => ⟨rfl, by rw [hU]; exact hPc, va_K.moved hW.alike hK⟩⟩ rfl rfl hl.1 rfl (lv_room (Nat.le_of_ble_eq_true rfl)) dX7_countHidden_37 ⟨Nat.le_of_ble_eq_true rfl, Nat.le_of_ble_eq_true rfl⟩) hS (fun q _ h => h.elim) (fun q h => h.elim) (fun x_9 u t H1 locs ht hvm w_10 hB hz1 hk1 hS => ?_)
          have hP : va_P D vwCl [(pe, .inr (5, [.ref pe_decimal, .ref pe_row, .ref pe_turned, .int pe_length, .int pe_slots, .int pe_slotsPut, .int pe_hidden, .int pe_zeroSeen, .int pe_groups])), (pe_decimal, .inr (1, [.ref pe_decimal_limbs, .ref pe_decimal_digits, .int pe_decimal_used, .int pe_decimal_count, .int pe_decimal_scale])), (f, .inr (2, [.ref f_kinds, .ref f_signs, .ref f_sizes, .ref f_places, .ref f_limits, .ref f_starts, .ref f_sorts, .int f_count, .int f_sections, .int f_fifth])), (f_kinds, .inl (cI, 255, .inl f_kindsF)), (f_signs, .inl (cI, 255, .inl f_signsF))] H1 := hP.kept (fun k9 q9 h9 => hk1 q9.1 (vx_lt hP h9) (fun h => h))
          generalize H1 = H at hP hS ⊢
          refine lv_bipush (v := 48) hx hb dX7_countHidden_40 (by decide) ?_
          refine lv_icmp_eq (tgt := 57) hx hb dX7_countHidden_42 (by decide) (fun c_11 => ?_) (fun c_11 => ?_)
          · have ic_11 : (x_9 : Int32).toInt = (48 : Int32).toInt := (fa_eq x_9 48).mp c_11
            refine lv_iload hx hb dX7_countHidden_57 (lv_at hl 2 rfl) ?_
            exact W.iret (v := x_3) hx hb hr (fun t ht hW => ⟨⟨x_3, (), rfl, trivial, trivial⟩, hS.F ht⟩) hS.2.2 dX7_countHidden_59
          · have ic_11 : ¬ ((x_9 : Int32).toInt = (48 : Int32).toInt) := fun h9 => c_11 ((fa_eq x_9 48).mpr h9)
            refine lv_iload hx hb dX7_countHidden_45 (lv_at hl 0 rfl) ?_
            refine lv_aload_n hx hb dX7_countHidden_47 rfl (lv_at hl 3 rfl) ?_
            refine va_get (D := D) (ci := 5) (v := .ref pe_decimal) (C := RX7) (T := TX7) (N := 9) hx hb hts iX7 hown hK hP 0 rfl rfl 0 (by decide) (hw 8 (.fieldLink RX7 12 "NumberFormats$Pen" "decimal" "LNumberFormats$Decimal;") rfl) (fun _ h9 => h9) rfl dX7_countHidden_48 ?_
            have hPc := hP.sub (ws' := [(pe_decimal, .inr (1, [.ref pe_decimal_limbs, .ref pe_decimal_digits, .int pe_decimal_used, .int pe_decimal_count, .int pe_decimal_scale]))]) [1] rfl
            refine va_calli (va_runV (As := []) (rest := [.int x_8]) ⟨hx, hb, hml, hown, hts⟩ (c_X1_wholeDigits l D cI cD cJ H.size pe_decimal pe_decimal_limbs pe_decimal_digits pe_decimal_used pe_decimal_count pe_decimal_scale (by omega) (by omega)) (cwV 0 hts (goodIn_app (goodIn_r _ [10, 11, 12, 13] rfl (by decide +kernel)) (goodIn_sub i_X1_wholeDigits k_X1_wholeDigits)) rfl rfl rfl (by decide +kernel) ⟨Nat.le_of_ble_eq_true rfl, Nat.le_of_ble_eq_true rfl⟩) ⟨fun a U g mk q => by obtain ⟨q0, qP, qK⟩ := q; exact ⟨q0, qP, va_K.moved (u := U) (U := U.calling g mk a) (Vm.Alike.refl U.vm) qK⟩, va_recv hK hPc (ci := 1) (q0 := 0) rfl rfl, fun U hU hW => ⟨rfl, by rw [hU]; exact hPc, va_K.moved hW.alike hK⟩⟩ rfl rfl hl.1 rfl (lv_room (Nat.le_of_ble_eq_true rfl)) dX7_countHidden_51 ⟨Nat.le_of_ble_eq_true rfl, Nat.le_of_ble_eq_true rfl⟩) hS (fun q _ h => h.elim) (fun q h => h.elim) (fun x_12 u t H1 locs ht hvm w_13 hB hz1 hk1 hS => ?_)
            have hP : va_P D vwCl [(pe, .inr (5, [.ref pe_decimal, .ref pe_row, .ref pe_turned, .int pe_length, .int pe_slots, .int pe_slotsPut, .int pe_hidden, .int pe_zeroSeen, .int pe_groups])), (pe_decimal, .inr (1, [.ref pe_decimal_limbs, .ref pe_decimal_digits, .int pe_decimal_used, .int pe_decimal_count, .int pe_decimal_scale])), (f, .inr (2, [.ref f_kinds, .ref f_signs, .ref f_sizes, .ref f_places, .ref f_limits, .ref f_starts, .ref f_sorts, .int f_count, .int f_sections, .int f_fifth])), (f_kinds, .inl (cI, 255, .inl f_kindsF)), (f_signs, .inl (cI, 255, .inl f_signsF))] H1 := hP.kept (fun k9 q9 h9 => hk1 q9.1 (vx_lt hP h9) (fun h => h))
            generalize H1 = H at hP hS ⊢
            refine lv_icmp_ge (tgt := 60) hx hb dX7_countHidden_54 (by decide) (fun c_14 => ?_) (fun c_14 => ?_)
            · have ic_14 : (x_12 : Int32).toInt ≤ (x_8 : Int32).toInt := (fa_le x_12 x_8).mp c_14
              refine lv_aload_n hx hb dX7_countHidden_60 rfl (lv_at hl 4 rfl) ?_
              refine lv_iload hx hb dX7_countHidden_61 (lv_at hl 1 rfl) ?_
              have hPc := hP.sub (ws' := [(f, .inr (2, [.ref f_kinds, .ref f_signs, .ref f_sizes, .ref f_places, .ref f_limits, .ref f_starts, .ref f_sorts, .int f_count, .int f_sections, .int f_fifth])), (f_signs, .inl (cI, 255, .inl f_signsF))]) [2, 4] rfl
              refine va_calli (va_runV (As := [.int x_1]) (rest := []) ⟨hx, hb, hml, hown, hts⟩ (c_X2_sign l D cI cD cJ H.size f f_kinds f_signs f_sizes f_places f_limits f_starts f_sorts f_count f_sections f_fifth f_signsF x_1 (by omega) (by omega)) (cwV 1 hts (goodIn_app (goodIn_r _ [6, 7, 8, 5] rfl (by decide +kernel)) (goodIn_sub i_X2_sign k_X2_sign)) rfl rfl rfl (by decide +kernel) ⟨Nat.le_of_ble_eq_true rfl, Nat.le_of_ble_eq_true rfl⟩) ⟨fun a U g mk q => by obtain ⟨q0, qP, qK⟩ := q; exact ⟨q0, qP, va_K.moved (u := U) (U := U.calling g mk a) (Vm.Alike.refl U.vm) qK⟩, va_recv hK hPc (ci := 2) (q0 := 0) rfl rfl, fun U hU hW => ⟨rfl, by rw [hU]; exact hPc, va_K.moved hW.alike hK⟩⟩ rfl rfl hl.1 rfl (lv_room (Nat.le_of_ble_eq_true rfl)) dX7_countHidden_63 ⟨Nat.le_of_ble_eq_true rfl, Nat.le_of_ble_eq_true rfl⟩) hS (fun q _ h => h.elim) (fun q h => h.elim) (fun x_15 u t H1 locs ht hvm w_16 hB hz1 hk1 hS => ?_)
              have hP : va_P D vwCl [(pe, .inr (5, [.ref pe_decimal, .ref pe_row, .ref pe_turned, .int pe_length, .int pe_slots, .int pe_slotsPut, .int pe_hidden, .int pe_zeroSeen, .int pe_groups])), (pe_decimal, .inr (1, [.ref pe_decimal_limbs, .ref pe_decimal_digits, .int pe_decimal_used, .int pe_decimal_count, .int pe_decimal_scale])), (f, .inr (2, [.ref f_kinds, .ref f_signs, .ref f_sizes, .ref f_places, .ref f_limits, .ref f_starts, .ref f_sorts, .int f_count, .int f_sections, .int f_fifth])), (f_kinds, .inl (cI, 255, .inl f_kindsF)), (f_signs, .inl (cI, 255, .inl f_signsF))] H1 := hP.kept (fun k9 q9 h9 => hk1 q9.1 (vx_lt hP h9) (fun h => h))
              generalize H1 = H at hP hS ⊢
              refine lv_bipush (v := 35) hx hb dX7_countHidden_66 (by decide) ?_
              refine lv_icmp_ne (tgt := 74) hx hb dX7_countHidden_68 (by decide) (fun c_17 => ?_) (fun c_17 => ?_)
              · have ic_17 : ¬ ((x_15 : Int32).toInt = (35 : Int32).toInt) := fun h9 => c_17 ((fa_eq x_15 35).mpr h9)
                obtain ⟨x_18, ex_18⟩ : ∃ y : Int32, y = x_1 + 1 := ⟨_, rfl⟩
                have tx_18 := ti_add ex_18
                refine lv_iinc (v := x_18) (lv' := [(6, .int x_18), (5, .int x_8), (4, .int x_3), (0, .ref pe), (1, .ref f), (3, .int p2)]) hx hb dX7_countHidden_74 hl (k := 1) rfl (by rw [ex_18]; rfl) (by decide) rfl (fun ls hl => ?_)
                refine lv_goto (tgt := 12) hx hb dX7_countHidden_77 (by decide) ?_
                exact hZ1 (ih_12 x_18 x_8 x_3 _ _ _ (by omega) hP hS hl)
              · have ic_17 : (x_15 : Int32).toInt = (35 : Int32).toInt := (fa_eq x_15 35).mp c_17
                obtain ⟨x_19, ex_19⟩ : ∃ y : Int32, y = x_3 + 1 := ⟨_, rfl⟩
                have tx_19 := ti_add ex_19
                refine lv_iinc (v := x_19) (lv' := [(4, .int x_19), (5, .int x_8), (6, .int x_1), (0, .ref pe), (1, .ref f), (3, .int p2)]) hx hb dX7_countHidden_71 hl (k := 2) rfl (by rw [ex_19]; rfl) (by decide) rfl (fun ls hl => ?_)
                obtain ⟨x_20, ex_20⟩ : ∃ y : Int32, y = x_1 + 1 := ⟨_, rfl⟩
                have tx_20 := ti_add ex_20
                refine lv_iinc (v := x_20) (lv' := [(6, .int x_20), (4, .int x_19), (5, .int x_8), (0, .ref pe), (1, .ref f), (3, .int p2)]) hx hb dX7_countHidden_74 hl (k := 2) rfl (by rw [ex_20]; rfl) (by decide) rfl (fun ls hl => ?_)
                refine lv_goto (tgt := 12) hx hb dX7_countHidden_77 (by decide) ?_
                exact hZ1 (ih_12 x_20 x_8 x_19 _ _ _ (by omega) hP hS (lv_sub hl [0, 2, 1, 3, 4, 5] rfl))
            · have ic_14 : ¬ ((x_12 : Int32).toInt ≤ (x_8 : Int32).toInt) := fun h9 => c_14 ((fa_le x_12 x_8).mpr h9)
              refine lv_iload hx hb dX7_countHidden_57 (lv_at hl 2 rfl) ?_
              exact W.iret (v := x_3) hx hb hr (fun t ht hW => ⟨⟨x_3, (), rfl, trivial, trivial⟩, hS.F ht⟩) hS.2.2 dX7_countHidden_59
        · have ic_7 : ¬ ((x_5 : Int32).toInt = (4 : Int32).toInt) := fun h9 => c_7 ((fa_eq x_5 4).mpr h9)
          refine lv_goto (tgt := 74) hx hb dX7_countHidden_28 (by decide) ?_
          obtain ⟨x_21, ex_21⟩ : ∃ y : Int32, y = x_1 + 1 := ⟨_, rfl⟩
          have tx_21 := ti_add ex_21
          refine lv_iinc (v := x_21) (lv' := [(6, .int x_21), (5, .int x_2), (4, .int x_3), (0, .ref pe), (1, .ref f), (3, .int p2)]) hx hb dX7_countHidden_74 hl (k := 0) rfl (by rw [ex_21]; rfl) (by decide) rfl (fun ls hl => ?_)
          refine lv_goto (tgt := 12) hx hb dX7_countHidden_77 (by decide) ?_
          exact hZ1 (ih_12 x_21 x_2 x_3 _ _ _ (by omega) hP hS hl)
  exact hZ1 (L_12 (((2147483647 - (p1 : Int32).toInt).toNat) + 1) p1 pe_slots 0 _ _ _ (by omega) hP hS (lv_sub hl [0, 1, 2, 3, 4, 6] rfl))

def ow_X7_startSlots : List Cond := [Cond.methodLink RX7 51 yX2_tally, Cond.instanceMethod yX2_tally, Cond.selects RX2 yX2_tally yX2_tally, Cond.initialized RX2, Cond.fieldLink RX7 57 "NumberFormats$Pen" "slots" "I", Cond.fieldLink RX7 60 "NumberFormats$Pen" "slotsPut" "I", Cond.fieldLink RX7 63 "NumberFormats$Pen" "zeroSeen" "Z", Cond.fieldLink RX7 67 "NumberFormats$Pen" "groups" "Z", Cond.methodLink RX7 70 yX7_countHidden, Cond.instanceMethod yX7_countHidden, Cond.selects RX7 yX7_countHidden yX7_countHidden, Cond.initialized RX7, Cond.fieldLink RX7 74 "NumberFormats$Pen" "hidden" "I"]
def pw_X7_startSlots : List Cond := Cond.code yX7_startSlots cX7_startSlots 5 none :: (ow_X7_startSlots ++ (pw_X2_tally ++ (pw_X7_countHidden ++ (wsX70))))
set_option maxRecDepth 20000 in
theorem mo_X7_startSlots : ∀ w ∈ ow_X7_startSlots, w ∈ lw_tbl := by decide +kernel
set_option maxRecDepth 20000 in
theorem mc_X7_startSlots : Cond.code yX7_startSlots cX7_startSlots 5 none ∈ lw_tbl := by decide +kernel
theorem m_X7_startSlots : ∀ w ∈ pw_X7_startSlots, w ∈ lw_tbl := List.forall_mem_cons.mpr ⟨mc_X7_startSlots, (List.forall_mem_append.mpr ⟨mo_X7_startSlots, (List.forall_mem_append.mpr ⟨m_X2_tally, (List.forall_mem_append.mpr ⟨m_X7_countHidden, inX7⟩)⟩)⟩)⟩
theorem ko_X7_startSlots : ∀ w ∈ ow_X7_startSlots, goodWord w = true := by decide +kernel
theorem k_X7_startSlots : pw_X7_startSlots.all goodWord = true := List.all_eq_true.mpr (List.forall_mem_cons.mpr ⟨by decide +kernel, (List.forall_mem_append.mpr ⟨ko_X7_startSlots, (List.forall_mem_append.mpr ⟨(List.all_eq_true.mp k_X2_tally), (List.forall_mem_append.mpr ⟨(List.all_eq_true.mp k_X7_countHidden), kX_X7⟩)⟩)⟩)⟩)
set_option maxHeartbeats 400000 in
set_option maxRecDepth 100000 in
theorem c_X7_startSlots (l : Launch) (D : va_G) (cI cD cJ : ClassId) (sz : Nat) (pe : Nat) (pe_decimal : Nat) (pe_row : Nat) (pe_turned : Nat) (pe_length : Int32) (pe_slots : Int32) (pe_slotsPut : Int32) (pe_hidden : Int32) (pe_zeroSeen : Int32) (pe_groups : Int32) (pe_decimal_limbs : Nat) (pe_decimal_digits : Nat) (pe_decimal_used : Int32) (pe_decimal_count : Int32) (pe_decimal_scale : Int32) (f : Nat) (f_kinds : Nat) (f_signs : Nat) (f_sizes : Nat) (f_places : Nat) (f_limits : Nat) (f_starts : Nat) (f_sorts : Nat) (f_count : Int32) (f_sections : Int32) (f_fifth : Int32) (f_kindsF : Nat → Int32) (f_signsF : Nat → Int32) (p1 : Int32) (p2 : Int32) (p3 : Int32) (hb_p3 : p3.toInt = 0 ∨ p3.toInt = 1) (h1 : -1 ≤ p1.toInt) (h2 : p2.toInt ≤ 255) (iv_pe_length : 0 ≤ (pe_length : Int32).toInt ∧ (pe_length : Int32).toInt ≤ 1024) (iv_pe_slots : 0 ≤ (pe_slots : Int32).toInt ∧ (pe_slots : Int32).toInt ≤ 256) (iv_pe_zeroSeen : (pe_zeroSeen : Int32).toInt = 0 ∨ (pe_zeroSeen : Int32).toInt = 1) (iv_pe_groups : (pe_groups : Int32).toInt = 0 ∨ (pe_groups : Int32).toInt = 1) (iv_pe_decimal_used : 0 ≤ (pe_decimal_used : Int32).toInt ∧ (pe_decimal_used : Int32).toInt ≤ 100) (iv_pe_decimal_count : 0 ≤ (pe_decimal_count : Int32).toInt ∧ (pe_decimal_count : Int32).toInt ≤ 910) (iv_f_count : 0 ≤ (f_count : Int32).toInt ∧ (f_count : Int32).toInt ≤ 255) (iv_f_sections : 0 ≤ (f_sections : Int32).toInt ∧ (f_sections : Int32).toInt ≤ 4) : Met l yX7_startSlots pw_X7_startSlots ({ frames := 2, cells := 0, slots := 0, locals := 47 }) (va_Pc [.ref pe, .ref f, .int p1, .int p2, .int p3] (fun U => U.heap.size = sz ∧ va_P D vwCl [(pe, .inr (5, [.ref pe_decimal, .ref pe_row, .ref pe_turned, .int pe_length, .int pe_slots, .int pe_slotsPut, .int pe_hidden, .int pe_zeroSeen, .int pe_groups])), (pe_decimal, .inr (1, [.ref pe_decimal_limbs, .ref pe_decimal_digits, .int pe_decimal_used, .int pe_decimal_count, .int pe_decimal_scale])), (f, .inr (2, [.ref f_kinds, .ref f_signs, .ref f_sizes, .ref f_places, .ref f_limits, .ref f_starts, .ref f_sorts, .int f_count, .int f_sections, .int f_fifth])), (f_kinds, .inl (cI, 255, .inl f_kindsF)), (f_signs, .inl (cI, 255, .inl f_signsF))] U.heap ∧ va_K D vwCl (ty3 cI cD cJ) U ∧ va_D (fun _ => True) [(pe, .inr (5, [.ref pe_decimal, .ref pe_row, .ref pe_turned, .int pe_length, .int pe_slots, .int pe_slotsPut, .int pe_hidden, .int pe_zeroSeen, .int pe_groups])), (pe_decimal, .inr (1, [.ref pe_decimal_limbs, .ref pe_decimal_digits, .int pe_decimal_used, .int pe_decimal_count, .int pe_decimal_scale])), (f, .inr (2, [.ref f_kinds, .ref f_signs, .ref f_sizes, .ref f_places, .ref f_limits, .ref f_starts, .ref f_sorts, .int f_count, .int f_sections, .int f_fifth])), (f_kinds, .inl (cI, 255, .inl f_kindsF)), (f_signs, .inl (cI, 255, .inl f_signsF))])) (va_Qv (fun (u : Int32 × Int32 × Int32 × Int32 × Int32) => match u with | (pe_slots2, pe_slotsPut2, pe_hidden2, pe_zeroSeen2, pe_groups2) => (0 ≤ (pe_slots2 : Int32).toInt ∧ (pe_slots2 : Int32).toInt ≤ 256) ∧ ((pe_zeroSeen2 : Int32).toInt = 0 ∨ (pe_zeroSeen2 : Int32).toInt = 1) ∧ ((pe_groups2 : Int32).toInt = 0 ∨ (pe_groups2 : Int32).toInt = 1)) (fun (u : Int32 × Int32 × Int32 × Int32 × Int32) (t : State) => match u with | (pe_slots2, pe_slotsPut2, pe_hidden2, pe_zeroSeen2, pe_groups2) => va_P D vwCl [(pe, .inr (5, [.ref pe_decimal, .ref pe_row, .ref pe_turned, .int pe_length, .int pe_slots2, .int pe_slotsPut2, .int pe_hidden2, .int pe_zeroSeen2, .int pe_groups2])), (pe_decimal, .inr (1, [.ref pe_decimal_limbs, .ref pe_decimal_digits, .int pe_decimal_used, .int pe_decimal_count, .int pe_decimal_scale])), (f, .inr (2, [.ref f_kinds, .ref f_signs, .ref f_sizes, .ref f_places, .ref f_limits, .ref f_starts, .ref f_sorts, .int f_count, .int f_sections, .int f_fifth])), (f_kinds, .inl (cI, 255, .inl f_kindsF)), (f_signs, .inl (cI, 255, .inl f_signsF))] t.heap ∧ va_K D vwCl (ty3 cI cD cJ) t ∧ va_D (va_A [(pe, .inr (5, [.ref pe_decimal, .ref pe_row, .ref pe_turned, .int pe_length, .int pe_slots, .int pe_slotsPut, .int pe_hidden, .int pe_zeroSeen, .int pe_groups])), (pe_decimal, .inr (1, [.ref pe_decimal_limbs, .ref pe_decimal_digits, .int pe_decimal_used, .int pe_decimal_count, .int pe_decimal_scale])), (f, .inr (2, [.ref f_kinds, .ref f_signs, .ref f_sizes, .ref f_places, .ref f_limits, .ref f_starts, .ref f_sorts, .int f_count, .int f_sections, .int f_fifth])), (f_kinds, .inl (cI, 255, .inl f_kindsF)), (f_signs, .inl (cI, 255, .inl f_signsF))] sz) [(pe, .inr (5, [.ref pe_decimal, .ref pe_row, .ref pe_turned, .int pe_length, .int pe_slots2, .int pe_slotsPut2, .int pe_hidden2, .int pe_zeroSeen2, .int pe_groups2])), (pe_decimal, .inr (1, [.ref pe_decimal_limbs, .ref pe_decimal_digits, .int pe_decimal_used, .int pe_decimal_count, .int pe_decimal_scale])), (f, .inr (2, [.ref f_kinds, .ref f_signs, .ref f_sizes, .ref f_places, .ref f_limits, .ref f_starts, .ref f_sorts, .int f_count, .int f_sections, .int f_fifth])), (f_kinds, .inl (cI, 255, .inl f_kindsF)), (f_signs, .inl (cI, 255, .inl f_signsF))]) (va_A [(pe, .inr (5, [.ref pe_decimal, .ref pe_row, .ref pe_turned, .int pe_length, .int pe_slots, .int pe_slotsPut, .int pe_hidden, .int pe_zeroSeen, .int pe_groups])), (pe_decimal, .inr (1, [.ref pe_decimal_limbs, .ref pe_decimal_digits, .int pe_decimal_used, .int pe_decimal_count, .int pe_decimal_scale])), (f, .inr (2, [.ref f_kinds, .ref f_signs, .ref f_sizes, .ref f_places, .ref f_limits, .ref f_starts, .ref f_sorts, .int f_count, .int f_sections, .int f_fifth])), (f_kinds, .inl (cI, 255, .inl f_kindsF)), (f_signs, .inl (cI, 255, .inl f_signsF))] sz)) 0 0 (va_A [(pe, .inr (5, [.ref pe_decimal, .ref pe_row, .ref pe_turned, .int pe_length, .int pe_slots, .int pe_slotsPut, .int pe_hidden, .int pe_zeroSeen, .int pe_groups])), (pe_decimal, .inr (1, [.ref pe_decimal_limbs, .ref pe_decimal_digits, .int pe_decimal_used, .int pe_decimal_count, .int pe_decimal_scale])), (f, .inr (2, [.ref f_kinds, .ref f_signs, .ref f_sizes, .ref f_places, .ref f_limits, .ref f_starts, .ref f_sorts, .int f_count, .int f_sections, .int f_fifth])), (f_kinds, .inl (cI, 255, .inl f_kindsF)), (f_signs, .inl (cI, 255, .inl f_signsF))] sz) := by
  refine Met.ofW (cc := cX7_startSlots) (maxL := 5) (ret := none) (by decide +kernel) rfl ?_
  intro p e s m args below meth c s₁ B hml hv
  obtain ⟨rfl, hsz, hP, hK, hD0⟩ := hv
  have hx := B.exec
  have hb := B.bytes
  have hr := B.returns
  have hts := atoms_spec (ws := pw_X7_startSlots) B.pre
  have hown : s.vm.findClass RX7 = some m.cls := findClass_of_methodNamed B.named
  have hlocks := B.notSynchronized
  subst hsz
  have hD := hD0.self (sz := s.heap.size)
  generalize hAe : va_A [(pe, .inr (5, [.ref pe_decimal, .ref pe_row, .ref pe_turned, .int pe_length, .int pe_slots, .int pe_slotsPut, .int pe_hidden, .int pe_zeroSeen, .int pe_groups])), (pe_decimal, .inr (1, [.ref pe_decimal_limbs, .ref pe_decimal_digits, .int pe_decimal_used, .int pe_decimal_count, .int pe_decimal_scale])), (f, .inr (2, [.ref f_kinds, .ref f_signs, .ref f_sizes, .ref f_places, .ref f_limits, .ref f_starts, .ref f_sorts, .int f_count, .int f_sections, .int f_fifth])), (f_kinds, .inl (cI, 255, .inl f_kindsF)), (f_signs, .inl (cI, 255, .inl f_signsF))] s.heap.size = A at hD ⊢
  have hA : ∀ q : Nat, s.heap.size ≤ q → A q := fun q h => by rw [← hAe]; exact Or.inr h
  have hS : va_S A s.heap s.heap [] := va_S.rf
  have hw : ∀ (k : Nat) (w : Cond), ow_X7_startSlots[k]? = some w → w.before _ s = true := fun k w h => hts w (List.mem_cons_of_mem _ (have h9 := List.mem_of_getElem? h; List.mem_append_left _ h9))
  have i_X2_tally : ∀ w ∈ pw_X2_tally, w ∈ pw_X7_startSlots := fun w h9 => List.mem_cons_of_mem _ (List.mem_append_right _ (List.mem_append_left _ h9))
  have i_X7_countHidden : ∀ w ∈ pw_X7_countHidden, w ∈ pw_X7_startSlots := fun w h9 => List.mem_cons_of_mem _ (List.mem_append_right _ (List.mem_append_right _ (List.mem_append_left _ h9)))
  have iX7 : ∀ w ∈ u_ws RX7 TX7 9, w ∈ pw_X7_startSlots := fun w h9 => List.mem_cons_of_mem _ (List.mem_append_right _ (List.mem_append_right _ (List.mem_append_right _ (h9))))
  have n_0 : ((0 : Int32)).toInt = 0 := by decide
  have n_4 : ((4 : Int32)).toInt = 4 := by decide
  have hl := lv_entry ([.ref pe, .ref f, .int p1, .int p2, .int p3]) (n := 5) (Nat.le_of_ble_eq_true rfl)
  rw [lg_entry_eq]
  generalize (lg_sl ([.ref pe, .ref f, .int p1, .int p2, .int p3]) ++ List.replicate (5 - (lg_sl ([.ref pe, .ref f, .int p1, .int p2, .int p3])).length) Slot.unset).toArray = ls at hl ⊢
  have hl : lv_has ls 5 [(0, .ref pe), (1, .ref f), (2, .int p1), (3, .int p2), (4, .int p3)] := hl
  have b_p1 := ti_b p1
  have b_p2 := ti_b p2
  have b_p3 := ti_b p3
  refine lv_aload_n hx hb dX7_startSlots_0 rfl (lv_at hl 0 rfl) ?_
  refine lv_aload_n hx hb dX7_startSlots_1 rfl (lv_at hl 1 rfl) ?_
  refine lv_iconst (v := 4) hx hb dX7_startSlots_2 (by decide) ?_
  refine lv_iload_n hx hb dX7_startSlots_3 rfl (lv_at hl 2 rfl) ?_
  refine lv_iload_n hx hb dX7_startSlots_4 rfl (lv_at hl 3 rfl) ?_
  have hPc := hP.sub (ws' := [(f, .inr (2, [.ref f_kinds, .ref f_signs, .ref f_sizes, .ref f_places, .ref f_limits, .ref f_starts, .ref f_sorts, .int f_count, .int f_sections, .int f_fifth])), (f_kinds, .inl (cI, 255, .inl f_kindsF))]) [2, 3] rfl
  refine va_calli (va_runV (As := [.int 4, .int p1, .int p2]) (rest := [.ref pe]) ⟨hx, hb, hml, hown, hts⟩ (c_X2_tally l D cI cD cJ s.heap.size f f_kinds f_signs f_sizes f_places f_limits f_starts f_sorts f_count f_sections f_fifth f_kindsF 4 p1 p2 (by omega) (by omega) (by omega) (by omega)) (cwV 3 hts (goodIn_app (goodIn_r _ [1, 2, 3, 4] rfl (by decide +kernel)) (goodIn_sub i_X2_tally k_X2_tally)) rfl rfl rfl (by decide +kernel) ⟨Nat.le_of_ble_eq_true rfl, Nat.le_of_ble_eq_true rfl⟩) ⟨fun a U g mk q => by obtain ⟨q0, qP, qK⟩ := q; exact ⟨q0, qP, va_K.moved (u := U) (U := U.calling g mk a) (Vm.Alike.refl U.vm) qK⟩, va_recv hK hPc (ci := 2) (q0 := 0) rfl rfl, fun U hU hW => ⟨rfl, by rw [hU]; exact hPc, va_K.moved hW.alike hK⟩⟩ rfl rfl hl.1 rfl (lv_room (Nat.le_of_ble_eq_true rfl)) dX7_startSlots_5 ⟨Nat.le_of_ble_eq_true rfl, Nat.le_of_ble_eq_true rfl⟩) hS (fun q _ h => h.elim) (fun q h => h.elim) (fun x_1 u t H1 locs ht hvm w_2 hB hz1 hk1 hS => ?_)
  have hP : va_P D vwCl [(pe, .inr (5, [.ref pe_decimal, .ref pe_row, .ref pe_turned, .int pe_length, .int pe_slots, .int pe_slotsPut, .int pe_hidden, .int pe_zeroSeen, .int pe_groups])), (pe_decimal, .inr (1, [.ref pe_decimal_limbs, .ref pe_decimal_digits, .int pe_decimal_used, .int pe_decimal_count, .int pe_decimal_scale])), (f, .inr (2, [.ref f_kinds, .ref f_signs, .ref f_sizes, .ref f_places, .ref f_limits, .ref f_starts, .ref f_sorts, .int f_count, .int f_sections, .int f_fifth])), (f_kinds, .inl (cI, 255, .inl f_kindsF)), (f_signs, .inl (cI, 255, .inl f_signsF))] H1 := hP.kept (fun k9 q9 h9 => hk1 q9.1 (vx_lt hP h9) (fun h => h))
  generalize H1 = H at hP hS ⊢
  try dsimp only at w_2
  refine va_put (D := D) (ci := 5) (v := .int x_1) (ty := .int) (C := RX7) (T := TX7) (N := 9) hx hb hts iX7 tyX7 tyX7_ok nmX7 hown hK hP hD hS 0 rfl rfl 4 (by decide) (hw 4 (.fieldLink RX7 57 "NumberFormats$Pen" "slots" "I") rfl) (fun _ h9 => h9) rfl (by decide +kernel) rfl rfl (Nat.le_of_ble_eq_true rfl) dX7_startSlots_8 (fun H locs hP hD hS => ?_)
  have hP : va_P D vwCl [(pe, .inr (5, [.ref pe_decimal, .ref pe_row, .ref pe_turned, .int pe_length, .int x_1, .int pe_slotsPut, .int pe_hidden, .int pe_zeroSeen, .int pe_groups])), (pe_decimal, .inr (1, [.ref pe_decimal_limbs, .ref pe_decimal_digits, .int pe_decimal_used, .int pe_decimal_count, .int pe_decimal_scale])), (f, .inr (2, [.ref f_kinds, .ref f_signs, .ref f_sizes, .ref f_places, .ref f_limits, .ref f_starts, .ref f_sorts, .int f_count, .int f_sections, .int f_fifth])), (f_kinds, .inl (cI, 255, .inl f_kindsF)), (f_signs, .inl (cI, 255, .inl f_signsF))] H := hP
  have hD : va_D A [(pe, .inr (5, [.ref pe_decimal, .ref pe_row, .ref pe_turned, .int pe_length, .int x_1, .int pe_slotsPut, .int pe_hidden, .int pe_zeroSeen, .int pe_groups])), (pe_decimal, .inr (1, [.ref pe_decimal_limbs, .ref pe_decimal_digits, .int pe_decimal_used, .int pe_decimal_count, .int pe_decimal_scale])), (f, .inr (2, [.ref f_kinds, .ref f_signs, .ref f_sizes, .ref f_places, .ref f_limits, .ref f_starts, .ref f_sorts, .int f_count, .int f_sections, .int f_fifth])), (f_kinds, .inl (cI, 255, .inl f_kindsF)), (f_signs, .inl (cI, 255, .inl f_signsF))] := hD
  refine lv_aload_n hx hb dX7_startSlots_11 rfl (lv_at hl 0 rfl) ?_
  refine lv_iconst (v := 0) hx hb dX7_startSlots_12 (by decide) ?_
  refine va_put (D := D) (ci := 5) (v := .int 0) (ty := .int) (C := RX7) (T := TX7) (N := 9) hx hb hts iX7 tyX7 tyX7_ok nmX7 hown hK hP hD hS 0 rfl rfl 5 (by decide) (hw 5 (.fieldLink RX7 60 "NumberFormats$Pen" "slotsPut" "I") rfl) (fun _ h9 => h9) rfl (by decide +kernel) rfl rfl (Nat.le_of_ble_eq_true rfl) dX7_startSlots_13 (fun H locs hP hD hS => ?_)
  have hP : va_P D vwCl [(pe, .inr (5, [.ref pe_decimal, .ref pe_row, .ref pe_turned, .int pe_length, .int x_1, .int 0, .int pe_hidden, .int pe_zeroSeen, .int pe_groups])), (pe_decimal, .inr (1, [.ref pe_decimal_limbs, .ref pe_decimal_digits, .int pe_decimal_used, .int pe_decimal_count, .int pe_decimal_scale])), (f, .inr (2, [.ref f_kinds, .ref f_signs, .ref f_sizes, .ref f_places, .ref f_limits, .ref f_starts, .ref f_sorts, .int f_count, .int f_sections, .int f_fifth])), (f_kinds, .inl (cI, 255, .inl f_kindsF)), (f_signs, .inl (cI, 255, .inl f_signsF))] H := hP
  have hD : va_D A [(pe, .inr (5, [.ref pe_decimal, .ref pe_row, .ref pe_turned, .int pe_length, .int x_1, .int 0, .int pe_hidden, .int pe_zeroSeen, .int pe_groups])), (pe_decimal, .inr (1, [.ref pe_decimal_limbs, .ref pe_decimal_digits, .int pe_decimal_used, .int pe_decimal_count, .int pe_decimal_scale])), (f, .inr (2, [.ref f_kinds, .ref f_signs, .ref f_sizes, .ref f_places, .ref f_limits, .ref f_starts, .ref f_sorts, .int f_count, .int f_sections, .int f_fifth])), (f_kinds, .inl (cI, 255, .inl f_kindsF)), (f_signs, .inl (cI, 255, .inl f_signsF))] := hD
  refine lv_aload_n hx hb dX7_startSlots_16 rfl (lv_at hl 0 rfl) ?_
  refine lv_iconst (v := 0) hx hb dX7_startSlots_17 (by decide) ?_
  refine va_put (D := D) (ci := 5) (v := .int 0) (ty := .boolean) (C := RX7) (T := TX7) (N := 9) hx hb hts iX7 tyX7 tyX7_ok nmX7 hown hK hP hD hS 0 rfl rfl 7 (by decide) (hw 6 (.fieldLink RX7 63 "NumberFormats$Pen" "zeroSeen" "Z") rfl) (fun _ h9 => h9) rfl (by decide +kernel) rfl rfl (Nat.le_of_ble_eq_true rfl) dX7_startSlots_18 (fun H locs hP hD hS => ?_)
  have hP : va_P D vwCl [(pe, .inr (5, [.ref pe_decimal, .ref pe_row, .ref pe_turned, .int pe_length, .int x_1, .int 0, .int pe_hidden, .int 0, .int pe_groups])), (pe_decimal, .inr (1, [.ref pe_decimal_limbs, .ref pe_decimal_digits, .int pe_decimal_used, .int pe_decimal_count, .int pe_decimal_scale])), (f, .inr (2, [.ref f_kinds, .ref f_signs, .ref f_sizes, .ref f_places, .ref f_limits, .ref f_starts, .ref f_sorts, .int f_count, .int f_sections, .int f_fifth])), (f_kinds, .inl (cI, 255, .inl f_kindsF)), (f_signs, .inl (cI, 255, .inl f_signsF))] H := hP
  have hD : va_D A [(pe, .inr (5, [.ref pe_decimal, .ref pe_row, .ref pe_turned, .int pe_length, .int x_1, .int 0, .int pe_hidden, .int 0, .int pe_groups])), (pe_decimal, .inr (1, [.ref pe_decimal_limbs, .ref pe_decimal_digits, .int pe_decimal_used, .int pe_decimal_count, .int pe_decimal_scale])), (f, .inr (2, [.ref f_kinds, .ref f_signs, .ref f_sizes, .ref f_places, .ref f_limits, .ref f_starts, .ref f_sorts, .int f_count, .int f_sections, .int f_fifth])), (f_kinds, .inl (cI, 255, .inl f_kindsF)), (f_signs, .inl (cI, 255, .inl f_signsF))] := hD
  refine lv_aload_n hx hb dX7_startSlots_21 rfl (lv_at hl 0 rfl) ?_
  refine lv_iload hx hb dX7_startSlots_22 (lv_at hl 4 rfl) ?_
  refine va_put (D := D) (ci := 5) (v := .int p3) (ty := .boolean) (C := RX7) (T := TX7) (N := 9) hx hb hts iX7 tyX7 tyX7_ok nmX7 hown hK hP hD hS 0 rfl rfl 8 (by decide) (hw 7 (.fieldLink RX7 67 "NumberFormats$Pen" "groups" "Z") rfl) (fun _ h9 => h9) rfl (by decide +kernel) (nz01 (by omega)) (ft01 (by omega)) (Nat.le_of_ble_eq_true rfl) dX7_startSlots_24 (fun H locs hP hD hS => ?_)
  have hP : va_P D vwCl [(pe, .inr (5, [.ref pe_decimal, .ref pe_row, .ref pe_turned, .int pe_length, .int x_1, .int 0, .int pe_hidden, .int 0, .int p3])), (pe_decimal, .inr (1, [.ref pe_decimal_limbs, .ref pe_decimal_digits, .int pe_decimal_used, .int pe_decimal_count, .int pe_decimal_scale])), (f, .inr (2, [.ref f_kinds, .ref f_signs, .ref f_sizes, .ref f_places, .ref f_limits, .ref f_starts, .ref f_sorts, .int f_count, .int f_sections, .int f_fifth])), (f_kinds, .inl (cI, 255, .inl f_kindsF)), (f_signs, .inl (cI, 255, .inl f_signsF))] H := hP
  have hD : va_D A [(pe, .inr (5, [.ref pe_decimal, .ref pe_row, .ref pe_turned, .int pe_length, .int x_1, .int 0, .int pe_hidden, .int 0, .int p3])), (pe_decimal, .inr (1, [.ref pe_decimal_limbs, .ref pe_decimal_digits, .int pe_decimal_used, .int pe_decimal_count, .int pe_decimal_scale])), (f, .inr (2, [.ref f_kinds, .ref f_signs, .ref f_sizes, .ref f_places, .ref f_limits, .ref f_starts, .ref f_sorts, .int f_count, .int f_sections, .int f_fifth])), (f_kinds, .inl (cI, 255, .inl f_kindsF)), (f_signs, .inl (cI, 255, .inl f_signsF))] := hD
  refine lv_aload_n hx hb dX7_startSlots_27 rfl (lv_at hl 0 rfl) ?_
  refine lv_aload_n hx hb dX7_startSlots_28 rfl (lv_at hl 0 rfl) ?_
  refine lv_aload_n hx hb dX7_startSlots_29 rfl (lv_at hl 1 rfl) ?_
  refine lv_iload_n hx hb dX7_startSlots_30 rfl (lv_at hl 2 rfl) ?_
  refine lv_iload_n hx hb dX7_startSlots_31 rfl (lv_at hl 3 rfl) ?_
  have hPc := hP.sub (ws' := [(pe, .inr (5, [.ref pe_decimal, .ref pe_row, .ref pe_turned, .int pe_length, .int x_1, .int 0, .int pe_hidden, .int 0, .int p3])), (pe_decimal, .inr (1, [.ref pe_decimal_limbs, .ref pe_decimal_digits, .int pe_decimal_used, .int pe_decimal_count, .int pe_decimal_scale])), (f, .inr (2, [.ref f_kinds, .ref f_signs, .ref f_sizes, .ref f_places, .ref f_limits, .ref f_starts, .ref f_sorts, .int f_count, .int f_sections, .int f_fifth])), (f_kinds, .inl (cI, 255, .inl f_kindsF)), (f_signs, .inl (cI, 255, .inl f_signsF))]) [0, 1, 2, 3, 4] rfl
  refine va_calli (va_runV (As := [.ref f, .int p1, .int p2]) (rest := [.ref pe]) ⟨hx, hb, hml, hown, hts⟩ (c_X7_countHidden l D cI cD cJ H.size pe pe_decimal pe_row pe_turned pe_length x_1 0 pe_hidden 0 p3 pe_decimal_limbs pe_decimal_digits pe_decimal_used pe_decimal_count pe_decimal_scale f f_kinds f_signs f_sizes f_places f_limits f_starts f_sorts f_count f_sections f_fifth f_kindsF f_signsF p1 p2 (by omega) (by omega) (by omega) (by omega) (by omega) (by omega) (by omega) (by omega)) (cwV 3 hts (goodIn_app (goodIn_r _ [9, 10, 11, 12] rfl (by decide +kernel)) (goodIn_sub i_X7_countHidden k_X7_countHidden)) rfl rfl rfl (by decide +kernel) ⟨Nat.le_of_ble_eq_true rfl, Nat.le_of_ble_eq_true rfl⟩) ⟨fun a U g mk q => by obtain ⟨q0, qP, qK⟩ := q; exact ⟨q0, qP, va_K.moved (u := U) (U := U.calling g mk a) (Vm.Alike.refl U.vm) qK⟩, va_recv hK hPc (ci := 5) (q0 := 0) rfl rfl, fun U hU hW => ⟨rfl, by rw [hU]; exact hPc, va_K.moved hW.alike hK⟩⟩ rfl rfl hl.1 rfl (lv_room (Nat.le_of_ble_eq_true rfl)) dX7_startSlots_32 ⟨Nat.le_of_ble_eq_true rfl, Nat.le_of_ble_eq_true rfl⟩) hS (fun q _ h => h.elim) (fun q h => h.elim) (fun x_3 u t H1 locs ht hvm w_4 hB hz1 hk1 hS => ?_)
  have hP : va_P D vwCl [(pe, .inr (5, [.ref pe_decimal, .ref pe_row, .ref pe_turned, .int pe_length, .int x_1, .int 0, .int pe_hidden, .int 0, .int p3])), (pe_decimal, .inr (1, [.ref pe_decimal_limbs, .ref pe_decimal_digits, .int pe_decimal_used, .int pe_decimal_count, .int pe_decimal_scale])), (f, .inr (2, [.ref f_kinds, .ref f_signs, .ref f_sizes, .ref f_places, .ref f_limits, .ref f_starts, .ref f_sorts, .int f_count, .int f_sections, .int f_fifth])), (f_kinds, .inl (cI, 255, .inl f_kindsF)), (f_signs, .inl (cI, 255, .inl f_signsF))] H1 := hP.kept (fun k9 q9 h9 => hk1 q9.1 (vx_lt hP h9) (fun h => h))
  generalize H1 = H at hP hS ⊢
  refine va_put (D := D) (ci := 5) (v := .int x_3) (ty := .int) (C := RX7) (T := TX7) (N := 9) hx hb hts iX7 tyX7 tyX7_ok nmX7 hown hK hP hD hS 0 rfl rfl 6 (by decide) (hw 12 (.fieldLink RX7 74 "NumberFormats$Pen" "hidden" "I") rfl) (fun _ h9 => h9) rfl (by decide +kernel) rfl rfl (Nat.le_of_ble_eq_true rfl) dX7_startSlots_35 (fun H locs hP hD hS => ?_)
  have hP : va_P D vwCl [(pe, .inr (5, [.ref pe_decimal, .ref pe_row, .ref pe_turned, .int pe_length, .int x_1, .int 0, .int x_3, .int 0, .int p3])), (pe_decimal, .inr (1, [.ref pe_decimal_limbs, .ref pe_decimal_digits, .int pe_decimal_used, .int pe_decimal_count, .int pe_decimal_scale])), (f, .inr (2, [.ref f_kinds, .ref f_signs, .ref f_sizes, .ref f_places, .ref f_limits, .ref f_starts, .ref f_sorts, .int f_count, .int f_sections, .int f_fifth])), (f_kinds, .inl (cI, 255, .inl f_kindsF)), (f_signs, .inl (cI, 255, .inl f_signsF))] H := hP
  have hD : va_D A [(pe, .inr (5, [.ref pe_decimal, .ref pe_row, .ref pe_turned, .int pe_length, .int x_1, .int 0, .int x_3, .int 0, .int p3])), (pe_decimal, .inr (1, [.ref pe_decimal_limbs, .ref pe_decimal_digits, .int pe_decimal_used, .int pe_decimal_count, .int pe_decimal_scale])), (f, .inr (2, [.ref f_kinds, .ref f_signs, .ref f_sizes, .ref f_places, .ref f_limits, .ref f_starts, .ref f_sorts, .int f_count, .int f_sections, .int f_fifth])), (f_kinds, .inl (cI, 255, .inl f_kindsF)), (f_signs, .inl (cI, 255, .inl f_signsF))] := hD
  have hP9 := hP.sub (ws' := [(pe, .inr (5, [.ref pe_decimal, .ref pe_row, .ref pe_turned, .int pe_length, .int x_1, .int 0, .int x_3, .int 0, .int p3])), (pe_decimal, .inr (1, [.ref pe_decimal_limbs, .ref pe_decimal_digits, .int pe_decimal_used, .int pe_decimal_count, .int pe_decimal_scale])), (f, .inr (2, [.ref f_kinds, .ref f_signs, .ref f_sizes, .ref f_places, .ref f_limits, .ref f_starts, .ref f_sorts, .int f_count, .int f_sections, .int f_fifth])), (f_kinds, .inl (cI, 255, .inl f_kindsF)), (f_signs, .inl (cI, 255, .inl f_signsF))]) [0, 1, 2, 3, 4] rfl
  have hD9 := hD.sub (ws' := [(pe, .inr (5, [.ref pe_decimal, .ref pe_row, .ref pe_turned, .int pe_length, .int x_1, .int 0, .int x_3, .int 0, .int p3])), (pe_decimal, .inr (1, [.ref pe_decimal_limbs, .ref pe_decimal_digits, .int pe_decimal_used, .int pe_decimal_count, .int pe_decimal_scale])), (f, .inr (2, [.ref f_kinds, .ref f_signs, .ref f_sizes, .ref f_places, .ref f_limits, .ref f_starts, .ref f_sorts, .int f_count, .int f_sections, .int f_fifth])), (f_kinds, .inl (cI, 255, .inl f_kindsF)), (f_signs, .inl (cI, 255, .inl f_signsF))]) [0, 1, 2, 3, 4] (by decide) rfl
  exact W.vret hx hb hr (fun t ht hW => ⟨⟨(x_1, 0, x_3, 0, p3), rfl, (by (try dsimp only); refine ⟨?_, ?_, ?_⟩ <;> first | omega | assumption), by rw [ht]; exact hP9, va_K.moved hW.alike hK, hD9⟩, hS.F ht⟩) hS.2.2 dX7_startSlots_38

def ow_X7_putCell : List Cond := [Cond.methodLink RX7 38 yX7_add, Cond.instanceMethod yX7_add, Cond.selects RX7 yX7_add yX7_add, Cond.initialized RX7, Cond.fieldLink RX7 74 "NumberFormats$Pen" "hidden" "I", Cond.fieldLink RX7 67 "NumberFormats$Pen" "groups" "Z"]
def pw_X7_putCell : List Cond := Cond.code yX7_putCell cX7_putCell 4 none :: (ow_X7_putCell ++ (pw_X7_add ++ (wsX70)))
set_option maxRecDepth 20000 in
theorem mo_X7_putCell : ∀ w ∈ ow_X7_putCell, w ∈ lw_tbl := by decide +kernel
set_option maxRecDepth 20000 in
theorem mc_X7_putCell : Cond.code yX7_putCell cX7_putCell 4 none ∈ lw_tbl := by decide +kernel
theorem m_X7_putCell : ∀ w ∈ pw_X7_putCell, w ∈ lw_tbl := List.forall_mem_cons.mpr ⟨mc_X7_putCell, (List.forall_mem_append.mpr ⟨mo_X7_putCell, (List.forall_mem_append.mpr ⟨m_X7_add, inX7⟩)⟩)⟩
theorem ko_X7_putCell : ∀ w ∈ ow_X7_putCell, goodWord w = true := by decide +kernel
theorem k_X7_putCell : pw_X7_putCell.all goodWord = true := List.all_eq_true.mpr (List.forall_mem_cons.mpr ⟨by decide +kernel, (List.forall_mem_append.mpr ⟨ko_X7_putCell, (List.forall_mem_append.mpr ⟨(List.all_eq_true.mp k_X7_add), kX_X7⟩)⟩)⟩)
set_option maxHeartbeats 400000 in
set_option maxRecDepth 100000 in
theorem c_X7_putCell (l : Launch) (D : va_G) (cI cD cJ : ClassId) (sz : Nat) (pe : Nat) (pe_decimal : Nat) (pe_row : Nat) (pe_turned : Nat) (pe_length : Int32) (pe_slots : Int32) (pe_slotsPut : Int32) (pe_hidden : Int32) (pe_zeroSeen : Int32) (pe_groups : Int32) (pe_rowF : Nat → Int32) (p1 : Int32) (p2 : Int32) (iv_pe_length : 0 ≤ (pe_length : Int32).toInt ∧ (pe_length : Int32).toInt ≤ 1024) (iv_pe_slots : 0 ≤ (pe_slots : Int32).toInt ∧ (pe_slots : Int32).toInt ≤ 256) (iv_pe_zeroSeen : (pe_zeroSeen : Int32).toInt = 0 ∨ (pe_zeroSeen : Int32).toInt = 1) (iv_pe_groups : (pe_groups : Int32).toInt = 0 ∨ (pe_groups : Int32).toInt = 1) : Met l yX7_putCell pw_X7_putCell ({ frames := 1, cells := 0, slots := 0, locals := 21 }) (va_Pc [.ref pe, .int p1, .int p2] (fun U => U.heap.size = sz ∧ va_P D vwCl [(pe, .inr (5, [.ref pe_decimal, .ref pe_row, .ref pe_turned, .int pe_length, .int pe_slots, .int pe_slotsPut, .int pe_hidden, .int pe_zeroSeen, .int pe_groups])), (pe_row, .inl (cI, 1024, .inl pe_rowF))] U.heap ∧ va_K D vwCl (ty3 cI cD cJ) U ∧ va_D (fun _ => True) [(pe, .inr (5, [.ref pe_decimal, .ref pe_row, .ref pe_turned, .int pe_length, .int pe_slots, .int pe_slotsPut, .int pe_hidden, .int pe_zeroSeen, .int pe_groups])), (pe_row, .inl (cI, 1024, .inl pe_rowF))])) (va_Qv (fun (u : Int32 × (Nat → Int32)) => match u with | (pe_length2, pe_rowF2) => (0 ≤ (pe_length2 : Int32).toInt ∧ (pe_length2 : Int32).toInt ≤ 1024)) (fun (u : Int32 × (Nat → Int32)) (t : State) => match u with | (pe_length2, pe_rowF2) => va_P D vwCl [(pe, .inr (5, [.ref pe_decimal, .ref pe_row, .ref pe_turned, .int pe_length2, .int pe_slots, .int pe_slotsPut, .int pe_hidden, .int pe_zeroSeen, .int pe_groups])), (pe_row, .inl (cI, 1024, .inl pe_rowF2))] t.heap ∧ va_K D vwCl (ty3 cI cD cJ) t ∧ va_D (va_A [(pe, .inr (5, [.ref pe_decimal, .ref pe_row, .ref pe_turned, .int pe_length, .int pe_slots, .int pe_slotsPut, .int pe_hidden, .int pe_zeroSeen, .int pe_groups])), (pe_row, .inl (cI, 1024, .inl pe_rowF))] sz) [(pe, .inr (5, [.ref pe_decimal, .ref pe_row, .ref pe_turned, .int pe_length2, .int pe_slots, .int pe_slotsPut, .int pe_hidden, .int pe_zeroSeen, .int pe_groups])), (pe_row, .inl (cI, 1024, .inl pe_rowF2))]) (va_A [(pe, .inr (5, [.ref pe_decimal, .ref pe_row, .ref pe_turned, .int pe_length, .int pe_slots, .int pe_slotsPut, .int pe_hidden, .int pe_zeroSeen, .int pe_groups])), (pe_row, .inl (cI, 1024, .inl pe_rowF))] sz)) 0 0 (va_A [(pe, .inr (5, [.ref pe_decimal, .ref pe_row, .ref pe_turned, .int pe_length, .int pe_slots, .int pe_slotsPut, .int pe_hidden, .int pe_zeroSeen, .int pe_groups])), (pe_row, .inl (cI, 1024, .inl pe_rowF))] sz) := by
  refine Met.ofW (cc := cX7_putCell) (maxL := 4) (ret := none) (by decide +kernel) rfl ?_
  intro p e s m args below meth c s₁ B hml hv
  obtain ⟨rfl, hsz, hP, hK, hD0⟩ := hv
  have hx := B.exec
  have hb := B.bytes
  have hr := B.returns
  have hts := atoms_spec (ws := pw_X7_putCell) B.pre
  have hown : s.vm.findClass RX7 = some m.cls := findClass_of_methodNamed B.named
  have hlocks := B.notSynchronized
  subst hsz
  have hD := hD0.self (sz := s.heap.size)
  generalize hAe : va_A [(pe, .inr (5, [.ref pe_decimal, .ref pe_row, .ref pe_turned, .int pe_length, .int pe_slots, .int pe_slotsPut, .int pe_hidden, .int pe_zeroSeen, .int pe_groups])), (pe_row, .inl (cI, 1024, .inl pe_rowF))] s.heap.size = A at hD ⊢
  have hA : ∀ q : Nat, s.heap.size ≤ q → A q := fun q h => by rw [← hAe]; exact Or.inr h
  have hS : va_S A s.heap s.heap [] := va_S.rf
  have hw : ∀ (k : Nat) (w : Cond), ow_X7_putCell[k]? = some w → w.before _ s = true := fun k w h => hts w (List.mem_cons_of_mem _ (have h9 := List.mem_of_getElem? h; List.mem_append_left _ h9))
  have i_X7_add : ∀ w ∈ pw_X7_add, w ∈ pw_X7_putCell := fun w h9 => List.mem_cons_of_mem _ (List.mem_append_right _ (List.mem_append_left _ h9))
  have iX7 : ∀ w ∈ u_ws RX7 TX7 9, w ∈ pw_X7_putCell := fun w h9 => List.mem_cons_of_mem _ (List.mem_append_right _ (List.mem_append_right _ (h9)))
  have n_0 : ((0 : Int32)).toInt = 0 := by decide
  have n_3 : ((3 : Int32)).toInt = 3 := by decide
  have n_32 : ((32 : Int32)).toInt = 32 := by decide
  have n_44 : ((44 : Int32)).toInt = 44 := by decide
  have hl := lv_entry ([.ref pe, .int p1, .int p2]) (n := 4) (Nat.le_of_ble_eq_true rfl)
  rw [lg_entry_eq]
  generalize (lg_sl ([.ref pe, .int p1, .int p2]) ++ List.replicate (4 - (lg_sl ([.ref pe, .int p1, .int p2])).length) Slot.unset).toArray = ls at hl ⊢
  have hl : lv_has ls 4 [(0, .ref pe), (1, .int p1), (2, .int p2)] := hl
  have b_p1 := ti_b p1
  have b_p2 := ti_b p2
  refine zz_cap (fun Z hZ1 hZ2 => ?_)
  refine lv_aload_n hx hb dX7_putCell_0 rfl (lv_at hl 0 rfl) ?_
  refine lv_iload_n hx hb dX7_putCell_1 rfl (lv_at hl 1 rfl) ?_
  have hPc := hP.sub (ws' := [(pe, .inr (5, [.ref pe_decimal, .ref pe_row, .ref pe_turned, .int pe_length, .int pe_slots, .int pe_slotsPut, .int pe_hidden, .int pe_zeroSeen, .int pe_groups])), (pe_row, .inl (cI, 1024, .inl pe_rowF))]) [0, 1] rfl
  have hDc := hD.sub (ws' := [(pe, .inr (5, [.ref pe_decimal, .ref pe_row, .ref pe_turned, .int pe_length, .int pe_slots, .int pe_slotsPut, .int pe_hidden, .int pe_zeroSeen, .int pe_groups])), (pe_row, .inl (cI, 1024, .inl pe_rowF))]) [0, 1] (by decide) rfl
  have hFc := va_free (wc := [(pe, .inr (5, [.ref pe_decimal, .ref pe_row, .ref pe_turned, .int pe_length, .int pe_slots, .int pe_slotsPut, .int pe_hidden, .int pe_zeroSeen, .int pe_groups])), (pe_row, .inl (cI, 1024, .inl pe_rowF))]) hD hS hA [0, 1] rfl
  refine va_callv (va_runV (As := [.int p1]) (rest := []) ⟨hx, hb, hml, hown, hts⟩ (c_X7_add l D cI cD cJ s.heap.size pe pe_decimal pe_row pe_turned pe_length pe_slots pe_slotsPut pe_hidden pe_zeroSeen pe_groups pe_rowF p1 (by omega) (by omega) (by omega) (by omega)) (cwV 1 hts (goodIn_app (goodIn_r _ [1, 2, 3, 4] rfl (by decide +kernel)) (goodIn_sub i_X7_add k_X7_add)) rfl rfl rfl (by decide +kernel) ⟨Nat.le_of_ble_eq_true rfl, Nat.le_of_ble_eq_true rfl⟩) ⟨fun a U g mk q => by obtain ⟨q0, q1, qP, qK, qD⟩ := q; exact ⟨q0, q1, qP, va_K.moved (u := U) (U := U.calling g mk a) (Vm.Alike.refl U.vm) qK, qD⟩, va_recv hK hPc (ci := 5) (q0 := 0) rfl rfl, fun U hU hW => ⟨rfl, by rw [hU], by rw [hU]; exact hPc, va_K.moved hW.alike hK, hDc.weaken (fun _ _ _ _ => trivial)⟩⟩ rfl rfl hl.1 rfl (lv_room (Nat.le_of_ble_eq_true rfl)) dX7_putCell_2 ⟨Nat.le_of_ble_eq_true rfl, Nat.le_of_ble_eq_true rfl⟩) hS (fun q _ h => hFc q h) hFc (fun u t H1 locs ht hvm w_1 hB hz1 hk1 hS => ?_)
  obtain ⟨u_2, u_3⟩ := u
  obtain ⟨hP1, hK1, hD1⟩ := hB
  rw [ht] at hP1
  try dsimp only at w_1
  obtain ⟨hP, hD⟩ := va_join (wr := []) (w1 := [(pe, .inr (5, [.ref pe_decimal, .ref pe_row, .ref pe_turned, .int u_2, .int pe_slots, .int pe_slotsPut, .int pe_hidden, .int pe_zeroSeen, .int pe_groups])), (pe_row, .inl (cI, 1024, .inl u_3))]) hP hD [0, 1] [] rfl rfl (by decide) (by decide) hk1 hFc hP1 hD1
  generalize H1 = H at hP hS ⊢
  have hP : va_P D vwCl [(pe, .inr (5, [.ref pe_decimal, .ref pe_row, .ref pe_turned, .int u_2, .int pe_slots, .int pe_slotsPut, .int pe_hidden, .int pe_zeroSeen, .int pe_groups])), (pe_row, .inl (cI, 1024, .inl u_3))] H := hP
  have hD : va_D A [(pe, .inr (5, [.ref pe_decimal, .ref pe_row, .ref pe_turned, .int u_2, .int pe_slots, .int pe_slotsPut, .int pe_hidden, .int pe_zeroSeen, .int pe_groups])), (pe_row, .inl (cI, 1024, .inl u_3))] := hD
  refine lv_iload_n hx hb dX7_putCell_5 rfl (lv_at hl 2 rfl) ?_
  refine lv_aload_n hx hb dX7_putCell_6 rfl (lv_at hl 0 rfl) ?_
  refine va_get (D := D) (ci := 5) (v := .int pe_hidden) (C := RX7) (T := TX7) (N := 9) hx hb hts iX7 hown hK hP 0 rfl rfl 6 (by decide) (hw 4 (.fieldLink RX7 74 "NumberFormats$Pen" "hidden" "I") rfl) (fun _ h9 => h9) rfl dX7_putCell_7 ?_
  refine lv_isub hx hb dX7_putCell_10 ?_
  refine lv_topi (fun x_4 ex_4 => ?_)
  have tx_4 := ti_sub ex_4
  refine lv_istore_n (lv' := [(3, .int x_4), (0, .ref pe), (1, .int p1), (2, .int p2)]) hx hb dX7_putCell_11 rfl hl (by decide) rfl (fun ls hl => ?_)
  refine lv_aload_n hx hb dX7_putCell_12 rfl (lv_at hl 1 rfl) ?_
  refine va_get (D := D) (ci := 5) (v := .int pe_groups) (C := RX7) (T := TX7) (N := 9) hx hb hts iX7 hown hK hP 0 rfl rfl 8 (by decide) (hw 5 (.fieldLink RX7 67 "NumberFormats$Pen" "groups" "Z") rfl) (fun _ h9 => h9) rfl dX7_putCell_13 ?_
  refine lv_if_eq (tgt := 46) hx hb dX7_putCell_16 (by decide) (fun c_5 => ?_) (fun c_5 => ?_)
  · have ic_5 : (pe_groups : Int32).toInt = (0 : Int32).toInt := (fa_eq pe_groups 0).mp c_5
    have hP9 := hP.sub (ws' := [(pe, .inr (5, [.ref pe_decimal, .ref pe_row, .ref pe_turned, .int u_2, .int pe_slots, .int pe_slotsPut, .int pe_hidden, .int pe_zeroSeen, .int pe_groups])), (pe_row, .inl (cI, 1024, .inl u_3))]) [0, 1] rfl
    have hD9 := hD.sub (ws' := [(pe, .inr (5, [.ref pe_decimal, .ref pe_row, .ref pe_turned, .int u_2, .int pe_slots, .int pe_slotsPut, .int pe_hidden, .int pe_zeroSeen, .int pe_groups])), (pe_row, .inl (cI, 1024, .inl u_3))]) [0, 1] (by decide) rfl
    exact W.vret hx hb hr (fun t ht hW => ⟨⟨(u_2, u_3), rfl, (by (try dsimp only); first | omega | assumption), by rw [ht]; exact hP9, va_K.moved hW.alike hK, hD9⟩, hS.F ht⟩) hS.2.2 dX7_putCell_46
  · have ic_5 : ¬ ((pe_groups : Int32).toInt = (0 : Int32).toInt) := fun h9 => c_5 ((fa_eq pe_groups 0).mpr h9)
    refine lv_iload_n hx hb dX7_putCell_19 rfl (lv_at hl 0 rfl) ?_
    refine lv_if_le (tgt := 46) hx hb dX7_putCell_20 (by decide) (fun c_6 => ?_) (fun c_6 => ?_)
    · have ic_6 : (x_4 : Int32).toInt ≤ (0 : Int32).toInt := (fa_le x_4 0).mp c_6
      have hP9 := hP.sub (ws' := [(pe, .inr (5, [.ref pe_decimal, .ref pe_row, .ref pe_turned, .int u_2, .int pe_slots, .int pe_slotsPut, .int pe_hidden, .int pe_zeroSeen, .int pe_groups])), (pe_row, .inl (cI, 1024, .inl u_3))]) [0, 1] rfl
      have hD9 := hD.sub (ws' := [(pe, .inr (5, [.ref pe_decimal, .ref pe_row, .ref pe_turned, .int u_2, .int pe_slots, .int pe_slotsPut, .int pe_hidden, .int pe_zeroSeen, .int pe_groups])), (pe_row, .inl (cI, 1024, .inl u_3))]) [0, 1] (by decide) rfl
      exact W.vret hx hb hr (fun t ht hW => ⟨⟨(u_2, u_3), rfl, (by (try dsimp only); first | omega | assumption), by rw [ht]; exact hP9, va_K.moved hW.alike hK, hD9⟩, hS.F ht⟩) hS.2.2 dX7_putCell_46
    · have ic_6 : ¬ ((x_4 : Int32).toInt ≤ (0 : Int32).toInt) := fun h9 => c_6 ((fa_le x_4 0).mpr h9)
      refine lv_iload_n hx hb dX7_putCell_23 rfl (lv_at hl 0 rfl) ?_
      refine lv_iconst (v := 3) hx hb dX7_putCell_24 (by decide) ?_
      refine lv_irem hx hb dX7_putCell_25 (by decide) ?_
      refine lv_topi (fun x_7 ex_7 => ?_)
      have tx_7 := ti_rem ex_7 (by decide)
      rw [n_3] at tx_7
      refine lv_if_ne (tgt := 46) hx hb dX7_putCell_26 (by decide) (fun c_8 => ?_) (fun c_8 => ?_)
      · have ic_8 : ¬ ((x_7 : Int32).toInt = (0 : Int32).toInt) := fun h9 => c_8 ((fa_eq x_7 0).mpr h9)
        have hP9 := hP.sub (ws' := [(pe, .inr (5, [.ref pe_decimal, .ref pe_row, .ref pe_turned, .int u_2, .int pe_slots, .int pe_slotsPut, .int pe_hidden, .int pe_zeroSeen, .int pe_groups])), (pe_row, .inl (cI, 1024, .inl u_3))]) [0, 1] rfl
        have hD9 := hD.sub (ws' := [(pe, .inr (5, [.ref pe_decimal, .ref pe_row, .ref pe_turned, .int u_2, .int pe_slots, .int pe_slotsPut, .int pe_hidden, .int pe_zeroSeen, .int pe_groups])), (pe_row, .inl (cI, 1024, .inl u_3))]) [0, 1] (by decide) rfl
        exact W.vret hx hb hr (fun t ht hW => ⟨⟨(u_2, u_3), rfl, (by (try dsimp only); first | omega | assumption), by rw [ht]; exact hP9, va_K.moved hW.alike hK, hD9⟩, hS.F ht⟩) hS.2.2 dX7_putCell_46
      · have ic_8 : (x_7 : Int32).toInt = (0 : Int32).toInt := (fa_eq x_7 0).mp c_8
        refine lv_aload_n hx hb dX7_putCell_29 rfl (lv_at hl 1 rfl) ?_
        refine lv_iload_n hx hb dX7_putCell_30 rfl (lv_at hl 2 rfl) ?_
        refine lv_bipush (v := 32) hx hb dX7_putCell_31 (by decide) ?_
        have K_43 : ∀ (z_9 : Int32) (H : Heap) (locs : List Loc) (ls : Array Slot), va_P D vwCl [(pe, .inr (5, [.ref pe_decimal, .ref pe_row, .ref pe_turned, .int u_2, .int pe_slots, .int pe_slotsPut, .int pe_hidden, .int pe_zeroSeen, .int pe_groups])), (pe_row, .inl (cI, 1024, .inl u_3))] H → va_D A [(pe, .inr (5, [.ref pe_decimal, .ref pe_row, .ref pe_turned, .int u_2, .int pe_slots, .int pe_slotsPut, .int pe_hidden, .int pe_zeroSeen, .int pe_groups])), (pe_row, .inl (cI, 1024, .inl u_3))] → va_S A s.heap H locs → lv_has ls 4 [] → Z 0 0 H locs (F0 m 43 ls [.int z_9, .ref pe]) := by
          intro z_9 H locs ls  hP hD hS hl
          refine hZ2 ?_
          have hPc := hP.sub (ws' := [(pe, .inr (5, [.ref pe_decimal, .ref pe_row, .ref pe_turned, .int u_2, .int pe_slots, .int pe_slotsPut, .int pe_hidden, .int pe_zeroSeen, .int pe_groups])), (pe_row, .inl (cI, 1024, .inl u_3))]) [0, 1] rfl
          have hDc := hD.sub (ws' := [(pe, .inr (5, [.ref pe_decimal, .ref pe_row, .ref pe_turned, .int u_2, .int pe_slots, .int pe_slotsPut, .int pe_hidden, .int pe_zeroSeen, .int pe_groups])), (pe_row, .inl (cI, 1024, .inl u_3))]) [0, 1] (by decide) rfl
          have hFc := va_free (wc := [(pe, .inr (5, [.ref pe_decimal, .ref pe_row, .ref pe_turned, .int u_2, .int pe_slots, .int pe_slotsPut, .int pe_hidden, .int pe_zeroSeen, .int pe_groups])), (pe_row, .inl (cI, 1024, .inl u_3))]) hD hS hA [0, 1] rfl
          refine va_callv (va_runV (As := [.int z_9]) (rest := []) ⟨hx, hb, hml, hown, hts⟩ (c_X7_add l D cI cD cJ H.size pe pe_decimal pe_row pe_turned u_2 pe_slots pe_slotsPut pe_hidden pe_zeroSeen pe_groups u_3 z_9 (by omega) (by omega) (by omega) (by omega)) (cwV 1 hts (goodIn_app (goodIn_r _ [1, 2, 3, 4] rfl (by decide +kernel)) (goodIn_sub i_X7_add k_X7_add)) rfl rfl rfl (by decide +kernel) ⟨Nat.le_of_ble_eq_true rfl, Nat.le_of_ble_eq_true rfl⟩) ⟨fun a U g mk q => by obtain ⟨q0, q1, qP, qK, qD⟩ := q; exact ⟨q0, q1, qP, va_K.moved (u := U) (U := U.calling g mk a) (Vm.Alike.refl U.vm) qK, qD⟩, va_recv hK hPc (ci := 5) (q0 := 0) rfl rfl, fun U hU hW => ⟨rfl, by rw [hU], by rw [hU]; exact hPc, va_K.moved hW.alike hK, hDc.weaken (fun _ _ _ _ => trivial)⟩⟩ rfl rfl hl.1 rfl (lv_room (Nat.le_of_ble_eq_true rfl)) dX7_putCell_43 ⟨Nat.le_of_ble_eq_true rfl, Nat.le_of_ble_eq_true rfl⟩) hS (fun q _ h => hFc q h) hFc (fun u t H1 locs ht hvm w_10 hB hz1 hk1 hS => ?_)
          obtain ⟨u_11, u_12⟩ := u
          obtain ⟨hP1, hK1, hD1⟩ := hB
          rw [ht] at hP1
          try dsimp only at w_10
          obtain ⟨hP, hD⟩ := va_join (wr := []) (w1 := [(pe, .inr (5, [.ref pe_decimal, .ref pe_row, .ref pe_turned, .int u_11, .int pe_slots, .int pe_slotsPut, .int pe_hidden, .int pe_zeroSeen, .int pe_groups])), (pe_row, .inl (cI, 1024, .inl u_12))]) hP hD [0, 1] [] rfl rfl (by decide) (by decide) hk1 hFc hP1 hD1
          generalize H1 = H at hP hS ⊢
          have hP : va_P D vwCl [(pe, .inr (5, [.ref pe_decimal, .ref pe_row, .ref pe_turned, .int u_11, .int pe_slots, .int pe_slotsPut, .int pe_hidden, .int pe_zeroSeen, .int pe_groups])), (pe_row, .inl (cI, 1024, .inl u_12))] H := hP
          have hD : va_D A [(pe, .inr (5, [.ref pe_decimal, .ref pe_row, .ref pe_turned, .int u_11, .int pe_slots, .int pe_slotsPut, .int pe_hidden, .int pe_zeroSeen, .int pe_groups])), (pe_row, .inl (cI, 1024, .inl u_12))] := hD
          have hP9 := hP.sub (ws' := [(pe, .inr (5, [.ref pe_decimal, .ref pe_row, .ref pe_turned, .int u_11, .int pe_slots, .int pe_slotsPut, .int pe_hidden, .int pe_zeroSeen, .int pe_groups])), (pe_row, .inl (cI, 1024, .inl u_12))]) [0, 1] rfl
          have hD9 := hD.sub (ws' := [(pe, .inr (5, [.ref pe_decimal, .ref pe_row, .ref pe_turned, .int u_11, .int pe_slots, .int pe_slotsPut, .int pe_hidden, .int pe_zeroSeen, .int pe_groups])), (pe_row, .inl (cI, 1024, .inl u_12))]) [0, 1] (by decide) rfl
          exact W.vret hx hb hr (fun t ht hW => ⟨⟨(u_11, u_12), rfl, (by (try dsimp only); first | omega | assumption), by rw [ht]; exact hP9, va_K.moved hW.alike hK, hD9⟩, hS.F ht⟩) hS.2.2 dX7_putCell_46
        refine lv_icmp_ne (tgt := 41) hx hb dX7_putCell_33 (by decide) (fun c_13 => ?_) (fun c_13 => ?_)
        · have ic_13 : ¬ ((p1 : Int32).toInt = (32 : Int32).toInt) := fun h9 => c_13 ((fa_eq p1 32).mpr h9)
          refine lv_bipush (v := 44) hx hb dX7_putCell_41 (by decide) ?_
          exact hZ1 (K_43 44 _ _ _ hP hD hS (lv_sub hl [] rfl))
        · have ic_13 : (p1 : Int32).toInt = (32 : Int32).toInt := (fa_eq p1 32).mp c_13
          refine lv_bipush (v := 32) hx hb dX7_putCell_36 (by decide) ?_
          refine lv_goto (tgt := 43) hx hb dX7_putCell_38 (by decide) ?_
          exact hZ1 (K_43 32 _ _ _ hP hD hS (lv_sub hl [] rfl))

def ow_X7_putDigits : List Cond := [Cond.fieldLink RX7 12 "NumberFormats$Pen" "decimal" "LNumberFormats$Decimal;", Cond.methodLink RX7 83 yX1_wholeDigits, Cond.instanceMethod yX1_wholeDigits, Cond.selects RX1 yX1_wholeDigits yX1_wholeDigits, Cond.initialized RX1, Cond.methodLink RX7 89 yX1_digit, Cond.instanceMethod yX1_digit, Cond.selects RX1 yX1_digit yX1_digit, Cond.methodLink RX7 92 yX7_putCell, Cond.instanceMethod yX7_putCell, Cond.selects RX7 yX7_putCell yX7_putCell, Cond.initialized RX7]
def pw_X7_putDigits : List Cond := Cond.code yX7_putDigits cX7_putDigits 3 none :: (ow_X7_putDigits ++ (pw_X1_wholeDigits ++ (pw_X1_digit ++ (pw_X7_putCell ++ (wsX70)))))
set_option maxRecDepth 20000 in
theorem mo_X7_putDigits : ∀ w ∈ ow_X7_putDigits, w ∈ lw_tbl := by decide +kernel
set_option maxRecDepth 20000 in
theorem mc_X7_putDigits : Cond.code yX7_putDigits cX7_putDigits 3 none ∈ lw_tbl := by decide +kernel
theorem m_X7_putDigits : ∀ w ∈ pw_X7_putDigits, w ∈ lw_tbl := List.forall_mem_cons.mpr ⟨mc_X7_putDigits, (List.forall_mem_append.mpr ⟨mo_X7_putDigits, (List.forall_mem_append.mpr ⟨m_X1_wholeDigits, (List.forall_mem_append.mpr ⟨m_X1_digit, (List.forall_mem_append.mpr ⟨m_X7_putCell, inX7⟩)⟩)⟩)⟩)⟩
theorem ko_X7_putDigits : ∀ w ∈ ow_X7_putDigits, goodWord w = true := by decide +kernel
theorem k_X7_putDigits : pw_X7_putDigits.all goodWord = true := List.all_eq_true.mpr (List.forall_mem_cons.mpr ⟨by decide +kernel, (List.forall_mem_append.mpr ⟨ko_X7_putDigits, (List.forall_mem_append.mpr ⟨(List.all_eq_true.mp k_X1_wholeDigits), (List.forall_mem_append.mpr ⟨(List.all_eq_true.mp k_X1_digit), (List.forall_mem_append.mpr ⟨(List.all_eq_true.mp k_X7_putCell), kX_X7⟩)⟩)⟩)⟩)⟩)
set_option maxHeartbeats 400000 in
set_option maxRecDepth 100000 in
theorem c_X7_putDigits (l : Launch) (D : va_G) (cI cD cJ : ClassId) (sz : Nat) (pe : Nat) (pe_decimal : Nat) (pe_row : Nat) (pe_turned : Nat) (pe_length : Int32) (pe_slots : Int32) (pe_slotsPut : Int32) (pe_hidden : Int32) (pe_zeroSeen : Int32) (pe_groups : Int32) (pe_decimal_limbs : Nat) (pe_decimal_digits : Nat) (pe_decimal_used : Int32) (pe_decimal_count : Int32) (pe_decimal_scale : Int32) (pe_decimal_digitsF : Nat → Int32) (pe_rowF : Nat → Int32) (p1 : Int32) (h1 : -1000000 ≤ p1.toInt) (iv_pe_length : 0 ≤ (pe_length : Int32).toInt ∧ (pe_length : Int32).toInt ≤ 1024) (iv_pe_slots : 0 ≤ (pe_slots : Int32).toInt ∧ (pe_slots : Int32).toInt ≤ 256) (iv_pe_zeroSeen : (pe_zeroSeen : Int32).toInt = 0 ∨ (pe_zeroSeen : Int32).toInt = 1) (iv_pe_groups : (pe_groups : Int32).toInt = 0 ∨ (pe_groups : Int32).toInt = 1) (iv_pe_decimal_used : 0 ≤ (pe_decimal_used : Int32).toInt ∧ (pe_decimal_used : Int32).toInt ≤ 100) (iv_pe_decimal_count : 0 ≤ (pe_decimal_count : Int32).toInt ∧ (pe_decimal_count : Int32).toInt ≤ 910) : Met l yX7_putDigits pw_X7_putDigits ({ frames := 2, cells := 0, slots := 0, locals := 44 }) (va_Pc [.ref pe, .int p1] (fun U => U.heap.size = sz ∧ va_P D vwCl [(pe, .inr (5, [.ref pe_decimal, .ref pe_row, .ref pe_turned, .int pe_length, .int pe_slots, .int pe_slotsPut, .int pe_hidden, .int pe_zeroSeen, .int pe_groups])), (pe_decimal, .inr (1, [.ref pe_decimal_limbs, .ref pe_decimal_digits, .int pe_decimal_used, .int pe_decimal_count, .int pe_decimal_scale])), (pe_decimal_digits, .inl (cI, 910, .inl pe_decimal_digitsF)), (pe_row, .inl (cI, 1024, .inl pe_rowF))] U.heap ∧ va_K D vwCl (ty3 cI cD cJ) U ∧ va_D (fun _ => True) [(pe, .inr (5, [.ref pe_decimal, .ref pe_row, .ref pe_turned, .int pe_length, .int pe_slots, .int pe_slotsPut, .int pe_hidden, .int pe_zeroSeen, .int pe_groups])), (pe_decimal, .inr (1, [.ref pe_decimal_limbs, .ref pe_decimal_digits, .int pe_decimal_used, .int pe_decimal_count, .int pe_decimal_scale])), (pe_decimal_digits, .inl (cI, 910, .inl pe_decimal_digitsF)), (pe_row, .inl (cI, 1024, .inl pe_rowF))])) (va_Qv (fun (u : Int32 × (Nat → Int32)) => match u with | (pe_length2, pe_rowF2) => (0 ≤ (pe_length2 : Int32).toInt ∧ (pe_length2 : Int32).toInt ≤ 1024)) (fun (u : Int32 × (Nat → Int32)) (t : State) => match u with | (pe_length2, pe_rowF2) => va_P D vwCl [(pe, .inr (5, [.ref pe_decimal, .ref pe_row, .ref pe_turned, .int pe_length2, .int pe_slots, .int pe_slotsPut, .int pe_hidden, .int pe_zeroSeen, .int pe_groups])), (pe_decimal, .inr (1, [.ref pe_decimal_limbs, .ref pe_decimal_digits, .int pe_decimal_used, .int pe_decimal_count, .int pe_decimal_scale])), (pe_decimal_digits, .inl (cI, 910, .inl pe_decimal_digitsF)), (pe_row, .inl (cI, 1024, .inl pe_rowF2))] t.heap ∧ va_K D vwCl (ty3 cI cD cJ) t ∧ va_D (va_A [(pe, .inr (5, [.ref pe_decimal, .ref pe_row, .ref pe_turned, .int pe_length, .int pe_slots, .int pe_slotsPut, .int pe_hidden, .int pe_zeroSeen, .int pe_groups])), (pe_decimal, .inr (1, [.ref pe_decimal_limbs, .ref pe_decimal_digits, .int pe_decimal_used, .int pe_decimal_count, .int pe_decimal_scale])), (pe_decimal_digits, .inl (cI, 910, .inl pe_decimal_digitsF)), (pe_row, .inl (cI, 1024, .inl pe_rowF))] sz) [(pe, .inr (5, [.ref pe_decimal, .ref pe_row, .ref pe_turned, .int pe_length2, .int pe_slots, .int pe_slotsPut, .int pe_hidden, .int pe_zeroSeen, .int pe_groups])), (pe_decimal, .inr (1, [.ref pe_decimal_limbs, .ref pe_decimal_digits, .int pe_decimal_used, .int pe_decimal_count, .int pe_decimal_scale])), (pe_decimal_digits, .inl (cI, 910, .inl pe_decimal_digitsF)), (pe_row, .inl (cI, 1024, .inl pe_rowF2))]) (va_A [(pe, .inr (5, [.ref pe_decimal, .ref pe_row, .ref pe_turned, .int pe_length, .int pe_slots, .int pe_slotsPut, .int pe_hidden, .int pe_zeroSeen, .int pe_groups])), (pe_decimal, .inr (1, [.ref pe_decimal_limbs, .ref pe_decimal_digits, .int pe_decimal_used, .int pe_decimal_count, .int pe_decimal_scale])), (pe_decimal_digits, .inl (cI, 910, .inl pe_decimal_digitsF)), (pe_row, .inl (cI, 1024, .inl pe_rowF))] sz)) 0 0 (va_A [(pe, .inr (5, [.ref pe_decimal, .ref pe_row, .ref pe_turned, .int pe_length, .int pe_slots, .int pe_slotsPut, .int pe_hidden, .int pe_zeroSeen, .int pe_groups])), (pe_decimal, .inr (1, [.ref pe_decimal_limbs, .ref pe_decimal_digits, .int pe_decimal_used, .int pe_decimal_count, .int pe_decimal_scale])), (pe_decimal_digits, .inl (cI, 910, .inl pe_decimal_digitsF)), (pe_row, .inl (cI, 1024, .inl pe_rowF))] sz) := by
  refine Met.ofW (cc := cX7_putDigits) (maxL := 3) (ret := none) (by decide +kernel) rfl ?_
  intro p e s m args below meth c s₁ B hml hv
  obtain ⟨rfl, hsz, hP, hK, hD0⟩ := hv
  have hx := B.exec
  have hb := B.bytes
  have hr := B.returns
  have hts := atoms_spec (ws := pw_X7_putDigits) B.pre
  have hown : s.vm.findClass RX7 = some m.cls := findClass_of_methodNamed B.named
  have hlocks := B.notSynchronized
  subst hsz
  have hD := hD0.self (sz := s.heap.size)
  generalize hAe : va_A [(pe, .inr (5, [.ref pe_decimal, .ref pe_row, .ref pe_turned, .int pe_length, .int pe_slots, .int pe_slotsPut, .int pe_hidden, .int pe_zeroSeen, .int pe_groups])), (pe_decimal, .inr (1, [.ref pe_decimal_limbs, .ref pe_decimal_digits, .int pe_decimal_used, .int pe_decimal_count, .int pe_decimal_scale])), (pe_decimal_digits, .inl (cI, 910, .inl pe_decimal_digitsF)), (pe_row, .inl (cI, 1024, .inl pe_rowF))] s.heap.size = A at hD ⊢
  have hA : ∀ q : Nat, s.heap.size ≤ q → A q := fun q h => by rw [← hAe]; exact Or.inr h
  have hS : va_S A s.heap s.heap [] := va_S.rf
  have hw : ∀ (k : Nat) (w : Cond), ow_X7_putDigits[k]? = some w → w.before _ s = true := fun k w h => hts w (List.mem_cons_of_mem _ (have h9 := List.mem_of_getElem? h; List.mem_append_left _ h9))
  have i_X1_wholeDigits : ∀ w ∈ pw_X1_wholeDigits, w ∈ pw_X7_putDigits := fun w h9 => List.mem_cons_of_mem _ (List.mem_append_right _ (List.mem_append_left _ h9))
  have i_X1_digit : ∀ w ∈ pw_X1_digit, w ∈ pw_X7_putDigits := fun w h9 => List.mem_cons_of_mem _ (List.mem_append_right _ (List.mem_append_right _ (List.mem_append_left _ h9)))
  have i_X7_putCell : ∀ w ∈ pw_X7_putCell, w ∈ pw_X7_putDigits := fun w h9 => List.mem_cons_of_mem _ (List.mem_append_right _ (List.mem_append_right _ (List.mem_append_right _ (List.mem_append_left _ h9))))
  have iX7 : ∀ w ∈ u_ws RX7 TX7 9, w ∈ pw_X7_putDigits := fun w h9 => List.mem_cons_of_mem _ (List.mem_append_right _ (List.mem_append_right _ (List.mem_append_right _ (List.mem_append_right _ (h9)))))
  have n_m1 : (((-1) : Int32)).toInt = (-1) := by decide
  have n_1 : ((1 : Int32)).toInt = 1 := by decide
  have n_48 : ((48 : Int32)).toInt = 48 := by decide
  have hl := lv_entry ([.ref pe, .int p1]) (n := 3) (Nat.le_of_ble_eq_true rfl)
  rw [lg_entry_eq]
  generalize (lg_sl ([.ref pe, .int p1]) ++ List.replicate (3 - (lg_sl ([.ref pe, .int p1])).length) Slot.unset).toArray = ls at hl ⊢
  have hl : lv_has ls 3 [(0, .ref pe), (1, .int p1)] := hl
  have b_p1 := ti_b p1
  refine zz_cap (fun Z hZ1 hZ2 => ?_)
  refine lv_aload_n hx hb dX7_putDigits_0 rfl (lv_at hl 0 rfl) ?_
  refine va_get (D := D) (ci := 5) (v := .ref pe_decimal) (C := RX7) (T := TX7) (N := 9) hx hb hts iX7 hown hK hP 0 rfl rfl 0 (by decide) (hw 0 (.fieldLink RX7 12 "NumberFormats$Pen" "decimal" "LNumberFormats$Decimal;") rfl) (fun _ h9 => h9) rfl dX7_putDigits_1 ?_
  have hPc := hP.sub (ws' := [(pe_decimal, .inr (1, [.ref pe_decimal_limbs, .ref pe_decimal_digits, .int pe_decimal_used, .int pe_decimal_count, .int pe_decimal_scale]))]) [1] rfl
  refine va_calli (va_runV (As := []) (rest := []) ⟨hx, hb, hml, hown, hts⟩ (c_X1_wholeDigits l D cI cD cJ s.heap.size pe_decimal pe_decimal_limbs pe_decimal_digits pe_decimal_used pe_decimal_count pe_decimal_scale (by omega) (by omega)) (cwV 0 hts (goodIn_app (goodIn_r _ [2, 3, 4, 5] rfl (by decide +kernel)) (goodIn_sub i_X1_wholeDigits k_X1_wholeDigits)) rfl rfl rfl (by decide +kernel) ⟨Nat.le_of_ble_eq_true rfl, Nat.le_of_ble_eq_true rfl⟩) ⟨fun a U g mk q => by obtain ⟨q0, qP, qK⟩ := q; exact ⟨q0, qP, va_K.moved (u := U) (U := U.calling g mk a) (Vm.Alike.refl U.vm) qK⟩, va_recv hK hPc (ci := 1) (q0 := 0) rfl rfl, fun U hU hW => ⟨rfl, by rw [hU]; exact hPc, va_K.moved hW.alike hK⟩⟩ rfl rfl hl.1 rfl (lv_room (Nat.le_of_ble_eq_true rfl)) dX7_putDigits_4 ⟨Nat.le_of_ble_eq_true rfl, Nat.le_of_ble_eq_true rfl⟩) hS (fun q _ h => h.elim) (fun q h => h.elim) (fun x_1 u t H1 locs ht hvm w_2 hB hz1 hk1 hS => ?_)
  have hP : va_P D vwCl [(pe, .inr (5, [.ref pe_decimal, .ref pe_row, .ref pe_turned, .int pe_length, .int pe_slots, .int pe_slotsPut, .int pe_hidden, .int pe_zeroSeen, .int pe_groups])), (pe_decimal, .inr (1, [.ref pe_decimal_limbs, .ref pe_decimal_digits, .int pe_decimal_used, .int pe_decimal_count, .int pe_decimal_scale])), (pe_decimal_digits, .inl (cI, 910, .inl pe_decimal_digitsF)), (pe_row, .inl (cI, 1024, .inl pe_rowF))] H1 := hP.kept (fun k9 q9 h9 => hk1 q9.1 (vx_lt hP h9) (fun h => h))
  generalize H1 = H at hP hS ⊢
  refine lv_iconst (v := 1) hx hb dX7_putDigits_7 (by decide) ?_
  refine lv_isub hx hb dX7_putDigits_8 ?_
  refine lv_topi (fun x_3 ex_3 => ?_)
  have tx_3 := ti_sub ex_3
  refine lv_istore_n (lv' := [(2, .int x_3), (0, .ref pe), (1, .int p1)]) hx hb dX7_putDigits_9 rfl hl (by decide) rfl (fun ls hl => ?_)
  have L_10 : ∀ (N : Nat) (x_4 : Int32) (x_5 : Int32) (f_6 : Nat → Int32) (H : Heap) (locs : List Loc) (ls : Array Slot), (0 ≤ (x_5 : Int32).toInt ∧ (x_5 : Int32).toInt ≤ 1024) → (((x_4 : Int32).toInt + 2147483648).toNat < N) → va_P D vwCl [(pe, .inr (5, [.ref pe_decimal, .ref pe_row, .ref pe_turned, .int x_5, .int pe_slots, .int pe_slotsPut, .int pe_hidden, .int pe_zeroSeen, .int pe_groups])), (pe_decimal, .inr (1, [.ref pe_decimal_limbs, .ref pe_decimal_digits, .int pe_decimal_used, .int pe_decimal_count, .int pe_decimal_scale])), (pe_decimal_digits, .inl (cI, 910, .inl pe_decimal_digitsF)), (pe_row, .inl (cI, 1024, .inl f_6))] H → va_D A [(pe, .inr (5, [.ref pe_decimal, .ref pe_row, .ref pe_turned, .int x_5, .int pe_slots, .int pe_slotsPut, .int pe_hidden, .int pe_zeroSeen, .int pe_groups])), (pe_decimal, .inr (1, [.ref pe_decimal_limbs, .ref pe_decimal_digits, .int pe_decimal_used, .int pe_decimal_count, .int pe_decimal_scale])), (pe_decimal_digits, .inl (cI, 910, .inl pe_decimal_digitsF)), (pe_row, .inl (cI, 1024, .inl f_6))] → va_S A s.heap H locs → lv_has ls 3 [(2, .int x_4), (0, .ref pe), (1, .int p1)] → Z 0 0 H locs (F0 m 10 ls []) := by
    intro N
    induction N with
    | zero => intro _ _ _ _ _ _ _ hmu; exact absurd hmu (Nat.not_lt_zero _)
    | succ N ih_10 =>
      intro x_4 x_5 f_6 H locs ls g10_0 hmu hP hD hS hl
      refine hZ2 ?_
      refine lv_iload_n hx hb dX7_putDigits_10 rfl (lv_at hl 0 rfl) ?_
      refine lv_iload_n hx hb dX7_putDigits_11 rfl (lv_at hl 2 rfl) ?_
      refine lv_icmp_lt (tgt := 37) hx hb dX7_putDigits_12 (by decide) (fun c_7 => ?_) (fun c_7 => ?_)
      · have ic_7 : (x_4 : Int32).toInt < (p1 : Int32).toInt := (fa_lt x_4 p1).mp c_7
        have hP9 := hP.sub (ws' := [(pe, .inr (5, [.ref pe_decimal, .ref pe_row, .ref pe_turned, .int x_5, .int pe_slots, .int pe_slotsPut, .int pe_hidden, .int pe_zeroSeen, .int pe_groups])), (pe_decimal, .inr (1, [.ref pe_decimal_limbs, .ref pe_decimal_digits, .int pe_decimal_used, .int pe_decimal_count, .int pe_decimal_scale])), (pe_decimal_digits, .inl (cI, 910, .inl pe_decimal_digitsF)), (pe_row, .inl (cI, 1024, .inl f_6))]) [0, 1, 2, 3] rfl
        have hD9 := hD.sub (ws' := [(pe, .inr (5, [.ref pe_decimal, .ref pe_row, .ref pe_turned, .int x_5, .int pe_slots, .int pe_slotsPut, .int pe_hidden, .int pe_zeroSeen, .int pe_groups])), (pe_decimal, .inr (1, [.ref pe_decimal_limbs, .ref pe_decimal_digits, .int pe_decimal_used, .int pe_decimal_count, .int pe_decimal_scale])), (pe_decimal_digits, .inl (cI, 910, .inl pe_decimal_digitsF)), (pe_row, .inl (cI, 1024, .inl f_6))]) [0, 1, 2, 3] (by decide) rfl
        exact W.vret hx hb hr (fun t ht hW => ⟨⟨(x_5, f_6), rfl, (by (try dsimp only); first | omega | assumption), by rw [ht]; exact hP9, va_K.moved hW.alike hK, hD9⟩, hS.F ht⟩) hS.2.2 dX7_putDigits_37
      · have ic_7 : ¬ ((x_4 : Int32).toInt < (p1 : Int32).toInt) := fun h9 => c_7 ((fa_lt x_4 p1).mpr h9)
        refine lv_aload_n hx hb dX7_putDigits_15 rfl (lv_at hl 1 rfl) ?_
        refine lv_bipush (v := 48) hx hb dX7_putDigits_16 (by decide) ?_
        refine lv_aload_n hx hb dX7_putDigits_18 rfl (lv_at hl 1 rfl) ?_
        refine va_get (D := D) (ci := 5) (v := .ref pe_decimal) (C := RX7) (T := TX7) (N := 9) hx hb hts iX7 hown hK hP 0 rfl rfl 0 (by decide) (hw 0 (.fieldLink RX7 12 "NumberFormats$Pen" "decimal" "LNumberFormats$Decimal;") rfl) (fun _ h9 => h9) rfl dX7_putDigits_19 ?_
        refine lv_iload_n hx hb dX7_putDigits_22 rfl (lv_at hl 0 rfl) ?_
        have hPc := hP.sub (ws' := [(pe_decimal, .inr (1, [.ref pe_decimal_limbs, .ref pe_decimal_digits, .int pe_decimal_used, .int pe_decimal_count, .int pe_decimal_scale])), (pe_decimal_digits, .inl (cI, 910, .inl pe_decimal_digitsF))]) [1, 2] rfl
        refine va_calli (va_runV (As := [.int x_4]) (rest := [.int 48, .ref pe]) ⟨hx, hb, hml, hown, hts⟩ (c_X1_digit l D cI cD cJ H.size pe_decimal pe_decimal_limbs pe_decimal_digits pe_decimal_used pe_decimal_count pe_decimal_scale pe_decimal_digitsF x_4 (by omega) (by omega)) (cwV 1 hts (goodIn_app (goodIn_r _ [6, 7, 8, 5] rfl (by decide +kernel)) (goodIn_sub i_X1_digit k_X1_digit)) rfl rfl rfl (by decide +kernel) ⟨Nat.le_of_ble_eq_true rfl, Nat.le_of_ble_eq_true rfl⟩) ⟨fun a U g mk q => by obtain ⟨q0, qP, qK⟩ := q; exact ⟨q0, qP, va_K.moved (u := U) (U := U.calling g mk a) (Vm.Alike.refl U.vm) qK⟩, va_recv hK hPc (ci := 1) (q0 := 0) rfl rfl, fun U hU hW => ⟨rfl, by rw [hU]; exact hPc, va_K.moved hW.alike hK⟩⟩ rfl rfl hl.1 rfl (lv_room (Nat.le_of_ble_eq_true rfl)) dX7_putDigits_23 ⟨Nat.le_of_ble_eq_true rfl, Nat.le_of_ble_eq_true rfl⟩) hS (fun q _ h => h.elim) (fun q h => h.elim) (fun x_8 u t H1 locs ht hvm w_9 hB hz1 hk1 hS => ?_)
        have hP : va_P D vwCl [(pe, .inr (5, [.ref pe_decimal, .ref pe_row, .ref pe_turned, .int x_5, .int pe_slots, .int pe_slotsPut, .int pe_hidden, .int pe_zeroSeen, .int pe_groups])), (pe_decimal, .inr (1, [.ref pe_decimal_limbs, .ref pe_decimal_digits, .int pe_decimal_used, .int pe_decimal_count, .int pe_decimal_scale])), (pe_decimal_digits, .inl (cI, 910, .inl pe_decimal_digitsF)), (pe_row, .inl (cI, 1024, .inl f_6))] H1 := hP.kept (fun k9 q9 h9 => hk1 q9.1 (vx_lt hP h9) (fun h => h))
        generalize H1 = H at hP hS ⊢
        refine lv_iadd hx hb dX7_putDigits_26 ?_
        refine lv_topi (fun x_10 ex_10 => ?_)
        have tx_10 := ti_add ex_10
        refine lv_iload_n hx hb dX7_putDigits_27 rfl (lv_at hl 0 rfl) ?_
        have hPc := hP.sub (ws' := [(pe, .inr (5, [.ref pe_decimal, .ref pe_row, .ref pe_turned, .int x_5, .int pe_slots, .int pe_slotsPut, .int pe_hidden, .int pe_zeroSeen, .int pe_groups])), (pe_row, .inl (cI, 1024, .inl f_6))]) [0, 3] rfl
        have hDc := hD.sub (ws' := [(pe, .inr (5, [.ref pe_decimal, .ref pe_row, .ref pe_turned, .int x_5, .int pe_slots, .int pe_slotsPut, .int pe_hidden, .int pe_zeroSeen, .int pe_groups])), (pe_row, .inl (cI, 1024, .inl f_6))]) [0, 3] (by decide) rfl
        have hFc := va_free (wc := [(pe, .inr (5, [.ref pe_decimal, .ref pe_row, .ref pe_turned, .int x_5, .int pe_slots, .int pe_slotsPut, .int pe_hidden, .int pe_zeroSeen, .int pe_groups])), (pe_row, .inl (cI, 1024, .inl f_6))]) hD hS hA [0, 3] rfl
        refine va_callv (va_runV (As := [.int x_10, .int x_4]) (rest := []) ⟨hx, hb, hml, hown, hts⟩ (c_X7_putCell l D cI cD cJ H.size pe pe_decimal pe_row pe_turned x_5 pe_slots pe_slotsPut pe_hidden pe_zeroSeen pe_groups f_6 x_10 x_4 (by omega) (by omega) (by omega) (by omega)) (cwV 2 hts (goodIn_app (goodIn_r _ [9, 10, 11, 12] rfl (by decide +kernel)) (goodIn_sub i_X7_putCell k_X7_putCell)) rfl rfl rfl (by decide +kernel) ⟨Nat.le_of_ble_eq_true rfl, Nat.le_of_ble_eq_true rfl⟩) ⟨fun a U g mk q => by obtain ⟨q0, q1, qP, qK, qD⟩ := q; exact ⟨q0, q1, qP, va_K.moved (u := U) (U := U.calling g mk a) (Vm.Alike.refl U.vm) qK, qD⟩, va_recv hK hPc (ci := 5) (q0 := 0) rfl rfl, fun U hU hW => ⟨rfl, by rw [hU], by rw [hU]; exact hPc, va_K.moved hW.alike hK, hDc.weaken (fun _ _ _ _ => trivial)⟩⟩ rfl rfl hl.1 rfl (lv_room (Nat.le_of_ble_eq_true rfl)) dX7_putDigits_28 ⟨Nat.le_of_ble_eq_true rfl, Nat.le_of_ble_eq_true rfl⟩) hS (fun q _ h => hFc q h) hFc (fun u t H1 locs ht hvm w_11 hB hz1 hk1 hS => ?_)
        obtain ⟨u_12, u_13⟩ := u
        obtain ⟨hP1, hK1, hD1⟩ := hB
        rw [ht] at hP1
        try dsimp only at w_11
        obtain ⟨hP, hD⟩ := va_join (wr := [(pe_decimal, .inr (1, [.ref pe_decimal_limbs, .ref pe_decimal_digits, .int pe_decimal_used, .int pe_decimal_count, .int pe_decimal_scale])), (pe_decimal_digits, .inl (cI, 910, .inl pe_decimal_digitsF))]) (w1 := [(pe, .inr (5, [.ref pe_decimal, .ref pe_row, .ref pe_turned, .int u_12, .int pe_slots, .int pe_slotsPut, .int pe_hidden, .int pe_zeroSeen, .int pe_groups])), (pe_row, .inl (cI, 1024, .inl u_13))]) hP hD [0, 3] [1, 2] rfl rfl (by decide) (by decide) hk1 hFc hP1 hD1
        generalize H1 = H at hP hS ⊢
        have hP : va_P D vwCl [(pe_decimal, .inr (1, [.ref pe_decimal_limbs, .ref pe_decimal_digits, .int pe_decimal_used, .int pe_decimal_count, .int pe_decimal_scale])), (pe_decimal_digits, .inl (cI, 910, .inl pe_decimal_digitsF)), (pe, .inr (5, [.ref pe_decimal, .ref pe_row, .ref pe_turned, .int u_12, .int pe_slots, .int pe_slotsPut, .int pe_hidden, .int pe_zeroSeen, .int pe_groups])), (pe_row, .inl (cI, 1024, .inl u_13))] H := hP
        have hD : va_D A [(pe_decimal, .inr (1, [.ref pe_decimal_limbs, .ref pe_decimal_digits, .int pe_decimal_used, .int pe_decimal_count, .int pe_decimal_scale])), (pe_decimal_digits, .inl (cI, 910, .inl pe_decimal_digitsF)), (pe, .inr (5, [.ref pe_decimal, .ref pe_row, .ref pe_turned, .int u_12, .int pe_slots, .int pe_slotsPut, .int pe_hidden, .int pe_zeroSeen, .int pe_groups])), (pe_row, .inl (cI, 1024, .inl u_13))] := hD
        obtain ⟨x_14, ex_14⟩ : ∃ y : Int32, y = x_4 + (-1) := ⟨_, rfl⟩
        have tx_14 := ti_add ex_14
        refine lv_iinc (v := x_14) (lv' := [(2, .int x_14), (0, .ref pe), (1, .int p1)]) hx hb dX7_putDigits_31 hl (k := 0) rfl (by rw [ex_14]; rfl) (by decide) rfl (fun ls hl => ?_)
        refine lv_goto (tgt := 10) hx hb dX7_putDigits_34 (by decide) ?_
        exact hZ1 (ih_10 x_14 u_12 u_13 _ _ _ (by omega) (by omega) (hP.sub [2, 0, 1, 3] rfl) (hD.sub [2, 0, 1, 3] (by decide) rfl) hS hl)
  exact hZ1 (L_10 ((((x_3 : Int32).toInt + 2147483648).toNat) + 1) x_3 pe_length pe_rowF _ _ _ (by omega) (by omega) hP hD hS hl)

def ow_X7_putSlot : List Cond := [Cond.fieldLink RX7 57 "NumberFormats$Pen" "slots" "I", Cond.fieldLink RX7 60 "NumberFormats$Pen" "slotsPut" "I", Cond.fieldLink RX7 63 "NumberFormats$Pen" "zeroSeen" "Z", Cond.fieldLink RX7 12 "NumberFormats$Pen" "decimal" "LNumberFormats$Decimal;", Cond.methodLink RX7 89 yX1_digit, Cond.instanceMethod yX1_digit, Cond.selects RX1 yX1_digit yX1_digit, Cond.initialized RX1, Cond.methodLink RX7 92 yX7_putCell, Cond.instanceMethod yX7_putCell, Cond.selects RX7 yX7_putCell yX7_putCell, Cond.initialized RX7, Cond.methodLink RX7 83 yX1_wholeDigits, Cond.instanceMethod yX1_wholeDigits, Cond.selects RX1 yX1_wholeDigits yX1_wholeDigits, Cond.fieldLink RX7 74 "NumberFormats$Pen" "hidden" "I", Cond.methodLink RX7 86 yX7_putDigits, Cond.instanceMethod yX7_putDigits, Cond.selects RX7 yX7_putDigits yX7_putDigits]
def pw_X7_putSlot : List Cond := Cond.code yX7_putSlot cX7_putSlot 3 none :: (ow_X7_putSlot ++ (pw_X1_digit ++ (pw_X7_putCell ++ (pw_X1_wholeDigits ++ (pw_X7_putDigits ++ (wsX70))))))
set_option maxRecDepth 20000 in
theorem mo_X7_putSlot : ∀ w ∈ ow_X7_putSlot, w ∈ lw_tbl := by decide +kernel
set_option maxRecDepth 20000 in
theorem mc_X7_putSlot : Cond.code yX7_putSlot cX7_putSlot 3 none ∈ lw_tbl := by decide +kernel
theorem m_X7_putSlot : ∀ w ∈ pw_X7_putSlot, w ∈ lw_tbl := List.forall_mem_cons.mpr ⟨mc_X7_putSlot, (List.forall_mem_append.mpr ⟨mo_X7_putSlot, (List.forall_mem_append.mpr ⟨m_X1_digit, (List.forall_mem_append.mpr ⟨m_X7_putCell, (List.forall_mem_append.mpr ⟨m_X1_wholeDigits, (List.forall_mem_append.mpr ⟨m_X7_putDigits, inX7⟩)⟩)⟩)⟩)⟩)⟩
theorem ko_X7_putSlot : ∀ w ∈ ow_X7_putSlot, goodWord w = true := by decide +kernel
theorem k_X7_putSlot : pw_X7_putSlot.all goodWord = true := List.all_eq_true.mpr (List.forall_mem_cons.mpr ⟨by decide +kernel, (List.forall_mem_append.mpr ⟨ko_X7_putSlot, (List.forall_mem_append.mpr ⟨(List.all_eq_true.mp k_X1_digit), (List.forall_mem_append.mpr ⟨(List.all_eq_true.mp k_X7_putCell), (List.forall_mem_append.mpr ⟨(List.all_eq_true.mp k_X1_wholeDigits), (List.forall_mem_append.mpr ⟨(List.all_eq_true.mp k_X7_putDigits), kX_X7⟩)⟩)⟩)⟩)⟩)⟩)
set_option maxHeartbeats 400000 in
set_option maxRecDepth 100000 in
theorem c_X7_putSlot (l : Launch) (D : va_G) (cI cD cJ : ClassId) (sz : Nat) (pe : Nat) (pe_decimal : Nat) (pe_row : Nat) (pe_turned : Nat) (pe_length : Int32) (pe_slots : Int32) (pe_slotsPut : Int32) (pe_hidden : Int32) (pe_zeroSeen : Int32) (pe_groups : Int32) (pe_decimal_limbs : Nat) (pe_decimal_digits : Nat) (pe_decimal_used : Int32) (pe_decimal_count : Int32) (pe_decimal_scale : Int32) (pe_decimal_digitsF : Nat → Int32) (pe_rowF : Nat → Int32) (p1 : Int32) (iv_pe_length : 0 ≤ (pe_length : Int32).toInt ∧ (pe_length : Int32).toInt ≤ 1024) (iv_pe_slots : 0 ≤ (pe_slots : Int32).toInt ∧ (pe_slots : Int32).toInt ≤ 256) (iv_pe_zeroSeen : (pe_zeroSeen : Int32).toInt = 0 ∨ (pe_zeroSeen : Int32).toInt = 1) (iv_pe_groups : (pe_groups : Int32).toInt = 0 ∨ (pe_groups : Int32).toInt = 1) (iv_pe_decimal_used : 0 ≤ (pe_decimal_used : Int32).toInt ∧ (pe_decimal_used : Int32).toInt ≤ 100) (iv_pe_decimal_count : 0 ≤ (pe_decimal_count : Int32).toInt ∧ (pe_decimal_count : Int32).toInt ≤ 910) : Met l yX7_putSlot pw_X7_putSlot ({ frames := 3, cells := 0, slots := 0, locals := 66 }) (va_Pc [.ref pe, .int p1] (fun U => U.heap.size = sz ∧ va_P D vwCl [(pe, .inr (5, [.ref pe_decimal, .ref pe_row, .ref pe_turned, .int pe_length, .int pe_slots, .int pe_slotsPut, .int pe_hidden, .int pe_zeroSeen, .int pe_groups])), (pe_decimal, .inr (1, [.ref pe_decimal_limbs, .ref pe_decimal_digits, .int pe_decimal_used, .int pe_decimal_count, .int pe_decimal_scale])), (pe_decimal_digits, .inl (cI, 910, .inl pe_decimal_digitsF)), (pe_row, .inl (cI, 1024, .inl pe_rowF))] U.heap ∧ va_K D vwCl (ty3 cI cD cJ) U ∧ va_D (fun _ => True) [(pe, .inr (5, [.ref pe_decimal, .ref pe_row, .ref pe_turned, .int pe_length, .int pe_slots, .int pe_slotsPut, .int pe_hidden, .int pe_zeroSeen, .int pe_groups])), (pe_decimal, .inr (1, [.ref pe_decimal_limbs, .ref pe_decimal_digits, .int pe_decimal_used, .int pe_decimal_count, .int pe_decimal_scale])), (pe_decimal_digits, .inl (cI, 910, .inl pe_decimal_digitsF)), (pe_row, .inl (cI, 1024, .inl pe_rowF))])) (va_Qv (fun (u : Int32 × Int32 × Int32 × Int32 × (Nat → Int32)) => match u with | (pe_length2, pe_slotsPut2, pe_hidden2, pe_zeroSeen2, pe_rowF2) => (0 ≤ (pe_length2 : Int32).toInt ∧ (pe_length2 : Int32).toInt ≤ 1024) ∧ ((pe_zeroSeen2 : Int32).toInt = 0 ∨ (pe_zeroSeen2 : Int32).toInt = 1)) (fun (u : Int32 × Int32 × Int32 × Int32 × (Nat → Int32)) (t : State) => match u with | (pe_length2, pe_slotsPut2, pe_hidden2, pe_zeroSeen2, pe_rowF2) => va_P D vwCl [(pe, .inr (5, [.ref pe_decimal, .ref pe_row, .ref pe_turned, .int pe_length2, .int pe_slots, .int pe_slotsPut2, .int pe_hidden2, .int pe_zeroSeen2, .int pe_groups])), (pe_decimal, .inr (1, [.ref pe_decimal_limbs, .ref pe_decimal_digits, .int pe_decimal_used, .int pe_decimal_count, .int pe_decimal_scale])), (pe_decimal_digits, .inl (cI, 910, .inl pe_decimal_digitsF)), (pe_row, .inl (cI, 1024, .inl pe_rowF2))] t.heap ∧ va_K D vwCl (ty3 cI cD cJ) t ∧ va_D (va_A [(pe, .inr (5, [.ref pe_decimal, .ref pe_row, .ref pe_turned, .int pe_length, .int pe_slots, .int pe_slotsPut, .int pe_hidden, .int pe_zeroSeen, .int pe_groups])), (pe_decimal, .inr (1, [.ref pe_decimal_limbs, .ref pe_decimal_digits, .int pe_decimal_used, .int pe_decimal_count, .int pe_decimal_scale])), (pe_decimal_digits, .inl (cI, 910, .inl pe_decimal_digitsF)), (pe_row, .inl (cI, 1024, .inl pe_rowF))] sz) [(pe, .inr (5, [.ref pe_decimal, .ref pe_row, .ref pe_turned, .int pe_length2, .int pe_slots, .int pe_slotsPut2, .int pe_hidden2, .int pe_zeroSeen2, .int pe_groups])), (pe_decimal, .inr (1, [.ref pe_decimal_limbs, .ref pe_decimal_digits, .int pe_decimal_used, .int pe_decimal_count, .int pe_decimal_scale])), (pe_decimal_digits, .inl (cI, 910, .inl pe_decimal_digitsF)), (pe_row, .inl (cI, 1024, .inl pe_rowF2))]) (va_A [(pe, .inr (5, [.ref pe_decimal, .ref pe_row, .ref pe_turned, .int pe_length, .int pe_slots, .int pe_slotsPut, .int pe_hidden, .int pe_zeroSeen, .int pe_groups])), (pe_decimal, .inr (1, [.ref pe_decimal_limbs, .ref pe_decimal_digits, .int pe_decimal_used, .int pe_decimal_count, .int pe_decimal_scale])), (pe_decimal_digits, .inl (cI, 910, .inl pe_decimal_digitsF)), (pe_row, .inl (cI, 1024, .inl pe_rowF))] sz)) 0 0 (va_A [(pe, .inr (5, [.ref pe_decimal, .ref pe_row, .ref pe_turned, .int pe_length, .int pe_slots, .int pe_slotsPut, .int pe_hidden, .int pe_zeroSeen, .int pe_groups])), (pe_decimal, .inr (1, [.ref pe_decimal_limbs, .ref pe_decimal_digits, .int pe_decimal_used, .int pe_decimal_count, .int pe_decimal_scale])), (pe_decimal_digits, .inl (cI, 910, .inl pe_decimal_digitsF)), (pe_row, .inl (cI, 1024, .inl pe_rowF))] sz) := by
  refine Met.ofW (cc := cX7_putSlot) (maxL := 3) (ret := none) (by decide +kernel) rfl ?_
  intro p e s m args below meth c s₁ B hml hv
  obtain ⟨rfl, hsz, hP, hK, hD0⟩ := hv
  have hx := B.exec
  have hb := B.bytes
  have hr := B.returns
  have hts := atoms_spec (ws := pw_X7_putSlot) B.pre
  have hown : s.vm.findClass RX7 = some m.cls := findClass_of_methodNamed B.named
  have hlocks := B.notSynchronized
  subst hsz
  have hD := hD0.self (sz := s.heap.size)
  generalize hAe : va_A [(pe, .inr (5, [.ref pe_decimal, .ref pe_row, .ref pe_turned, .int pe_length, .int pe_slots, .int pe_slotsPut, .int pe_hidden, .int pe_zeroSeen, .int pe_groups])), (pe_decimal, .inr (1, [.ref pe_decimal_limbs, .ref pe_decimal_digits, .int pe_decimal_used, .int pe_decimal_count, .int pe_decimal_scale])), (pe_decimal_digits, .inl (cI, 910, .inl pe_decimal_digitsF)), (pe_row, .inl (cI, 1024, .inl pe_rowF))] s.heap.size = A at hD ⊢
  have hA : ∀ q : Nat, s.heap.size ≤ q → A q := fun q h => by rw [← hAe]; exact Or.inr h
  have hS : va_S A s.heap s.heap [] := va_S.rf
  have hw : ∀ (k : Nat) (w : Cond), ow_X7_putSlot[k]? = some w → w.before _ s = true := fun k w h => hts w (List.mem_cons_of_mem _ (have h9 := List.mem_of_getElem? h; List.mem_append_left _ h9))
  have i_X1_digit : ∀ w ∈ pw_X1_digit, w ∈ pw_X7_putSlot := fun w h9 => List.mem_cons_of_mem _ (List.mem_append_right _ (List.mem_append_left _ h9))
  have i_X7_putCell : ∀ w ∈ pw_X7_putCell, w ∈ pw_X7_putSlot := fun w h9 => List.mem_cons_of_mem _ (List.mem_append_right _ (List.mem_append_right _ (List.mem_append_left _ h9)))
  have i_X1_wholeDigits : ∀ w ∈ pw_X1_wholeDigits, w ∈ pw_X7_putSlot := fun w h9 => List.mem_cons_of_mem _ (List.mem_append_right _ (List.mem_append_right _ (List.mem_append_right _ (List.mem_append_left _ h9))))
  have i_X7_putDigits : ∀ w ∈ pw_X7_putDigits, w ∈ pw_X7_putSlot := fun w h9 => List.mem_cons_of_mem _ (List.mem_append_right _ (List.mem_append_right _ (List.mem_append_right _ (List.mem_append_right _ (List.mem_append_left _ h9)))))
  have iX7 : ∀ w ∈ u_ws RX7 TX7 9, w ∈ pw_X7_putSlot := fun w h9 => List.mem_cons_of_mem _ (List.mem_append_right _ (List.mem_append_right _ (List.mem_append_right _ (List.mem_append_right _ (List.mem_append_right _ (h9))))))
  have n_0 : ((0 : Int32)).toInt = 0 := by decide
  have n_1 : ((1 : Int32)).toInt = 1 := by decide
  have n_32 : ((32 : Int32)).toInt = 32 := by decide
  have n_48 : ((48 : Int32)).toInt = 48 := by decide
  have n_63 : ((63 : Int32)).toInt = 63 := by decide
  have hl := lv_entry ([.ref pe, .int p1]) (n := 3) (Nat.le_of_ble_eq_true rfl)
  rw [lg_entry_eq]
  generalize (lg_sl ([.ref pe, .int p1]) ++ List.replicate (3 - (lg_sl ([.ref pe, .int p1])).length) Slot.unset).toArray = ls at hl ⊢
  have hl : lv_has ls 3 [(0, .ref pe), (1, .int p1)] := hl
  have b_p1 := ti_b p1
  refine zz_cap (fun Z hZ1 hZ2 => ?_)
  refine lv_aload_n hx hb dX7_putSlot_0 rfl (lv_at hl 0 rfl) ?_
  refine va_get (D := D) (ci := 5) (v := .int pe_slots) (C := RX7) (T := TX7) (N := 9) hx hb hts iX7 hown hK hP 0 rfl rfl 4 (by decide) (hw 0 (.fieldLink RX7 57 "NumberFormats$Pen" "slots" "I") rfl) (fun _ h9 => h9) rfl dX7_putSlot_1 ?_
  refine lv_iconst (v := 1) hx hb dX7_putSlot_4 (by decide) ?_
  refine lv_isub hx hb dX7_putSlot_5 ?_
  refine lv_topi (fun x_1 ex_1 => ?_)
  have tx_1 := ti_sub ex_1
  refine lv_aload_n hx hb dX7_putSlot_6 rfl (lv_at hl 0 rfl) ?_
  refine va_get (D := D) (ci := 5) (v := .int pe_slotsPut) (C := RX7) (T := TX7) (N := 9) hx hb hts iX7 hown hK hP 0 rfl rfl 5 (by decide) (hw 1 (.fieldLink RX7 60 "NumberFormats$Pen" "slotsPut" "I") rfl) (fun _ h9 => h9) rfl dX7_putSlot_7 ?_
  refine lv_isub hx hb dX7_putSlot_10 ?_
  refine lv_topi (fun x_2 ex_2 => ?_)
  have tx_2 := ti_sub ex_2
  refine lv_istore_n (lv' := [(2, .int x_2), (0, .ref pe), (1, .int p1)]) hx hb dX7_putSlot_11 rfl hl (by decide) rfl (fun ls hl => ?_)
  refine lv_aload_n hx hb dX7_putSlot_12 rfl (lv_at hl 1 rfl) ?_
  refine va_get (D := D) (ci := 5) (v := .int pe_slotsPut) (C := RX7) (T := TX7) (N := 9) hx hb hts iX7 hown hK hP 0 rfl rfl 5 (by decide) (hw 1 (.fieldLink RX7 60 "NumberFormats$Pen" "slotsPut" "I") rfl) (fun _ h9 => h9) rfl dX7_putSlot_13 ?_
  have K_26 : ∀ (x_3 : Int32) (f_4 : Nat → Int32) (H : Heap) (locs : List Loc) (ls : Array Slot), (0 ≤ (x_3 : Int32).toInt ∧ (x_3 : Int32).toInt ≤ 1024) → va_P D vwCl [(pe, .inr (5, [.ref pe_decimal, .ref pe_row, .ref pe_turned, .int x_3, .int pe_slots, .int pe_slotsPut, .int pe_hidden, .int pe_zeroSeen, .int pe_groups])), (pe_decimal, .inr (1, [.ref pe_decimal_limbs, .ref pe_decimal_digits, .int pe_decimal_used, .int pe_decimal_count, .int pe_decimal_scale])), (pe_decimal_digits, .inl (cI, 910, .inl pe_decimal_digitsF)), (pe_row, .inl (cI, 1024, .inl f_4))] H → va_D A [(pe, .inr (5, [.ref pe_decimal, .ref pe_row, .ref pe_turned, .int x_3, .int pe_slots, .int pe_slotsPut, .int pe_hidden, .int pe_zeroSeen, .int pe_groups])), (pe_decimal, .inr (1, [.ref pe_decimal_limbs, .ref pe_decimal_digits, .int pe_decimal_used, .int pe_decimal_count, .int pe_decimal_scale])), (pe_decimal_digits, .inl (cI, 910, .inl pe_decimal_digitsF)), (pe_row, .inl (cI, 1024, .inl f_4))] → va_S A s.heap H locs → lv_has ls 3 [(2, .int x_2), (0, .ref pe), (1, .int p1)] → Z 0 0 H locs (F0 m 26 ls []) := by
    intro x_3 f_4 H locs ls g26_0 hP hD hS hl
    refine hZ2 ?_
    refine lv_aload_n hx hb dX7_putSlot_26 rfl (lv_at hl 1 rfl) ?_
    refine lv_dup hx hb dX7_putSlot_27 rfl ?_
    refine va_get (D := D) (ci := 5) (v := .int pe_slotsPut) (C := RX7) (T := TX7) (N := 9) hx hb hts iX7 hown hK hP 0 rfl rfl 5 (by decide) (hw 1 (.fieldLink RX7 60 "NumberFormats$Pen" "slotsPut" "I") rfl) (fun _ h9 => h9) rfl dX7_putSlot_28 ?_
    refine lv_iconst (v := 1) hx hb dX7_putSlot_31 (by decide) ?_
    refine lv_iadd hx hb dX7_putSlot_32 ?_
    refine lv_topi (fun x_5 ex_5 => ?_)
    have tx_5 := ti_add ex_5
    refine va_put (D := D) (ci := 5) (v := .int x_5) (ty := .int) (C := RX7) (T := TX7) (N := 9) hx hb hts iX7 tyX7 tyX7_ok nmX7 hown hK hP hD hS 0 rfl rfl 5 (by decide) (hw 1 (.fieldLink RX7 60 "NumberFormats$Pen" "slotsPut" "I") rfl) (fun _ h9 => h9) rfl (by decide +kernel) rfl rfl (Nat.le_of_ble_eq_true rfl) dX7_putSlot_33 (fun H locs hP hD hS => ?_)
    have hP : va_P D vwCl [(pe, .inr (5, [.ref pe_decimal, .ref pe_row, .ref pe_turned, .int x_3, .int pe_slots, .int x_5, .int pe_hidden, .int pe_zeroSeen, .int pe_groups])), (pe_decimal, .inr (1, [.ref pe_decimal_limbs, .ref pe_decimal_digits, .int pe_decimal_used, .int pe_decimal_count, .int pe_decimal_scale])), (pe_decimal_digits, .inl (cI, 910, .inl pe_decimal_digitsF)), (pe_row, .inl (cI, 1024, .inl f_4))] H := hP
    have hD : va_D A [(pe, .inr (5, [.ref pe_decimal, .ref pe_row, .ref pe_turned, .int x_3, .int pe_slots, .int x_5, .int pe_hidden, .int pe_zeroSeen, .int pe_groups])), (pe_decimal, .inr (1, [.ref pe_decimal_limbs, .ref pe_decimal_digits, .int pe_decimal_used, .int pe_decimal_count, .int pe_decimal_scale])), (pe_decimal_digits, .inl (cI, 910, .inl pe_decimal_digitsF)), (pe_row, .inl (cI, 1024, .inl f_4))] := hD
    refine lv_aload_n hx hb dX7_putSlot_36 rfl (lv_at hl 1 rfl) ?_
    refine lv_aload_n hx hb dX7_putSlot_37 rfl (lv_at hl 1 rfl) ?_
    refine va_get (D := D) (ci := 5) (v := .int pe_zeroSeen) (C := RX7) (T := TX7) (N := 9) hx hb hts iX7 hown hK hP 0 rfl rfl 7 (by decide) (hw 2 (.fieldLink RX7 63 "NumberFormats$Pen" "zeroSeen" "Z") rfl) (fun _ h9 => h9) rfl dX7_putSlot_38 ?_
    have K_55 : ∀ (z_6 : Int32) (H : Heap) (locs : List Loc) (ls : Array Slot), ((z_6 : Int32).toInt = 0 ∨ (z_6 : Int32).toInt = 1) → va_P D vwCl [(pe, .inr (5, [.ref pe_decimal, .ref pe_row, .ref pe_turned, .int x_3, .int pe_slots, .int x_5, .int pe_hidden, .int pe_zeroSeen, .int pe_groups])), (pe_decimal, .inr (1, [.ref pe_decimal_limbs, .ref pe_decimal_digits, .int pe_decimal_used, .int pe_decimal_count, .int pe_decimal_scale])), (pe_decimal_digits, .inl (cI, 910, .inl pe_decimal_digitsF)), (pe_row, .inl (cI, 1024, .inl f_4))] H → va_D A [(pe, .inr (5, [.ref pe_decimal, .ref pe_row, .ref pe_turned, .int x_3, .int pe_slots, .int x_5, .int pe_hidden, .int pe_zeroSeen, .int pe_groups])), (pe_decimal, .inr (1, [.ref pe_decimal_limbs, .ref pe_decimal_digits, .int pe_decimal_used, .int pe_decimal_count, .int pe_decimal_scale])), (pe_decimal_digits, .inl (cI, 910, .inl pe_decimal_digitsF)), (pe_row, .inl (cI, 1024, .inl f_4))] → va_S A s.heap H locs → lv_has ls 3 [(2, .int x_2), (0, .ref pe), (1, .int p1)] → Z 0 0 H locs (F0 m 55 ls [.int z_6, .ref pe]) := by
      intro z_6 H locs ls g55_0 hP hD hS hl
      refine hZ2 ?_
      refine va_put (D := D) (ci := 5) (v := .int z_6) (ty := .boolean) (C := RX7) (T := TX7) (N := 9) hx hb hts iX7 tyX7 tyX7_ok nmX7 hown hK hP hD hS 0 rfl rfl 7 (by decide) (hw 2 (.fieldLink RX7 63 "NumberFormats$Pen" "zeroSeen" "Z") rfl) (fun _ h9 => h9) rfl (by decide +kernel) (nz01 (by omega)) (ft01 (by omega)) (Nat.le_of_ble_eq_true rfl) dX7_putSlot_55 (fun H locs hP hD hS => ?_)
      have hP : va_P D vwCl [(pe, .inr (5, [.ref pe_decimal, .ref pe_row, .ref pe_turned, .int x_3, .int pe_slots, .int x_5, .int pe_hidden, .int z_6, .int pe_groups])), (pe_decimal, .inr (1, [.ref pe_decimal_limbs, .ref pe_decimal_digits, .int pe_decimal_used, .int pe_decimal_count, .int pe_decimal_scale])), (pe_decimal_digits, .inl (cI, 910, .inl pe_decimal_digitsF)), (pe_row, .inl (cI, 1024, .inl f_4))] H := hP
      have hD : va_D A [(pe, .inr (5, [.ref pe_decimal, .ref pe_row, .ref pe_turned, .int x_3, .int pe_slots, .int x_5, .int pe_hidden, .int z_6, .int pe_groups])), (pe_decimal, .inr (1, [.ref pe_decimal_limbs, .ref pe_decimal_digits, .int pe_decimal_used, .int pe_decimal_count, .int pe_decimal_scale])), (pe_decimal_digits, .inl (cI, 910, .inl pe_decimal_digitsF)), (pe_row, .inl (cI, 1024, .inl f_4))] := hD
      refine lv_aload_n hx hb dX7_putSlot_58 rfl (lv_at hl 1 rfl) ?_
      refine va_get (D := D) (ci := 5) (v := .int z_6) (C := RX7) (T := TX7) (N := 9) hx hb hts iX7 hown hK hP 0 rfl rfl 7 (by decide) (hw 2 (.fieldLink RX7 63 "NumberFormats$Pen" "zeroSeen" "Z") rfl) (fun _ h9 => h9) rfl dX7_putSlot_59 ?_
      have K_76 : ∀ (H : Heap) (locs : List Loc) (ls : Array Slot), va_P D vwCl [(pe, .inr (5, [.ref pe_decimal, .ref pe_row, .ref pe_turned, .int x_3, .int pe_slots, .int x_5, .int pe_hidden, .int z_6, .int pe_groups])), (pe_decimal, .inr (1, [.ref pe_decimal_limbs, .ref pe_decimal_digits, .int pe_decimal_used, .int pe_decimal_count, .int pe_decimal_scale])), (pe_decimal_digits, .inl (cI, 910, .inl pe_decimal_digitsF)), (pe_row, .inl (cI, 1024, .inl f_4))] H → va_D A [(pe, .inr (5, [.ref pe_decimal, .ref pe_row, .ref pe_turned, .int x_3, .int pe_slots, .int x_5, .int pe_hidden, .int z_6, .int pe_groups])), (pe_decimal, .inr (1, [.ref pe_decimal_limbs, .ref pe_decimal_digits, .int pe_decimal_used, .int pe_decimal_count, .int pe_decimal_scale])), (pe_decimal_digits, .inl (cI, 910, .inl pe_decimal_digitsF)), (pe_row, .inl (cI, 1024, .inl f_4))] → va_S A s.heap H locs → lv_has ls 3 [(2, .int x_2), (0, .ref pe)] → Z 0 0 H locs (F0 m 76 ls []) := by
        intro  H locs ls  hP hD hS hl
        refine hZ2 ?_
        refine lv_aload_n hx hb dX7_putSlot_76 rfl (lv_at hl 1 rfl) ?_
        refine lv_bipush (v := 48) hx hb dX7_putSlot_77 (by decide) ?_
        refine lv_aload_n hx hb dX7_putSlot_79 rfl (lv_at hl 1 rfl) ?_
        refine va_get (D := D) (ci := 5) (v := .ref pe_decimal) (C := RX7) (T := TX7) (N := 9) hx hb hts iX7 hown hK hP 0 rfl rfl 0 (by decide) (hw 3 (.fieldLink RX7 12 "NumberFormats$Pen" "decimal" "LNumberFormats$Decimal;") rfl) (fun _ h9 => h9) rfl dX7_putSlot_80 ?_
        refine lv_iload_n hx hb dX7_putSlot_83 rfl (lv_at hl 0 rfl) ?_
        have hPc := hP.sub (ws' := [(pe_decimal, .inr (1, [.ref pe_decimal_limbs, .ref pe_decimal_digits, .int pe_decimal_used, .int pe_decimal_count, .int pe_decimal_scale])), (pe_decimal_digits, .inl (cI, 910, .inl pe_decimal_digitsF))]) [1, 2] rfl
        refine va_calli (va_runV (As := [.int x_2]) (rest := [.int 48, .ref pe]) ⟨hx, hb, hml, hown, hts⟩ (c_X1_digit l D cI cD cJ H.size pe_decimal pe_decimal_limbs pe_decimal_digits pe_decimal_used pe_decimal_count pe_decimal_scale pe_decimal_digitsF x_2 (by omega) (by omega)) (cwV 1 hts (goodIn_app (goodIn_r _ [5, 6, 7, 8] rfl (by decide +kernel)) (goodIn_sub i_X1_digit k_X1_digit)) rfl rfl rfl (by decide +kernel) ⟨Nat.le_of_ble_eq_true rfl, Nat.le_of_ble_eq_true rfl⟩) ⟨fun a U g mk q => by obtain ⟨q0, qP, qK⟩ := q; exact ⟨q0, qP, va_K.moved (u := U) (U := U.calling g mk a) (Vm.Alike.refl U.vm) qK⟩, va_recv hK hPc (ci := 1) (q0 := 0) rfl rfl, fun U hU hW => ⟨rfl, by rw [hU]; exact hPc, va_K.moved hW.alike hK⟩⟩ rfl rfl hl.1 rfl (lv_room (Nat.le_of_ble_eq_true rfl)) dX7_putSlot_84 ⟨Nat.le_of_ble_eq_true rfl, Nat.le_of_ble_eq_true rfl⟩) hS (fun q _ h => h.elim) (fun q h => h.elim) (fun x_7 u t H1 locs ht hvm w_8 hB hz1 hk1 hS => ?_)
        have hP : va_P D vwCl [(pe, .inr (5, [.ref pe_decimal, .ref pe_row, .ref pe_turned, .int x_3, .int pe_slots, .int x_5, .int pe_hidden, .int z_6, .int pe_groups])), (pe_decimal, .inr (1, [.ref pe_decimal_limbs, .ref pe_decimal_digits, .int pe_decimal_used, .int pe_decimal_count, .int pe_decimal_scale])), (pe_decimal_digits, .inl (cI, 910, .inl pe_decimal_digitsF)), (pe_row, .inl (cI, 1024, .inl f_4))] H1 := hP.kept (fun k9 q9 h9 => hk1 q9.1 (vx_lt hP h9) (fun h => h))
        generalize H1 = H at hP hS ⊢
        refine lv_iadd hx hb dX7_putSlot_87 ?_
        refine lv_topi (fun x_9 ex_9 => ?_)
        have tx_9 := ti_add ex_9
        refine lv_iload_n hx hb dX7_putSlot_88 rfl (lv_at hl 0 rfl) ?_
        have hPc := hP.sub (ws' := [(pe, .inr (5, [.ref pe_decimal, .ref pe_row, .ref pe_turned, .int x_3, .int pe_slots, .int x_5, .int pe_hidden, .int z_6, .int pe_groups])), (pe_row, .inl (cI, 1024, .inl f_4))]) [0, 3] rfl
        have hDc := hD.sub (ws' := [(pe, .inr (5, [.ref pe_decimal, .ref pe_row, .ref pe_turned, .int x_3, .int pe_slots, .int x_5, .int pe_hidden, .int z_6, .int pe_groups])), (pe_row, .inl (cI, 1024, .inl f_4))]) [0, 3] (by decide) rfl
        have hFc := va_free (wc := [(pe, .inr (5, [.ref pe_decimal, .ref pe_row, .ref pe_turned, .int x_3, .int pe_slots, .int x_5, .int pe_hidden, .int z_6, .int pe_groups])), (pe_row, .inl (cI, 1024, .inl f_4))]) hD hS hA [0, 3] rfl
        refine va_callv (va_runV (As := [.int x_9, .int x_2]) (rest := []) ⟨hx, hb, hml, hown, hts⟩ (c_X7_putCell l D cI cD cJ H.size pe pe_decimal pe_row pe_turned x_3 pe_slots x_5 pe_hidden z_6 pe_groups f_4 x_9 x_2 (by omega) (by omega) (by omega) (by omega)) (cwV 2 hts (goodIn_app (goodIn_r _ [9, 10, 11, 12] rfl (by decide +kernel)) (goodIn_sub i_X7_putCell k_X7_putCell)) rfl rfl rfl (by decide +kernel) ⟨Nat.le_of_ble_eq_true rfl, Nat.le_of_ble_eq_true rfl⟩) ⟨fun a U g mk q => by obtain ⟨q0, q1, qP, qK, qD⟩ := q; exact ⟨q0, q1, qP, va_K.moved (u := U) (U := U.calling g mk a) (Vm.Alike.refl U.vm) qK, qD⟩, va_recv hK hPc (ci := 5) (q0 := 0) rfl rfl, fun U hU hW => ⟨rfl, by rw [hU], by rw [hU]; exact hPc, va_K.moved hW.alike hK, hDc.weaken (fun _ _ _ _ => trivial)⟩⟩ rfl rfl hl.1 rfl (lv_room (Nat.le_of_ble_eq_true rfl)) dX7_putSlot_89 ⟨Nat.le_of_ble_eq_true rfl, Nat.le_of_ble_eq_true rfl⟩) hS (fun q _ h => hFc q h) hFc (fun u t H1 locs ht hvm w_10 hB hz1 hk1 hS => ?_)
        obtain ⟨u_11, u_12⟩ := u
        obtain ⟨hP1, hK1, hD1⟩ := hB
        rw [ht] at hP1
        try dsimp only at w_10
        obtain ⟨hP, hD⟩ := va_join (wr := [(pe_decimal, .inr (1, [.ref pe_decimal_limbs, .ref pe_decimal_digits, .int pe_decimal_used, .int pe_decimal_count, .int pe_decimal_scale])), (pe_decimal_digits, .inl (cI, 910, .inl pe_decimal_digitsF))]) (w1 := [(pe, .inr (5, [.ref pe_decimal, .ref pe_row, .ref pe_turned, .int u_11, .int pe_slots, .int x_5, .int pe_hidden, .int z_6, .int pe_groups])), (pe_row, .inl (cI, 1024, .inl u_12))]) hP hD [0, 3] [1, 2] rfl rfl (by decide) (by decide) hk1 hFc hP1 hD1
        generalize H1 = H at hP hS ⊢
        have hP : va_P D vwCl [(pe_decimal, .inr (1, [.ref pe_decimal_limbs, .ref pe_decimal_digits, .int pe_decimal_used, .int pe_decimal_count, .int pe_decimal_scale])), (pe_decimal_digits, .inl (cI, 910, .inl pe_decimal_digitsF)), (pe, .inr (5, [.ref pe_decimal, .ref pe_row, .ref pe_turned, .int u_11, .int pe_slots, .int x_5, .int pe_hidden, .int z_6, .int pe_groups])), (pe_row, .inl (cI, 1024, .inl u_12))] H := hP
        have hD : va_D A [(pe_decimal, .inr (1, [.ref pe_decimal_limbs, .ref pe_decimal_digits, .int pe_decimal_used, .int pe_decimal_count, .int pe_decimal_scale])), (pe_decimal_digits, .inl (cI, 910, .inl pe_decimal_digitsF)), (pe, .inr (5, [.ref pe_decimal, .ref pe_row, .ref pe_turned, .int u_11, .int pe_slots, .int x_5, .int pe_hidden, .int z_6, .int pe_groups])), (pe_row, .inl (cI, 1024, .inl u_12))] := hD
        refine lv_goto (tgt := 121) hx hb dX7_putSlot_92 (by decide) ?_
        have hP9 := hP.sub (ws' := [(pe, .inr (5, [.ref pe_decimal, .ref pe_row, .ref pe_turned, .int u_11, .int pe_slots, .int x_5, .int pe_hidden, .int z_6, .int pe_groups])), (pe_decimal, .inr (1, [.ref pe_decimal_limbs, .ref pe_decimal_digits, .int pe_decimal_used, .int pe_decimal_count, .int pe_decimal_scale])), (pe_decimal_digits, .inl (cI, 910, .inl pe_decimal_digitsF)), (pe_row, .inl (cI, 1024, .inl u_12))]) [2, 0, 1, 3] rfl
        have hD9 := hD.sub (ws' := [(pe, .inr (5, [.ref pe_decimal, .ref pe_row, .ref pe_turned, .int u_11, .int pe_slots, .int x_5, .int pe_hidden, .int z_6, .int pe_groups])), (pe_decimal, .inr (1, [.ref pe_decimal_limbs, .ref pe_decimal_digits, .int pe_decimal_used, .int pe_decimal_count, .int pe_decimal_scale])), (pe_decimal_digits, .inl (cI, 910, .inl pe_decimal_digitsF)), (pe_row, .inl (cI, 1024, .inl u_12))]) [2, 0, 1, 3] (by decide) rfl
        exact W.vret hx hb hr (fun t ht hW => ⟨⟨(u_11, x_5, pe_hidden, z_6, u_12), rfl, (by (try dsimp only); refine ⟨?_, ?_⟩ <;> first | omega | assumption), by rw [ht]; exact hP9, va_K.moved hW.alike hK, hD9⟩, hS.F ht⟩) hS.2.2 dX7_putSlot_121
      refine lv_if_ne (tgt := 76) hx hb dX7_putSlot_62 (by decide) (fun c_13 => ?_) (fun c_13 => ?_)
      · have ic_13 : ¬ ((z_6 : Int32).toInt = (0 : Int32).toInt) := fun h9 => c_13 ((fa_eq z_6 0).mpr h9)
        exact hZ1 (K_76  _ _ _ hP hD hS (lv_sub hl [0, 1] rfl))
      · have ic_13 : (z_6 : Int32).toInt = (0 : Int32).toInt := (fa_eq z_6 0).mp c_13
        refine lv_iload_n hx hb dX7_putSlot_65 rfl (lv_at hl 0 rfl) ?_
        refine lv_aload_n hx hb dX7_putSlot_66 rfl (lv_at hl 1 rfl) ?_
        refine va_get (D := D) (ci := 5) (v := .ref pe_decimal) (C := RX7) (T := TX7) (N := 9) hx hb hts iX7 hown hK hP 0 rfl rfl 0 (by decide) (hw 3 (.fieldLink RX7 12 "NumberFormats$Pen" "decimal" "LNumberFormats$Decimal;") rfl) (fun _ h9 => h9) rfl dX7_putSlot_67 ?_
        have hPc := hP.sub (ws' := [(pe_decimal, .inr (1, [.ref pe_decimal_limbs, .ref pe_decimal_digits, .int pe_decimal_used, .int pe_decimal_count, .int pe_decimal_scale]))]) [1] rfl
        refine va_calli (va_runV (As := []) (rest := [.int x_2]) ⟨hx, hb, hml, hown, hts⟩ (c_X1_wholeDigits l D cI cD cJ H.size pe_decimal pe_decimal_limbs pe_decimal_digits pe_decimal_used pe_decimal_count pe_decimal_scale (by omega) (by omega)) (cwV 0 hts (goodIn_app (goodIn_r _ [13, 14, 15, 8] rfl (by decide +kernel)) (goodIn_sub i_X1_wholeDigits k_X1_wholeDigits)) rfl rfl rfl (by decide +kernel) ⟨Nat.le_of_ble_eq_true rfl, Nat.le_of_ble_eq_true rfl⟩) ⟨fun a U g mk q => by obtain ⟨q0, qP, qK⟩ := q; exact ⟨q0, qP, va_K.moved (u := U) (U := U.calling g mk a) (Vm.Alike.refl U.vm) qK⟩, va_recv hK hPc (ci := 1) (q0 := 0) rfl rfl, fun U hU hW => ⟨rfl, by rw [hU]; exact hPc, va_K.moved hW.alike hK⟩⟩ rfl rfl hl.1 rfl (lv_room (Nat.le_of_ble_eq_true rfl)) dX7_putSlot_70 ⟨Nat.le_of_ble_eq_true rfl, Nat.le_of_ble_eq_true rfl⟩) hS (fun q _ h => h.elim) (fun q h => h.elim) (fun x_14 u t H1 locs ht hvm w_15 hB hz1 hk1 hS => ?_)
        have hP : va_P D vwCl [(pe, .inr (5, [.ref pe_decimal, .ref pe_row, .ref pe_turned, .int x_3, .int pe_slots, .int x_5, .int pe_hidden, .int z_6, .int pe_groups])), (pe_decimal, .inr (1, [.ref pe_decimal_limbs, .ref pe_decimal_digits, .int pe_decimal_used, .int pe_decimal_count, .int pe_decimal_scale])), (pe_decimal_digits, .inl (cI, 910, .inl pe_decimal_digitsF)), (pe_row, .inl (cI, 1024, .inl f_4))] H1 := hP.kept (fun k9 q9 h9 => hk1 q9.1 (vx_lt hP h9) (fun h => h))
        generalize H1 = H at hP hS ⊢
        refine lv_icmp_ge (tgt := 95) hx hb dX7_putSlot_73 (by decide) (fun c_16 => ?_) (fun c_16 => ?_)
        · have ic_16 : (x_14 : Int32).toInt ≤ (x_2 : Int32).toInt := (fa_le x_14 x_2).mp c_16
          refine lv_iload_n hx hb dX7_putSlot_95 rfl (lv_at hl 2 rfl) ?_
          refine lv_bipush (v := 63) hx hb dX7_putSlot_96 (by decide) ?_
          refine lv_icmp_ne (tgt := 111) hx hb dX7_putSlot_98 (by decide) (fun c_17 => ?_) (fun c_17 => ?_)
          · have ic_17 : ¬ ((p1 : Int32).toInt = (63 : Int32).toInt) := fun h9 => c_17 ((fa_eq p1 63).mpr h9)
            refine lv_aload_n hx hb dX7_putSlot_111 rfl (lv_at hl 1 rfl) ?_
            refine lv_dup hx hb dX7_putSlot_112 rfl ?_
            refine va_get (D := D) (ci := 5) (v := .int pe_hidden) (C := RX7) (T := TX7) (N := 9) hx hb hts iX7 hown hK hP 0 rfl rfl 6 (by decide) (hw 15 (.fieldLink RX7 74 "NumberFormats$Pen" "hidden" "I") rfl) (fun _ h9 => h9) rfl dX7_putSlot_113 ?_
            refine lv_iconst (v := 1) hx hb dX7_putSlot_116 (by decide) ?_
            refine lv_isub hx hb dX7_putSlot_117 ?_
            refine lv_topi (fun x_18 ex_18 => ?_)
            have tx_18 := ti_sub ex_18
            refine va_put (D := D) (ci := 5) (v := .int x_18) (ty := .int) (C := RX7) (T := TX7) (N := 9) hx hb hts iX7 tyX7 tyX7_ok nmX7 hown hK hP hD hS 0 rfl rfl 6 (by decide) (hw 15 (.fieldLink RX7 74 "NumberFormats$Pen" "hidden" "I") rfl) (fun _ h9 => h9) rfl (by decide +kernel) rfl rfl (Nat.le_of_ble_eq_true rfl) dX7_putSlot_118 (fun H locs hP hD hS => ?_)
            have hP : va_P D vwCl [(pe, .inr (5, [.ref pe_decimal, .ref pe_row, .ref pe_turned, .int x_3, .int pe_slots, .int x_5, .int x_18, .int z_6, .int pe_groups])), (pe_decimal, .inr (1, [.ref pe_decimal_limbs, .ref pe_decimal_digits, .int pe_decimal_used, .int pe_decimal_count, .int pe_decimal_scale])), (pe_decimal_digits, .inl (cI, 910, .inl pe_decimal_digitsF)), (pe_row, .inl (cI, 1024, .inl f_4))] H := hP
            have hD : va_D A [(pe, .inr (5, [.ref pe_decimal, .ref pe_row, .ref pe_turned, .int x_3, .int pe_slots, .int x_5, .int x_18, .int z_6, .int pe_groups])), (pe_decimal, .inr (1, [.ref pe_decimal_limbs, .ref pe_decimal_digits, .int pe_decimal_used, .int pe_decimal_count, .int pe_decimal_scale])), (pe_decimal_digits, .inl (cI, 910, .inl pe_decimal_digitsF)), (pe_row, .inl (cI, 1024, .inl f_4))] := hD
            have hP9 := hP.sub (ws' := [(pe, .inr (5, [.ref pe_decimal, .ref pe_row, .ref pe_turned, .int x_3, .int pe_slots, .int x_5, .int x_18, .int z_6, .int pe_groups])), (pe_decimal, .inr (1, [.ref pe_decimal_limbs, .ref pe_decimal_digits, .int pe_decimal_used, .int pe_decimal_count, .int pe_decimal_scale])), (pe_decimal_digits, .inl (cI, 910, .inl pe_decimal_digitsF)), (pe_row, .inl (cI, 1024, .inl f_4))]) [0, 1, 2, 3] rfl
            have hD9 := hD.sub (ws' := [(pe, .inr (5, [.ref pe_decimal, .ref pe_row, .ref pe_turned, .int x_3, .int pe_slots, .int x_5, .int x_18, .int z_6, .int pe_groups])), (pe_decimal, .inr (1, [.ref pe_decimal_limbs, .ref pe_decimal_digits, .int pe_decimal_used, .int pe_decimal_count, .int pe_decimal_scale])), (pe_decimal_digits, .inl (cI, 910, .inl pe_decimal_digitsF)), (pe_row, .inl (cI, 1024, .inl f_4))]) [0, 1, 2, 3] (by decide) rfl
            exact W.vret hx hb hr (fun t ht hW => ⟨⟨(x_3, x_5, x_18, z_6, f_4), rfl, (by (try dsimp only); refine ⟨?_, ?_⟩ <;> first | omega | assumption), by rw [ht]; exact hP9, va_K.moved hW.alike hK, hD9⟩, hS.F ht⟩) hS.2.2 dX7_putSlot_121
          · have ic_17 : (p1 : Int32).toInt = (63 : Int32).toInt := (fa_eq p1 63).mp c_17
            refine lv_aload_n hx hb dX7_putSlot_101 rfl (lv_at hl 1 rfl) ?_
            refine lv_bipush (v := 32) hx hb dX7_putSlot_102 (by decide) ?_
            refine lv_iload_n hx hb dX7_putSlot_104 rfl (lv_at hl 0 rfl) ?_
            have hPc := hP.sub (ws' := [(pe, .inr (5, [.ref pe_decimal, .ref pe_row, .ref pe_turned, .int x_3, .int pe_slots, .int x_5, .int pe_hidden, .int z_6, .int pe_groups])), (pe_row, .inl (cI, 1024, .inl f_4))]) [0, 3] rfl
            have hDc := hD.sub (ws' := [(pe, .inr (5, [.ref pe_decimal, .ref pe_row, .ref pe_turned, .int x_3, .int pe_slots, .int x_5, .int pe_hidden, .int z_6, .int pe_groups])), (pe_row, .inl (cI, 1024, .inl f_4))]) [0, 3] (by decide) rfl
            have hFc := va_free (wc := [(pe, .inr (5, [.ref pe_decimal, .ref pe_row, .ref pe_turned, .int x_3, .int pe_slots, .int x_5, .int pe_hidden, .int z_6, .int pe_groups])), (pe_row, .inl (cI, 1024, .inl f_4))]) hD hS hA [0, 3] rfl
            refine va_callv (va_runV (As := [.int 32, .int x_2]) (rest := []) ⟨hx, hb, hml, hown, hts⟩ (c_X7_putCell l D cI cD cJ H.size pe pe_decimal pe_row pe_turned x_3 pe_slots x_5 pe_hidden z_6 pe_groups f_4 32 x_2 (by omega) (by omega) (by omega) (by omega)) (cwV 2 hts (goodIn_app (goodIn_r _ [9, 10, 11, 12] rfl (by decide +kernel)) (goodIn_sub i_X7_putCell k_X7_putCell)) rfl rfl rfl (by decide +kernel) ⟨Nat.le_of_ble_eq_true rfl, Nat.le_of_ble_eq_true rfl⟩) ⟨fun a U g mk q => by obtain ⟨q0, q1, qP, qK, qD⟩ := q; exact ⟨q0, q1, qP, va_K.moved (u := U) (U := U.calling g mk a) (Vm.Alike.refl U.vm) qK, qD⟩, va_recv hK hPc (ci := 5) (q0 := 0) rfl rfl, fun U hU hW => ⟨rfl, by rw [hU], by rw [hU]; exact hPc, va_K.moved hW.alike hK, hDc.weaken (fun _ _ _ _ => trivial)⟩⟩ rfl rfl hl.1 rfl (lv_room (Nat.le_of_ble_eq_true rfl)) dX7_putSlot_105 ⟨Nat.le_of_ble_eq_true rfl, Nat.le_of_ble_eq_true rfl⟩) hS (fun q _ h => hFc q h) hFc (fun u t H1 locs ht hvm w_19 hB hz1 hk1 hS => ?_)
            obtain ⟨u_20, u_21⟩ := u
            obtain ⟨hP1, hK1, hD1⟩ := hB
            rw [ht] at hP1
            try dsimp only at w_19
            obtain ⟨hP, hD⟩ := va_join (wr := [(pe_decimal, .inr (1, [.ref pe_decimal_limbs, .ref pe_decimal_digits, .int pe_decimal_used, .int pe_decimal_count, .int pe_decimal_scale])), (pe_decimal_digits, .inl (cI, 910, .inl pe_decimal_digitsF))]) (w1 := [(pe, .inr (5, [.ref pe_decimal, .ref pe_row, .ref pe_turned, .int u_20, .int pe_slots, .int x_5, .int pe_hidden, .int z_6, .int pe_groups])), (pe_row, .inl (cI, 1024, .inl u_21))]) hP hD [0, 3] [1, 2] rfl rfl (by decide) (by decide) hk1 hFc hP1 hD1
            generalize H1 = H at hP hS ⊢
            have hP : va_P D vwCl [(pe_decimal, .inr (1, [.ref pe_decimal_limbs, .ref pe_decimal_digits, .int pe_decimal_used, .int pe_decimal_count, .int pe_decimal_scale])), (pe_decimal_digits, .inl (cI, 910, .inl pe_decimal_digitsF)), (pe, .inr (5, [.ref pe_decimal, .ref pe_row, .ref pe_turned, .int u_20, .int pe_slots, .int x_5, .int pe_hidden, .int z_6, .int pe_groups])), (pe_row, .inl (cI, 1024, .inl u_21))] H := hP
            have hD : va_D A [(pe_decimal, .inr (1, [.ref pe_decimal_limbs, .ref pe_decimal_digits, .int pe_decimal_used, .int pe_decimal_count, .int pe_decimal_scale])), (pe_decimal_digits, .inl (cI, 910, .inl pe_decimal_digitsF)), (pe, .inr (5, [.ref pe_decimal, .ref pe_row, .ref pe_turned, .int u_20, .int pe_slots, .int x_5, .int pe_hidden, .int z_6, .int pe_groups])), (pe_row, .inl (cI, 1024, .inl u_21))] := hD
            refine lv_goto (tgt := 121) hx hb dX7_putSlot_108 (by decide) ?_
            have hP9 := hP.sub (ws' := [(pe, .inr (5, [.ref pe_decimal, .ref pe_row, .ref pe_turned, .int u_20, .int pe_slots, .int x_5, .int pe_hidden, .int z_6, .int pe_groups])), (pe_decimal, .inr (1, [.ref pe_decimal_limbs, .ref pe_decimal_digits, .int pe_decimal_used, .int pe_decimal_count, .int pe_decimal_scale])), (pe_decimal_digits, .inl (cI, 910, .inl pe_decimal_digitsF)), (pe_row, .inl (cI, 1024, .inl u_21))]) [2, 0, 1, 3] rfl
            have hD9 := hD.sub (ws' := [(pe, .inr (5, [.ref pe_decimal, .ref pe_row, .ref pe_turned, .int u_20, .int pe_slots, .int x_5, .int pe_hidden, .int z_6, .int pe_groups])), (pe_decimal, .inr (1, [.ref pe_decimal_limbs, .ref pe_decimal_digits, .int pe_decimal_used, .int pe_decimal_count, .int pe_decimal_scale])), (pe_decimal_digits, .inl (cI, 910, .inl pe_decimal_digitsF)), (pe_row, .inl (cI, 1024, .inl u_21))]) [2, 0, 1, 3] (by decide) rfl
            exact W.vret hx hb hr (fun t ht hW => ⟨⟨(u_20, x_5, pe_hidden, z_6, u_21), rfl, (by (try dsimp only); refine ⟨?_, ?_⟩ <;> first | omega | assumption), by rw [ht]; exact hP9, va_K.moved hW.alike hK, hD9⟩, hS.F ht⟩) hS.2.2 dX7_putSlot_121
        · have ic_16 : ¬ ((x_14 : Int32).toInt ≤ (x_2 : Int32).toInt) := fun h9 => c_16 ((fa_le x_14 x_2).mpr h9)
          exact hZ1 (K_76  _ _ _ hP hD hS (lv_sub hl [0, 1] rfl))
    have K_50 : ∀ (H : Heap) (locs : List Loc) (ls : Array Slot), va_P D vwCl [(pe, .inr (5, [.ref pe_decimal, .ref pe_row, .ref pe_turned, .int x_3, .int pe_slots, .int x_5, .int pe_hidden, .int pe_zeroSeen, .int pe_groups])), (pe_decimal, .inr (1, [.ref pe_decimal_limbs, .ref pe_decimal_digits, .int pe_decimal_used, .int pe_decimal_count, .int pe_decimal_scale])), (pe_decimal_digits, .inl (cI, 910, .inl pe_decimal_digitsF)), (pe_row, .inl (cI, 1024, .inl f_4))] H → va_D A [(pe, .inr (5, [.ref pe_decimal, .ref pe_row, .ref pe_turned, .int x_3, .int pe_slots, .int x_5, .int pe_hidden, .int pe_zeroSeen, .int pe_groups])), (pe_decimal, .inr (1, [.ref pe_decimal_limbs, .ref pe_decimal_digits, .int pe_decimal_used, .int pe_decimal_count, .int pe_decimal_scale])), (pe_decimal_digits, .inl (cI, 910, .inl pe_decimal_digitsF)), (pe_row, .inl (cI, 1024, .inl f_4))] → va_S A s.heap H locs → lv_has ls 3 [(2, .int x_2), (0, .ref pe), (1, .int p1)] → Z 0 0 H locs (F0 m 50 ls [.ref pe]) := by
      intro  H locs ls  hP hD hS hl
      refine hZ2 ?_
      refine lv_iconst (v := 1) hx hb dX7_putSlot_50 (by decide) ?_
      refine lv_goto (tgt := 55) hx hb dX7_putSlot_51 (by decide) ?_
      exact hZ1 (K_55 1 _ _ _ (by omega) hP hD hS hl)
    refine lv_if_ne (tgt := 50) hx hb dX7_putSlot_41 (by decide) (fun c_22 => ?_) (fun c_22 => ?_)
    · have ic_22 : ¬ ((pe_zeroSeen : Int32).toInt = (0 : Int32).toInt) := fun h9 => c_22 ((fa_eq pe_zeroSeen 0).mpr h9)
      exact hZ1 (K_50  _ _ _ hP hD hS hl)
    · have ic_22 : (pe_zeroSeen : Int32).toInt = (0 : Int32).toInt := (fa_eq pe_zeroSeen 0).mp c_22
      refine lv_iload_n hx hb dX7_putSlot_44 rfl (lv_at hl 2 rfl) ?_
      refine lv_bipush (v := 48) hx hb dX7_putSlot_45 (by decide) ?_
      refine lv_icmp_ne (tgt := 54) hx hb dX7_putSlot_47 (by decide) (fun c_23 => ?_) (fun c_23 => ?_)
      · have ic_23 : ¬ ((p1 : Int32).toInt = (48 : Int32).toInt) := fun h9 => c_23 ((fa_eq p1 48).mpr h9)
        refine lv_iconst (v := 0) hx hb dX7_putSlot_54 (by decide) ?_
        exact hZ1 (K_55 0 _ _ _ (by omega) hP hD hS hl)
      · have ic_23 : (p1 : Int32).toInt = (48 : Int32).toInt := (fa_eq p1 48).mp c_23
        exact hZ1 (K_50  _ _ _ hP hD hS hl)
  refine lv_if_ne (tgt := 26) hx hb dX7_putSlot_16 (by decide) (fun c_24 => ?_) (fun c_24 => ?_)
  · have ic_24 : ¬ ((pe_slotsPut : Int32).toInt = (0 : Int32).toInt) := fun h9 => c_24 ((fa_eq pe_slotsPut 0).mpr h9)
    exact hZ1 (K_26 pe_length pe_rowF _ _ _ (by omega) hP hD hS hl)
  · have ic_24 : (pe_slotsPut : Int32).toInt = (0 : Int32).toInt := (fa_eq pe_slotsPut 0).mp c_24
    refine lv_aload_n hx hb dX7_putSlot_19 rfl (lv_at hl 1 rfl) ?_
    refine lv_iload_n hx hb dX7_putSlot_20 rfl (lv_at hl 0 rfl) ?_
    refine lv_iconst (v := 1) hx hb dX7_putSlot_21 (by decide) ?_
    refine lv_iadd hx hb dX7_putSlot_22 ?_
    refine lv_topi (fun x_25 ex_25 => ?_)
    have tx_25 := ti_add ex_25
    have hPc := hP.sub (ws' := [(pe, .inr (5, [.ref pe_decimal, .ref pe_row, .ref pe_turned, .int pe_length, .int pe_slots, .int pe_slotsPut, .int pe_hidden, .int pe_zeroSeen, .int pe_groups])), (pe_decimal, .inr (1, [.ref pe_decimal_limbs, .ref pe_decimal_digits, .int pe_decimal_used, .int pe_decimal_count, .int pe_decimal_scale])), (pe_decimal_digits, .inl (cI, 910, .inl pe_decimal_digitsF)), (pe_row, .inl (cI, 1024, .inl pe_rowF))]) [0, 1, 2, 3] rfl
    have hDc := hD.sub (ws' := [(pe, .inr (5, [.ref pe_decimal, .ref pe_row, .ref pe_turned, .int pe_length, .int pe_slots, .int pe_slotsPut, .int pe_hidden, .int pe_zeroSeen, .int pe_groups])), (pe_decimal, .inr (1, [.ref pe_decimal_limbs, .ref pe_decimal_digits, .int pe_decimal_used, .int pe_decimal_count, .int pe_decimal_scale])), (pe_decimal_digits, .inl (cI, 910, .inl pe_decimal_digitsF)), (pe_row, .inl (cI, 1024, .inl pe_rowF))]) [0, 1, 2, 3] (by decide) rfl
    have hFc := va_free (wc := [(pe, .inr (5, [.ref pe_decimal, .ref pe_row, .ref pe_turned, .int pe_length, .int pe_slots, .int pe_slotsPut, .int pe_hidden, .int pe_zeroSeen, .int pe_groups])), (pe_decimal, .inr (1, [.ref pe_decimal_limbs, .ref pe_decimal_digits, .int pe_decimal_used, .int pe_decimal_count, .int pe_decimal_scale])), (pe_decimal_digits, .inl (cI, 910, .inl pe_decimal_digitsF)), (pe_row, .inl (cI, 1024, .inl pe_rowF))]) hD hS hA [0, 1, 2, 3] rfl
    refine va_callv (va_runV (As := [.int x_25]) (rest := []) ⟨hx, hb, hml, hown, hts⟩ (c_X7_putDigits l D cI cD cJ s.heap.size pe pe_decimal pe_row pe_turned pe_length pe_slots pe_slotsPut pe_hidden pe_zeroSeen pe_groups pe_decimal_limbs pe_decimal_digits pe_decimal_used pe_decimal_count pe_decimal_scale pe_decimal_digitsF pe_rowF x_25 (by omega) (by omega) (by omega) (by omega) (by omega) (by omega) (by omega)) (cwV 1 hts (goodIn_app (goodIn_r _ [17, 18, 19, 12] rfl (by decide +kernel)) (goodIn_sub i_X7_putDigits k_X7_putDigits)) rfl rfl rfl (by decide +kernel) ⟨Nat.le_of_ble_eq_true rfl, Nat.le_of_ble_eq_true rfl⟩) ⟨fun a U g mk q => by obtain ⟨q0, q1, qP, qK, qD⟩ := q; exact ⟨q0, q1, qP, va_K.moved (u := U) (U := U.calling g mk a) (Vm.Alike.refl U.vm) qK, qD⟩, va_recv hK hPc (ci := 5) (q0 := 0) rfl rfl, fun U hU hW => ⟨rfl, by rw [hU], by rw [hU]; exact hPc, va_K.moved hW.alike hK, hDc.weaken (fun _ _ _ _ => trivial)⟩⟩ rfl rfl hl.1 rfl (lv_room (Nat.le_of_ble_eq_true rfl)) dX7_putSlot_23 ⟨Nat.le_of_ble_eq_true rfl, Nat.le_of_ble_eq_true rfl⟩) hS (fun q _ h => hFc q h) hFc (fun u t H1 locs ht hvm w_26 hB hz1 hk1 hS => ?_)
    obtain ⟨u_27, u_28⟩ := u
    obtain ⟨hP1, hK1, hD1⟩ := hB
    rw [ht] at hP1
    try dsimp only at w_26
    obtain ⟨hP, hD⟩ := va_join (wr := []) (w1 := [(pe, .inr (5, [.ref pe_decimal, .ref pe_row, .ref pe_turned, .int u_27, .int pe_slots, .int pe_slotsPut, .int pe_hidden, .int pe_zeroSeen, .int pe_groups])), (pe_decimal, .inr (1, [.ref pe_decimal_limbs, .ref pe_decimal_digits, .int pe_decimal_used, .int pe_decimal_count, .int pe_decimal_scale])), (pe_decimal_digits, .inl (cI, 910, .inl pe_decimal_digitsF)), (pe_row, .inl (cI, 1024, .inl u_28))]) hP hD [0, 1, 2, 3] [] rfl rfl (by decide) (by decide) hk1 hFc hP1 hD1
    generalize H1 = H at hP hS ⊢
    have hP : va_P D vwCl [(pe, .inr (5, [.ref pe_decimal, .ref pe_row, .ref pe_turned, .int u_27, .int pe_slots, .int pe_slotsPut, .int pe_hidden, .int pe_zeroSeen, .int pe_groups])), (pe_decimal, .inr (1, [.ref pe_decimal_limbs, .ref pe_decimal_digits, .int pe_decimal_used, .int pe_decimal_count, .int pe_decimal_scale])), (pe_decimal_digits, .inl (cI, 910, .inl pe_decimal_digitsF)), (pe_row, .inl (cI, 1024, .inl u_28))] H := hP
    have hD : va_D A [(pe, .inr (5, [.ref pe_decimal, .ref pe_row, .ref pe_turned, .int u_27, .int pe_slots, .int pe_slotsPut, .int pe_hidden, .int pe_zeroSeen, .int pe_groups])), (pe_decimal, .inr (1, [.ref pe_decimal_limbs, .ref pe_decimal_digits, .int pe_decimal_used, .int pe_decimal_count, .int pe_decimal_scale])), (pe_decimal_digits, .inl (cI, 910, .inl pe_decimal_digitsF)), (pe_row, .inl (cI, 1024, .inl u_28))] := hD
    exact hZ1 (K_26 u_27 u_28 _ _ _ (by omega) hP hD hS hl)

