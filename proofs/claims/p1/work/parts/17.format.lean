def ow_X2_divide : List Cond := [Cond.fieldLink RX2 38 "NumberFormats$Format" "sections" "I", Cond.fieldLink RX2 28 "NumberFormats$Format" "starts" "[I", Cond.fieldLink RX2 34 "NumberFormats$Format" "count" "I"]
def pw_X2_divide : List Cond := Cond.code yX2_divide cX2_divide 2 none :: (ow_X2_divide ++ (wsX20))
set_option maxRecDepth 20000 in
theorem mo_X2_divide : ∀ w ∈ ow_X2_divide, w ∈ lw_tbl := by decide +kernel
set_option maxRecDepth 20000 in
theorem mc_X2_divide : Cond.code yX2_divide cX2_divide 2 none ∈ lw_tbl := by decide +kernel
theorem m_X2_divide : ∀ w ∈ pw_X2_divide, w ∈ lw_tbl := List.forall_mem_cons.mpr ⟨mc_X2_divide, (List.forall_mem_append.mpr ⟨mo_X2_divide, inX2⟩)⟩
theorem ko_X2_divide : ∀ w ∈ ow_X2_divide, goodWord w = true := by decide +kernel
theorem k_X2_divide : pw_X2_divide.all goodWord = true := List.all_eq_true.mpr (List.forall_mem_cons.mpr ⟨by decide +kernel, (List.forall_mem_append.mpr ⟨ko_X2_divide, kX_X2⟩)⟩)
set_option maxHeartbeats 400000 in
set_option maxRecDepth 100000 in
theorem c_X2_divide0 (l : Launch) (D : va_G) (cI cD cJ : ClassId) (sz : Nat) (f : Nat) (f_kinds : Nat) (f_signs : Nat) (f_sizes : Nat) (f_places : Nat) (f_limits : Nat) (f_starts : Nat) (f_sorts : Nat) (f_fifth : Int32) (staF : Nat → Int32) (pl : Int32) : Met l yX2_divide pw_X2_divide ({ frames := 0, cells := 0, slots := 0, locals := 0 }) (va_Pc [.ref f, .int pl] (fun U => U.heap.size = sz ∧ va_P D vwCl [(f, .inr (2, [.ref f_kinds, .ref f_signs, .ref f_sizes, .ref f_places, .ref f_limits, .ref f_starts, .ref f_sorts, .int 0, .int 0, .int f_fifth])), (f_starts, .inl (cI, 4, .inl staF))] U.heap ∧ va_K D vwCl (ty3 cI cD cJ) U ∧ va_D (fun _ => True) [(f, .inr (2, [.ref f_kinds, .ref f_signs, .ref f_sizes, .ref f_places, .ref f_limits, .ref f_starts, .ref f_sorts, .int 0, .int 0, .int f_fifth])), (f_starts, .inl (cI, 4, .inl staF))])) (va_Qv (fun (stF2 : (Nat → Int32)) => stF2 0 = 0) (fun (stF2 : (Nat → Int32)) (t : State) => va_P D vwCl [(f, .inr (2, [.ref f_kinds, .ref f_signs, .ref f_sizes, .ref f_places, .ref f_limits, .ref f_starts, .ref f_sorts, .int 0, .int 1, .int f_fifth])), (f_starts, .inl (cI, 4, .inl stF2))] t.heap ∧ va_K D vwCl (ty3 cI cD cJ) t ∧ va_D (va_A [(f, .inr (2, [.ref f_kinds, .ref f_signs, .ref f_sizes, .ref f_places, .ref f_limits, .ref f_starts, .ref f_sorts, .int 0, .int 0, .int f_fifth])), (f_starts, .inl (cI, 4, .inl staF))] sz) [(f, .inr (2, [.ref f_kinds, .ref f_signs, .ref f_sizes, .ref f_places, .ref f_limits, .ref f_starts, .ref f_sorts, .int 0, .int 1, .int f_fifth])), (f_starts, .inl (cI, 4, .inl stF2))]) (va_A [(f, .inr (2, [.ref f_kinds, .ref f_signs, .ref f_sizes, .ref f_places, .ref f_limits, .ref f_starts, .ref f_sorts, .int 0, .int 0, .int f_fifth])), (f_starts, .inl (cI, 4, .inl staF))] sz)) 0 0 (va_A [(f, .inr (2, [.ref f_kinds, .ref f_signs, .ref f_sizes, .ref f_places, .ref f_limits, .ref f_starts, .ref f_sorts, .int 0, .int 0, .int f_fifth])), (f_starts, .inl (cI, 4, .inl staF))] sz) := by
  refine Met.ofW (cc := cX2_divide) (maxL := 2) (ret := none) (by decide) rfl ?_
  intro p e s m args below meth c s₁ B hml hv
  obtain ⟨rfl, hsz, hP, hK, hD0⟩ := hv
  have hx := B.exec
  have hb := B.bytes
  have hr := B.returns
  have hts := atoms_spec (ws := pw_X2_divide) B.pre
  have hown : s.vm.findClass RX2 = some m.cls := findClass_of_methodNamed B.named
  have hlocks := B.notSynchronized
  subst hsz
  have hD := hD0.self (sz := s.heap.size)
  generalize hAe : va_A [(f, .inr (2, [.ref f_kinds, .ref f_signs, .ref f_sizes, .ref f_places, .ref f_limits, .ref f_starts, .ref f_sorts, .int 0, .int 0, .int f_fifth])), (f_starts, .inl (cI, 4, .inl staF))] s.heap.size = A at hD ⊢
  have hA : ∀ q : Nat, s.heap.size ≤ q → A q := fun q h => by rw [← hAe]; exact Or.inr h
  have hS : va_S A s.heap s.heap [] := va_S.rf
  have hw : ∀ (k : Nat) (w : Cond), ow_X2_divide[k]? = some w → w.before _ s = true := fun k w h => hts w (List.mem_cons_of_mem _ (have h9 := List.mem_of_getElem? h; List.mem_append_left _ h9))
  have iX2 : ∀ w ∈ u_ws RX2 TX2 10, w ∈ pw_X2_divide := fun w h9 => List.mem_cons_of_mem _ (List.mem_append_right _ (h9))
  have n_0 : ((0 : Int32)).toInt = 0 := by decide
  have n_1 : ((1 : Int32)).toInt = 1 := by decide
  have n_4 : ((4 : Int32)).toInt = 4 := by decide
  have hl := lv_entry ([.ref f, .int pl]) (n := 2) (Nat.le_of_ble_eq_true rfl)
  rw [lg_entry_eq]
  generalize (lg_sl ([.ref f, .int pl]) ++ List.replicate (2 - (lg_sl ([.ref f, .int pl])).length) Slot.unset).toArray = ls at hl ⊢
  have hl : lv_has ls 2 [(0, .ref f), (1, .int pl)] := hl
  have b_pl := ti_b pl
  refine lv_aload_n hx hb dX2_divide_0 rfl (lv_at hl 0 rfl) ?_
  refine va_get (D := D) (ci := 2) (v := .int 0) (C := RX2) (T := TX2) (N := 10) hx hb hts iX2 hown hK hP 0 rfl rfl 8 (by decide) (hw 0 (.fieldLink RX2 38 "NumberFormats$Format" "sections" "I") rfl) (fun _ h9 => h9) rfl dX2_divide_1 ?_
  refine lv_aload_n hx hb dX2_divide_4 rfl (lv_at hl 0 rfl) ?_
  refine va_get (D := D) (ci := 2) (v := .ref f_starts) (C := RX2) (T := TX2) (N := 10) hx hb hts iX2 hown hK hP 0 rfl rfl 5 (by decide) (hw 1 (.fieldLink RX2 28 "NumberFormats$Format" "starts" "[I") rfl) (fun _ h9 => h9) rfl dX2_divide_5 ?_
  refine va_alen hx hb hK hP 1 0 rfl rfl (v := 4) rfl dX2_divide_8 ?_
  refine lv_icmp_ge (tgt := 38) hx hb dX2_divide_9 (by decide) (fun c_1 => by have ic_1 : (4 : Int32).toInt ≤ (0 : Int32).toInt := (fa_le 4 0).mp c_1; exfalso; omega) (fun c_1 => ?_)
  have ic_1 : ¬ ((4 : Int32).toInt ≤ (0 : Int32).toInt) := fun h9 => c_1 ((fa_le 4 0).mpr h9)
  refine lv_aload_n hx hb dX2_divide_12 rfl (lv_at hl 0 rfl) ?_
  refine va_get (D := D) (ci := 2) (v := .ref f_starts) (C := RX2) (T := TX2) (N := 10) hx hb hts iX2 hown hK hP 0 rfl rfl 5 (by decide) (hw 1 (.fieldLink RX2 28 "NumberFormats$Format" "starts" "[I") rfl) (fun _ h9 => h9) rfl dX2_divide_13 ?_
  refine lv_aload_n hx hb dX2_divide_16 rfl (lv_at hl 0 rfl) ?_
  refine va_get (D := D) (ci := 2) (v := .int 0) (C := RX2) (T := TX2) (N := 10) hx hb hts iX2 hown hK hP 0 rfl rfl 8 (by decide) (hw 0 (.fieldLink RX2 38 "NumberFormats$Format" "sections" "I") rfl) (fun _ h9 => h9) rfl dX2_divide_17 ?_
  refine lv_aload_n hx hb dX2_divide_20 rfl (lv_at hl 0 rfl) ?_
  refine va_get (D := D) (ci := 2) (v := .int 0) (C := RX2) (T := TX2) (N := 10) hx hb hts iX2 hown hK hP 0 rfl rfl 7 (by decide) (hw 2 (.fieldLink RX2 34 "NumberFormats$Format" "count" "I") rfl) (fun _ h9 => h9) rfl dX2_divide_21 ?_
  have h_24 : vp_in 0 4 := by rw [vp_in_iff]; omega
  refine va_iast hx hb hK hP hD hS 1 0 rfl rfl h_24 dX2_divide_24 (fun H locs hP hD hS => ?_)
  obtain ⟨f_2, ef_2⟩ : ∃ y : Nat → Int32, y = upd staF (0 : Int32).toNatClampNeg 0 := ⟨_, rfl⟩
  rw [← ef_2] at hP hD
  have hP : va_P D vwCl [(f, .inr (2, [.ref f_kinds, .ref f_signs, .ref f_sizes, .ref f_places, .ref f_limits, .ref f_starts, .ref f_sorts, .int 0, .int 0, .int f_fifth])), (f_starts, .inl (cI, 4, .inl f_2))] H := hP
  have hD : va_D A [(f, .inr (2, [.ref f_kinds, .ref f_signs, .ref f_sizes, .ref f_places, .ref f_limits, .ref f_starts, .ref f_sorts, .int 0, .int 0, .int f_fifth])), (f_starts, .inl (cI, 4, .inl f_2))] := hD
  refine lv_aload_n hx hb dX2_divide_25 rfl (lv_at hl 0 rfl) ?_
  refine lv_dup hx hb dX2_divide_26 rfl ?_
  refine va_get (D := D) (ci := 2) (v := .int 0) (C := RX2) (T := TX2) (N := 10) hx hb hts iX2 hown hK hP 0 rfl rfl 8 (by decide) (hw 0 (.fieldLink RX2 38 "NumberFormats$Format" "sections" "I") rfl) (fun _ h9 => h9) rfl dX2_divide_27 ?_
  refine lv_iconst (v := 1) hx hb dX2_divide_30 (by decide) ?_
  refine lv_iadd hx hb dX2_divide_31 ?_
  refine lv_topi (fun x_3 ex_3 => ?_)
  have tx_3 := ti_add ex_3
  refine va_put (D := D) (ci := 2) (v := .int x_3) (ty := .int) (C := RX2) (T := TX2) (N := 10) hx hb hts iX2 tyX2 tyX2_ok nmX2 hown hK hP hD hS 0 rfl rfl 8 (by decide) (hw 0 (.fieldLink RX2 38 "NumberFormats$Format" "sections" "I") rfl) (fun _ h9 => h9) rfl (by decide +kernel) rfl rfl (Nat.le_of_ble_eq_true rfl) dX2_divide_32 (fun H locs hP hD hS => ?_)
  have hP : va_P D vwCl [(f, .inr (2, [.ref f_kinds, .ref f_signs, .ref f_sizes, .ref f_places, .ref f_limits, .ref f_starts, .ref f_sorts, .int 0, .int x_3, .int f_fifth])), (f_starts, .inl (cI, 4, .inl f_2))] H := hP
  have hD : va_D A [(f, .inr (2, [.ref f_kinds, .ref f_signs, .ref f_sizes, .ref f_places, .ref f_limits, .ref f_starts, .ref f_sorts, .int 0, .int x_3, .int f_fifth])), (f_starts, .inl (cI, 4, .inl f_2))] := hD
  refine lv_goto (tgt := 51) hx hb dX2_divide_35 (by decide) ?_
  have hq_x_3 : x_3 = 1 := (fa_eq _ _).mpr (by omega)
  subst hq_x_3
  have hP9 := hP.sub (ws' := [(f, .inr (2, [.ref f_kinds, .ref f_signs, .ref f_sizes, .ref f_places, .ref f_limits, .ref f_starts, .ref f_sorts, .int 0, .int 1, .int f_fifth])), (f_starts, .inl (cI, 4, .inl f_2))]) [0, 1] rfl
  have hD9 := hD.sub (ws' := [(f, .inr (2, [.ref f_kinds, .ref f_signs, .ref f_sizes, .ref f_places, .ref f_limits, .ref f_starts, .ref f_sorts, .int 0, .int 1, .int f_fifth])), (f_starts, .inl (cI, 4, .inl f_2))]) [0, 1] (by decide) rfl
  exact W.vret hx hb hr (fun t ht hW => ⟨⟨(f_2), rfl, (by (try dsimp only); subst_vars; rfl), by rw [ht]; exact hP9, va_K.moved hW.alike hK, hD9⟩, hS.F ht⟩) hS.2.2 dX2_divide_51

def ow_X2_clear : List Cond := [Cond.fieldLink RX2 34 "NumberFormats$Format" "count" "I", Cond.fieldLink RX2 38 "NumberFormats$Format" "sections" "I", Cond.fieldLink RX2 41 "NumberFormats$Format" "fifth" "I", Cond.methodLink RX2 44 yX2_divide, Cond.instanceMethod yX2_divide, Cond.selects RX2 yX2_divide yX2_divide, Cond.initialized RX2]
def pw_X2_clear : List Cond := Cond.code yX2_clear cX2_clear 1 none :: (ow_X2_clear ++ (pw_X2_divide ++ (wsX20)))
set_option maxRecDepth 20000 in
theorem mo_X2_clear : ∀ w ∈ ow_X2_clear, w ∈ lw_tbl := by decide +kernel
set_option maxRecDepth 20000 in
theorem mc_X2_clear : Cond.code yX2_clear cX2_clear 1 none ∈ lw_tbl := by decide +kernel
theorem m_X2_clear : ∀ w ∈ pw_X2_clear, w ∈ lw_tbl := List.forall_mem_cons.mpr ⟨mc_X2_clear, (List.forall_mem_append.mpr ⟨mo_X2_clear, (List.forall_mem_append.mpr ⟨m_X2_divide, inX2⟩)⟩)⟩
theorem ko_X2_clear : ∀ w ∈ ow_X2_clear, goodWord w = true := by decide +kernel
theorem k_X2_clear : pw_X2_clear.all goodWord = true := List.all_eq_true.mpr (List.forall_mem_cons.mpr ⟨by decide +kernel, (List.forall_mem_append.mpr ⟨ko_X2_clear, (List.forall_mem_append.mpr ⟨(List.all_eq_true.mp k_X2_divide), kX_X2⟩)⟩)⟩)
set_option maxHeartbeats 400000 in
set_option maxRecDepth 100000 in
theorem c_X2_clear (l : Launch) (D : va_G) (cI cD cJ : ClassId) (sz : Nat) (f : Nat) (f_kinds : Nat) (f_signs : Nat) (f_sizes : Nat) (f_places : Nat) (f_limits : Nat) (f_starts : Nat) (f_sorts : Nat) (f_count : Int32) (f_sections : Int32) (f_fifth : Int32) (staF : Nat → Int32) : Met l yX2_clear pw_X2_clear ({ frames := 1, cells := 0, slots := 0, locals := 21 }) (va_Pc [.ref f] (fun U => U.heap.size = sz ∧ va_P D vwCl [(f, .inr (2, [.ref f_kinds, .ref f_signs, .ref f_sizes, .ref f_places, .ref f_limits, .ref f_starts, .ref f_sorts, .int f_count, .int f_sections, .int f_fifth])), (f_starts, .inl (cI, 4, .inl staF))] U.heap ∧ va_K D vwCl (ty3 cI cD cJ) U ∧ va_D (fun _ => True) [(f, .inr (2, [.ref f_kinds, .ref f_signs, .ref f_sizes, .ref f_places, .ref f_limits, .ref f_starts, .ref f_sorts, .int f_count, .int f_sections, .int f_fifth])), (f_starts, .inl (cI, 4, .inl staF))])) (va_Qv (fun (stF2 : (Nat → Int32)) => stF2 0 = 0) (fun (stF2 : (Nat → Int32)) (t : State) => va_P D vwCl [(f, .inr (2, [.ref f_kinds, .ref f_signs, .ref f_sizes, .ref f_places, .ref f_limits, .ref f_starts, .ref f_sorts, .int 0, .int 1, .int (-1)])), (f_starts, .inl (cI, 4, .inl stF2))] t.heap ∧ va_K D vwCl (ty3 cI cD cJ) t ∧ va_D (va_A [(f, .inr (2, [.ref f_kinds, .ref f_signs, .ref f_sizes, .ref f_places, .ref f_limits, .ref f_starts, .ref f_sorts, .int f_count, .int f_sections, .int f_fifth])), (f_starts, .inl (cI, 4, .inl staF))] sz) [(f, .inr (2, [.ref f_kinds, .ref f_signs, .ref f_sizes, .ref f_places, .ref f_limits, .ref f_starts, .ref f_sorts, .int 0, .int 1, .int (-1)])), (f_starts, .inl (cI, 4, .inl stF2))]) (va_A [(f, .inr (2, [.ref f_kinds, .ref f_signs, .ref f_sizes, .ref f_places, .ref f_limits, .ref f_starts, .ref f_sorts, .int f_count, .int f_sections, .int f_fifth])), (f_starts, .inl (cI, 4, .inl staF))] sz)) 0 0 (va_A [(f, .inr (2, [.ref f_kinds, .ref f_signs, .ref f_sizes, .ref f_places, .ref f_limits, .ref f_starts, .ref f_sorts, .int f_count, .int f_sections, .int f_fifth])), (f_starts, .inl (cI, 4, .inl staF))] sz) := by
  refine Met.ofW (cc := cX2_clear) (maxL := 1) (ret := none) (by decide) rfl ?_
  intro p e s m args below meth c s₁ B hml hv
  obtain ⟨rfl, hsz, hP, hK, hD0⟩ := hv
  have hx := B.exec
  have hb := B.bytes
  have hr := B.returns
  have hts := atoms_spec (ws := pw_X2_clear) B.pre
  have hown : s.vm.findClass RX2 = some m.cls := findClass_of_methodNamed B.named
  have hlocks := B.notSynchronized
  subst hsz
  have hD := hD0.self (sz := s.heap.size)
  generalize hAe : va_A [(f, .inr (2, [.ref f_kinds, .ref f_signs, .ref f_sizes, .ref f_places, .ref f_limits, .ref f_starts, .ref f_sorts, .int f_count, .int f_sections, .int f_fifth])), (f_starts, .inl (cI, 4, .inl staF))] s.heap.size = A at hD ⊢
  have hA : ∀ q : Nat, s.heap.size ≤ q → A q := fun q h => by rw [← hAe]; exact Or.inr h
  have hS : va_S A s.heap s.heap [] := va_S.rf
  have hw : ∀ (k : Nat) (w : Cond), ow_X2_clear[k]? = some w → w.before _ s = true := fun k w h => hts w (List.mem_cons_of_mem _ (have h9 := List.mem_of_getElem? h; List.mem_append_left _ h9))
  have i_X2_divide : ∀ w ∈ pw_X2_divide, w ∈ pw_X2_clear := fun w h9 => List.mem_cons_of_mem _ (List.mem_append_right _ (List.mem_append_left _ h9))
  have iX2 : ∀ w ∈ u_ws RX2 TX2 10, w ∈ pw_X2_clear := fun w h9 => List.mem_cons_of_mem _ (List.mem_append_right _ (List.mem_append_right _ (h9)))
  have n_m1 : (((-1) : Int32)).toInt = (-1) := by decide
  have n_0 : ((0 : Int32)).toInt = 0 := by decide
  have n_1 : ((1 : Int32)).toInt = 1 := by decide
  have hl := lv_entry ([.ref f]) (n := 1) (Nat.le_of_ble_eq_true rfl)
  rw [lg_entry_eq]
  generalize (lg_sl ([.ref f]) ++ List.replicate (1 - (lg_sl ([.ref f])).length) Slot.unset).toArray = ls at hl ⊢
  have hl : lv_has ls 1 [(0, .ref f)] := hl
  refine lv_aload_n hx hb dX2_clear_0 rfl (lv_at hl 0 rfl) ?_
  refine lv_iconst (v := 0) hx hb dX2_clear_1 (by decide) ?_
  refine va_put (D := D) (ci := 2) (v := .int 0) (ty := .int) (C := RX2) (T := TX2) (N := 10) hx hb hts iX2 tyX2 tyX2_ok nmX2 hown hK hP hD hS 0 rfl rfl 7 (by decide) (hw 0 (.fieldLink RX2 34 "NumberFormats$Format" "count" "I") rfl) (fun _ h9 => h9) rfl (by decide +kernel) rfl rfl (Nat.le_of_ble_eq_true rfl) dX2_clear_2 (fun H locs hP hD hS => ?_)
  have hP : va_P D vwCl [(f, .inr (2, [.ref f_kinds, .ref f_signs, .ref f_sizes, .ref f_places, .ref f_limits, .ref f_starts, .ref f_sorts, .int 0, .int f_sections, .int f_fifth])), (f_starts, .inl (cI, 4, .inl staF))] H := hP
  have hD : va_D A [(f, .inr (2, [.ref f_kinds, .ref f_signs, .ref f_sizes, .ref f_places, .ref f_limits, .ref f_starts, .ref f_sorts, .int 0, .int f_sections, .int f_fifth])), (f_starts, .inl (cI, 4, .inl staF))] := hD
  refine lv_aload_n hx hb dX2_clear_5 rfl (lv_at hl 0 rfl) ?_
  refine lv_iconst (v := 0) hx hb dX2_clear_6 (by decide) ?_
  refine va_put (D := D) (ci := 2) (v := .int 0) (ty := .int) (C := RX2) (T := TX2) (N := 10) hx hb hts iX2 tyX2 tyX2_ok nmX2 hown hK hP hD hS 0 rfl rfl 8 (by decide) (hw 1 (.fieldLink RX2 38 "NumberFormats$Format" "sections" "I") rfl) (fun _ h9 => h9) rfl (by decide +kernel) rfl rfl (Nat.le_of_ble_eq_true rfl) dX2_clear_7 (fun H locs hP hD hS => ?_)
  have hP : va_P D vwCl [(f, .inr (2, [.ref f_kinds, .ref f_signs, .ref f_sizes, .ref f_places, .ref f_limits, .ref f_starts, .ref f_sorts, .int 0, .int 0, .int f_fifth])), (f_starts, .inl (cI, 4, .inl staF))] H := hP
  have hD : va_D A [(f, .inr (2, [.ref f_kinds, .ref f_signs, .ref f_sizes, .ref f_places, .ref f_limits, .ref f_starts, .ref f_sorts, .int 0, .int 0, .int f_fifth])), (f_starts, .inl (cI, 4, .inl staF))] := hD
  refine lv_aload_n hx hb dX2_clear_10 rfl (lv_at hl 0 rfl) ?_
  refine lv_iconst (v := (-1)) hx hb dX2_clear_11 (by decide) ?_
  refine va_put (D := D) (ci := 2) (v := .int (-1)) (ty := .int) (C := RX2) (T := TX2) (N := 10) hx hb hts iX2 tyX2 tyX2_ok nmX2 hown hK hP hD hS 0 rfl rfl 9 (by decide) (hw 2 (.fieldLink RX2 41 "NumberFormats$Format" "fifth" "I") rfl) (fun _ h9 => h9) rfl (by decide +kernel) rfl rfl (Nat.le_of_ble_eq_true rfl) dX2_clear_12 (fun H locs hP hD hS => ?_)
  have hP : va_P D vwCl [(f, .inr (2, [.ref f_kinds, .ref f_signs, .ref f_sizes, .ref f_places, .ref f_limits, .ref f_starts, .ref f_sorts, .int 0, .int 0, .int (-1)])), (f_starts, .inl (cI, 4, .inl staF))] H := hP
  have hD : va_D A [(f, .inr (2, [.ref f_kinds, .ref f_signs, .ref f_sizes, .ref f_places, .ref f_limits, .ref f_starts, .ref f_sorts, .int 0, .int 0, .int (-1)])), (f_starts, .inl (cI, 4, .inl staF))] := hD
  refine lv_aload_n hx hb dX2_clear_15 rfl (lv_at hl 0 rfl) ?_
  refine lv_iconst (v := (-1)) hx hb dX2_clear_16 (by decide) ?_
  have hPc := hP.sub (ws' := [(f, .inr (2, [.ref f_kinds, .ref f_signs, .ref f_sizes, .ref f_places, .ref f_limits, .ref f_starts, .ref f_sorts, .int 0, .int 0, .int (-1)])), (f_starts, .inl (cI, 4, .inl staF))]) [0, 1] rfl
  have hDc := hD.sub (ws' := [(f, .inr (2, [.ref f_kinds, .ref f_signs, .ref f_sizes, .ref f_places, .ref f_limits, .ref f_starts, .ref f_sorts, .int 0, .int 0, .int (-1)])), (f_starts, .inl (cI, 4, .inl staF))]) [0, 1] (by decide) rfl
  have hFc := va_free (wc := [(f, .inr (2, [.ref f_kinds, .ref f_signs, .ref f_sizes, .ref f_places, .ref f_limits, .ref f_starts, .ref f_sorts, .int 0, .int 0, .int (-1)])), (f_starts, .inl (cI, 4, .inl staF))]) hD hS hA [0, 1] rfl
  refine va_callv (va_runV (As := [.int (-1)]) (rest := []) ⟨hx, hb, hml, hown, hts⟩ (c_X2_divide0 l D cI cD cJ H.size f f_kinds f_signs f_sizes f_places f_limits f_starts f_sorts (-1) staF (-1)) (cwV 1 hts (goodIn_app (goodIn_r _ [4, 5, 6, 7] rfl (by decide +kernel)) (goodIn_sub i_X2_divide k_X2_divide)) rfl rfl rfl (by decide +kernel) ⟨Nat.le_of_ble_eq_true rfl, Nat.le_of_ble_eq_true rfl⟩) ⟨fun a U g mk q => by obtain ⟨q0, q1, qP, qK, qD⟩ := q; exact ⟨q0, q1, qP, va_K.moved (u := U) (U := U.calling g mk a) (Vm.Alike.refl U.vm) qK, qD⟩, va_recv hK hPc (ci := 2) (q0 := 0) rfl rfl, fun U hU hW => ⟨rfl, by rw [hU], by rw [hU]; exact hPc, va_K.moved hW.alike hK, hDc.weaken (fun _ _ _ _ => trivial)⟩⟩ rfl rfl hl.1 rfl (lv_room (Nat.le_of_ble_eq_true rfl)) dX2_clear_17 ⟨Nat.le_of_ble_eq_true rfl, Nat.le_of_ble_eq_true rfl⟩) hS (fun q _ h => hFc q h) hFc (fun u t H1 locs ht hvm w_1 hB hz1 hk1 hS => ?_)
  generalize u = u_2 at w_1 hB
  obtain ⟨hP1, hK1, hD1⟩ := hB
  rw [ht] at hP1
  try dsimp only at w_1
  obtain ⟨hP, hD⟩ := va_join (wr := []) (w1 := [(f, .inr (2, [.ref f_kinds, .ref f_signs, .ref f_sizes, .ref f_places, .ref f_limits, .ref f_starts, .ref f_sorts, .int 0, .int 1, .int (-1)])), (f_starts, .inl (cI, 4, .inl u_2))]) hP hD [0, 1] [] rfl rfl (by decide) (by decide) hk1 hFc hP1 hD1
  generalize H1 = H at hP hS ⊢
  have hP : va_P D vwCl [(f, .inr (2, [.ref f_kinds, .ref f_signs, .ref f_sizes, .ref f_places, .ref f_limits, .ref f_starts, .ref f_sorts, .int 0, .int 1, .int (-1)])), (f_starts, .inl (cI, 4, .inl u_2))] H := hP
  have hD : va_D A [(f, .inr (2, [.ref f_kinds, .ref f_signs, .ref f_sizes, .ref f_places, .ref f_limits, .ref f_starts, .ref f_sorts, .int 0, .int 1, .int (-1)])), (f_starts, .inl (cI, 4, .inl u_2))] := hD
  have hP9 := hP.sub (ws' := [(f, .inr (2, [.ref f_kinds, .ref f_signs, .ref f_sizes, .ref f_places, .ref f_limits, .ref f_starts, .ref f_sorts, .int 0, .int 1, .int (-1)])), (f_starts, .inl (cI, 4, .inl u_2))]) [0, 1] rfl
  have hD9 := hD.sub (ws' := [(f, .inr (2, [.ref f_kinds, .ref f_signs, .ref f_sizes, .ref f_places, .ref f_limits, .ref f_starts, .ref f_sorts, .int 0, .int 1, .int (-1)])), (f_starts, .inl (cI, 4, .inl u_2))]) [0, 1] (by decide) rfl
  exact W.vret hx hb hr (fun t ht hW => ⟨⟨(u_2), rfl, (by assumption), by rw [ht]; exact hP9, va_K.moved hW.alike hK, hD9⟩, hS.F ht⟩) hS.2.2 dX2_clear_20

def ow_X10_length : List Cond := [Cond.fieldLink RX10 15 "NumberFormats$Text" "length" "I"]
def pw_X10_length : List Cond := Cond.code yX10_length cX10_length 1 (some .int) :: (ow_X10_length ++ (wsX100))
set_option maxRecDepth 20000 in
theorem mo_X10_length : ∀ w ∈ ow_X10_length, w ∈ lw_tbl := by decide +kernel
set_option maxRecDepth 20000 in
theorem mc_X10_length : Cond.code yX10_length cX10_length 1 (some .int) ∈ lw_tbl := by decide +kernel
theorem m_X10_length : ∀ w ∈ pw_X10_length, w ∈ lw_tbl := List.forall_mem_cons.mpr ⟨mc_X10_length, (List.forall_mem_append.mpr ⟨mo_X10_length, inX10⟩)⟩
theorem ko_X10_length : ∀ w ∈ ow_X10_length, goodWord w = true := by decide +kernel
theorem k_X10_length : pw_X10_length.all goodWord = true := List.all_eq_true.mpr (List.forall_mem_cons.mpr ⟨by decide +kernel, (List.forall_mem_append.mpr ⟨ko_X10_length, kX_X10⟩)⟩)
set_option maxHeartbeats 400000 in
set_option maxRecDepth 100000 in
theorem c_X10_length (l : Launch) (D : va_G) (cI cD cJ : ClassId) (sz : Nat) (x : Nat) (x_signs : Nat) (x_length : Int32) : Met l yX10_length pw_X10_length ({ frames := 0, cells := 0, slots := 0, locals := 0 }) (va_Pc [.ref x] (fun U => va_P D vwCl [(x, .inr (7, [.ref x_signs, .int x_length]))] U.heap ∧ va_K D vwCl (ty3 cI cD cJ) U)) (va_Qi (fun (r : Int32) (u : Unit) => r = x_length) (fun _ _ => True) (fun _ => False)) 0 0 (fun _ => False) := by
  refine Met.ofW (cc := cX10_length) (maxL := 1) (ret := (some .int)) (by decide) rfl ?_
  intro p e s m args below meth c s₁ B hml hv
  obtain ⟨rfl, hP, hK⟩ := hv
  have hx := B.exec
  have hb := B.bytes
  have hr := B.returns
  have hts := atoms_spec (ws := pw_X10_length) B.pre
  have hown : s.vm.findClass RX10 = some m.cls := findClass_of_methodNamed B.named
  have hlocks := B.notSynchronized
  have hS : va_S (fun _ => False) s.heap s.heap [] := va_S.rf
  have hw : ∀ (k : Nat) (w : Cond), ow_X10_length[k]? = some w → w.before _ s = true := fun k w h => hts w (List.mem_cons_of_mem _ (have h9 := List.mem_of_getElem? h; List.mem_append_left _ h9))
  have iX10 : ∀ w ∈ u_ws RX10 TX10 2, w ∈ pw_X10_length := fun w h9 => List.mem_cons_of_mem _ (List.mem_append_right _ (h9))
  have hl := lv_entry ([.ref x]) (n := 1) (Nat.le_of_ble_eq_true rfl)
  rw [lg_entry_eq]
  generalize (lg_sl ([.ref x]) ++ List.replicate (1 - (lg_sl ([.ref x])).length) Slot.unset).toArray = ls at hl ⊢
  have hl : lv_has ls 1 [(0, .ref x)] := hl
  refine lv_aload_n hx hb dX10_length_0 rfl (lv_at hl 0 rfl) ?_
  refine va_get (D := D) (ci := 7) (v := .int x_length) (C := RX10) (T := TX10) (N := 2) hx hb hts iX10 hown hK hP 0 rfl rfl 1 (by decide) (hw 0 (.fieldLink RX10 15 "NumberFormats$Text" "length" "I") rfl) (fun _ h9 => h9) rfl dX10_length_1 ?_
  exact W.iret (v := x_length) hx hb hr (fun t ht hW => ⟨⟨x_length, (), rfl, (by first | exact rfl | (dsimp only; exact rfl)), trivial⟩, hS.F ht⟩) hS.2.2 dX10_length_4

def ow_X2_sections : List Cond := [Cond.fieldLink RX2 38 "NumberFormats$Format" "sections" "I"]
def pw_X2_sections : List Cond := Cond.code yX2_sections cX2_sections 1 (some .int) :: (ow_X2_sections ++ (wsX20))
set_option maxRecDepth 20000 in
theorem mo_X2_sections : ∀ w ∈ ow_X2_sections, w ∈ lw_tbl := by decide +kernel
set_option maxRecDepth 20000 in
theorem mc_X2_sections : Cond.code yX2_sections cX2_sections 1 (some .int) ∈ lw_tbl := by decide +kernel
theorem m_X2_sections : ∀ w ∈ pw_X2_sections, w ∈ lw_tbl := List.forall_mem_cons.mpr ⟨mc_X2_sections, (List.forall_mem_append.mpr ⟨mo_X2_sections, inX2⟩)⟩
theorem ko_X2_sections : ∀ w ∈ ow_X2_sections, goodWord w = true := by decide +kernel
theorem k_X2_sections : pw_X2_sections.all goodWord = true := List.all_eq_true.mpr (List.forall_mem_cons.mpr ⟨by decide +kernel, (List.forall_mem_append.mpr ⟨ko_X2_sections, kX_X2⟩)⟩)
set_option maxHeartbeats 400000 in
set_option maxRecDepth 100000 in
theorem c_X2_sections (l : Launch) (D : va_G) (cI cD cJ : ClassId) (sz : Nat) (f : Nat) (f_kinds : Nat) (f_signs : Nat) (f_sizes : Nat) (f_places : Nat) (f_limits : Nat) (f_starts : Nat) (f_sorts : Nat) (f_count : Int32) (f_sections : Int32) (f_fifth : Int32) : Met l yX2_sections pw_X2_sections ({ frames := 0, cells := 0, slots := 0, locals := 0 }) (va_Pc [.ref f] (fun U => va_P D vwCl [(f, .inr (2, [.ref f_kinds, .ref f_signs, .ref f_sizes, .ref f_places, .ref f_limits, .ref f_starts, .ref f_sorts, .int f_count, .int f_sections, .int f_fifth]))] U.heap ∧ va_K D vwCl (ty3 cI cD cJ) U)) (va_Qi (fun (r : Int32) (u : Unit) => r = f_sections) (fun _ _ => True) (fun _ => False)) 0 0 (fun _ => False) := by
  refine Met.ofW (cc := cX2_sections) (maxL := 1) (ret := (some .int)) (by decide) rfl ?_
  intro p e s m args below meth c s₁ B hml hv
  obtain ⟨rfl, hP, hK⟩ := hv
  have hx := B.exec
  have hb := B.bytes
  have hr := B.returns
  have hts := atoms_spec (ws := pw_X2_sections) B.pre
  have hown : s.vm.findClass RX2 = some m.cls := findClass_of_methodNamed B.named
  have hlocks := B.notSynchronized
  have hS : va_S (fun _ => False) s.heap s.heap [] := va_S.rf
  have hw : ∀ (k : Nat) (w : Cond), ow_X2_sections[k]? = some w → w.before _ s = true := fun k w h => hts w (List.mem_cons_of_mem _ (have h9 := List.mem_of_getElem? h; List.mem_append_left _ h9))
  have iX2 : ∀ w ∈ u_ws RX2 TX2 10, w ∈ pw_X2_sections := fun w h9 => List.mem_cons_of_mem _ (List.mem_append_right _ (h9))
  have hl := lv_entry ([.ref f]) (n := 1) (Nat.le_of_ble_eq_true rfl)
  rw [lg_entry_eq]
  generalize (lg_sl ([.ref f]) ++ List.replicate (1 - (lg_sl ([.ref f])).length) Slot.unset).toArray = ls at hl ⊢
  have hl : lv_has ls 1 [(0, .ref f)] := hl
  refine lv_aload_n hx hb dX2_sections_0 rfl (lv_at hl 0 rfl) ?_
  refine va_get (D := D) (ci := 2) (v := .int f_sections) (C := RX2) (T := TX2) (N := 10) hx hb hts iX2 hown hK hP 0 rfl rfl 8 (by decide) (hw 0 (.fieldLink RX2 38 "NumberFormats$Format" "sections" "I") rfl) (fun _ h9 => h9) rfl dX2_sections_1 ?_
  exact W.iret (v := f_sections) hx hb hr (fun t ht hW => ⟨⟨f_sections, (), rfl, (by first | exact rfl | (dsimp only; exact rfl)), trivial⟩, hS.F ht⟩) hS.2.2 dX2_sections_4

def ow_X2_fifthPlace : List Cond := [Cond.fieldLink RX2 41 "NumberFormats$Format" "fifth" "I"]
def pw_X2_fifthPlace : List Cond := Cond.code yX2_fifthPlace cX2_fifthPlace 1 (some .int) :: (ow_X2_fifthPlace ++ (wsX20))
set_option maxRecDepth 20000 in
theorem mo_X2_fifthPlace : ∀ w ∈ ow_X2_fifthPlace, w ∈ lw_tbl := by decide +kernel
set_option maxRecDepth 20000 in
theorem mc_X2_fifthPlace : Cond.code yX2_fifthPlace cX2_fifthPlace 1 (some .int) ∈ lw_tbl := by decide +kernel
theorem m_X2_fifthPlace : ∀ w ∈ pw_X2_fifthPlace, w ∈ lw_tbl := List.forall_mem_cons.mpr ⟨mc_X2_fifthPlace, (List.forall_mem_append.mpr ⟨mo_X2_fifthPlace, inX2⟩)⟩
theorem ko_X2_fifthPlace : ∀ w ∈ ow_X2_fifthPlace, goodWord w = true := by decide +kernel
theorem k_X2_fifthPlace : pw_X2_fifthPlace.all goodWord = true := List.all_eq_true.mpr (List.forall_mem_cons.mpr ⟨by decide +kernel, (List.forall_mem_append.mpr ⟨ko_X2_fifthPlace, kX_X2⟩)⟩)
set_option maxHeartbeats 400000 in
set_option maxRecDepth 100000 in
theorem c_X2_fifthPlace (l : Launch) (D : va_G) (cI cD cJ : ClassId) (sz : Nat) (f : Nat) (f_kinds : Nat) (f_signs : Nat) (f_sizes : Nat) (f_places : Nat) (f_limits : Nat) (f_starts : Nat) (f_sorts : Nat) (f_count : Int32) (f_sections : Int32) (f_fifth : Int32) : Met l yX2_fifthPlace pw_X2_fifthPlace ({ frames := 0, cells := 0, slots := 0, locals := 0 }) (va_Pc [.ref f] (fun U => va_P D vwCl [(f, .inr (2, [.ref f_kinds, .ref f_signs, .ref f_sizes, .ref f_places, .ref f_limits, .ref f_starts, .ref f_sorts, .int f_count, .int f_sections, .int f_fifth]))] U.heap ∧ va_K D vwCl (ty3 cI cD cJ) U)) (va_Qi (fun (r : Int32) (u : Unit) => r = f_fifth) (fun _ _ => True) (fun _ => False)) 0 0 (fun _ => False) := by
  refine Met.ofW (cc := cX2_fifthPlace) (maxL := 1) (ret := (some .int)) (by decide) rfl ?_
  intro p e s m args below meth c s₁ B hml hv
  obtain ⟨rfl, hP, hK⟩ := hv
  have hx := B.exec
  have hb := B.bytes
  have hr := B.returns
  have hts := atoms_spec (ws := pw_X2_fifthPlace) B.pre
  have hown : s.vm.findClass RX2 = some m.cls := findClass_of_methodNamed B.named
  have hlocks := B.notSynchronized
  have hS : va_S (fun _ => False) s.heap s.heap [] := va_S.rf
  have hw : ∀ (k : Nat) (w : Cond), ow_X2_fifthPlace[k]? = some w → w.before _ s = true := fun k w h => hts w (List.mem_cons_of_mem _ (have h9 := List.mem_of_getElem? h; List.mem_append_left _ h9))
  have iX2 : ∀ w ∈ u_ws RX2 TX2 10, w ∈ pw_X2_fifthPlace := fun w h9 => List.mem_cons_of_mem _ (List.mem_append_right _ (h9))
  have hl := lv_entry ([.ref f]) (n := 1) (Nat.le_of_ble_eq_true rfl)
  rw [lg_entry_eq]
  generalize (lg_sl ([.ref f]) ++ List.replicate (1 - (lg_sl ([.ref f])).length) Slot.unset).toArray = ls at hl ⊢
  have hl : lv_has ls 1 [(0, .ref f)] := hl
  refine lv_aload_n hx hb dX2_fifthPlace_0 rfl (lv_at hl 0 rfl) ?_
  refine va_get (D := D) (ci := 2) (v := .int f_fifth) (C := RX2) (T := TX2) (N := 10) hx hb hts iX2 hown hK hP 0 rfl rfl 9 (by decide) (hw 0 (.fieldLink RX2 41 "NumberFormats$Format" "fifth" "I") rfl) (fun _ h9 => h9) rfl dX2_fifthPlace_1 ?_
  exact W.iret (v := f_fifth) hx hb hr (fun t ht hW => ⟨⟨f_fifth, (), rfl, (by first | exact rfl | (dsimp only; exact rfl)), trivial⟩, hS.F ht⟩) hS.2.2 dX2_fifthPlace_4

def ow_X2_from : List Cond := [Cond.fieldLink RX2 34 "NumberFormats$Format" "count" "I", Cond.fieldLink RX2 38 "NumberFormats$Format" "sections" "I", Cond.fieldLink RX2 28 "NumberFormats$Format" "starts" "[I"]
def pw_X2_from : List Cond := Cond.code yX2_from cX2_from 2 (some .int) :: (ow_X2_from ++ (wsX20))
set_option maxRecDepth 20000 in
theorem mo_X2_from : ∀ w ∈ ow_X2_from, w ∈ lw_tbl := by decide +kernel
set_option maxRecDepth 20000 in
theorem mc_X2_from : Cond.code yX2_from cX2_from 2 (some .int) ∈ lw_tbl := by decide +kernel
theorem m_X2_from : ∀ w ∈ pw_X2_from, w ∈ lw_tbl := List.forall_mem_cons.mpr ⟨mc_X2_from, (List.forall_mem_append.mpr ⟨mo_X2_from, inX2⟩)⟩
theorem ko_X2_from : ∀ w ∈ ow_X2_from, goodWord w = true := by decide +kernel
theorem k_X2_from : pw_X2_from.all goodWord = true := List.all_eq_true.mpr (List.forall_mem_cons.mpr ⟨by decide +kernel, (List.forall_mem_append.mpr ⟨ko_X2_from, kX_X2⟩)⟩)
set_option maxHeartbeats 400000 in
set_option maxRecDepth 100000 in
theorem c_X2_from (l : Launch) (D : va_G) (cI cD cJ : ClassId) (sz : Nat) (f : Nat) (f_kinds : Nat) (f_signs : Nat) (f_sizes : Nat) (f_places : Nat) (f_limits : Nat) (f_starts : Nat) (f_sorts : Nat) (f_count : Int32) (f_sections : Int32) (f_fifth : Int32) (staF : Nat → Int32) (s1 : Int32) : Met l yX2_from pw_X2_from ({ frames := 0, cells := 0, slots := 0, locals := 0 }) (va_Pc [.ref f, .int s1] (fun U => va_P D vwCl [(f, .inr (2, [.ref f_kinds, .ref f_signs, .ref f_sizes, .ref f_places, .ref f_limits, .ref f_starts, .ref f_sorts, .int f_count, .int f_sections, .int f_fifth])), (f_starts, .inl (cI, 4, .inl staF))] U.heap ∧ va_K D vwCl (ty3 cI cD cJ) U)) (va_Qi (fun (r : Int32) (u : Unit) => (0 ≤ s1.toInt ∧ s1.toInt < f_sections.toInt ∧ s1.toInt < 4 → r = staF s1.toNatClampNeg) ∧ (s1.toInt < 0 ∨ f_sections.toInt ≤ s1.toInt ∨ 4 ≤ s1.toInt → r = f_count)) (fun _ _ => True) (fun _ => False)) 0 0 (fun _ => False) := by
  refine Met.ofW (cc := cX2_from) (maxL := 2) (ret := (some .int)) (by decide) rfl ?_
  intro p e s m args below meth c s₁ B hml hv
  obtain ⟨rfl, hP, hK⟩ := hv
  have hx := B.exec
  have hb := B.bytes
  have hr := B.returns
  have hts := atoms_spec (ws := pw_X2_from) B.pre
  have hown : s.vm.findClass RX2 = some m.cls := findClass_of_methodNamed B.named
  have hlocks := B.notSynchronized
  have hS : va_S (fun _ => False) s.heap s.heap [] := va_S.rf
  have hw : ∀ (k : Nat) (w : Cond), ow_X2_from[k]? = some w → w.before _ s = true := fun k w h => hts w (List.mem_cons_of_mem _ (have h9 := List.mem_of_getElem? h; List.mem_append_left _ h9))
  have iX2 : ∀ w ∈ u_ws RX2 TX2 10, w ∈ pw_X2_from := fun w h9 => List.mem_cons_of_mem _ (List.mem_append_right _ (h9))
  have n_0 : ((0 : Int32)).toInt = 0 := by decide
  have n_4 : ((4 : Int32)).toInt = 4 := by decide
  have hl := lv_entry ([.ref f, .int s1]) (n := 2) (Nat.le_of_ble_eq_true rfl)
  rw [lg_entry_eq]
  generalize (lg_sl ([.ref f, .int s1]) ++ List.replicate (2 - (lg_sl ([.ref f, .int s1])).length) Slot.unset).toArray = ls at hl ⊢
  have hl : lv_has ls 2 [(0, .ref f), (1, .int s1)] := hl
  have b_s1 := ti_b s1
  refine lv_iload_n hx hb dX2_from_0 rfl (lv_at hl 1 rfl) ?_
  refine lv_if_lt (tgt := 30) hx hb dX2_from_1 (by decide) (fun c_1 => ?_) (fun c_1 => ?_)
  · have ic_1 : (s1 : Int32).toInt < (0 : Int32).toInt := (fa_lt s1 0).mp c_1
    refine lv_aload_n hx hb dX2_from_30 rfl (lv_at hl 0 rfl) ?_
    refine va_get (D := D) (ci := 2) (v := .int f_count) (C := RX2) (T := TX2) (N := 10) hx hb hts iX2 hown hK hP 0 rfl rfl 7 (by decide) (hw 0 (.fieldLink RX2 34 "NumberFormats$Format" "count" "I") rfl) (fun _ h9 => h9) rfl dX2_from_31 ?_
    exact W.iret (v := f_count) hx hb hr (fun t ht hW => ⟨⟨f_count, (), rfl, (by subst_vars; (try dsimp only); exact ⟨fun h9 => by first | rfl | (exfalso; omega), fun h9 => by first | rfl | (exfalso; omega)⟩), trivial⟩, hS.F ht⟩) hS.2.2 dX2_from_34
  · have ic_1 : ¬ ((s1 : Int32).toInt < (0 : Int32).toInt) := fun h9 => c_1 ((fa_lt s1 0).mpr h9)
    refine lv_iload_n hx hb dX2_from_4 rfl (lv_at hl 1 rfl) ?_
    refine lv_aload_n hx hb dX2_from_5 rfl (lv_at hl 0 rfl) ?_
    refine va_get (D := D) (ci := 2) (v := .int f_sections) (C := RX2) (T := TX2) (N := 10) hx hb hts iX2 hown hK hP 0 rfl rfl 8 (by decide) (hw 1 (.fieldLink RX2 38 "NumberFormats$Format" "sections" "I") rfl) (fun _ h9 => h9) rfl dX2_from_6 ?_
    refine lv_icmp_ge (tgt := 30) hx hb dX2_from_9 (by decide) (fun c_2 => ?_) (fun c_2 => ?_)
    · have ic_2 : (f_sections : Int32).toInt ≤ (s1 : Int32).toInt := (fa_le f_sections s1).mp c_2
      refine lv_aload_n hx hb dX2_from_30 rfl (lv_at hl 0 rfl) ?_
      refine va_get (D := D) (ci := 2) (v := .int f_count) (C := RX2) (T := TX2) (N := 10) hx hb hts iX2 hown hK hP 0 rfl rfl 7 (by decide) (hw 0 (.fieldLink RX2 34 "NumberFormats$Format" "count" "I") rfl) (fun _ h9 => h9) rfl dX2_from_31 ?_
      exact W.iret (v := f_count) hx hb hr (fun t ht hW => ⟨⟨f_count, (), rfl, (by subst_vars; (try dsimp only); exact ⟨fun h9 => by first | rfl | (exfalso; omega), fun h9 => by first | rfl | (exfalso; omega)⟩), trivial⟩, hS.F ht⟩) hS.2.2 dX2_from_34
    · have ic_2 : ¬ ((f_sections : Int32).toInt ≤ (s1 : Int32).toInt) := fun h9 => c_2 ((fa_le f_sections s1).mpr h9)
      refine lv_iload_n hx hb dX2_from_12 rfl (lv_at hl 1 rfl) ?_
      refine lv_aload_n hx hb dX2_from_13 rfl (lv_at hl 0 rfl) ?_
      refine va_get (D := D) (ci := 2) (v := .ref f_starts) (C := RX2) (T := TX2) (N := 10) hx hb hts iX2 hown hK hP 0 rfl rfl 5 (by decide) (hw 2 (.fieldLink RX2 28 "NumberFormats$Format" "starts" "[I") rfl) (fun _ h9 => h9) rfl dX2_from_14 ?_
      refine va_alen hx hb hK hP 1 0 rfl rfl (v := 4) rfl dX2_from_17 ?_
      refine lv_icmp_ge (tgt := 30) hx hb dX2_from_18 (by decide) (fun c_3 => ?_) (fun c_3 => ?_)
      · have ic_3 : (4 : Int32).toInt ≤ (s1 : Int32).toInt := (fa_le 4 s1).mp c_3
        refine lv_aload_n hx hb dX2_from_30 rfl (lv_at hl 0 rfl) ?_
        refine va_get (D := D) (ci := 2) (v := .int f_count) (C := RX2) (T := TX2) (N := 10) hx hb hts iX2 hown hK hP 0 rfl rfl 7 (by decide) (hw 0 (.fieldLink RX2 34 "NumberFormats$Format" "count" "I") rfl) (fun _ h9 => h9) rfl dX2_from_31 ?_
        exact W.iret (v := f_count) hx hb hr (fun t ht hW => ⟨⟨f_count, (), rfl, (by subst_vars; (try dsimp only); exact ⟨fun h9 => by first | rfl | (exfalso; omega), fun h9 => by first | rfl | (exfalso; omega)⟩), trivial⟩, hS.F ht⟩) hS.2.2 dX2_from_34
      · have ic_3 : ¬ ((4 : Int32).toInt ≤ (s1 : Int32).toInt) := fun h9 => c_3 ((fa_le 4 s1).mpr h9)
        refine lv_aload_n hx hb dX2_from_21 rfl (lv_at hl 0 rfl) ?_
        refine va_get (D := D) (ci := 2) (v := .ref f_starts) (C := RX2) (T := TX2) (N := 10) hx hb hts iX2 hown hK hP 0 rfl rfl 5 (by decide) (hw 2 (.fieldLink RX2 28 "NumberFormats$Format" "starts" "[I") rfl) (fun _ h9 => h9) rfl dX2_from_22 ?_
        refine lv_iload_n hx hb dX2_from_25 rfl (lv_at hl 1 rfl) ?_
        have h_26 : vp_in s1 4 := by rw [vp_in_iff]; omega
        refine va_iald hx hb hK hP 1 0 rfl rfl h_26 dX2_from_26 ?_
        refine lv_topi (fun x_4 ex_4 => ?_)
        refine lv_goto (tgt := 34) hx hb dX2_from_27 (by decide) ?_
        exact W.iret (v := x_4) hx hb hr (fun t ht hW => ⟨⟨x_4, (), rfl, (by subst_vars; (try dsimp only); exact ⟨fun h9 => by first | rfl | (exfalso; omega), fun h9 => by first | rfl | (exfalso; omega)⟩), trivial⟩, hS.F ht⟩) hS.2.2 dX2_from_34

def ow_X2_to : List Cond := [Cond.fieldLink RX2 38 "NumberFormats$Format" "sections" "I", Cond.fieldLink RX2 34 "NumberFormats$Format" "count" "I"]
def pw_X2_to : List Cond := Cond.code yX2_to cX2_to 2 (some .int) :: (ow_X2_to ++ (wsX20))
set_option maxRecDepth 20000 in
theorem mo_X2_to : ∀ w ∈ ow_X2_to, w ∈ lw_tbl := by decide +kernel
set_option maxRecDepth 20000 in
theorem mc_X2_to : Cond.code yX2_to cX2_to 2 (some .int) ∈ lw_tbl := by decide +kernel
theorem m_X2_to : ∀ w ∈ pw_X2_to, w ∈ lw_tbl := List.forall_mem_cons.mpr ⟨mc_X2_to, (List.forall_mem_append.mpr ⟨mo_X2_to, inX2⟩)⟩
theorem ko_X2_to : ∀ w ∈ ow_X2_to, goodWord w = true := by decide +kernel
theorem k_X2_to : pw_X2_to.all goodWord = true := List.all_eq_true.mpr (List.forall_mem_cons.mpr ⟨by decide +kernel, (List.forall_mem_append.mpr ⟨ko_X2_to, kX_X2⟩)⟩)
set_option maxHeartbeats 400000 in
set_option maxRecDepth 100000 in
theorem c_X2_to0 (l : Launch) (D : va_G) (cI cD cJ : ClassId) (sz : Nat) (f : Nat) (f_kinds : Nat) (f_signs : Nat) (f_sizes : Nat) (f_places : Nat) (f_limits : Nat) (f_starts : Nat) (f_sorts : Nat) (f_count : Int32) (f_fifth : Int32) : Met l yX2_to pw_X2_to ({ frames := 0, cells := 0, slots := 0, locals := 0 }) (va_Pc [.ref f, .int 0] (fun U => va_P D vwCl [(f, .inr (2, [.ref f_kinds, .ref f_signs, .ref f_sizes, .ref f_places, .ref f_limits, .ref f_starts, .ref f_sorts, .int f_count, .int 1, .int f_fifth]))] U.heap ∧ va_K D vwCl (ty3 cI cD cJ) U)) (va_Qi (fun (r : Int32) (u : Unit) => r = f_count) (fun _ _ => True) (fun _ => False)) 0 0 (fun _ => False) := by
  refine Met.ofW (cc := cX2_to) (maxL := 2) (ret := (some .int)) (by decide) rfl ?_
  intro p e s m args below meth c s₁ B hml hv
  obtain ⟨rfl, hP, hK⟩ := hv
  have hx := B.exec
  have hb := B.bytes
  have hr := B.returns
  have hts := atoms_spec (ws := pw_X2_to) B.pre
  have hown : s.vm.findClass RX2 = some m.cls := findClass_of_methodNamed B.named
  have hlocks := B.notSynchronized
  have hS : va_S (fun _ => False) s.heap s.heap [] := va_S.rf
  have hw : ∀ (k : Nat) (w : Cond), ow_X2_to[k]? = some w → w.before _ s = true := fun k w h => hts w (List.mem_cons_of_mem _ (have h9 := List.mem_of_getElem? h; List.mem_append_left _ h9))
  have iX2 : ∀ w ∈ u_ws RX2 TX2 10, w ∈ pw_X2_to := fun w h9 => List.mem_cons_of_mem _ (List.mem_append_right _ (h9))
  have n_m1 : (((-1) : Int32)).toInt = (-1) := by decide
  have n_0 : ((0 : Int32)).toInt = 0 := by decide
  have n_1 : ((1 : Int32)).toInt = 1 := by decide
  have hl := lv_entry ([.ref f, .int 0]) (n := 2) (Nat.le_of_ble_eq_true rfl)
  rw [lg_entry_eq]
  generalize (lg_sl ([.ref f, .int 0]) ++ List.replicate (2 - (lg_sl ([.ref f, .int 0])).length) Slot.unset).toArray = ls at hl ⊢
  have hl : lv_has ls 2 [(0, .ref f), (1, .int 0)] := hl
  refine lv_iload_n hx hb dX2_to_0 rfl (lv_at hl 1 rfl) ?_
  refine lv_iconst (v := (-1)) hx hb dX2_to_1 (by decide) ?_
  refine lv_icmp_lt (tgt := 37) hx hb dX2_to_2 (by decide) (fun c_1 => by have ic_1 : (0 : Int32).toInt < ((-1) : Int32).toInt := (fa_lt 0 (-1)).mp c_1; exfalso; omega) (fun c_1 => ?_)
  have ic_1 : ¬ ((0 : Int32).toInt < ((-1) : Int32).toInt) := fun h9 => c_1 ((fa_lt 0 (-1)).mpr h9)
  refine lv_iload_n hx hb dX2_to_5 rfl (lv_at hl 1 rfl) ?_
  refine lv_iconst (v := 1) hx hb dX2_to_6 (by decide) ?_
  refine lv_iadd hx hb dX2_to_7 ?_
  refine lv_topi (fun x_2 ex_2 => ?_)
  have tx_2 := ti_add ex_2
  refine lv_aload_n hx hb dX2_to_8 rfl (lv_at hl 0 rfl) ?_
  refine va_get (D := D) (ci := 2) (v := .int 1) (C := RX2) (T := TX2) (N := 10) hx hb hts iX2 hown hK hP 0 rfl rfl 8 (by decide) (hw 0 (.fieldLink RX2 38 "NumberFormats$Format" "sections" "I") rfl) (fun _ h9 => h9) rfl dX2_to_9 ?_
  refine lv_icmp_ge (tgt := 37) hx hb dX2_to_12 (by decide) (fun c_3 => ?_) (fun c_3 => by have ic_3 : ¬ ((1 : Int32).toInt ≤ (x_2 : Int32).toInt) := fun h9 => c_3 ((fa_le 1 x_2).mpr h9); exfalso; omega)
  have ic_3 : (1 : Int32).toInt ≤ (x_2 : Int32).toInt := (fa_le 1 x_2).mp c_3
  refine lv_aload_n hx hb dX2_to_37 rfl (lv_at hl 0 rfl) ?_
  refine va_get (D := D) (ci := 2) (v := .int f_count) (C := RX2) (T := TX2) (N := 10) hx hb hts iX2 hown hK hP 0 rfl rfl 7 (by decide) (hw 1 (.fieldLink RX2 34 "NumberFormats$Format" "count" "I") rfl) (fun _ h9 => h9) rfl dX2_to_38 ?_
  exact W.iret (v := f_count) hx hb hr (fun t ht hW => ⟨⟨f_count, (), rfl, (by first | exact rfl | (dsimp only; exact rfl)), trivial⟩, hS.F ht⟩) hS.2.2 dX2_to_41

def ow_X2_sort : List Cond := [Cond.fieldLink RX2 31 "NumberFormats$Format" "sorts" "[I"]
def pw_X2_sort : List Cond := Cond.code yX2_sort cX2_sort 2 (some .int) :: (ow_X2_sort ++ (wsX20))
set_option maxRecDepth 20000 in
theorem mo_X2_sort : ∀ w ∈ ow_X2_sort, w ∈ lw_tbl := by decide +kernel
set_option maxRecDepth 20000 in
theorem mc_X2_sort : Cond.code yX2_sort cX2_sort 2 (some .int) ∈ lw_tbl := by decide +kernel
theorem m_X2_sort : ∀ w ∈ pw_X2_sort, w ∈ lw_tbl := List.forall_mem_cons.mpr ⟨mc_X2_sort, (List.forall_mem_append.mpr ⟨mo_X2_sort, inX2⟩)⟩
theorem ko_X2_sort : ∀ w ∈ ow_X2_sort, goodWord w = true := by decide +kernel
theorem k_X2_sort : pw_X2_sort.all goodWord = true := List.all_eq_true.mpr (List.forall_mem_cons.mpr ⟨by decide +kernel, (List.forall_mem_append.mpr ⟨ko_X2_sort, kX_X2⟩)⟩)
set_option maxHeartbeats 400000 in
set_option maxRecDepth 100000 in
theorem c_X2_sort (l : Launch) (D : va_G) (cI cD cJ : ClassId) (sz : Nat) (f : Nat) (f_kinds : Nat) (f_signs : Nat) (f_sizes : Nat) (f_places : Nat) (f_limits : Nat) (f_starts : Nat) (f_sorts : Nat) (f_count : Int32) (f_sections : Int32) (f_fifth : Int32) (sorF : Nat → Int32) (s1 : Int32) : Met l yX2_sort pw_X2_sort ({ frames := 0, cells := 0, slots := 0, locals := 0 }) (va_Pc [.ref f, .int s1] (fun U => va_P D vwCl [(f, .inr (2, [.ref f_kinds, .ref f_signs, .ref f_sizes, .ref f_places, .ref f_limits, .ref f_starts, .ref f_sorts, .int f_count, .int f_sections, .int f_fifth])), (f_sorts, .inl (cI, 4, .inl sorF))] U.heap ∧ va_K D vwCl (ty3 cI cD cJ) U)) (va_Qi (fun (r : Int32) (u : Unit) => (0 ≤ s1.toInt ∧ s1.toInt < 4 → r = sorF s1.toNatClampNeg) ∧ (s1.toInt < 0 ∨ 4 ≤ s1.toInt → r = 0)) (fun _ _ => True) (fun _ => False)) 0 0 (fun _ => False) := by
  refine Met.ofW (cc := cX2_sort) (maxL := 2) (ret := (some .int)) (by decide) rfl ?_
  intro p e s m args below meth c s₁ B hml hv
  obtain ⟨rfl, hP, hK⟩ := hv
  have hx := B.exec
  have hb := B.bytes
  have hr := B.returns
  have hts := atoms_spec (ws := pw_X2_sort) B.pre
  have hown : s.vm.findClass RX2 = some m.cls := findClass_of_methodNamed B.named
  have hlocks := B.notSynchronized
  have hS : va_S (fun _ => False) s.heap s.heap [] := va_S.rf
  have hw : ∀ (k : Nat) (w : Cond), ow_X2_sort[k]? = some w → w.before _ s = true := fun k w h => hts w (List.mem_cons_of_mem _ (have h9 := List.mem_of_getElem? h; List.mem_append_left _ h9))
  have iX2 : ∀ w ∈ u_ws RX2 TX2 10, w ∈ pw_X2_sort := fun w h9 => List.mem_cons_of_mem _ (List.mem_append_right _ (h9))
  have n_0 : ((0 : Int32)).toInt = 0 := by decide
  have n_4 : ((4 : Int32)).toInt = 4 := by decide
  have hl := lv_entry ([.ref f, .int s1]) (n := 2) (Nat.le_of_ble_eq_true rfl)
  rw [lg_entry_eq]
  generalize (lg_sl ([.ref f, .int s1]) ++ List.replicate (2 - (lg_sl ([.ref f, .int s1])).length) Slot.unset).toArray = ls at hl ⊢
  have hl : lv_has ls 2 [(0, .ref f), (1, .int s1)] := hl
  have b_s1 := ti_b s1
  refine lv_iload_n hx hb dX2_sort_0 rfl (lv_at hl 1 rfl) ?_
  refine lv_if_lt (tgt := 22) hx hb dX2_sort_1 (by decide) (fun c_1 => ?_) (fun c_1 => ?_)
  · have ic_1 : (s1 : Int32).toInt < (0 : Int32).toInt := (fa_lt s1 0).mp c_1
    refine lv_iconst (v := 0) hx hb dX2_sort_22 (by decide) ?_
    exact W.iret (v := 0) hx hb hr (fun t ht hW => ⟨⟨0, (), rfl, (by subst_vars; (try dsimp only); exact ⟨fun h9 => by first | rfl | (exfalso; omega), fun h9 => by first | rfl | (exfalso; omega)⟩), trivial⟩, hS.F ht⟩) hS.2.2 dX2_sort_23
  · have ic_1 : ¬ ((s1 : Int32).toInt < (0 : Int32).toInt) := fun h9 => c_1 ((fa_lt s1 0).mpr h9)
    refine lv_iload_n hx hb dX2_sort_4 rfl (lv_at hl 1 rfl) ?_
    refine lv_aload_n hx hb dX2_sort_5 rfl (lv_at hl 0 rfl) ?_
    refine va_get (D := D) (ci := 2) (v := .ref f_sorts) (C := RX2) (T := TX2) (N := 10) hx hb hts iX2 hown hK hP 0 rfl rfl 6 (by decide) (hw 0 (.fieldLink RX2 31 "NumberFormats$Format" "sorts" "[I") rfl) (fun _ h9 => h9) rfl dX2_sort_6 ?_
    refine va_alen hx hb hK hP 1 0 rfl rfl (v := 4) rfl dX2_sort_9 ?_
    refine lv_icmp_ge (tgt := 22) hx hb dX2_sort_10 (by decide) (fun c_2 => ?_) (fun c_2 => ?_)
    · have ic_2 : (4 : Int32).toInt ≤ (s1 : Int32).toInt := (fa_le 4 s1).mp c_2
      refine lv_iconst (v := 0) hx hb dX2_sort_22 (by decide) ?_
      exact W.iret (v := 0) hx hb hr (fun t ht hW => ⟨⟨0, (), rfl, (by subst_vars; (try dsimp only); exact ⟨fun h9 => by first | rfl | (exfalso; omega), fun h9 => by first | rfl | (exfalso; omega)⟩), trivial⟩, hS.F ht⟩) hS.2.2 dX2_sort_23
    · have ic_2 : ¬ ((4 : Int32).toInt ≤ (s1 : Int32).toInt) := fun h9 => c_2 ((fa_le 4 s1).mpr h9)
      refine lv_aload_n hx hb dX2_sort_13 rfl (lv_at hl 0 rfl) ?_
      refine va_get (D := D) (ci := 2) (v := .ref f_sorts) (C := RX2) (T := TX2) (N := 10) hx hb hts iX2 hown hK hP 0 rfl rfl 6 (by decide) (hw 0 (.fieldLink RX2 31 "NumberFormats$Format" "sorts" "[I") rfl) (fun _ h9 => h9) rfl dX2_sort_14 ?_
      refine lv_iload_n hx hb dX2_sort_17 rfl (lv_at hl 1 rfl) ?_
      have h_18 : vp_in s1 4 := by rw [vp_in_iff]; omega
      refine va_iald hx hb hK hP 1 0 rfl rfl h_18 dX2_sort_18 ?_
      refine lv_topi (fun x_3 ex_3 => ?_)
      refine lv_goto (tgt := 23) hx hb dX2_sort_19 (by decide) ?_
      exact W.iret (v := x_3) hx hb hr (fun t ht hW => ⟨⟨x_3, (), rfl, (by subst_vars; (try dsimp only); exact ⟨fun h9 => by first | rfl | (exfalso; omega), fun h9 => by first | rfl | (exfalso; omega)⟩), trivial⟩, hS.F ht⟩) hS.2.2 dX2_sort_23

def ow_X2_setSort : List Cond := [Cond.fieldLink RX2 31 "NumberFormats$Format" "sorts" "[I"]
def pw_X2_setSort : List Cond := Cond.code yX2_setSort cX2_setSort 3 none :: (ow_X2_setSort ++ (wsX20))
set_option maxRecDepth 20000 in
theorem mo_X2_setSort : ∀ w ∈ ow_X2_setSort, w ∈ lw_tbl := by decide +kernel
set_option maxRecDepth 20000 in
theorem mc_X2_setSort : Cond.code yX2_setSort cX2_setSort 3 none ∈ lw_tbl := by decide +kernel
theorem m_X2_setSort : ∀ w ∈ pw_X2_setSort, w ∈ lw_tbl := List.forall_mem_cons.mpr ⟨mc_X2_setSort, (List.forall_mem_append.mpr ⟨mo_X2_setSort, inX2⟩)⟩
theorem ko_X2_setSort : ∀ w ∈ ow_X2_setSort, goodWord w = true := by decide +kernel
theorem k_X2_setSort : pw_X2_setSort.all goodWord = true := List.all_eq_true.mpr (List.forall_mem_cons.mpr ⟨by decide +kernel, (List.forall_mem_append.mpr ⟨ko_X2_setSort, kX_X2⟩)⟩)
set_option maxHeartbeats 400000 in
set_option maxRecDepth 100000 in
theorem c_X2_setSort (l : Launch) (D : va_G) (cI cD cJ : ClassId) (sz : Nat) (f : Nat) (f_kinds : Nat) (f_signs : Nat) (f_sizes : Nat) (f_places : Nat) (f_limits : Nat) (f_starts : Nat) (f_sorts : Nat) (f_count : Int32) (f_sections : Int32) (f_fifth : Int32) (sorF : Nat → Int32) (s1 : Int32) (v1 : Int32) : Met l yX2_setSort pw_X2_setSort ({ frames := 0, cells := 0, slots := 0, locals := 0 }) (va_Pc [.ref f, .int s1, .int v1] (fun U => U.heap.size = sz ∧ va_P D vwCl [(f, .inr (2, [.ref f_kinds, .ref f_signs, .ref f_sizes, .ref f_places, .ref f_limits, .ref f_starts, .ref f_sorts, .int f_count, .int f_sections, .int f_fifth])), (f_sorts, .inl (cI, 4, .inl sorF))] U.heap ∧ va_K D vwCl (ty3 cI cD cJ) U ∧ va_D (fun _ => True) [(f, .inr (2, [.ref f_kinds, .ref f_signs, .ref f_sizes, .ref f_places, .ref f_limits, .ref f_starts, .ref f_sorts, .int f_count, .int f_sections, .int f_fifth])), (f_sorts, .inl (cI, 4, .inl sorF))])) (va_Qv (fun (sorF2 : (Nat → Int32)) => (0 ≤ s1.toInt ∧ s1.toInt < 4 → sorF2 = upd sorF s1.toNatClampNeg v1) ∧ (s1.toInt < 0 ∨ 4 ≤ s1.toInt → sorF2 = sorF)) (fun (sorF2 : (Nat → Int32)) (t : State) => va_P D vwCl [(f, .inr (2, [.ref f_kinds, .ref f_signs, .ref f_sizes, .ref f_places, .ref f_limits, .ref f_starts, .ref f_sorts, .int f_count, .int f_sections, .int f_fifth])), (f_sorts, .inl (cI, 4, .inl sorF2))] t.heap ∧ va_K D vwCl (ty3 cI cD cJ) t ∧ va_D (va_A [(f, .inr (2, [.ref f_kinds, .ref f_signs, .ref f_sizes, .ref f_places, .ref f_limits, .ref f_starts, .ref f_sorts, .int f_count, .int f_sections, .int f_fifth])), (f_sorts, .inl (cI, 4, .inl sorF))] sz) [(f, .inr (2, [.ref f_kinds, .ref f_signs, .ref f_sizes, .ref f_places, .ref f_limits, .ref f_starts, .ref f_sorts, .int f_count, .int f_sections, .int f_fifth])), (f_sorts, .inl (cI, 4, .inl sorF2))]) (va_A [(f, .inr (2, [.ref f_kinds, .ref f_signs, .ref f_sizes, .ref f_places, .ref f_limits, .ref f_starts, .ref f_sorts, .int f_count, .int f_sections, .int f_fifth])), (f_sorts, .inl (cI, 4, .inl sorF))] sz)) 0 0 (va_A [(f, .inr (2, [.ref f_kinds, .ref f_signs, .ref f_sizes, .ref f_places, .ref f_limits, .ref f_starts, .ref f_sorts, .int f_count, .int f_sections, .int f_fifth])), (f_sorts, .inl (cI, 4, .inl sorF))] sz) := by
  refine Met.ofW (cc := cX2_setSort) (maxL := 3) (ret := none) (by decide) rfl ?_
  intro p e s m args below meth c s₁ B hml hv
  obtain ⟨rfl, hsz, hP, hK, hD0⟩ := hv
  have hx := B.exec
  have hb := B.bytes
  have hr := B.returns
  have hts := atoms_spec (ws := pw_X2_setSort) B.pre
  have hown : s.vm.findClass RX2 = some m.cls := findClass_of_methodNamed B.named
  have hlocks := B.notSynchronized
  subst hsz
  have hD := hD0.self (sz := s.heap.size)
  generalize hAe : va_A [(f, .inr (2, [.ref f_kinds, .ref f_signs, .ref f_sizes, .ref f_places, .ref f_limits, .ref f_starts, .ref f_sorts, .int f_count, .int f_sections, .int f_fifth])), (f_sorts, .inl (cI, 4, .inl sorF))] s.heap.size = A at hD ⊢
  have hA : ∀ q : Nat, s.heap.size ≤ q → A q := fun q h => by rw [← hAe]; exact Or.inr h
  have hS : va_S A s.heap s.heap [] := va_S.rf
  have hw : ∀ (k : Nat) (w : Cond), ow_X2_setSort[k]? = some w → w.before _ s = true := fun k w h => hts w (List.mem_cons_of_mem _ (have h9 := List.mem_of_getElem? h; List.mem_append_left _ h9))
  have iX2 : ∀ w ∈ u_ws RX2 TX2 10, w ∈ pw_X2_setSort := fun w h9 => List.mem_cons_of_mem _ (List.mem_append_right _ (h9))
  have n_0 : ((0 : Int32)).toInt = 0 := by decide
  have n_4 : ((4 : Int32)).toInt = 4 := by decide
  have hl := lv_entry ([.ref f, .int s1, .int v1]) (n := 3) (Nat.le_of_ble_eq_true rfl)
  rw [lg_entry_eq]
  generalize (lg_sl ([.ref f, .int s1, .int v1]) ++ List.replicate (3 - (lg_sl ([.ref f, .int s1, .int v1])).length) Slot.unset).toArray = ls at hl ⊢
  have hl : lv_has ls 3 [(0, .ref f), (1, .int s1), (2, .int v1)] := hl
  have b_s1 := ti_b s1
  have b_v1 := ti_b v1
  refine lv_iload_n hx hb dX2_setSort_0 rfl (lv_at hl 1 rfl) ?_
  refine lv_if_lt (tgt := 20) hx hb dX2_setSort_1 (by decide) (fun c_1 => ?_) (fun c_1 => ?_)
  · have ic_1 : (s1 : Int32).toInt < (0 : Int32).toInt := (fa_lt s1 0).mp c_1
    have hP9 := hP.sub (ws' := [(f, .inr (2, [.ref f_kinds, .ref f_signs, .ref f_sizes, .ref f_places, .ref f_limits, .ref f_starts, .ref f_sorts, .int f_count, .int f_sections, .int f_fifth])), (f_sorts, .inl (cI, 4, .inl sorF))]) [0, 1] rfl
    have hD9 := hD.sub (ws' := [(f, .inr (2, [.ref f_kinds, .ref f_signs, .ref f_sizes, .ref f_places, .ref f_limits, .ref f_starts, .ref f_sorts, .int f_count, .int f_sections, .int f_fifth])), (f_sorts, .inl (cI, 4, .inl sorF))]) [0, 1] (by decide) rfl
    exact W.vret hx hb hr (fun t ht hW => ⟨⟨(sorF), rfl, (by subst_vars; (try dsimp only); exact ⟨fun h9 => by first | rfl | (exfalso; omega), fun h9 => by first | rfl | (exfalso; omega)⟩), by rw [ht]; exact hP9, va_K.moved hW.alike hK, hD9⟩, hS.F ht⟩) hS.2.2 dX2_setSort_20
  · have ic_1 : ¬ ((s1 : Int32).toInt < (0 : Int32).toInt) := fun h9 => c_1 ((fa_lt s1 0).mpr h9)
    refine lv_iload_n hx hb dX2_setSort_4 rfl (lv_at hl 1 rfl) ?_
    refine lv_aload_n hx hb dX2_setSort_5 rfl (lv_at hl 0 rfl) ?_
    refine va_get (D := D) (ci := 2) (v := .ref f_sorts) (C := RX2) (T := TX2) (N := 10) hx hb hts iX2 hown hK hP 0 rfl rfl 6 (by decide) (hw 0 (.fieldLink RX2 31 "NumberFormats$Format" "sorts" "[I") rfl) (fun _ h9 => h9) rfl dX2_setSort_6 ?_
    refine va_alen hx hb hK hP 1 0 rfl rfl (v := 4) rfl dX2_setSort_9 ?_
    refine lv_icmp_ge (tgt := 20) hx hb dX2_setSort_10 (by decide) (fun c_2 => ?_) (fun c_2 => ?_)
    · have ic_2 : (4 : Int32).toInt ≤ (s1 : Int32).toInt := (fa_le 4 s1).mp c_2
      have hP9 := hP.sub (ws' := [(f, .inr (2, [.ref f_kinds, .ref f_signs, .ref f_sizes, .ref f_places, .ref f_limits, .ref f_starts, .ref f_sorts, .int f_count, .int f_sections, .int f_fifth])), (f_sorts, .inl (cI, 4, .inl sorF))]) [0, 1] rfl
      have hD9 := hD.sub (ws' := [(f, .inr (2, [.ref f_kinds, .ref f_signs, .ref f_sizes, .ref f_places, .ref f_limits, .ref f_starts, .ref f_sorts, .int f_count, .int f_sections, .int f_fifth])), (f_sorts, .inl (cI, 4, .inl sorF))]) [0, 1] (by decide) rfl
      exact W.vret hx hb hr (fun t ht hW => ⟨⟨(sorF), rfl, (by subst_vars; (try dsimp only); exact ⟨fun h9 => by first | rfl | (exfalso; omega), fun h9 => by first | rfl | (exfalso; omega)⟩), by rw [ht]; exact hP9, va_K.moved hW.alike hK, hD9⟩, hS.F ht⟩) hS.2.2 dX2_setSort_20
    · have ic_2 : ¬ ((4 : Int32).toInt ≤ (s1 : Int32).toInt) := fun h9 => c_2 ((fa_le 4 s1).mpr h9)
      refine lv_aload_n hx hb dX2_setSort_13 rfl (lv_at hl 0 rfl) ?_
      refine va_get (D := D) (ci := 2) (v := .ref f_sorts) (C := RX2) (T := TX2) (N := 10) hx hb hts iX2 hown hK hP 0 rfl rfl 6 (by decide) (hw 0 (.fieldLink RX2 31 "NumberFormats$Format" "sorts" "[I") rfl) (fun _ h9 => h9) rfl dX2_setSort_14 ?_
      refine lv_iload_n hx hb dX2_setSort_17 rfl (lv_at hl 1 rfl) ?_
      refine lv_iload_n hx hb dX2_setSort_18 rfl (lv_at hl 2 rfl) ?_
      have h_19 : vp_in s1 4 := by rw [vp_in_iff]; omega
      refine va_iast hx hb hK hP hD hS 1 0 rfl rfl h_19 dX2_setSort_19 (fun H locs hP hD hS => ?_)
      obtain ⟨f_3, ef_3⟩ : ∃ y : Nat → Int32, y = upd sorF (s1 : Int32).toNatClampNeg v1 := ⟨_, rfl⟩
      rw [← ef_3] at hP hD
      have hP : va_P D vwCl [(f, .inr (2, [.ref f_kinds, .ref f_signs, .ref f_sizes, .ref f_places, .ref f_limits, .ref f_starts, .ref f_sorts, .int f_count, .int f_sections, .int f_fifth])), (f_sorts, .inl (cI, 4, .inl f_3))] H := hP
      have hD : va_D A [(f, .inr (2, [.ref f_kinds, .ref f_signs, .ref f_sizes, .ref f_places, .ref f_limits, .ref f_starts, .ref f_sorts, .int f_count, .int f_sections, .int f_fifth])), (f_sorts, .inl (cI, 4, .inl f_3))] := hD
      have hP9 := hP.sub (ws' := [(f, .inr (2, [.ref f_kinds, .ref f_signs, .ref f_sizes, .ref f_places, .ref f_limits, .ref f_starts, .ref f_sorts, .int f_count, .int f_sections, .int f_fifth])), (f_sorts, .inl (cI, 4, .inl f_3))]) [0, 1] rfl
      have hD9 := hD.sub (ws' := [(f, .inr (2, [.ref f_kinds, .ref f_signs, .ref f_sizes, .ref f_places, .ref f_limits, .ref f_starts, .ref f_sorts, .int f_count, .int f_sections, .int f_fifth])), (f_sorts, .inl (cI, 4, .inl f_3))]) [0, 1] (by decide) rfl
      exact W.vret hx hb hr (fun t ht hW => ⟨⟨(f_3), rfl, (by subst_vars; (try dsimp only); exact ⟨fun h9 => by first | rfl | (exfalso; omega), fun h9 => by first | rfl | (exfalso; omega)⟩), by rw [ht]; exact hP9, va_K.moved hW.alike hK, hD9⟩, hS.F ht⟩) hS.2.2 dX2_setSort_20

def ow_X2_find : List Cond := []
def pw_X2_find : List Cond := Cond.code yX2_find cX2_find 5 (some .int) :: (ow_X2_find)
set_option maxRecDepth 20000 in
theorem mo_X2_find : ∀ w ∈ ow_X2_find, w ∈ lw_tbl := by decide +kernel
set_option maxRecDepth 20000 in
theorem mc_X2_find : Cond.code yX2_find cX2_find 5 (some .int) ∈ lw_tbl := by decide +kernel
theorem m_X2_find : ∀ w ∈ pw_X2_find, w ∈ lw_tbl := List.forall_mem_cons.mpr ⟨mc_X2_find, mo_X2_find⟩
theorem ko_X2_find : ∀ w ∈ ow_X2_find, goodWord w = true := by decide +kernel
theorem k_X2_find : pw_X2_find.all goodWord = true := List.all_eq_true.mpr (List.forall_mem_cons.mpr ⟨by decide +kernel, ko_X2_find⟩)
set_option maxHeartbeats 400000 in
set_option maxRecDepth 100000 in
theorem c_X2_find0 (l : Launch) (D : va_G) (cI cD cJ : ClassId) (sz : Nat) (f : Nat) (f_kinds : Nat) (f_signs : Nat) (f_sizes : Nat) (f_places : Nat) (f_limits : Nat) (f_starts : Nat) (f_sorts : Nat) (f_count : Int32) (f_sections : Int32) (f_fifth : Int32) (kd : Int32) (fr : Int32) (tt : Int32) (hft : tt.toInt ≤ fr.toInt) : Met l yX2_find pw_X2_find ({ frames := 0, cells := 0, slots := 0, locals := 0 }) (va_Pc [.ref f, .int kd, .int fr, .int tt] (fun U => va_P D vwCl [(f, .inr (2, [.ref f_kinds, .ref f_signs, .ref f_sizes, .ref f_places, .ref f_limits, .ref f_starts, .ref f_sorts, .int f_count, .int f_sections, .int f_fifth]))] U.heap ∧ va_K D vwCl (ty3 cI cD cJ) U)) (va_Qi (fun (r : Int32) (u : Unit) => r.toInt = -1) (fun _ _ => True) (fun _ => False)) 0 0 (fun _ => False) := by
  refine Met.ofW (cc := cX2_find) (maxL := 5) (ret := (some .int)) (by decide) rfl ?_
  intro p e s m args below meth c s₁ B hml hv
  obtain ⟨rfl, hP, hK⟩ := hv
  have hx := B.exec
  have hb := B.bytes
  have hr := B.returns
  have hts := atoms_spec (ws := pw_X2_find) B.pre
  have hown : s.vm.findClass RX2 = some m.cls := findClass_of_methodNamed B.named
  have hlocks := B.notSynchronized
  have hS : va_S (fun _ => False) s.heap s.heap [] := va_S.rf
  have hw : ∀ (k : Nat) (w : Cond), ow_X2_find[k]? = some w → w.before _ s = true := fun k w h => hts w (List.mem_cons_of_mem _ (have h9 := List.mem_of_getElem? h; h9))
  have n_m1 : (((-1) : Int32)).toInt = (-1) := by decide
  have hl := lv_entry ([.ref f, .int kd, .int fr, .int tt]) (n := 5) (Nat.le_of_ble_eq_true rfl)
  rw [lg_entry_eq]
  generalize (lg_sl ([.ref f, .int kd, .int fr, .int tt]) ++ List.replicate (5 - (lg_sl ([.ref f, .int kd, .int fr, .int tt])).length) Slot.unset).toArray = ls at hl ⊢
  have hl : lv_has ls 5 [(0, .ref f), (1, .int kd), (2, .int fr), (3, .int tt)] := hl
  have b_kd := ti_b kd
  have b_fr := ti_b fr
  have b_tt := ti_b tt
  refine lv_iload_n hx hb dX2_find_0 rfl (lv_at hl 2 rfl) ?_
  refine lv_istore (lv' := [(4, .int fr), (0, .ref f), (1, .int kd), (2, .int fr), (3, .int tt)]) hx hb dX2_find_1 hl (by decide) rfl (fun ls hl => ?_)
  refine lv_iload hx hb dX2_find_3 (lv_at hl 0 rfl) ?_
  refine lv_iload_n hx hb dX2_find_5 rfl (lv_at hl 4 rfl) ?_
  refine lv_icmp_ge (tgt := 28) hx hb dX2_find_6 (by decide) (fun c_1 => ?_) (fun c_1 => by have ic_1 : ¬ ((tt : Int32).toInt ≤ (fr : Int32).toInt) := fun h9 => c_1 ((fa_le tt fr).mpr h9); exfalso; omega)
  have ic_1 : (tt : Int32).toInt ≤ (fr : Int32).toInt := (fa_le tt fr).mp c_1
  refine lv_iconst (v := (-1)) hx hb dX2_find_28 (by decide) ?_
  exact W.iret (v := (-1)) hx hb hr (fun t ht hW => ⟨⟨(-1), (), rfl, (by (try dsimp only); omega), trivial⟩, hS.F ht⟩) hS.2.2 dX2_find_29

def ow_X2_findIn : List Cond := [Cond.methodLink RX2 52 yX2_from, Cond.instanceMethod yX2_from, Cond.selects RX2 yX2_from yX2_from, Cond.initialized RX2, Cond.methodLink RX2 56 yX2_to, Cond.instanceMethod yX2_to, Cond.selects RX2 yX2_to yX2_to, Cond.methodLink RX2 62 yX2_find, Cond.instanceMethod yX2_find, Cond.selects RX2 yX2_find yX2_find]
def pw_X2_findIn : List Cond := Cond.code yX2_findIn cX2_findIn 3 (some .int) :: (ow_X2_findIn ++ (pw_X2_from ++ (pw_X2_to ++ (pw_X2_find))))
set_option maxRecDepth 20000 in
theorem mo_X2_findIn : ∀ w ∈ ow_X2_findIn, w ∈ lw_tbl := by decide +kernel
set_option maxRecDepth 20000 in
theorem mc_X2_findIn : Cond.code yX2_findIn cX2_findIn 3 (some .int) ∈ lw_tbl := by decide +kernel
theorem m_X2_findIn : ∀ w ∈ pw_X2_findIn, w ∈ lw_tbl := List.forall_mem_cons.mpr ⟨mc_X2_findIn, (List.forall_mem_append.mpr ⟨mo_X2_findIn, (List.forall_mem_append.mpr ⟨m_X2_from, (List.forall_mem_append.mpr ⟨m_X2_to, m_X2_find⟩)⟩)⟩)⟩
theorem ko_X2_findIn : ∀ w ∈ ow_X2_findIn, goodWord w = true := by decide +kernel
theorem k_X2_findIn : pw_X2_findIn.all goodWord = true := List.all_eq_true.mpr (List.forall_mem_cons.mpr ⟨by decide +kernel, (List.forall_mem_append.mpr ⟨ko_X2_findIn, (List.forall_mem_append.mpr ⟨(List.all_eq_true.mp k_X2_from), (List.forall_mem_append.mpr ⟨(List.all_eq_true.mp k_X2_to), (List.all_eq_true.mp k_X2_find)⟩)⟩)⟩)⟩)
set_option maxHeartbeats 400000 in
set_option maxRecDepth 100000 in
theorem c_X2_findIn0 (l : Launch) (D : va_G) (cI cD cJ : ClassId) (sz : Nat) (f : Nat) (f_kinds : Nat) (f_signs : Nat) (f_sizes : Nat) (f_places : Nat) (f_limits : Nat) (f_starts : Nat) (f_sorts : Nat) (staF : Nat → Int32) (kd : Int32) (hst : staF 0 = 0) : Met l yX2_findIn pw_X2_findIn ({ frames := 1, cells := 0, slots := 0, locals := 24 }) (va_Pc [.ref f, .int 0, .int kd] (fun U => va_P D vwCl [(f, .inr (2, [.ref f_kinds, .ref f_signs, .ref f_sizes, .ref f_places, .ref f_limits, .ref f_starts, .ref f_sorts, .int 0, .int 1, .int (-1)])), (f_starts, .inl (cI, 4, .inl staF))] U.heap ∧ va_K D vwCl (ty3 cI cD cJ) U)) (va_Qi (fun (r : Int32) (u : Unit) => r.toInt = -1) (fun _ _ => True) (fun _ => False)) 0 0 (fun _ => False) := by
  refine Met.ofW (cc := cX2_findIn) (maxL := 3) (ret := (some .int)) (by decide) rfl ?_
  intro p e s m args below meth c s₁ B hml hv
  obtain ⟨rfl, hP, hK⟩ := hv
  have hx := B.exec
  have hb := B.bytes
  have hr := B.returns
  have hts := atoms_spec (ws := pw_X2_findIn) B.pre
  have hown : s.vm.findClass RX2 = some m.cls := findClass_of_methodNamed B.named
  have hlocks := B.notSynchronized
  have hS : va_S (fun _ => False) s.heap s.heap [] := va_S.rf
  have hw : ∀ (k : Nat) (w : Cond), ow_X2_findIn[k]? = some w → w.before _ s = true := fun k w h => hts w (List.mem_cons_of_mem _ (have h9 := List.mem_of_getElem? h; List.mem_append_left _ h9))
  have i_X2_from : ∀ w ∈ pw_X2_from, w ∈ pw_X2_findIn := fun w h9 => List.mem_cons_of_mem _ (List.mem_append_right _ (List.mem_append_left _ h9))
  have i_X2_to : ∀ w ∈ pw_X2_to, w ∈ pw_X2_findIn := fun w h9 => List.mem_cons_of_mem _ (List.mem_append_right _ (List.mem_append_right _ (List.mem_append_left _ h9)))
  have i_X2_find : ∀ w ∈ pw_X2_find, w ∈ pw_X2_findIn := fun w h9 => List.mem_cons_of_mem _ (List.mem_append_right _ (List.mem_append_right _ (List.mem_append_right _ (h9))))
  have n_m1 : (((-1) : Int32)).toInt = (-1) := by decide
  have n_0 : ((0 : Int32)).toInt = 0 := by decide
  have n_1 : ((1 : Int32)).toInt = 1 := by decide
  have hl := lv_entry ([.ref f, .int 0, .int kd]) (n := 3) (Nat.le_of_ble_eq_true rfl)
  rw [lg_entry_eq]
  generalize (lg_sl ([.ref f, .int 0, .int kd]) ++ List.replicate (3 - (lg_sl ([.ref f, .int 0, .int kd])).length) Slot.unset).toArray = ls at hl ⊢
  have hl : lv_has ls 3 [(0, .ref f), (1, .int 0), (2, .int kd)] := hl
  have b_kd := ti_b kd
  refine lv_aload_n hx hb dX2_findIn_0 rfl (lv_at hl 0 rfl) ?_
  refine lv_iload_n hx hb dX2_findIn_1 rfl (lv_at hl 2 rfl) ?_
  refine lv_aload_n hx hb dX2_findIn_2 rfl (lv_at hl 0 rfl) ?_
  refine lv_iload_n hx hb dX2_findIn_3 rfl (lv_at hl 1 rfl) ?_
  have hPc := hP.sub (ws' := [(f, .inr (2, [.ref f_kinds, .ref f_signs, .ref f_sizes, .ref f_places, .ref f_limits, .ref f_starts, .ref f_sorts, .int 0, .int 1, .int (-1)])), (f_starts, .inl (cI, 4, .inl staF))]) [0, 1] rfl
  refine va_calli (va_runV (As := [.int 0]) (rest := [.int kd, .ref f]) ⟨hx, hb, hml, hown, hts⟩ (c_X2_from l D cI cD cJ s.heap.size f f_kinds f_signs f_sizes f_places f_limits f_starts f_sorts 0 1 (-1) staF 0) (cwV 1 hts (goodIn_app (goodIn_r _ [1, 2, 3, 4] rfl (by decide +kernel)) (goodIn_sub i_X2_from k_X2_from)) rfl rfl rfl (by decide +kernel) ⟨Nat.le_of_ble_eq_true rfl, Nat.le_of_ble_eq_true rfl⟩) ⟨fun a U g mk q => by obtain ⟨q0, qP, qK⟩ := q; exact ⟨q0, qP, va_K.moved (u := U) (U := U.calling g mk a) (Vm.Alike.refl U.vm) qK⟩, va_recv hK hPc (ci := 2) (q0 := 0) rfl rfl, fun U hU hW => ⟨rfl, by rw [hU]; exact hPc, va_K.moved hW.alike hK⟩⟩ rfl rfl hl.1 rfl (lv_room (Nat.le_of_ble_eq_true rfl)) dX2_findIn_4 ⟨Nat.le_of_ble_eq_true rfl, Nat.le_of_ble_eq_true rfl⟩) hS (fun q _ h => h.elim) (fun q h => h.elim) (fun x_1 u t H1 locs ht hvm w_2 hB hz1 hk1 hS => ?_)
  have hP : va_P D vwCl [(f, .inr (2, [.ref f_kinds, .ref f_signs, .ref f_sizes, .ref f_places, .ref f_limits, .ref f_starts, .ref f_sorts, .int 0, .int 1, .int (-1)])), (f_starts, .inl (cI, 4, .inl staF))] H1 := hP.kept (fun k9 q9 h9 => hk1 q9.1 (vx_lt hP h9) (fun h => h))
  generalize H1 = H at hP hS ⊢
  try dsimp only at w_2
  have z_x_1 : (x_1 : Int32).toInt = 0 := by rw [w_2.1 ⟨by omega, by omega, by omega⟩, sb_cl0, hst]; rfl
  refine lv_aload_n hx hb dX2_findIn_7 rfl (lv_at hl 0 rfl) ?_
  refine lv_iload_n hx hb dX2_findIn_8 rfl (lv_at hl 1 rfl) ?_
  have hPc := hP.sub (ws' := [(f, .inr (2, [.ref f_kinds, .ref f_signs, .ref f_sizes, .ref f_places, .ref f_limits, .ref f_starts, .ref f_sorts, .int 0, .int 1, .int (-1)]))]) [0] rfl
  refine va_calli (va_runV (As := [.int 0]) (rest := [.int x_1, .int kd, .ref f]) ⟨hx, hb, hml, hown, hts⟩ (c_X2_to0 l D cI cD cJ H.size f f_kinds f_signs f_sizes f_places f_limits f_starts f_sorts 0 (-1)) (cwV 1 hts (goodIn_app (goodIn_r _ [5, 6, 7, 4] rfl (by decide +kernel)) (goodIn_sub i_X2_to k_X2_to)) rfl rfl rfl (by decide +kernel) ⟨Nat.le_of_ble_eq_true rfl, Nat.le_of_ble_eq_true rfl⟩) ⟨fun a U g mk q => by obtain ⟨q0, qP, qK⟩ := q; exact ⟨q0, qP, va_K.moved (u := U) (U := U.calling g mk a) (Vm.Alike.refl U.vm) qK⟩, va_recv hK hPc (ci := 2) (q0 := 0) rfl rfl, fun U hU hW => ⟨rfl, by rw [hU]; exact hPc, va_K.moved hW.alike hK⟩⟩ rfl rfl hl.1 rfl (lv_room (Nat.le_of_ble_eq_true rfl)) dX2_findIn_9 ⟨Nat.le_of_ble_eq_true rfl, Nat.le_of_ble_eq_true rfl⟩) hS (fun q _ h => h.elim) (fun q h => h.elim) (fun x_3 u t H1 locs ht hvm w_4 hB hz1 hk1 hS => ?_)
  have hP : va_P D vwCl [(f, .inr (2, [.ref f_kinds, .ref f_signs, .ref f_sizes, .ref f_places, .ref f_limits, .ref f_starts, .ref f_sorts, .int 0, .int 1, .int (-1)])), (f_starts, .inl (cI, 4, .inl staF))] H1 := hP.kept (fun k9 q9 h9 => hk1 q9.1 (vx_lt hP h9) (fun h => h))
  generalize H1 = H at hP hS ⊢
  try dsimp only at w_4
  have z_x_3 : (x_3 : Int32).toInt = 0 := by rw [w_4]; rfl
  have hPc := hP.sub (ws' := [(f, .inr (2, [.ref f_kinds, .ref f_signs, .ref f_sizes, .ref f_places, .ref f_limits, .ref f_starts, .ref f_sorts, .int 0, .int 1, .int (-1)]))]) [0] rfl
  refine va_calli (va_runV (As := [.int kd, .int x_1, .int x_3]) (rest := []) ⟨hx, hb, hml, hown, hts⟩ (c_X2_find0 l D cI cD cJ H.size f f_kinds f_signs f_sizes f_places f_limits f_starts f_sorts 0 1 (-1) kd x_1 x_3 (by omega)) (cwV 3 hts (goodIn_app (goodIn_r _ [8, 9, 10, 4] rfl (by decide +kernel)) (goodIn_sub i_X2_find k_X2_find)) rfl rfl rfl (by decide +kernel) ⟨Nat.le_of_ble_eq_true rfl, Nat.le_of_ble_eq_true rfl⟩) ⟨fun a U g mk q => by obtain ⟨q0, qP, qK⟩ := q; exact ⟨q0, qP, va_K.moved (u := U) (U := U.calling g mk a) (Vm.Alike.refl U.vm) qK⟩, va_recv hK hPc (ci := 2) (q0 := 0) rfl rfl, fun U hU hW => ⟨rfl, by rw [hU]; exact hPc, va_K.moved hW.alike hK⟩⟩ rfl rfl hl.1 rfl (lv_room (Nat.le_of_ble_eq_true rfl)) dX2_findIn_12 ⟨Nat.le_of_ble_eq_true rfl, Nat.le_of_ble_eq_true rfl⟩) hS (fun q _ h => h.elim) (fun q h => h.elim) (fun x_5 u t H1 locs ht hvm w_6 hB hz1 hk1 hS => ?_)
  have hP : va_P D vwCl [(f, .inr (2, [.ref f_kinds, .ref f_signs, .ref f_sizes, .ref f_places, .ref f_limits, .ref f_starts, .ref f_sorts, .int 0, .int 1, .int (-1)])), (f_starts, .inl (cI, 4, .inl staF))] H1 := hP.kept (fun k9 q9 h9 => hk1 q9.1 (vx_lt hP h9) (fun h => h))
  generalize H1 = H at hP hS ⊢
  try dsimp only at w_6
  exact W.iret (v := x_5) hx hb hr (fun t ht hW => ⟨⟨x_5, (), rfl, (by assumption), trivial⟩, hS.F ht⟩) hS.2.2 dX2_findIn_15

def ow_X5_sortOf : List Cond := [Cond.methodLink RX5 45 yX2_findIn, Cond.instanceMethod yX2_findIn, Cond.selects RX2 yX2_findIn yX2_findIn, Cond.initialized RX2]
def pw_X5_sortOf : List Cond := Cond.code yX5_sortOf cX5_sortOf 2 (some .int) :: (ow_X5_sortOf ++ (pw_X2_findIn))
set_option maxRecDepth 20000 in
theorem mo_X5_sortOf : ∀ w ∈ ow_X5_sortOf, w ∈ lw_tbl := by decide +kernel
set_option maxRecDepth 20000 in
theorem mc_X5_sortOf : Cond.code yX5_sortOf cX5_sortOf 2 (some .int) ∈ lw_tbl := by decide +kernel
theorem m_X5_sortOf : ∀ w ∈ pw_X5_sortOf, w ∈ lw_tbl := List.forall_mem_cons.mpr ⟨mc_X5_sortOf, (List.forall_mem_append.mpr ⟨mo_X5_sortOf, m_X2_findIn⟩)⟩
theorem ko_X5_sortOf : ∀ w ∈ ow_X5_sortOf, goodWord w = true := by decide +kernel
theorem k_X5_sortOf : pw_X5_sortOf.all goodWord = true := List.all_eq_true.mpr (List.forall_mem_cons.mpr ⟨by decide +kernel, (List.forall_mem_append.mpr ⟨ko_X5_sortOf, (List.all_eq_true.mp k_X2_findIn)⟩)⟩)
set_option maxHeartbeats 400000 in
set_option maxRecDepth 100000 in
theorem c_X5_sortOf0 (l : Launch) (D : va_G) (cI cD cJ : ClassId) (sz : Nat) (f : Nat) (f_kinds : Nat) (f_signs : Nat) (f_sizes : Nat) (f_places : Nat) (f_limits : Nat) (f_starts : Nat) (f_sorts : Nat) (staF : Nat → Int32) (hst : staF 0 = 0) : Met l yX5_sortOf pw_X5_sortOf ({ frames := 2, cells := 0, slots := 0, locals := 46 }) (va_Pc [.ref f, .int 0] (fun U => va_P D vwCl [(f, .inr (2, [.ref f_kinds, .ref f_signs, .ref f_sizes, .ref f_places, .ref f_limits, .ref f_starts, .ref f_sorts, .int 0, .int 1, .int (-1)])), (f_starts, .inl (cI, 4, .inl staF))] U.heap ∧ va_K D vwCl (ty3 cI cD cJ) U)) (va_Qi (fun (r : Int32) (u : Unit) => r.toInt = 0) (fun _ _ => True) (fun _ => False)) 0 0 (fun _ => False) := by
  refine Met.ofW (cc := cX5_sortOf) (maxL := 2) (ret := (some .int)) (by decide) rfl ?_
  intro p e s m args below meth c s₁ B hml hv
  obtain ⟨rfl, hP, hK⟩ := hv
  have hx := B.exec
  have hb := B.bytes
  have hr := B.returns
  have hts := atoms_spec (ws := pw_X5_sortOf) B.pre
  have hown : s.vm.findClass RX5 = some m.cls := findClass_of_methodNamed B.named
  have hlocks := B.notSynchronized
  have hS : va_S (fun _ => False) s.heap s.heap [] := va_S.rf
  have hw : ∀ (k : Nat) (w : Cond), ow_X5_sortOf[k]? = some w → w.before _ s = true := fun k w h => hts w (List.mem_cons_of_mem _ (have h9 := List.mem_of_getElem? h; List.mem_append_left _ h9))
  have i_X2_findIn : ∀ w ∈ pw_X2_findIn, w ∈ pw_X5_sortOf := fun w h9 => List.mem_cons_of_mem _ (List.mem_append_right _ (h9))
  have n_m1 : (((-1) : Int32)).toInt = (-1) := by decide
  have n_0 : ((0 : Int32)).toInt = 0 := by decide
  have n_1 : ((1 : Int32)).toInt = 1 := by decide
  have n_11 : ((11 : Int32)).toInt = 11 := by decide
  have n_12 : ((12 : Int32)).toInt = 12 := by decide
  have n_13 : ((13 : Int32)).toInt = 13 := by decide
  have n_3 : ((3 : Int32)).toInt = 3 := by decide
  have n_4 : ((4 : Int32)).toInt = 4 := by decide
  have n_9 : ((9 : Int32)).toInt = 9 := by decide
  have hl := lv_entry ([.ref f, .int 0]) (n := 2) (Nat.le_of_ble_eq_true rfl)
  rw [lg_entry_eq]
  generalize (lg_sl ([.ref f, .int 0]) ++ List.replicate (2 - (lg_sl ([.ref f, .int 0])).length) Slot.unset).toArray = ls at hl ⊢
  have hl : lv_has ls 2 [(0, .ref f), (1, .int 0)] := hl
  refine lv_aload_n hx hb dX5_sortOf_0 rfl (lv_at hl 0 rfl) ?_
  refine lv_iload_n hx hb dX5_sortOf_1 rfl (lv_at hl 1 rfl) ?_
  refine lv_bipush (v := 13) hx hb dX5_sortOf_2 (by decide) ?_
  have hPc := hP.sub (ws' := [(f, .inr (2, [.ref f_kinds, .ref f_signs, .ref f_sizes, .ref f_places, .ref f_limits, .ref f_starts, .ref f_sorts, .int 0, .int 1, .int (-1)])), (f_starts, .inl (cI, 4, .inl staF))]) [0, 1] rfl
  refine va_calli (va_runV (As := [.int 0, .int 13]) (rest := []) ⟨hx, hb, hml, hown, hts⟩ (c_X2_findIn0 l D cI cD cJ s.heap.size f f_kinds f_signs f_sizes f_places f_limits f_starts f_sorts staF 13 hst) (cwV 2 hts (goodIn_app (goodIn_r _ [1, 2, 3, 4] rfl (by decide +kernel)) (goodIn_sub i_X2_findIn k_X2_findIn)) rfl rfl rfl (by decide +kernel) ⟨Nat.le_of_ble_eq_true rfl, Nat.le_of_ble_eq_true rfl⟩) ⟨fun a U g mk q => by obtain ⟨q0, qP, qK⟩ := q; exact ⟨q0, qP, va_K.moved (u := U) (U := U.calling g mk a) (Vm.Alike.refl U.vm) qK⟩, va_recv hK hPc (ci := 2) (q0 := 0) rfl rfl, fun U hU hW => ⟨rfl, by rw [hU]; exact hPc, va_K.moved hW.alike hK⟩⟩ rfl rfl hl.1 rfl (lv_room (Nat.le_of_ble_eq_true rfl)) dX5_sortOf_4 ⟨Nat.le_of_ble_eq_true rfl, Nat.le_of_ble_eq_true rfl⟩) hS (fun q _ h => h.elim) (fun q h => h.elim) (fun x_1 u t H1 locs ht hvm w_2 hB hz1 hk1 hS => ?_)
  have hP : va_P D vwCl [(f, .inr (2, [.ref f_kinds, .ref f_signs, .ref f_sizes, .ref f_places, .ref f_limits, .ref f_starts, .ref f_sorts, .int 0, .int 1, .int (-1)])), (f_starts, .inl (cI, 4, .inl staF))] H1 := hP.kept (fun k9 q9 h9 => hk1 q9.1 (vx_lt hP h9) (fun h => h))
  generalize H1 = H at hP hS ⊢
  try dsimp only at w_2
  refine lv_iconst (v := (-1)) hx hb dX5_sortOf_7 (by decide) ?_
  refine lv_icmp_ne (tgt := 32) hx hb dX5_sortOf_8 (by decide) (fun c_3 => by have ic_3 : ¬ ((x_1 : Int32).toInt = ((-1) : Int32).toInt) := fun h9 => c_3 ((fa_eq x_1 (-1)).mpr h9); exfalso; omega) (fun c_3 => ?_)
  have ic_3 : (x_1 : Int32).toInt = ((-1) : Int32).toInt := (fa_eq x_1 (-1)).mp c_3
  refine lv_aload_n hx hb dX5_sortOf_11 rfl (lv_at hl 0 rfl) ?_
  refine lv_iload_n hx hb dX5_sortOf_12 rfl (lv_at hl 1 rfl) ?_
  refine lv_iconst (v := 3) hx hb dX5_sortOf_13 (by decide) ?_
  have hPc := hP.sub (ws' := [(f, .inr (2, [.ref f_kinds, .ref f_signs, .ref f_sizes, .ref f_places, .ref f_limits, .ref f_starts, .ref f_sorts, .int 0, .int 1, .int (-1)])), (f_starts, .inl (cI, 4, .inl staF))]) [0, 1] rfl
  refine va_calli (va_runV (As := [.int 0, .int 3]) (rest := []) ⟨hx, hb, hml, hown, hts⟩ (c_X2_findIn0 l D cI cD cJ H.size f f_kinds f_signs f_sizes f_places f_limits f_starts f_sorts staF 3 hst) (cwV 2 hts (goodIn_app (goodIn_r _ [1, 2, 3, 4] rfl (by decide +kernel)) (goodIn_sub i_X2_findIn k_X2_findIn)) rfl rfl rfl (by decide +kernel) ⟨Nat.le_of_ble_eq_true rfl, Nat.le_of_ble_eq_true rfl⟩) ⟨fun a U g mk q => by obtain ⟨q0, qP, qK⟩ := q; exact ⟨q0, qP, va_K.moved (u := U) (U := U.calling g mk a) (Vm.Alike.refl U.vm) qK⟩, va_recv hK hPc (ci := 2) (q0 := 0) rfl rfl, fun U hU hW => ⟨rfl, by rw [hU]; exact hPc, va_K.moved hW.alike hK⟩⟩ rfl rfl hl.1 rfl (lv_room (Nat.le_of_ble_eq_true rfl)) dX5_sortOf_14 ⟨Nat.le_of_ble_eq_true rfl, Nat.le_of_ble_eq_true rfl⟩) hS (fun q _ h => h.elim) (fun q h => h.elim) (fun x_4 u t H1 locs ht hvm w_5 hB hz1 hk1 hS => ?_)
  have hP : va_P D vwCl [(f, .inr (2, [.ref f_kinds, .ref f_signs, .ref f_sizes, .ref f_places, .ref f_limits, .ref f_starts, .ref f_sorts, .int 0, .int 1, .int (-1)])), (f_starts, .inl (cI, 4, .inl staF))] H1 := hP.kept (fun k9 q9 h9 => hk1 q9.1 (vx_lt hP h9) (fun h => h))
  generalize H1 = H at hP hS ⊢
  try dsimp only at w_5
  refine lv_iconst (v := (-1)) hx hb dX5_sortOf_17 (by decide) ?_
  refine lv_icmp_ne (tgt := 32) hx hb dX5_sortOf_18 (by decide) (fun c_6 => by have ic_6 : ¬ ((x_4 : Int32).toInt = ((-1) : Int32).toInt) := fun h9 => c_6 ((fa_eq x_4 (-1)).mpr h9); exfalso; omega) (fun c_6 => ?_)
  have ic_6 : (x_4 : Int32).toInt = ((-1) : Int32).toInt := (fa_eq x_4 (-1)).mp c_6
  refine lv_aload_n hx hb dX5_sortOf_21 rfl (lv_at hl 0 rfl) ?_
  refine lv_iload_n hx hb dX5_sortOf_22 rfl (lv_at hl 1 rfl) ?_
  refine lv_bipush (v := 12) hx hb dX5_sortOf_23 (by decide) ?_
  have hPc := hP.sub (ws' := [(f, .inr (2, [.ref f_kinds, .ref f_signs, .ref f_sizes, .ref f_places, .ref f_limits, .ref f_starts, .ref f_sorts, .int 0, .int 1, .int (-1)])), (f_starts, .inl (cI, 4, .inl staF))]) [0, 1] rfl
  refine va_calli (va_runV (As := [.int 0, .int 12]) (rest := []) ⟨hx, hb, hml, hown, hts⟩ (c_X2_findIn0 l D cI cD cJ H.size f f_kinds f_signs f_sizes f_places f_limits f_starts f_sorts staF 12 hst) (cwV 2 hts (goodIn_app (goodIn_r _ [1, 2, 3, 4] rfl (by decide +kernel)) (goodIn_sub i_X2_findIn k_X2_findIn)) rfl rfl rfl (by decide +kernel) ⟨Nat.le_of_ble_eq_true rfl, Nat.le_of_ble_eq_true rfl⟩) ⟨fun a U g mk q => by obtain ⟨q0, qP, qK⟩ := q; exact ⟨q0, qP, va_K.moved (u := U) (U := U.calling g mk a) (Vm.Alike.refl U.vm) qK⟩, va_recv hK hPc (ci := 2) (q0 := 0) rfl rfl, fun U hU hW => ⟨rfl, by rw [hU]; exact hPc, va_K.moved hW.alike hK⟩⟩ rfl rfl hl.1 rfl (lv_room (Nat.le_of_ble_eq_true rfl)) dX5_sortOf_25 ⟨Nat.le_of_ble_eq_true rfl, Nat.le_of_ble_eq_true rfl⟩) hS (fun q _ h => h.elim) (fun q h => h.elim) (fun x_7 u t H1 locs ht hvm w_8 hB hz1 hk1 hS => ?_)
  have hP : va_P D vwCl [(f, .inr (2, [.ref f_kinds, .ref f_signs, .ref f_sizes, .ref f_places, .ref f_limits, .ref f_starts, .ref f_sorts, .int 0, .int 1, .int (-1)])), (f_starts, .inl (cI, 4, .inl staF))] H1 := hP.kept (fun k9 q9 h9 => hk1 q9.1 (vx_lt hP h9) (fun h => h))
  generalize H1 = H at hP hS ⊢
  try dsimp only at w_8
  refine lv_iconst (v := (-1)) hx hb dX5_sortOf_28 (by decide) ?_
  refine lv_icmp_eq (tgt := 34) hx hb dX5_sortOf_29 (by decide) (fun c_9 => ?_) (fun c_9 => by have ic_9 : ¬ ((x_7 : Int32).toInt = ((-1) : Int32).toInt) := fun h9 => c_9 ((fa_eq x_7 (-1)).mpr h9); exfalso; omega)
  have ic_9 : (x_7 : Int32).toInt = ((-1) : Int32).toInt := (fa_eq x_7 (-1)).mp c_9
  refine lv_aload_n hx hb dX5_sortOf_34 rfl (lv_at hl 0 rfl) ?_
  refine lv_iload_n hx hb dX5_sortOf_35 rfl (lv_at hl 1 rfl) ?_
  refine lv_bipush (v := 9) hx hb dX5_sortOf_36 (by decide) ?_
  have hPc := hP.sub (ws' := [(f, .inr (2, [.ref f_kinds, .ref f_signs, .ref f_sizes, .ref f_places, .ref f_limits, .ref f_starts, .ref f_sorts, .int 0, .int 1, .int (-1)])), (f_starts, .inl (cI, 4, .inl staF))]) [0, 1] rfl
  refine va_calli (va_runV (As := [.int 0, .int 9]) (rest := []) ⟨hx, hb, hml, hown, hts⟩ (c_X2_findIn0 l D cI cD cJ H.size f f_kinds f_signs f_sizes f_places f_limits f_starts f_sorts staF 9 hst) (cwV 2 hts (goodIn_app (goodIn_r _ [1, 2, 3, 4] rfl (by decide +kernel)) (goodIn_sub i_X2_findIn k_X2_findIn)) rfl rfl rfl (by decide +kernel) ⟨Nat.le_of_ble_eq_true rfl, Nat.le_of_ble_eq_true rfl⟩) ⟨fun a U g mk q => by obtain ⟨q0, qP, qK⟩ := q; exact ⟨q0, qP, va_K.moved (u := U) (U := U.calling g mk a) (Vm.Alike.refl U.vm) qK⟩, va_recv hK hPc (ci := 2) (q0 := 0) rfl rfl, fun U hU hW => ⟨rfl, by rw [hU]; exact hPc, va_K.moved hW.alike hK⟩⟩ rfl rfl hl.1 rfl (lv_room (Nat.le_of_ble_eq_true rfl)) dX5_sortOf_38 ⟨Nat.le_of_ble_eq_true rfl, Nat.le_of_ble_eq_true rfl⟩) hS (fun q _ h => h.elim) (fun q h => h.elim) (fun x_10 u t H1 locs ht hvm w_11 hB hz1 hk1 hS => ?_)
  have hP : va_P D vwCl [(f, .inr (2, [.ref f_kinds, .ref f_signs, .ref f_sizes, .ref f_places, .ref f_limits, .ref f_starts, .ref f_sorts, .int 0, .int 1, .int (-1)])), (f_starts, .inl (cI, 4, .inl staF))] H1 := hP.kept (fun k9 q9 h9 => hk1 q9.1 (vx_lt hP h9) (fun h => h))
  generalize H1 = H at hP hS ⊢
  try dsimp only at w_11
  refine lv_iconst (v := (-1)) hx hb dX5_sortOf_41 (by decide) ?_
  refine lv_icmp_eq (tgt := 47) hx hb dX5_sortOf_42 (by decide) (fun c_12 => ?_) (fun c_12 => by have ic_12 : ¬ ((x_10 : Int32).toInt = ((-1) : Int32).toInt) := fun h9 => c_12 ((fa_eq x_10 (-1)).mpr h9); exfalso; omega)
  have ic_12 : (x_10 : Int32).toInt = ((-1) : Int32).toInt := (fa_eq x_10 (-1)).mp c_12
  refine lv_aload_n hx hb dX5_sortOf_47 rfl (lv_at hl 0 rfl) ?_
  refine lv_iload_n hx hb dX5_sortOf_48 rfl (lv_at hl 1 rfl) ?_
  refine lv_bipush (v := 11) hx hb dX5_sortOf_49 (by decide) ?_
  have hPc := hP.sub (ws' := [(f, .inr (2, [.ref f_kinds, .ref f_signs, .ref f_sizes, .ref f_places, .ref f_limits, .ref f_starts, .ref f_sorts, .int 0, .int 1, .int (-1)])), (f_starts, .inl (cI, 4, .inl staF))]) [0, 1] rfl
  refine va_calli (va_runV (As := [.int 0, .int 11]) (rest := []) ⟨hx, hb, hml, hown, hts⟩ (c_X2_findIn0 l D cI cD cJ H.size f f_kinds f_signs f_sizes f_places f_limits f_starts f_sorts staF 11 hst) (cwV 2 hts (goodIn_app (goodIn_r _ [1, 2, 3, 4] rfl (by decide +kernel)) (goodIn_sub i_X2_findIn k_X2_findIn)) rfl rfl rfl (by decide +kernel) ⟨Nat.le_of_ble_eq_true rfl, Nat.le_of_ble_eq_true rfl⟩) ⟨fun a U g mk q => by obtain ⟨q0, qP, qK⟩ := q; exact ⟨q0, qP, va_K.moved (u := U) (U := U.calling g mk a) (Vm.Alike.refl U.vm) qK⟩, va_recv hK hPc (ci := 2) (q0 := 0) rfl rfl, fun U hU hW => ⟨rfl, by rw [hU]; exact hPc, va_K.moved hW.alike hK⟩⟩ rfl rfl hl.1 rfl (lv_room (Nat.le_of_ble_eq_true rfl)) dX5_sortOf_51 ⟨Nat.le_of_ble_eq_true rfl, Nat.le_of_ble_eq_true rfl⟩) hS (fun q _ h => h.elim) (fun q h => h.elim) (fun x_13 u t H1 locs ht hvm w_14 hB hz1 hk1 hS => ?_)
  have hP : va_P D vwCl [(f, .inr (2, [.ref f_kinds, .ref f_signs, .ref f_sizes, .ref f_places, .ref f_limits, .ref f_starts, .ref f_sorts, .int 0, .int 1, .int (-1)])), (f_starts, .inl (cI, 4, .inl staF))] H1 := hP.kept (fun k9 q9 h9 => hk1 q9.1 (vx_lt hP h9) (fun h => h))
  generalize H1 = H at hP hS ⊢
  try dsimp only at w_14
  refine lv_iconst (v := (-1)) hx hb dX5_sortOf_54 (by decide) ?_
  refine lv_icmp_eq (tgt := 60) hx hb dX5_sortOf_55 (by decide) (fun c_15 => ?_) (fun c_15 => by have ic_15 : ¬ ((x_13 : Int32).toInt = ((-1) : Int32).toInt) := fun h9 => c_15 ((fa_eq x_13 (-1)).mpr h9); exfalso; omega)
  have ic_15 : (x_13 : Int32).toInt = ((-1) : Int32).toInt := (fa_eq x_13 (-1)).mp c_15
  refine lv_aload_n hx hb dX5_sortOf_60 rfl (lv_at hl 0 rfl) ?_
  refine lv_iload_n hx hb dX5_sortOf_61 rfl (lv_at hl 1 rfl) ?_
  refine lv_iconst (v := 4) hx hb dX5_sortOf_62 (by decide) ?_
  have hPc := hP.sub (ws' := [(f, .inr (2, [.ref f_kinds, .ref f_signs, .ref f_sizes, .ref f_places, .ref f_limits, .ref f_starts, .ref f_sorts, .int 0, .int 1, .int (-1)])), (f_starts, .inl (cI, 4, .inl staF))]) [0, 1] rfl
  refine va_calli (va_runV (As := [.int 0, .int 4]) (rest := []) ⟨hx, hb, hml, hown, hts⟩ (c_X2_findIn0 l D cI cD cJ H.size f f_kinds f_signs f_sizes f_places f_limits f_starts f_sorts staF 4 hst) (cwV 2 hts (goodIn_app (goodIn_r _ [1, 2, 3, 4] rfl (by decide +kernel)) (goodIn_sub i_X2_findIn k_X2_findIn)) rfl rfl rfl (by decide +kernel) ⟨Nat.le_of_ble_eq_true rfl, Nat.le_of_ble_eq_true rfl⟩) ⟨fun a U g mk q => by obtain ⟨q0, qP, qK⟩ := q; exact ⟨q0, qP, va_K.moved (u := U) (U := U.calling g mk a) (Vm.Alike.refl U.vm) qK⟩, va_recv hK hPc (ci := 2) (q0 := 0) rfl rfl, fun U hU hW => ⟨rfl, by rw [hU]; exact hPc, va_K.moved hW.alike hK⟩⟩ rfl rfl hl.1 rfl (lv_room (Nat.le_of_ble_eq_true rfl)) dX5_sortOf_63 ⟨Nat.le_of_ble_eq_true rfl, Nat.le_of_ble_eq_true rfl⟩) hS (fun q _ h => h.elim) (fun q h => h.elim) (fun x_16 u t H1 locs ht hvm w_17 hB hz1 hk1 hS => ?_)
  have hP : va_P D vwCl [(f, .inr (2, [.ref f_kinds, .ref f_signs, .ref f_sizes, .ref f_places, .ref f_limits, .ref f_starts, .ref f_sorts, .int 0, .int 1, .int (-1)])), (f_starts, .inl (cI, 4, .inl staF))] H1 := hP.kept (fun k9 q9 h9 => hk1 q9.1 (vx_lt hP h9) (fun h => h))
  generalize H1 = H at hP hS ⊢
  try dsimp only at w_17
  refine lv_iconst (v := (-1)) hx hb dX5_sortOf_66 (by decide) ?_
  refine lv_icmp_ne (tgt := 72) hx hb dX5_sortOf_67 (by decide) (fun c_18 => by have ic_18 : ¬ ((x_16 : Int32).toInt = ((-1) : Int32).toInt) := fun h9 => c_18 ((fa_eq x_16 (-1)).mpr h9); exfalso; omega) (fun c_18 => ?_)
  have ic_18 : (x_16 : Int32).toInt = ((-1) : Int32).toInt := (fa_eq x_16 (-1)).mp c_18
  refine lv_iconst (v := 0) hx hb dX5_sortOf_70 (by decide) ?_
  exact W.iret (v := 0) hx hb hr (fun t ht hW => ⟨⟨0, (), rfl, (by (try dsimp only); omega), trivial⟩, hS.F ht⟩) hS.2.2 dX5_sortOf_71

def ow_X5_firstIllIn : List Cond := [Cond.methodLink RX5 25 yX2_sort, Cond.instanceMethod yX2_sort, Cond.selects RX2 yX2_sort yX2_sort, Cond.initialized RX2, Cond.methodLink RX5 56 yX2_from, Cond.instanceMethod yX2_from, Cond.selects RX2 yX2_from yX2_from, Cond.methodLink RX5 59 yX2_to, Cond.instanceMethod yX2_to, Cond.selects RX2 yX2_to yX2_to]
def pw_X5_firstIllIn : List Cond := Cond.code yX5_firstIllIn cX5_firstIllIn 4 (some .int) :: (ow_X5_firstIllIn ++ (pw_X2_sort ++ (pw_X2_from ++ (pw_X2_to))))
set_option maxRecDepth 20000 in
theorem mo_X5_firstIllIn : ∀ w ∈ ow_X5_firstIllIn, w ∈ lw_tbl := by decide +kernel
set_option maxRecDepth 20000 in
theorem mc_X5_firstIllIn : Cond.code yX5_firstIllIn cX5_firstIllIn 4 (some .int) ∈ lw_tbl := by decide +kernel
theorem m_X5_firstIllIn : ∀ w ∈ pw_X5_firstIllIn, w ∈ lw_tbl := List.forall_mem_cons.mpr ⟨mc_X5_firstIllIn, (List.forall_mem_append.mpr ⟨mo_X5_firstIllIn, (List.forall_mem_append.mpr ⟨m_X2_sort, (List.forall_mem_append.mpr ⟨m_X2_from, m_X2_to⟩)⟩)⟩)⟩
theorem ko_X5_firstIllIn : ∀ w ∈ ow_X5_firstIllIn, goodWord w = true := by decide +kernel
theorem k_X5_firstIllIn : pw_X5_firstIllIn.all goodWord = true := List.all_eq_true.mpr (List.forall_mem_cons.mpr ⟨by decide +kernel, (List.forall_mem_append.mpr ⟨ko_X5_firstIllIn, (List.forall_mem_append.mpr ⟨(List.all_eq_true.mp k_X2_sort), (List.forall_mem_append.mpr ⟨(List.all_eq_true.mp k_X2_from), (List.all_eq_true.mp k_X2_to)⟩)⟩)⟩)⟩)
set_option maxHeartbeats 400000 in
set_option maxRecDepth 100000 in
theorem c_X5_firstIllIn0 (l : Launch) (D : va_G) (cI cD cJ : ClassId) (sz : Nat) (f : Nat) (f_kinds : Nat) (f_signs : Nat) (f_sizes : Nat) (f_places : Nat) (f_limits : Nat) (f_starts : Nat) (f_sorts : Nat) (staF : Nat → Int32) (sorF : Nat → Int32) (hst : staF 0 = 0) : Met l yX5_firstIllIn pw_X5_firstIllIn ({ frames := 1, cells := 0, slots := 0, locals := 21 }) (va_Pc [.ref f, .int 0] (fun U => va_P D vwCl [(f, .inr (2, [.ref f_kinds, .ref f_signs, .ref f_sizes, .ref f_places, .ref f_limits, .ref f_starts, .ref f_sorts, .int 0, .int 1, .int (-1)])), (f_starts, .inl (cI, 4, .inl staF)), (f_sorts, .inl (cI, 4, .inl sorF))] U.heap ∧ va_K D vwCl (ty3 cI cD cJ) U)) (va_Qi (fun (r : Int32) (u : Unit) => r.toInt = -1) (fun _ _ => True) (fun _ => False)) 0 0 (fun _ => False) := by
  refine Met.ofW (cc := cX5_firstIllIn) (maxL := 4) (ret := (some .int)) (by decide) rfl ?_
  intro p e s m args below meth c s₁ B hml hv
  obtain ⟨rfl, hP, hK⟩ := hv
  have hx := B.exec
  have hb := B.bytes
  have hr := B.returns
  have hts := atoms_spec (ws := pw_X5_firstIllIn) B.pre
  have hown : s.vm.findClass RX5 = some m.cls := findClass_of_methodNamed B.named
  have hlocks := B.notSynchronized
  have hS : va_S (fun _ => False) s.heap s.heap [] := va_S.rf
  have hw : ∀ (k : Nat) (w : Cond), ow_X5_firstIllIn[k]? = some w → w.before _ s = true := fun k w h => hts w (List.mem_cons_of_mem _ (have h9 := List.mem_of_getElem? h; List.mem_append_left _ h9))
  have i_X2_sort : ∀ w ∈ pw_X2_sort, w ∈ pw_X5_firstIllIn := fun w h9 => List.mem_cons_of_mem _ (List.mem_append_right _ (List.mem_append_left _ h9))
  have i_X2_from : ∀ w ∈ pw_X2_from, w ∈ pw_X5_firstIllIn := fun w h9 => List.mem_cons_of_mem _ (List.mem_append_right _ (List.mem_append_right _ (List.mem_append_left _ h9)))
  have i_X2_to : ∀ w ∈ pw_X2_to, w ∈ pw_X5_firstIllIn := fun w h9 => List.mem_cons_of_mem _ (List.mem_append_right _ (List.mem_append_right _ (List.mem_append_right _ (h9))))
  have n_m1 : (((-1) : Int32)).toInt = (-1) := by decide
  have n_0 : ((0 : Int32)).toInt = 0 := by decide
  have n_1 : ((1 : Int32)).toInt = 1 := by decide
  have n_3 : ((3 : Int32)).toInt = 3 := by decide
  have hl := lv_entry ([.ref f, .int 0]) (n := 4) (Nat.le_of_ble_eq_true rfl)
  rw [lg_entry_eq]
  generalize (lg_sl ([.ref f, .int 0]) ++ List.replicate (4 - (lg_sl ([.ref f, .int 0])).length) Slot.unset).toArray = ls at hl ⊢
  have hl : lv_has ls 4 [(0, .ref f), (1, .int 0)] := hl
  refine lv_aload_n hx hb dX5_firstIllIn_0 rfl (lv_at hl 0 rfl) ?_
  refine lv_iload_n hx hb dX5_firstIllIn_1 rfl (lv_at hl 1 rfl) ?_
  have hPc := hP.sub (ws' := [(f, .inr (2, [.ref f_kinds, .ref f_signs, .ref f_sizes, .ref f_places, .ref f_limits, .ref f_starts, .ref f_sorts, .int 0, .int 1, .int (-1)])), (f_sorts, .inl (cI, 4, .inl sorF))]) [0, 2] rfl
  refine va_calli (va_runV (As := [.int 0]) (rest := []) ⟨hx, hb, hml, hown, hts⟩ (c_X2_sort l D cI cD cJ s.heap.size f f_kinds f_signs f_sizes f_places f_limits f_starts f_sorts 0 1 (-1) sorF 0) (cwV 1 hts (goodIn_app (goodIn_r _ [1, 2, 3, 4] rfl (by decide +kernel)) (goodIn_sub i_X2_sort k_X2_sort)) rfl rfl rfl (by decide +kernel) ⟨Nat.le_of_ble_eq_true rfl, Nat.le_of_ble_eq_true rfl⟩) ⟨fun a U g mk q => by obtain ⟨q0, qP, qK⟩ := q; exact ⟨q0, qP, va_K.moved (u := U) (U := U.calling g mk a) (Vm.Alike.refl U.vm) qK⟩, va_recv hK hPc (ci := 2) (q0 := 0) rfl rfl, fun U hU hW => ⟨rfl, by rw [hU]; exact hPc, va_K.moved hW.alike hK⟩⟩ rfl rfl hl.1 rfl (lv_room (Nat.le_of_ble_eq_true rfl)) dX5_firstIllIn_2 ⟨Nat.le_of_ble_eq_true rfl, Nat.le_of_ble_eq_true rfl⟩) hS (fun q _ h => h.elim) (fun q h => h.elim) (fun x_1 u t H1 locs ht hvm w_2 hB hz1 hk1 hS => ?_)
  have hP : va_P D vwCl [(f, .inr (2, [.ref f_kinds, .ref f_signs, .ref f_sizes, .ref f_places, .ref f_limits, .ref f_starts, .ref f_sorts, .int 0, .int 1, .int (-1)])), (f_starts, .inl (cI, 4, .inl staF)), (f_sorts, .inl (cI, 4, .inl sorF))] H1 := hP.kept (fun k9 q9 h9 => hk1 q9.1 (vx_lt hP h9) (fun h => h))
  generalize H1 = H at hP hS ⊢
  try dsimp only at w_2
  refine lv_istore_n (lv' := [(2, .int x_1), (0, .ref f), (1, .int 0)]) hx hb dX5_firstIllIn_5 rfl hl (by decide) rfl (fun ls hl => ?_)
  refine lv_iload_n hx hb dX5_firstIllIn_6 rfl (lv_at hl 2 rfl) ?_
  refine lv_iconst (v := 3) hx hb dX5_firstIllIn_7 (by decide) ?_
  refine lv_icmp_ne (tgt := 26) hx hb dX5_firstIllIn_8 (by decide) (fun c_3 => ?_) (fun c_3 => by have ic_3 : (0 : Int32).toInt = (3 : Int32).toInt := (fa_eq 0 3).mp c_3; exfalso; omega)
  have ic_3 : ¬ ((0 : Int32).toInt = (3 : Int32).toInt) := fun h9 => c_3 ((fa_eq 0 3).mpr h9)
  refine lv_aload_n hx hb dX5_firstIllIn_26 rfl (lv_at hl 1 rfl) ?_
  refine lv_iload_n hx hb dX5_firstIllIn_27 rfl (lv_at hl 2 rfl) ?_
  have hPc := hP.sub (ws' := [(f, .inr (2, [.ref f_kinds, .ref f_signs, .ref f_sizes, .ref f_places, .ref f_limits, .ref f_starts, .ref f_sorts, .int 0, .int 1, .int (-1)])), (f_starts, .inl (cI, 4, .inl staF))]) [0, 1] rfl
  refine va_calli (va_runV (As := [.int 0]) (rest := []) ⟨hx, hb, hml, hown, hts⟩ (c_X2_from l D cI cD cJ H.size f f_kinds f_signs f_sizes f_places f_limits f_starts f_sorts 0 1 (-1) staF 0) (cwV 1 hts (goodIn_app (goodIn_r _ [5, 6, 7, 4] rfl (by decide +kernel)) (goodIn_sub i_X2_from k_X2_from)) rfl rfl rfl (by decide +kernel) ⟨Nat.le_of_ble_eq_true rfl, Nat.le_of_ble_eq_true rfl⟩) ⟨fun a U g mk q => by obtain ⟨q0, qP, qK⟩ := q; exact ⟨q0, qP, va_K.moved (u := U) (U := U.calling g mk a) (Vm.Alike.refl U.vm) qK⟩, va_recv hK hPc (ci := 2) (q0 := 0) rfl rfl, fun U hU hW => ⟨rfl, by rw [hU]; exact hPc, va_K.moved hW.alike hK⟩⟩ rfl rfl hl.1 rfl (lv_room (Nat.le_of_ble_eq_true rfl)) dX5_firstIllIn_28 ⟨Nat.le_of_ble_eq_true rfl, Nat.le_of_ble_eq_true rfl⟩) hS (fun q _ h => h.elim) (fun q h => h.elim) (fun x_4 u t H1 locs ht hvm w_5 hB hz1 hk1 hS => ?_)
  have hP : va_P D vwCl [(f, .inr (2, [.ref f_kinds, .ref f_signs, .ref f_sizes, .ref f_places, .ref f_limits, .ref f_starts, .ref f_sorts, .int 0, .int 1, .int (-1)])), (f_starts, .inl (cI, 4, .inl staF)), (f_sorts, .inl (cI, 4, .inl sorF))] H1 := hP.kept (fun k9 q9 h9 => hk1 q9.1 (vx_lt hP h9) (fun h => h))
  generalize H1 = H at hP hS ⊢
  try dsimp only at w_5
  have z_x_4 : (x_4 : Int32).toInt = 0 := by rw [w_5.1 ⟨by omega, by omega, by omega⟩, sb_cl0, hst]; rfl
  refine lv_istore_n (lv' := [(3, .int x_4), (2, .int x_1), (0, .ref f), (1, .int 0)]) hx hb dX5_firstIllIn_31 rfl hl (by decide) rfl (fun ls hl => ?_)
  refine lv_iload_n hx hb dX5_firstIllIn_32 rfl (lv_at hl 0 rfl) ?_
  refine lv_aload_n hx hb dX5_firstIllIn_33 rfl (lv_at hl 2 rfl) ?_
  refine lv_iload_n hx hb dX5_firstIllIn_34 rfl (lv_at hl 3 rfl) ?_
  have hPc := hP.sub (ws' := [(f, .inr (2, [.ref f_kinds, .ref f_signs, .ref f_sizes, .ref f_places, .ref f_limits, .ref f_starts, .ref f_sorts, .int 0, .int 1, .int (-1)]))]) [0] rfl
  refine va_calli (va_runV (As := [.int 0]) (rest := [.int x_4]) ⟨hx, hb, hml, hown, hts⟩ (c_X2_to0 l D cI cD cJ H.size f f_kinds f_signs f_sizes f_places f_limits f_starts f_sorts 0 (-1)) (cwV 1 hts (goodIn_app (goodIn_r _ [8, 9, 10, 4] rfl (by decide +kernel)) (goodIn_sub i_X2_to k_X2_to)) rfl rfl rfl (by decide +kernel) ⟨Nat.le_of_ble_eq_true rfl, Nat.le_of_ble_eq_true rfl⟩) ⟨fun a U g mk q => by obtain ⟨q0, qP, qK⟩ := q; exact ⟨q0, qP, va_K.moved (u := U) (U := U.calling g mk a) (Vm.Alike.refl U.vm) qK⟩, va_recv hK hPc (ci := 2) (q0 := 0) rfl rfl, fun U hU hW => ⟨rfl, by rw [hU]; exact hPc, va_K.moved hW.alike hK⟩⟩ rfl rfl hl.1 rfl (lv_room (Nat.le_of_ble_eq_true rfl)) dX5_firstIllIn_35 ⟨Nat.le_of_ble_eq_true rfl, Nat.le_of_ble_eq_true rfl⟩) hS (fun q _ h => h.elim) (fun q h => h.elim) (fun x_6 u t H1 locs ht hvm w_7 hB hz1 hk1 hS => ?_)
  have hP : va_P D vwCl [(f, .inr (2, [.ref f_kinds, .ref f_signs, .ref f_sizes, .ref f_places, .ref f_limits, .ref f_starts, .ref f_sorts, .int 0, .int 1, .int (-1)])), (f_starts, .inl (cI, 4, .inl staF)), (f_sorts, .inl (cI, 4, .inl sorF))] H1 := hP.kept (fun k9 q9 h9 => hk1 q9.1 (vx_lt hP h9) (fun h => h))
  generalize H1 = H at hP hS ⊢
  try dsimp only at w_7
  have z_x_6 : (x_6 : Int32).toInt = 0 := by rw [w_7]; rfl
  refine lv_icmp_ge (tgt := 58) hx hb dX5_firstIllIn_38 (by decide) (fun c_8 => ?_) (fun c_8 => by have ic_8 : ¬ ((x_6 : Int32).toInt ≤ (x_4 : Int32).toInt) := fun h9 => c_8 ((fa_le x_6 x_4).mpr h9); exfalso; omega)
  have ic_8 : (x_6 : Int32).toInt ≤ (x_4 : Int32).toInt := (fa_le x_6 x_4).mp c_8
  refine lv_iconst (v := (-1)) hx hb dX5_firstIllIn_58 (by decide) ?_
  exact W.iret (v := (-1)) hx hb hr (fun t ht hW => ⟨⟨(-1), (), rfl, (by (try dsimp only); omega), trivial⟩, hS.F ht⟩) hS.2.2 dX5_firstIllIn_59

def ow_X5_firstIll : List Cond := [Cond.methodLink RX5 9 yX2_sections, Cond.instanceMethod yX2_sections, Cond.selects RX2 yX2_sections yX2_sections, Cond.initialized RX2, Cond.methodLink RX5 15 yX5_sortOf, Cond.static yX5_sortOf, Cond.initialized RX5, Cond.methodLink RX5 21 yX2_setSort, Cond.instanceMethod yX2_setSort, Cond.selects RX2 yX2_setSort yX2_setSort, Cond.methodLink RX5 25 yX2_sort, Cond.instanceMethod yX2_sort, Cond.selects RX2 yX2_sort yX2_sort, Cond.methodLink RX5 36 yX5_firstIllIn, Cond.static yX5_firstIllIn, Cond.methodLink RX5 42 yX2_fifthPlace, Cond.instanceMethod yX2_fifthPlace, Cond.selects RX2 yX2_fifthPlace yX2_fifthPlace]
def pw_X5_firstIll : List Cond := Cond.code yX5_firstIll cX5_firstIll 3 (some .int) :: (ow_X5_firstIll ++ (pw_X2_sections ++ (pw_X5_sortOf ++ (pw_X2_setSort ++ (pw_X2_sort ++ (pw_X5_firstIllIn ++ (pw_X2_fifthPlace)))))))
set_option maxRecDepth 20000 in
theorem mo_X5_firstIll : ∀ w ∈ ow_X5_firstIll, w ∈ lw_tbl := by decide +kernel
set_option maxRecDepth 20000 in
theorem mc_X5_firstIll : Cond.code yX5_firstIll cX5_firstIll 3 (some .int) ∈ lw_tbl := by decide +kernel
theorem m_X5_firstIll : ∀ w ∈ pw_X5_firstIll, w ∈ lw_tbl := List.forall_mem_cons.mpr ⟨mc_X5_firstIll, (List.forall_mem_append.mpr ⟨mo_X5_firstIll, (List.forall_mem_append.mpr ⟨m_X2_sections, (List.forall_mem_append.mpr ⟨m_X5_sortOf, (List.forall_mem_append.mpr ⟨m_X2_setSort, (List.forall_mem_append.mpr ⟨m_X2_sort, (List.forall_mem_append.mpr ⟨m_X5_firstIllIn, m_X2_fifthPlace⟩)⟩)⟩)⟩)⟩)⟩)⟩
theorem ko_X5_firstIll : ∀ w ∈ ow_X5_firstIll, goodWord w = true := by decide +kernel
theorem k_X5_firstIll : pw_X5_firstIll.all goodWord = true := List.all_eq_true.mpr (List.forall_mem_cons.mpr ⟨by decide +kernel, (List.forall_mem_append.mpr ⟨ko_X5_firstIll, (List.forall_mem_append.mpr ⟨(List.all_eq_true.mp k_X2_sections), (List.forall_mem_append.mpr ⟨(List.all_eq_true.mp k_X5_sortOf), (List.forall_mem_append.mpr ⟨(List.all_eq_true.mp k_X2_setSort), (List.forall_mem_append.mpr ⟨(List.all_eq_true.mp k_X2_sort), (List.forall_mem_append.mpr ⟨(List.all_eq_true.mp k_X5_firstIllIn), (List.all_eq_true.mp k_X2_fifthPlace)⟩)⟩)⟩)⟩)⟩)⟩)⟩)
set_option maxHeartbeats 400000 in
set_option maxRecDepth 100000 in
theorem c_X5_firstIll0 (l : Launch) (D : va_G) (cI cD cJ : ClassId) (sz : Nat) (f : Nat) (f_kinds : Nat) (f_signs : Nat) (f_sizes : Nat) (f_places : Nat) (f_limits : Nat) (f_starts : Nat) (f_sorts : Nat) (staF : Nat → Int32) (sorF : Nat → Int32) (hst : staF 0 = 0) : Met l yX5_firstIll pw_X5_firstIll ({ frames := 3, cells := 0, slots := 0, locals := 67 }) (va_Pc [.ref f] (fun U => U.heap.size = sz ∧ va_P D vwCl [(f, .inr (2, [.ref f_kinds, .ref f_signs, .ref f_sizes, .ref f_places, .ref f_limits, .ref f_starts, .ref f_sorts, .int 0, .int 1, .int (-1)])), (f_starts, .inl (cI, 4, .inl staF)), (f_sorts, .inl (cI, 4, .inl sorF))] U.heap ∧ va_K D vwCl (ty3 cI cD cJ) U ∧ va_D (fun _ => True) [(f, .inr (2, [.ref f_kinds, .ref f_signs, .ref f_sizes, .ref f_places, .ref f_limits, .ref f_starts, .ref f_sorts, .int 0, .int 1, .int (-1)])), (f_starts, .inl (cI, 4, .inl staF)), (f_sorts, .inl (cI, 4, .inl sorF))])) (va_Qi (fun (r : Int32) (sorF2 : (Nat → Int32)) => r = -1) (fun (sorF2 : (Nat → Int32)) (t : State) => va_P D vwCl [(f, .inr (2, [.ref f_kinds, .ref f_signs, .ref f_sizes, .ref f_places, .ref f_limits, .ref f_starts, .ref f_sorts, .int 0, .int 1, .int (-1)])), (f_starts, .inl (cI, 4, .inl staF)), (f_sorts, .inl (cI, 4, .inl sorF2))] t.heap ∧ va_K D vwCl (ty3 cI cD cJ) t ∧ va_D (va_A [(f, .inr (2, [.ref f_kinds, .ref f_signs, .ref f_sizes, .ref f_places, .ref f_limits, .ref f_starts, .ref f_sorts, .int 0, .int 1, .int (-1)])), (f_starts, .inl (cI, 4, .inl staF)), (f_sorts, .inl (cI, 4, .inl sorF))] sz) [(f, .inr (2, [.ref f_kinds, .ref f_signs, .ref f_sizes, .ref f_places, .ref f_limits, .ref f_starts, .ref f_sorts, .int 0, .int 1, .int (-1)])), (f_starts, .inl (cI, 4, .inl staF)), (f_sorts, .inl (cI, 4, .inl sorF2))]) (va_A [(f, .inr (2, [.ref f_kinds, .ref f_signs, .ref f_sizes, .ref f_places, .ref f_limits, .ref f_starts, .ref f_sorts, .int 0, .int 1, .int (-1)])), (f_starts, .inl (cI, 4, .inl staF)), (f_sorts, .inl (cI, 4, .inl sorF))] sz)) 0 0 (va_A [(f, .inr (2, [.ref f_kinds, .ref f_signs, .ref f_sizes, .ref f_places, .ref f_limits, .ref f_starts, .ref f_sorts, .int 0, .int 1, .int (-1)])), (f_starts, .inl (cI, 4, .inl staF)), (f_sorts, .inl (cI, 4, .inl sorF))] sz) := by
  refine Met.ofW (cc := cX5_firstIll) (maxL := 3) (ret := (some .int)) (by decide) rfl ?_
  intro p e s m args below meth c s₁ B hml hv
  obtain ⟨rfl, hsz, hP, hK, hD0⟩ := hv
  have hx := B.exec
  have hb := B.bytes
  have hr := B.returns
  have hts := atoms_spec (ws := pw_X5_firstIll) B.pre
  have hown : s.vm.findClass RX5 = some m.cls := findClass_of_methodNamed B.named
  have hlocks := B.notSynchronized
  subst hsz
  have hD := hD0.self (sz := s.heap.size)
  generalize hAe : va_A [(f, .inr (2, [.ref f_kinds, .ref f_signs, .ref f_sizes, .ref f_places, .ref f_limits, .ref f_starts, .ref f_sorts, .int 0, .int 1, .int (-1)])), (f_starts, .inl (cI, 4, .inl staF)), (f_sorts, .inl (cI, 4, .inl sorF))] s.heap.size = A at hD ⊢
  have hA : ∀ q : Nat, s.heap.size ≤ q → A q := fun q h => by rw [← hAe]; exact Or.inr h
  have hS : va_S A s.heap s.heap [] := va_S.rf
  have hw : ∀ (k : Nat) (w : Cond), ow_X5_firstIll[k]? = some w → w.before _ s = true := fun k w h => hts w (List.mem_cons_of_mem _ (have h9 := List.mem_of_getElem? h; List.mem_append_left _ h9))
  have i_X2_sections : ∀ w ∈ pw_X2_sections, w ∈ pw_X5_firstIll := fun w h9 => List.mem_cons_of_mem _ (List.mem_append_right _ (List.mem_append_left _ h9))
  have i_X5_sortOf : ∀ w ∈ pw_X5_sortOf, w ∈ pw_X5_firstIll := fun w h9 => List.mem_cons_of_mem _ (List.mem_append_right _ (List.mem_append_right _ (List.mem_append_left _ h9)))
  have i_X2_setSort : ∀ w ∈ pw_X2_setSort, w ∈ pw_X5_firstIll := fun w h9 => List.mem_cons_of_mem _ (List.mem_append_right _ (List.mem_append_right _ (List.mem_append_right _ (List.mem_append_left _ h9))))
  have i_X2_sort : ∀ w ∈ pw_X2_sort, w ∈ pw_X5_firstIll := fun w h9 => List.mem_cons_of_mem _ (List.mem_append_right _ (List.mem_append_right _ (List.mem_append_right _ (List.mem_append_right _ (List.mem_append_left _ h9)))))
  have i_X5_firstIllIn : ∀ w ∈ pw_X5_firstIllIn, w ∈ pw_X5_firstIll := fun w h9 => List.mem_cons_of_mem _ (List.mem_append_right _ (List.mem_append_right _ (List.mem_append_right _ (List.mem_append_right _ (List.mem_append_right _ (List.mem_append_left _ h9))))))
  have i_X2_fifthPlace : ∀ w ∈ pw_X2_fifthPlace, w ∈ pw_X5_firstIll := fun w h9 => List.mem_cons_of_mem _ (List.mem_append_right _ (List.mem_append_right _ (List.mem_append_right _ (List.mem_append_right _ (List.mem_append_right _ (List.mem_append_right _ (h9)))))))
  have n_m1 : (((-1) : Int32)).toInt = (-1) := by decide
  have n_0 : ((0 : Int32)).toInt = 0 := by decide
  have n_1 : ((1 : Int32)).toInt = 1 := by decide
  have hl := lv_entry ([.ref f]) (n := 3) (Nat.le_of_ble_eq_true rfl)
  rw [lg_entry_eq]
  generalize (lg_sl ([.ref f]) ++ List.replicate (3 - (lg_sl ([.ref f])).length) Slot.unset).toArray = ls at hl ⊢
  have hl : lv_has ls 3 [(0, .ref f)] := hl
  refine lv_iconst (v := 0) hx hb dX5_firstIll_0 (by decide) ?_
  refine lv_istore_n (lv' := [(1, .int 0), (0, .ref f)]) hx hb dX5_firstIll_1 rfl hl (by decide) rfl (fun ls hl => ?_)
  refine lv_iload_n hx hb dX5_firstIll_2 rfl (lv_at hl 0 rfl) ?_
  refine lv_aload_n hx hb dX5_firstIll_3 rfl (lv_at hl 1 rfl) ?_
  have hPc := hP.sub (ws' := [(f, .inr (2, [.ref f_kinds, .ref f_signs, .ref f_sizes, .ref f_places, .ref f_limits, .ref f_starts, .ref f_sorts, .int 0, .int 1, .int (-1)]))]) [0] rfl
  refine va_calli (va_runV (As := []) (rest := [.int 0]) ⟨hx, hb, hml, hown, hts⟩ (c_X2_sections l D cI cD cJ s.heap.size f f_kinds f_signs f_sizes f_places f_limits f_starts f_sorts 0 1 (-1)) (cwV 0 hts (goodIn_app (goodIn_r _ [1, 2, 3, 4] rfl (by decide +kernel)) (goodIn_sub i_X2_sections k_X2_sections)) rfl rfl rfl (by decide +kernel) ⟨Nat.le_of_ble_eq_true rfl, Nat.le_of_ble_eq_true rfl⟩) ⟨fun a U g mk q => by obtain ⟨q0, qP, qK⟩ := q; exact ⟨q0, qP, va_K.moved (u := U) (U := U.calling g mk a) (Vm.Alike.refl U.vm) qK⟩, va_recv hK hPc (ci := 2) (q0 := 0) rfl rfl, fun U hU hW => ⟨rfl, by rw [hU]; exact hPc, va_K.moved hW.alike hK⟩⟩ rfl rfl hl.1 rfl (lv_room (Nat.le_of_ble_eq_true rfl)) dX5_firstIll_4 ⟨Nat.le_of_ble_eq_true rfl, Nat.le_of_ble_eq_true rfl⟩) hS (fun q _ h => h.elim) (fun q h => h.elim) (fun x_1 u t H1 locs ht hvm w_2 hB hz1 hk1 hS => ?_)
  have hP : va_P D vwCl [(f, .inr (2, [.ref f_kinds, .ref f_signs, .ref f_sizes, .ref f_places, .ref f_limits, .ref f_starts, .ref f_sorts, .int 0, .int 1, .int (-1)])), (f_starts, .inl (cI, 4, .inl staF)), (f_sorts, .inl (cI, 4, .inl sorF))] H1 := hP.kept (fun k9 q9 h9 => hk1 q9.1 (vx_lt hP h9) (fun h => h))
  generalize H1 = H at hP hS ⊢
  try dsimp only at w_2
  have z_x_1 : (x_1 : Int32).toInt = 1 := by rw [w_2]; rfl
  refine lv_icmp_ge (tgt := 62) hx hb dX5_firstIll_7 (by decide) (fun c_3 => by have ic_3 : (x_1 : Int32).toInt ≤ (0 : Int32).toInt := (fa_le x_1 0).mp c_3; exfalso; omega) (fun c_3 => ?_)
  have ic_3 : ¬ ((x_1 : Int32).toInt ≤ (0 : Int32).toInt) := fun h9 => c_3 ((fa_le x_1 0).mpr h9)
  refine lv_aload_n hx hb dX5_firstIll_10 rfl (lv_at hl 1 rfl) ?_
  refine lv_iload_n hx hb dX5_firstIll_11 rfl (lv_at hl 0 rfl) ?_
  refine lv_aload_n hx hb dX5_firstIll_12 rfl (lv_at hl 1 rfl) ?_
  refine lv_iload_n hx hb dX5_firstIll_13 rfl (lv_at hl 0 rfl) ?_
  have hPc := hP.sub (ws' := [(f, .inr (2, [.ref f_kinds, .ref f_signs, .ref f_sizes, .ref f_places, .ref f_limits, .ref f_starts, .ref f_sorts, .int 0, .int 1, .int (-1)])), (f_starts, .inl (cI, 4, .inl staF))]) [0, 1] rfl
  refine va_calli (va_runS (As := [.ref f, .int 0]) (rest := [.int 0, .ref f]) ⟨hx, hb, hml, hown, hts⟩ (c_X5_sortOf0 l D cI cD cJ H.size f f_kinds f_signs f_sizes f_places f_limits f_starts f_sorts staF hst) (va_cwS 2 hts (goodIn_app (goodIn_r _ [5, 6, 7] rfl (by decide +kernel)) (goodIn_sub i_X5_sortOf k_X5_sortOf)) rfl rfl rfl (by decide +kernel) ⟨Nat.le_of_ble_eq_true rfl, Nat.le_of_ble_eq_true rfl⟩) ⟨fun a U g mk q => by obtain ⟨q0, qP, qK⟩ := q; exact ⟨q0, qP, va_K.moved (u := U) (U := U.calling g mk a) (Vm.Alike.refl U.vm) qK⟩, fun U hU hW => ⟨rfl, by rw [hU]; exact hPc, va_K.moved hW.alike hK⟩⟩ rfl rfl hl.1 rfl (lv_room (Nat.le_of_ble_eq_true rfl)) dX5_firstIll_14 ⟨Nat.le_of_ble_eq_true rfl, Nat.le_of_ble_eq_true rfl⟩) hS (fun q _ h => h.elim) (fun q h => h.elim) (fun x_4 u t H1 locs ht hvm w_5 hB hz1 hk1 hS => ?_)
  have hP : va_P D vwCl [(f, .inr (2, [.ref f_kinds, .ref f_signs, .ref f_sizes, .ref f_places, .ref f_limits, .ref f_starts, .ref f_sorts, .int 0, .int 1, .int (-1)])), (f_starts, .inl (cI, 4, .inl staF)), (f_sorts, .inl (cI, 4, .inl sorF))] H1 := hP.kept (fun k9 q9 h9 => hk1 q9.1 (vx_lt hP h9) (fun h => h))
  generalize H1 = H at hP hS ⊢
  try dsimp only at w_5
  have hPc := hP.sub (ws' := [(f, .inr (2, [.ref f_kinds, .ref f_signs, .ref f_sizes, .ref f_places, .ref f_limits, .ref f_starts, .ref f_sorts, .int 0, .int 1, .int (-1)])), (f_sorts, .inl (cI, 4, .inl sorF))]) [0, 2] rfl
  have hDc := hD.sub (ws' := [(f, .inr (2, [.ref f_kinds, .ref f_signs, .ref f_sizes, .ref f_places, .ref f_limits, .ref f_starts, .ref f_sorts, .int 0, .int 1, .int (-1)])), (f_sorts, .inl (cI, 4, .inl sorF))]) [0, 2] (by decide) rfl
  have hFc := va_free (wc := [(f, .inr (2, [.ref f_kinds, .ref f_signs, .ref f_sizes, .ref f_places, .ref f_limits, .ref f_starts, .ref f_sorts, .int 0, .int 1, .int (-1)])), (f_sorts, .inl (cI, 4, .inl sorF))]) hD hS hA [0, 2] rfl
  refine va_callv (va_runV (As := [.int 0, .int x_4]) (rest := []) ⟨hx, hb, hml, hown, hts⟩ (c_X2_setSort l D cI cD cJ H.size f f_kinds f_signs f_sizes f_places f_limits f_starts f_sorts 0 1 (-1) sorF 0 x_4) (cwV 2 hts (goodIn_app (goodIn_r _ [8, 9, 10, 4] rfl (by decide +kernel)) (goodIn_sub i_X2_setSort k_X2_setSort)) rfl rfl rfl (by decide +kernel) ⟨Nat.le_of_ble_eq_true rfl, Nat.le_of_ble_eq_true rfl⟩) ⟨fun a U g mk q => by obtain ⟨q0, q1, qP, qK, qD⟩ := q; exact ⟨q0, q1, qP, va_K.moved (u := U) (U := U.calling g mk a) (Vm.Alike.refl U.vm) qK, qD⟩, va_recv hK hPc (ci := 2) (q0 := 0) rfl rfl, fun U hU hW => ⟨rfl, by rw [hU], by rw [hU]; exact hPc, va_K.moved hW.alike hK, hDc.weaken (fun _ _ _ _ => trivial)⟩⟩ rfl rfl hl.1 rfl (lv_room (Nat.le_of_ble_eq_true rfl)) dX5_firstIll_17 ⟨Nat.le_of_ble_eq_true rfl, Nat.le_of_ble_eq_true rfl⟩) hS (fun q _ h => hFc q h) hFc (fun u t H1 locs ht hvm w_6 hB hz1 hk1 hS => ?_)
  generalize u = u_7 at w_6 hB
  obtain ⟨hP1, hK1, hD1⟩ := hB
  rw [ht] at hP1
  try dsimp only at w_6
  obtain ⟨hP, hD⟩ := va_join (wr := [(f_starts, .inl (cI, 4, .inl staF))]) (w1 := [(f, .inr (2, [.ref f_kinds, .ref f_signs, .ref f_sizes, .ref f_places, .ref f_limits, .ref f_starts, .ref f_sorts, .int 0, .int 1, .int (-1)])), (f_sorts, .inl (cI, 4, .inl u_7))]) hP hD [0, 2] [1] rfl rfl (by decide) (by decide) hk1 hFc hP1 hD1
  generalize H1 = H at hP hS ⊢
  have hP : va_P D vwCl [(f_starts, .inl (cI, 4, .inl staF)), (f, .inr (2, [.ref f_kinds, .ref f_signs, .ref f_sizes, .ref f_places, .ref f_limits, .ref f_starts, .ref f_sorts, .int 0, .int 1, .int (-1)])), (f_sorts, .inl (cI, 4, .inl u_7))] H := hP
  have hD : va_D A [(f_starts, .inl (cI, 4, .inl staF)), (f, .inr (2, [.ref f_kinds, .ref f_signs, .ref f_sizes, .ref f_places, .ref f_limits, .ref f_starts, .ref f_sorts, .int 0, .int 1, .int (-1)])), (f_sorts, .inl (cI, 4, .inl u_7))] := hD
  have zs := w_6.1 ⟨by omega, by omega⟩
  refine lv_aload_n hx hb dX5_firstIll_20 rfl (lv_at hl 1 rfl) ?_
  refine lv_iload_n hx hb dX5_firstIll_21 rfl (lv_at hl 0 rfl) ?_
  have hPc := hP.sub (ws' := [(f, .inr (2, [.ref f_kinds, .ref f_signs, .ref f_sizes, .ref f_places, .ref f_limits, .ref f_starts, .ref f_sorts, .int 0, .int 1, .int (-1)])), (f_sorts, .inl (cI, 4, .inl u_7))]) [1, 2] rfl
  refine va_calli (va_runV (As := [.int 0]) (rest := []) ⟨hx, hb, hml, hown, hts⟩ (c_X2_sort l D cI cD cJ H.size f f_kinds f_signs f_sizes f_places f_limits f_starts f_sorts 0 1 (-1) u_7 0) (cwV 1 hts (goodIn_app (goodIn_r _ [11, 12, 13, 4] rfl (by decide +kernel)) (goodIn_sub i_X2_sort k_X2_sort)) rfl rfl rfl (by decide +kernel) ⟨Nat.le_of_ble_eq_true rfl, Nat.le_of_ble_eq_true rfl⟩) ⟨fun a U g mk q => by obtain ⟨q0, qP, qK⟩ := q; exact ⟨q0, qP, va_K.moved (u := U) (U := U.calling g mk a) (Vm.Alike.refl U.vm) qK⟩, va_recv hK hPc (ci := 2) (q0 := 0) rfl rfl, fun U hU hW => ⟨rfl, by rw [hU]; exact hPc, va_K.moved hW.alike hK⟩⟩ rfl rfl hl.1 rfl (lv_room (Nat.le_of_ble_eq_true rfl)) dX5_firstIll_22 ⟨Nat.le_of_ble_eq_true rfl, Nat.le_of_ble_eq_true rfl⟩) hS (fun q _ h => h.elim) (fun q h => h.elim) (fun x_8 u t H1 locs ht hvm w_9 hB hz1 hk1 hS => ?_)
  have hP : va_P D vwCl [(f_starts, .inl (cI, 4, .inl staF)), (f, .inr (2, [.ref f_kinds, .ref f_signs, .ref f_sizes, .ref f_places, .ref f_limits, .ref f_starts, .ref f_sorts, .int 0, .int 1, .int (-1)])), (f_sorts, .inl (cI, 4, .inl u_7))] H1 := hP.kept (fun k9 q9 h9 => hk1 q9.1 (vx_lt hP h9) (fun h => h))
  generalize H1 = H at hP hS ⊢
  try dsimp only at w_9
  have z_x_8 : (x_8 : Int32).toInt = 0 := by rw [w_9.1 ⟨by omega, by omega⟩, zs, pk_us]; omega
  refine lv_iconst (v := 1) hx hb dX5_firstIll_25 (by decide) ?_
  refine lv_icmp_ne (tgt := 39) hx hb dX5_firstIll_26 (by decide) (fun c_10 => ?_) (fun c_10 => by have ic_10 : (x_8 : Int32).toInt = (1 : Int32).toInt := (fa_eq x_8 1).mp c_10; exfalso; omega)
  have ic_10 : ¬ ((x_8 : Int32).toInt = (1 : Int32).toInt) := fun h9 => c_10 ((fa_eq x_8 1).mpr h9)
  refine lv_aload_n hx hb dX5_firstIll_39 rfl (lv_at hl 1 rfl) ?_
  refine lv_iload_n hx hb dX5_firstIll_40 rfl (lv_at hl 0 rfl) ?_
  have hPc := hP.sub (ws' := [(f, .inr (2, [.ref f_kinds, .ref f_signs, .ref f_sizes, .ref f_places, .ref f_limits, .ref f_starts, .ref f_sorts, .int 0, .int 1, .int (-1)])), (f_starts, .inl (cI, 4, .inl staF)), (f_sorts, .inl (cI, 4, .inl u_7))]) [1, 0, 2] rfl
  refine va_calli (va_runS (As := [.ref f, .int 0]) (rest := []) ⟨hx, hb, hml, hown, hts⟩ (c_X5_firstIllIn0 l D cI cD cJ H.size f f_kinds f_signs f_sizes f_places f_limits f_starts f_sorts staF u_7 hst) (va_cwS 2 hts (goodIn_app (goodIn_r _ [14, 15, 7] rfl (by decide +kernel)) (goodIn_sub i_X5_firstIllIn k_X5_firstIllIn)) rfl rfl rfl (by decide +kernel) ⟨Nat.le_of_ble_eq_true rfl, Nat.le_of_ble_eq_true rfl⟩) ⟨fun a U g mk q => by obtain ⟨q0, qP, qK⟩ := q; exact ⟨q0, qP, va_K.moved (u := U) (U := U.calling g mk a) (Vm.Alike.refl U.vm) qK⟩, fun U hU hW => ⟨rfl, by rw [hU]; exact hPc, va_K.moved hW.alike hK⟩⟩ rfl rfl hl.1 rfl (lv_room (Nat.le_of_ble_eq_true rfl)) dX5_firstIll_41 ⟨Nat.le_of_ble_eq_true rfl, Nat.le_of_ble_eq_true rfl⟩) hS (fun q _ h => h.elim) (fun q h => h.elim) (fun x_11 u t H1 locs ht hvm w_12 hB hz1 hk1 hS => ?_)
  have hP : va_P D vwCl [(f_starts, .inl (cI, 4, .inl staF)), (f, .inr (2, [.ref f_kinds, .ref f_signs, .ref f_sizes, .ref f_places, .ref f_limits, .ref f_starts, .ref f_sorts, .int 0, .int 1, .int (-1)])), (f_sorts, .inl (cI, 4, .inl u_7))] H1 := hP.kept (fun k9 q9 h9 => hk1 q9.1 (vx_lt hP h9) (fun h => h))
  generalize H1 = H at hP hS ⊢
  try dsimp only at w_12
  refine lv_istore_n (lv' := [(2, .int x_11), (1, .int 0), (0, .ref f)]) hx hb dX5_firstIll_44 rfl hl (by decide) rfl (fun ls hl => ?_)
  refine lv_iload_n hx hb dX5_firstIll_45 rfl (lv_at hl 0 rfl) ?_
  refine lv_iconst (v := (-1)) hx hb dX5_firstIll_46 (by decide) ?_
  refine lv_icmp_eq (tgt := 56) hx hb dX5_firstIll_47 (by decide) (fun c_13 => ?_) (fun c_13 => by have ic_13 : ¬ ((x_11 : Int32).toInt = ((-1) : Int32).toInt) := fun h9 => c_13 ((fa_eq x_11 (-1)).mpr h9); exfalso; omega)
  have ic_13 : (x_11 : Int32).toInt = ((-1) : Int32).toInt := (fa_eq x_11 (-1)).mp c_13
  obtain ⟨x_14, ex_14⟩ : ∃ y : Int32, y = 0 + 1 := ⟨_, rfl⟩
  have tx_14 := ti_add ex_14
  refine lv_iinc (v := x_14) (lv' := [(1, .int x_14), (2, .int x_11), (0, .ref f)]) hx hb dX5_firstIll_56 hl (k := 1) rfl (by rw [ex_14]; rfl) (by decide) rfl (fun ls hl => ?_)
  refine lv_goto (tgt := 2) hx hb dX5_firstIll_59 (by decide) ?_
  refine lv_iload_n hx hb dX5_firstIll_2 rfl (lv_at hl 0 rfl) ?_
  refine lv_aload_n hx hb dX5_firstIll_3 rfl (lv_at hl 2 rfl) ?_
  have hPc := hP.sub (ws' := [(f, .inr (2, [.ref f_kinds, .ref f_signs, .ref f_sizes, .ref f_places, .ref f_limits, .ref f_starts, .ref f_sorts, .int 0, .int 1, .int (-1)]))]) [1] rfl
  refine va_calli (va_runV (As := []) (rest := [.int x_14]) ⟨hx, hb, hml, hown, hts⟩ (c_X2_sections l D cI cD cJ H.size f f_kinds f_signs f_sizes f_places f_limits f_starts f_sorts 0 1 (-1)) (cwV 0 hts (goodIn_app (goodIn_r _ [1, 2, 3, 4] rfl (by decide +kernel)) (goodIn_sub i_X2_sections k_X2_sections)) rfl rfl rfl (by decide +kernel) ⟨Nat.le_of_ble_eq_true rfl, Nat.le_of_ble_eq_true rfl⟩) ⟨fun a U g mk q => by obtain ⟨q0, qP, qK⟩ := q; exact ⟨q0, qP, va_K.moved (u := U) (U := U.calling g mk a) (Vm.Alike.refl U.vm) qK⟩, va_recv hK hPc (ci := 2) (q0 := 0) rfl rfl, fun U hU hW => ⟨rfl, by rw [hU]; exact hPc, va_K.moved hW.alike hK⟩⟩ rfl rfl hl.1 rfl (lv_room (Nat.le_of_ble_eq_true rfl)) dX5_firstIll_4 ⟨Nat.le_of_ble_eq_true rfl, Nat.le_of_ble_eq_true rfl⟩) hS (fun q _ h => h.elim) (fun q h => h.elim) (fun x_15 u t H1 locs ht hvm w_16 hB hz1 hk1 hS => ?_)
  have hP : va_P D vwCl [(f_starts, .inl (cI, 4, .inl staF)), (f, .inr (2, [.ref f_kinds, .ref f_signs, .ref f_sizes, .ref f_places, .ref f_limits, .ref f_starts, .ref f_sorts, .int 0, .int 1, .int (-1)])), (f_sorts, .inl (cI, 4, .inl u_7))] H1 := hP.kept (fun k9 q9 h9 => hk1 q9.1 (vx_lt hP h9) (fun h => h))
  generalize H1 = H at hP hS ⊢
  try dsimp only at w_16
  have z_x_15 : (x_15 : Int32).toInt = 1 := by rw [w_16]; rfl
  refine lv_icmp_ge (tgt := 62) hx hb dX5_firstIll_7 (by decide) (fun c_17 => ?_) (fun c_17 => by have ic_17 : ¬ ((x_15 : Int32).toInt ≤ (x_14 : Int32).toInt) := fun h9 => c_17 ((fa_le x_15 x_14).mpr h9); exfalso; omega)
  have ic_17 : (x_15 : Int32).toInt ≤ (x_14 : Int32).toInt := (fa_le x_15 x_14).mp c_17
  refine lv_aload_n hx hb dX5_firstIll_62 rfl (lv_at hl 2 rfl) ?_
  have hPc := hP.sub (ws' := [(f, .inr (2, [.ref f_kinds, .ref f_signs, .ref f_sizes, .ref f_places, .ref f_limits, .ref f_starts, .ref f_sorts, .int 0, .int 1, .int (-1)]))]) [1] rfl
  refine va_calli (va_runV (As := []) (rest := []) ⟨hx, hb, hml, hown, hts⟩ (c_X2_fifthPlace l D cI cD cJ H.size f f_kinds f_signs f_sizes f_places f_limits f_starts f_sorts 0 1 (-1)) (cwV 0 hts (goodIn_app (goodIn_r _ [16, 17, 18, 4] rfl (by decide +kernel)) (goodIn_sub i_X2_fifthPlace k_X2_fifthPlace)) rfl rfl rfl (by decide +kernel) ⟨Nat.le_of_ble_eq_true rfl, Nat.le_of_ble_eq_true rfl⟩) ⟨fun a U g mk q => by obtain ⟨q0, qP, qK⟩ := q; exact ⟨q0, qP, va_K.moved (u := U) (U := U.calling g mk a) (Vm.Alike.refl U.vm) qK⟩, va_recv hK hPc (ci := 2) (q0 := 0) rfl rfl, fun U hU hW => ⟨rfl, by rw [hU]; exact hPc, va_K.moved hW.alike hK⟩⟩ rfl rfl hl.1 rfl (lv_room (Nat.le_of_ble_eq_true rfl)) dX5_firstIll_63 ⟨Nat.le_of_ble_eq_true rfl, Nat.le_of_ble_eq_true rfl⟩) hS (fun q _ h => h.elim) (fun q h => h.elim) (fun x_18 u t H1 locs ht hvm w_19 hB hz1 hk1 hS => ?_)
  have hP : va_P D vwCl [(f_starts, .inl (cI, 4, .inl staF)), (f, .inr (2, [.ref f_kinds, .ref f_signs, .ref f_sizes, .ref f_places, .ref f_limits, .ref f_starts, .ref f_sorts, .int 0, .int 1, .int (-1)])), (f_sorts, .inl (cI, 4, .inl u_7))] H1 := hP.kept (fun k9 q9 h9 => hk1 q9.1 (vx_lt hP h9) (fun h => h))
  generalize H1 = H at hP hS ⊢
  try dsimp only at w_19
  have hP9 := hP.sub (ws' := [(f, .inr (2, [.ref f_kinds, .ref f_signs, .ref f_sizes, .ref f_places, .ref f_limits, .ref f_starts, .ref f_sorts, .int 0, .int 1, .int (-1)])), (f_starts, .inl (cI, 4, .inl staF)), (f_sorts, .inl (cI, 4, .inl u_7))]) [1, 0, 2] rfl
  have hD9 := hD.sub (ws' := [(f, .inr (2, [.ref f_kinds, .ref f_signs, .ref f_sizes, .ref f_places, .ref f_limits, .ref f_starts, .ref f_sorts, .int 0, .int 1, .int (-1)])), (f_starts, .inl (cI, 4, .inl staF)), (f_sorts, .inl (cI, 4, .inl u_7))]) [1, 0, 2] (by decide) rfl
  exact W.iret (v := x_18) hx hb hr (fun t ht hW => ⟨⟨x_18, (u_7), rfl, (by assumption), by rw [ht]; exact hP9, va_K.moved hW.alike hK, hD9⟩, hS.F ht⟩) hS.2.2 dX5_firstIll_66

def ow_X8_read : List Cond := [Cond.methodLink RX8 9 yX2_clear, Cond.instanceMethod yX2_clear, Cond.selects RX2 yX2_clear yX2_clear, Cond.initialized RX2, Cond.methodLink RX8 14 yX10_length, Cond.instanceMethod yX10_length, Cond.selects RX10 yX10_length yX10_length, Cond.initialized RX10]
def pw_X8_read : List Cond := Cond.code yX8_read cX8_read 4 none :: (ow_X8_read ++ (pw_X2_clear ++ (pw_X10_length)))
set_option maxRecDepth 20000 in
theorem mo_X8_read : ∀ w ∈ ow_X8_read, w ∈ lw_tbl := by decide +kernel
set_option maxRecDepth 20000 in
theorem mc_X8_read : Cond.code yX8_read cX8_read 4 none ∈ lw_tbl := by decide +kernel
theorem m_X8_read : ∀ w ∈ pw_X8_read, w ∈ lw_tbl := List.forall_mem_cons.mpr ⟨mc_X8_read, (List.forall_mem_append.mpr ⟨mo_X8_read, (List.forall_mem_append.mpr ⟨m_X2_clear, m_X10_length⟩)⟩)⟩
theorem ko_X8_read : ∀ w ∈ ow_X8_read, goodWord w = true := by decide +kernel
theorem k_X8_read : pw_X8_read.all goodWord = true := List.all_eq_true.mpr (List.forall_mem_cons.mpr ⟨by decide +kernel, (List.forall_mem_append.mpr ⟨ko_X8_read, (List.forall_mem_append.mpr ⟨(List.all_eq_true.mp k_X2_clear), (List.all_eq_true.mp k_X10_length)⟩)⟩)⟩)
set_option maxHeartbeats 400000 in
set_option maxRecDepth 100000 in
theorem c_X8_read0 (l : Launch) (D : va_G) (cI cD cJ : ClassId) (sz : Nat) (x : Nat) (x_signs : Nat) (f : Nat) (f_kinds : Nat) (f_signs : Nat) (f_sizes : Nat) (f_places : Nat) (f_limits : Nat) (f_starts : Nat) (f_sorts : Nat) (f_count : Int32) (f_sections : Int32) (f_fifth : Int32) (staF : Nat → Int32) : Met l yX8_read pw_X8_read ({ frames := 2, cells := 0, slots := 0, locals := 41 }) (va_Pc [.ref x, .ref f] (fun U => U.heap.size = sz ∧ va_P D vwCl [(x, .inr (7, [.ref x_signs, .int 0])), (f, .inr (2, [.ref f_kinds, .ref f_signs, .ref f_sizes, .ref f_places, .ref f_limits, .ref f_starts, .ref f_sorts, .int f_count, .int f_sections, .int f_fifth])), (f_starts, .inl (cI, 4, .inl staF))] U.heap ∧ va_K D vwCl (ty3 cI cD cJ) U ∧ va_D (fun _ => True) [(x, .inr (7, [.ref x_signs, .int 0])), (f, .inr (2, [.ref f_kinds, .ref f_signs, .ref f_sizes, .ref f_places, .ref f_limits, .ref f_starts, .ref f_sorts, .int f_count, .int f_sections, .int f_fifth])), (f_starts, .inl (cI, 4, .inl staF))])) (va_Qv (fun (stF2 : (Nat → Int32)) => stF2 0 = 0) (fun (stF2 : (Nat → Int32)) (t : State) => va_P D vwCl [(x, .inr (7, [.ref x_signs, .int 0])), (f, .inr (2, [.ref f_kinds, .ref f_signs, .ref f_sizes, .ref f_places, .ref f_limits, .ref f_starts, .ref f_sorts, .int 0, .int 1, .int (-1)])), (f_starts, .inl (cI, 4, .inl stF2))] t.heap ∧ va_K D vwCl (ty3 cI cD cJ) t ∧ va_D (va_A [(x, .inr (7, [.ref x_signs, .int 0])), (f, .inr (2, [.ref f_kinds, .ref f_signs, .ref f_sizes, .ref f_places, .ref f_limits, .ref f_starts, .ref f_sorts, .int f_count, .int f_sections, .int f_fifth])), (f_starts, .inl (cI, 4, .inl staF))] sz) [(x, .inr (7, [.ref x_signs, .int 0])), (f, .inr (2, [.ref f_kinds, .ref f_signs, .ref f_sizes, .ref f_places, .ref f_limits, .ref f_starts, .ref f_sorts, .int 0, .int 1, .int (-1)])), (f_starts, .inl (cI, 4, .inl stF2))]) (va_A [(x, .inr (7, [.ref x_signs, .int 0])), (f, .inr (2, [.ref f_kinds, .ref f_signs, .ref f_sizes, .ref f_places, .ref f_limits, .ref f_starts, .ref f_sorts, .int f_count, .int f_sections, .int f_fifth])), (f_starts, .inl (cI, 4, .inl staF))] sz)) 0 0 (va_A [(x, .inr (7, [.ref x_signs, .int 0])), (f, .inr (2, [.ref f_kinds, .ref f_signs, .ref f_sizes, .ref f_places, .ref f_limits, .ref f_starts, .ref f_sorts, .int f_count, .int f_sections, .int f_fifth])), (f_starts, .inl (cI, 4, .inl staF))] sz) := by
  refine Met.ofW (cc := cX8_read) (maxL := 4) (ret := none) (by decide) rfl ?_
  intro p e s m args below meth c s₁ B hml hv
  obtain ⟨rfl, hsz, hP, hK, hD0⟩ := hv
  have hx := B.exec
  have hb := B.bytes
  have hr := B.returns
  have hts := atoms_spec (ws := pw_X8_read) B.pre
  have hown : s.vm.findClass RX8 = some m.cls := findClass_of_methodNamed B.named
  have hlocks := B.notSynchronized
  subst hsz
  have hD := hD0.self (sz := s.heap.size)
  generalize hAe : va_A [(x, .inr (7, [.ref x_signs, .int 0])), (f, .inr (2, [.ref f_kinds, .ref f_signs, .ref f_sizes, .ref f_places, .ref f_limits, .ref f_starts, .ref f_sorts, .int f_count, .int f_sections, .int f_fifth])), (f_starts, .inl (cI, 4, .inl staF))] s.heap.size = A at hD ⊢
  have hA : ∀ q : Nat, s.heap.size ≤ q → A q := fun q h => by rw [← hAe]; exact Or.inr h
  have hS : va_S A s.heap s.heap [] := va_S.rf
  have hw : ∀ (k : Nat) (w : Cond), ow_X8_read[k]? = some w → w.before _ s = true := fun k w h => hts w (List.mem_cons_of_mem _ (have h9 := List.mem_of_getElem? h; List.mem_append_left _ h9))
  have i_X2_clear : ∀ w ∈ pw_X2_clear, w ∈ pw_X8_read := fun w h9 => List.mem_cons_of_mem _ (List.mem_append_right _ (List.mem_append_left _ h9))
  have i_X10_length : ∀ w ∈ pw_X10_length, w ∈ pw_X8_read := fun w h9 => List.mem_cons_of_mem _ (List.mem_append_right _ (List.mem_append_right _ (h9)))
  have n_m1 : (((-1) : Int32)).toInt = (-1) := by decide
  have n_0 : ((0 : Int32)).toInt = 0 := by decide
  have n_1 : ((1 : Int32)).toInt = 1 := by decide
  have n_255 : ((255 : Int32)).toInt = 255 := by decide
  have hl := lv_entry ([.ref x, .ref f]) (n := 4) (Nat.le_of_ble_eq_true rfl)
  rw [lg_entry_eq]
  generalize (lg_sl ([.ref x, .ref f]) ++ List.replicate (4 - (lg_sl ([.ref x, .ref f])).length) Slot.unset).toArray = ls at hl ⊢
  have hl : lv_has ls 4 [(0, .ref x), (1, .ref f)] := hl
  refine lv_aload_n hx hb dX8_read_0 rfl (lv_at hl 1 rfl) ?_
  have hPc := hP.sub (ws' := [(f, .inr (2, [.ref f_kinds, .ref f_signs, .ref f_sizes, .ref f_places, .ref f_limits, .ref f_starts, .ref f_sorts, .int f_count, .int f_sections, .int f_fifth])), (f_starts, .inl (cI, 4, .inl staF))]) [1, 2] rfl
  have hDc := hD.sub (ws' := [(f, .inr (2, [.ref f_kinds, .ref f_signs, .ref f_sizes, .ref f_places, .ref f_limits, .ref f_starts, .ref f_sorts, .int f_count, .int f_sections, .int f_fifth])), (f_starts, .inl (cI, 4, .inl staF))]) [1, 2] (by decide) rfl
  have hFc := va_free (wc := [(f, .inr (2, [.ref f_kinds, .ref f_signs, .ref f_sizes, .ref f_places, .ref f_limits, .ref f_starts, .ref f_sorts, .int f_count, .int f_sections, .int f_fifth])), (f_starts, .inl (cI, 4, .inl staF))]) hD hS hA [1, 2] rfl
  refine va_callv (va_runV (As := []) (rest := []) ⟨hx, hb, hml, hown, hts⟩ (c_X2_clear l D cI cD cJ s.heap.size f f_kinds f_signs f_sizes f_places f_limits f_starts f_sorts f_count f_sections f_fifth staF) (cwV 0 hts (goodIn_app (goodIn_r _ [1, 2, 3, 4] rfl (by decide +kernel)) (goodIn_sub i_X2_clear k_X2_clear)) rfl rfl rfl (by decide +kernel) ⟨Nat.le_of_ble_eq_true rfl, Nat.le_of_ble_eq_true rfl⟩) ⟨fun a U g mk q => by obtain ⟨q0, q1, qP, qK, qD⟩ := q; exact ⟨q0, q1, qP, va_K.moved (u := U) (U := U.calling g mk a) (Vm.Alike.refl U.vm) qK, qD⟩, va_recv hK hPc (ci := 2) (q0 := 0) rfl rfl, fun U hU hW => ⟨rfl, by rw [hU], by rw [hU]; exact hPc, va_K.moved hW.alike hK, hDc.weaken (fun _ _ _ _ => trivial)⟩⟩ rfl rfl hl.1 rfl (lv_room (Nat.le_of_ble_eq_true rfl)) dX8_read_1 ⟨Nat.le_of_ble_eq_true rfl, Nat.le_of_ble_eq_true rfl⟩) hS (fun q _ h => hFc q h) hFc (fun u t H1 locs ht hvm w_1 hB hz1 hk1 hS => ?_)
  generalize u = u_2 at w_1 hB
  obtain ⟨hP1, hK1, hD1⟩ := hB
  rw [ht] at hP1
  try dsimp only at w_1
  obtain ⟨hP, hD⟩ := va_join (wr := [(x, .inr (7, [.ref x_signs, .int 0]))]) (w1 := [(f, .inr (2, [.ref f_kinds, .ref f_signs, .ref f_sizes, .ref f_places, .ref f_limits, .ref f_starts, .ref f_sorts, .int 0, .int 1, .int (-1)])), (f_starts, .inl (cI, 4, .inl u_2))]) hP hD [1, 2] [0] rfl rfl (by decide) (by decide) hk1 hFc hP1 hD1
  generalize H1 = H at hP hS ⊢
  have hP : va_P D vwCl [(x, .inr (7, [.ref x_signs, .int 0])), (f, .inr (2, [.ref f_kinds, .ref f_signs, .ref f_sizes, .ref f_places, .ref f_limits, .ref f_starts, .ref f_sorts, .int 0, .int 1, .int (-1)])), (f_starts, .inl (cI, 4, .inl u_2))] H := hP
  have hD : va_D A [(x, .inr (7, [.ref x_signs, .int 0])), (f, .inr (2, [.ref f_kinds, .ref f_signs, .ref f_sizes, .ref f_places, .ref f_limits, .ref f_starts, .ref f_sorts, .int 0, .int 1, .int (-1)])), (f_starts, .inl (cI, 4, .inl u_2))] := hD
  refine lv_iconst (v := 0) hx hb dX8_read_4 (by decide) ?_
  refine lv_istore_n (lv' := [(2, .int 0), (0, .ref x), (1, .ref f)]) hx hb dX8_read_5 rfl hl (by decide) rfl (fun ls hl => ?_)
  refine lv_iconst (v := 0) hx hb dX8_read_6 (by decide) ?_
  refine lv_istore_n (lv' := [(3, .int 0), (2, .int 0), (0, .ref x), (1, .ref f)]) hx hb dX8_read_7 rfl hl (by decide) rfl (fun ls hl => ?_)
  refine lv_iload_n hx hb dX8_read_8 rfl (lv_at hl 0 rfl) ?_
  refine lv_sipush (v := 255) hx hb dX8_read_9 (by decide) ?_
  refine lv_icmp_ge (tgt := 45) hx hb dX8_read_12 (by decide) (fun c_3 => by have ic_3 : (255 : Int32).toInt ≤ (0 : Int32).toInt := (fa_le 255 0).mp c_3; exfalso; omega) (fun c_3 => ?_)
  have ic_3 : ¬ ((255 : Int32).toInt ≤ (0 : Int32).toInt) := fun h9 => c_3 ((fa_le 255 0).mpr h9)
  refine lv_iload_n hx hb dX8_read_15 rfl (lv_at hl 1 rfl) ?_
  refine lv_aload_n hx hb dX8_read_16 rfl (lv_at hl 2 rfl) ?_
  have hPc := hP.sub (ws' := [(x, .inr (7, [.ref x_signs, .int 0]))]) [0] rfl
  refine va_calli (va_runV (As := []) (rest := [.int 0]) ⟨hx, hb, hml, hown, hts⟩ (c_X10_length l D cI cD cJ H.size x x_signs 0) (cwV 0 hts (goodIn_app (goodIn_r _ [5, 6, 7, 8] rfl (by decide +kernel)) (goodIn_sub i_X10_length k_X10_length)) rfl rfl rfl (by decide +kernel) ⟨Nat.le_of_ble_eq_true rfl, Nat.le_of_ble_eq_true rfl⟩) ⟨fun a U g mk q => by obtain ⟨q0, qP, qK⟩ := q; exact ⟨q0, qP, va_K.moved (u := U) (U := U.calling g mk a) (Vm.Alike.refl U.vm) qK⟩, va_recv hK hPc (ci := 7) (q0 := 0) rfl rfl, fun U hU hW => ⟨rfl, by rw [hU]; exact hPc, va_K.moved hW.alike hK⟩⟩ rfl rfl hl.1 rfl (lv_room (Nat.le_of_ble_eq_true rfl)) dX8_read_17 ⟨Nat.le_of_ble_eq_true rfl, Nat.le_of_ble_eq_true rfl⟩) hS (fun q _ h => h.elim) (fun q h => h.elim) (fun x_4 u t H1 locs ht hvm w_5 hB hz1 hk1 hS => ?_)
  have hP : va_P D vwCl [(x, .inr (7, [.ref x_signs, .int 0])), (f, .inr (2, [.ref f_kinds, .ref f_signs, .ref f_sizes, .ref f_places, .ref f_limits, .ref f_starts, .ref f_sorts, .int 0, .int 1, .int (-1)])), (f_starts, .inl (cI, 4, .inl u_2))] H1 := hP.kept (fun k9 q9 h9 => hk1 q9.1 (vx_lt hP h9) (fun h => h))
  generalize H1 = H at hP hS ⊢
  try dsimp only at w_5
  have z_x_4 : (x_4 : Int32).toInt = 0 := by rw [w_5]; rfl
  refine lv_icmp_ge (tgt := 45) hx hb dX8_read_20 (by decide) (fun c_6 => ?_) (fun c_6 => by have ic_6 : ¬ ((x_4 : Int32).toInt ≤ (0 : Int32).toInt) := fun h9 => c_6 ((fa_le x_4 0).mpr h9); exfalso; omega)
  have ic_6 : (x_4 : Int32).toInt ≤ (0 : Int32).toInt := (fa_le x_4 0).mp c_6
  have hP9 := hP.sub (ws' := [(x, .inr (7, [.ref x_signs, .int 0])), (f, .inr (2, [.ref f_kinds, .ref f_signs, .ref f_sizes, .ref f_places, .ref f_limits, .ref f_starts, .ref f_sorts, .int 0, .int 1, .int (-1)])), (f_starts, .inl (cI, 4, .inl u_2))]) [0, 1, 2] rfl
  have hD9 := hD.sub (ws' := [(x, .inr (7, [.ref x_signs, .int 0])), (f, .inr (2, [.ref f_kinds, .ref f_signs, .ref f_sizes, .ref f_places, .ref f_limits, .ref f_starts, .ref f_sorts, .int 0, .int 1, .int (-1)])), (f_starts, .inl (cI, 4, .inl u_2))]) [0, 1, 2] (by decide) rfl
  exact W.vret hx hb hr (fun t ht hW => ⟨⟨(u_2), rfl, (by assumption), by rw [ht]; exact hP9, va_K.moved hW.alike hK, hD9⟩, hS.F ht⟩) hS.2.2 dX8_read_45

