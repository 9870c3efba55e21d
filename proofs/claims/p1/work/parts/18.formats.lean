def ow_X11_format : List Cond := [Cond.fieldLink RX11 16 "NumberFormats" "text" "LNumberFormats$Text;", Cond.fieldLink RX11 34 "NumberFormats" "spare" "LNumberFormats$Format;", Cond.methodLink RX11 68 yX8_read, Cond.static yX8_read, Cond.initialized RX8, Cond.methodLink RX11 74 yX5_firstIll, Cond.static yX5_firstIll, Cond.initialized RX5, Cond.fieldLink RX11 37 "NumberFormats" "illPlace" "I", Cond.fieldLink RX11 30 "NumberFormats" "current" "LNumberFormats$Format;", Cond.fieldLink RX11 87 "NumberFormats" "formatted" "Z", Cond.methodLink RX11 91 yX2_sections, Cond.instanceMethod yX2_sections, Cond.selects RX2 yX2_sections yX2_sections, Cond.initialized RX2]
def pw_X11_format : List Cond := Cond.code yX11_format cX11_format 2 (some .int) :: (ow_X11_format ++ (pw_X8_read ++ (pw_X5_firstIll ++ (pw_X2_sections ++ (wsX110)))))
set_option maxRecDepth 20000 in
theorem mo_X11_format : ∀ w ∈ ow_X11_format, w ∈ lw_tbl := by decide +kernel
set_option maxRecDepth 20000 in
theorem mc_X11_format : Cond.code yX11_format cX11_format 2 (some .int) ∈ lw_tbl := by decide +kernel
theorem m_X11_format : ∀ w ∈ pw_X11_format, w ∈ lw_tbl := List.forall_mem_cons.mpr ⟨mc_X11_format, (List.forall_mem_append.mpr ⟨mo_X11_format, (List.forall_mem_append.mpr ⟨m_X8_read, (List.forall_mem_append.mpr ⟨m_X5_firstIll, (List.forall_mem_append.mpr ⟨m_X2_sections, inX11⟩)⟩)⟩)⟩)⟩
theorem ko_X11_format : ∀ w ∈ ow_X11_format, goodWord w = true := by decide +kernel
theorem k_X11_format : pw_X11_format.all goodWord = true := List.all_eq_true.mpr (List.forall_mem_cons.mpr ⟨by decide +kernel, (List.forall_mem_append.mpr ⟨ko_X11_format, (List.forall_mem_append.mpr ⟨(List.all_eq_true.mp k_X8_read), (List.forall_mem_append.mpr ⟨(List.all_eq_true.mp k_X5_firstIll), (List.forall_mem_append.mpr ⟨(List.all_eq_true.mp k_X2_sections), kX_X11⟩)⟩)⟩)⟩)⟩)
set_option maxHeartbeats 400000 in
set_option maxRecDepth 100000 in
theorem c_X11_format0 (l : Launch) (D : va_G) (cI cD cJ : ClassId) (sz : Nat) (h : Nat) (x : Nat) (cu : Nat) (h_tape : Nat) (h_shower : Nat) (h_formatted : Int32) (h_fed : Int32) (h_illPlace : Int32) (h_value : UInt64) (x_signs : Nat) (f : Nat) (f_kinds : Nat) (f_signs : Nat) (f_sizes : Nat) (f_places : Nat) (f_limits : Nat) (f_starts : Nat) (f_sorts : Nat) (f_count : Int32) (f_sections : Int32) (f_fifth : Int32) (staF : Nat → Int32) (sorF : Nat → Int32) : Met l yX11_format pw_X11_format ({ frames := 4, cells := 0, slots := 0, locals := 89 }) (va_Pc [.ref h] (fun U => U.heap.size = sz ∧ va_P D vwCl [(h, .inr (8, [.ref h_tape, .ref x, .ref h_shower, .ref cu, .ref f, .int h_formatted, .int h_fed, .int h_illPlace, .double h_value])), (x, .inr (7, [.ref x_signs, .int 0])), (f, .inr (2, [.ref f_kinds, .ref f_signs, .ref f_sizes, .ref f_places, .ref f_limits, .ref f_starts, .ref f_sorts, .int f_count, .int f_sections, .int f_fifth])), (f_starts, .inl (cI, 4, .inl staF)), (f_sorts, .inl (cI, 4, .inl sorF))] U.heap ∧ va_K D vwCl (ty3 cI cD cJ) U ∧ va_D (fun _ => True) [(h, .inr (8, [.ref h_tape, .ref x, .ref h_shower, .ref cu, .ref f, .int h_formatted, .int h_fed, .int h_illPlace, .double h_value])), (x, .inr (7, [.ref x_signs, .int 0])), (f, .inr (2, [.ref f_kinds, .ref f_signs, .ref f_sizes, .ref f_places, .ref f_limits, .ref f_starts, .ref f_sorts, .int f_count, .int f_sections, .int f_fifth])), (f_starts, .inl (cI, 4, .inl staF)), (f_sorts, .inl (cI, 4, .inl sorF))])) (va_Qi (fun (r : Int32) (u : Int32 × (Nat → Int32) × (Nat → Int32)) => match u with | (il2, staF2, sorF2) => r.toInt = 1) (fun (u : Int32 × (Nat → Int32) × (Nat → Int32)) (t : State) => match u with | (il2, staF2, sorF2) => va_P D vwCl [(h, .inr (8, [.ref h_tape, .ref x, .ref h_shower, .ref f, .ref cu, .int 1, .int h_fed, .int il2, .double h_value])), (x, .inr (7, [.ref x_signs, .int 0])), (f, .inr (2, [.ref f_kinds, .ref f_signs, .ref f_sizes, .ref f_places, .ref f_limits, .ref f_starts, .ref f_sorts, .int 0, .int 1, .int (-1)])), (f_starts, .inl (cI, 4, .inl staF2)), (f_sorts, .inl (cI, 4, .inl sorF2))] t.heap ∧ va_K D vwCl (ty3 cI cD cJ) t ∧ va_D (va_A [(h, .inr (8, [.ref h_tape, .ref x, .ref h_shower, .ref cu, .ref f, .int h_formatted, .int h_fed, .int h_illPlace, .double h_value])), (x, .inr (7, [.ref x_signs, .int 0])), (f, .inr (2, [.ref f_kinds, .ref f_signs, .ref f_sizes, .ref f_places, .ref f_limits, .ref f_starts, .ref f_sorts, .int f_count, .int f_sections, .int f_fifth])), (f_starts, .inl (cI, 4, .inl staF)), (f_sorts, .inl (cI, 4, .inl sorF))] sz) [(h, .inr (8, [.ref h_tape, .ref x, .ref h_shower, .ref f, .ref cu, .int 1, .int h_fed, .int il2, .double h_value])), (x, .inr (7, [.ref x_signs, .int 0])), (f, .inr (2, [.ref f_kinds, .ref f_signs, .ref f_sizes, .ref f_places, .ref f_limits, .ref f_starts, .ref f_sorts, .int 0, .int 1, .int (-1)])), (f_starts, .inl (cI, 4, .inl staF2)), (f_sorts, .inl (cI, 4, .inl sorF2))]) (va_A [(h, .inr (8, [.ref h_tape, .ref x, .ref h_shower, .ref cu, .ref f, .int h_formatted, .int h_fed, .int h_illPlace, .double h_value])), (x, .inr (7, [.ref x_signs, .int 0])), (f, .inr (2, [.ref f_kinds, .ref f_signs, .ref f_sizes, .ref f_places, .ref f_limits, .ref f_starts, .ref f_sorts, .int f_count, .int f_sections, .int f_fifth])), (f_starts, .inl (cI, 4, .inl staF)), (f_sorts, .inl (cI, 4, .inl sorF))] sz)) 0 0 (va_A [(h, .inr (8, [.ref h_tape, .ref x, .ref h_shower, .ref cu, .ref f, .int h_formatted, .int h_fed, .int h_illPlace, .double h_value])), (x, .inr (7, [.ref x_signs, .int 0])), (f, .inr (2, [.ref f_kinds, .ref f_signs, .ref f_sizes, .ref f_places, .ref f_limits, .ref f_starts, .ref f_sorts, .int f_count, .int f_sections, .int f_fifth])), (f_starts, .inl (cI, 4, .inl staF)), (f_sorts, .inl (cI, 4, .inl sorF))] sz) := by
  refine Met.ofW (cc := cX11_format) (maxL := 2) (ret := (some .int)) (by decide) rfl ?_
  intro p e s m args below meth c s₁ B hml hv
  obtain ⟨rfl, hsz, hP, hK, hD0⟩ := hv
  have hx := B.exec
  have hb := B.bytes
  have hr := B.returns
  have hts := atoms_spec (ws := pw_X11_format) B.pre
  have hown : s.vm.findClass RX11 = some m.cls := findClass_of_methodNamed B.named
  have hlocks := B.notSynchronized
  subst hsz
  have hD := hD0.self (sz := s.heap.size)
  generalize hAe : va_A [(h, .inr (8, [.ref h_tape, .ref x, .ref h_shower, .ref cu, .ref f, .int h_formatted, .int h_fed, .int h_illPlace, .double h_value])), (x, .inr (7, [.ref x_signs, .int 0])), (f, .inr (2, [.ref f_kinds, .ref f_signs, .ref f_sizes, .ref f_places, .ref f_limits, .ref f_starts, .ref f_sorts, .int f_count, .int f_sections, .int f_fifth])), (f_starts, .inl (cI, 4, .inl staF)), (f_sorts, .inl (cI, 4, .inl sorF))] s.heap.size = A at hD ⊢
  have hA : ∀ q : Nat, s.heap.size ≤ q → A q := fun q h => by rw [← hAe]; exact Or.inr h
  have hS : va_S A s.heap s.heap [] := va_S.rf
  have hw : ∀ (k : Nat) (w : Cond), ow_X11_format[k]? = some w → w.before _ s = true := fun k w h => hts w (List.mem_cons_of_mem _ (have h9 := List.mem_of_getElem? h; List.mem_append_left _ h9))
  have i_X8_read : ∀ w ∈ pw_X8_read, w ∈ pw_X11_format := fun w h9 => List.mem_cons_of_mem _ (List.mem_append_right _ (List.mem_append_left _ h9))
  have i_X5_firstIll : ∀ w ∈ pw_X5_firstIll, w ∈ pw_X11_format := fun w h9 => List.mem_cons_of_mem _ (List.mem_append_right _ (List.mem_append_right _ (List.mem_append_left _ h9)))
  have i_X2_sections : ∀ w ∈ pw_X2_sections, w ∈ pw_X11_format := fun w h9 => List.mem_cons_of_mem _ (List.mem_append_right _ (List.mem_append_right _ (List.mem_append_right _ (List.mem_append_left _ h9))))
  have iX11 : ∀ w ∈ u_ws RX11 TX11 9, w ∈ pw_X11_format := fun w h9 => List.mem_cons_of_mem _ (List.mem_append_right _ (List.mem_append_right _ (List.mem_append_right _ (List.mem_append_right _ (h9)))))
  have n_m1 : (((-1) : Int32)).toInt = (-1) := by decide
  have n_0 : ((0 : Int32)).toInt = 0 := by decide
  have n_1 : ((1 : Int32)).toInt = 1 := by decide
  have hl := lv_entry ([.ref h]) (n := 2) (Nat.le_of_ble_eq_true rfl)
  rw [lg_entry_eq]
  generalize (lg_sl ([.ref h]) ++ List.replicate (2 - (lg_sl ([.ref h])).length) Slot.unset).toArray = ls at hl ⊢
  have hl : lv_has ls 2 [(0, .ref h)] := hl
  refine lv_aload_n hx hb dX11_format_0 rfl (lv_at hl 0 rfl) ?_
  refine va_get (D := D) (ci := 8) (v := .ref x) (C := RX11) (T := TX11) (N := 9) hx hb hts iX11 hown hK hP 0 rfl rfl 1 (by decide) (hw 0 (.fieldLink RX11 16 "NumberFormats" "text" "LNumberFormats$Text;") rfl) (fun _ h9 => h9) rfl dX11_format_1 ?_
  refine lv_aload_n hx hb dX11_format_4 rfl (lv_at hl 0 rfl) ?_
  refine va_get (D := D) (ci := 8) (v := .ref f) (C := RX11) (T := TX11) (N := 9) hx hb hts iX11 hown hK hP 0 rfl rfl 4 (by decide) (hw 1 (.fieldLink RX11 34 "NumberFormats" "spare" "LNumberFormats$Format;") rfl) (fun _ h9 => h9) rfl dX11_format_5 ?_
  have hPc := hP.sub (ws' := [(x, .inr (7, [.ref x_signs, .int 0])), (f, .inr (2, [.ref f_kinds, .ref f_signs, .ref f_sizes, .ref f_places, .ref f_limits, .ref f_starts, .ref f_sorts, .int f_count, .int f_sections, .int f_fifth])), (f_starts, .inl (cI, 4, .inl staF))]) [1, 2, 3] rfl
  have hDc := hD.sub (ws' := [(x, .inr (7, [.ref x_signs, .int 0])), (f, .inr (2, [.ref f_kinds, .ref f_signs, .ref f_sizes, .ref f_places, .ref f_limits, .ref f_starts, .ref f_sorts, .int f_count, .int f_sections, .int f_fifth])), (f_starts, .inl (cI, 4, .inl staF))]) [1, 2, 3] (by decide) rfl
  have hFc := va_free (wc := [(x, .inr (7, [.ref x_signs, .int 0])), (f, .inr (2, [.ref f_kinds, .ref f_signs, .ref f_sizes, .ref f_places, .ref f_limits, .ref f_starts, .ref f_sorts, .int f_count, .int f_sections, .int f_fifth])), (f_starts, .inl (cI, 4, .inl staF))]) hD hS hA [1, 2, 3] rfl
  refine va_callv (va_runS (As := [.ref x, .ref f]) (rest := []) ⟨hx, hb, hml, hown, hts⟩ (c_X8_read0 l D cI cD cJ s.heap.size x x_signs f f_kinds f_signs f_sizes f_places f_limits f_starts f_sorts f_count f_sections f_fifth staF) (va_cwS 2 hts (goodIn_app (goodIn_r _ [3, 4, 5] rfl (by decide +kernel)) (goodIn_sub i_X8_read k_X8_read)) rfl rfl rfl (by decide +kernel) ⟨Nat.le_of_ble_eq_true rfl, Nat.le_of_ble_eq_true rfl⟩) ⟨fun a U g mk q => by obtain ⟨q0, q1, qP, qK, qD⟩ := q; exact ⟨q0, q1, qP, va_K.moved (u := U) (U := U.calling g mk a) (Vm.Alike.refl U.vm) qK, qD⟩, fun U hU hW => ⟨rfl, by rw [hU], by rw [hU]; exact hPc, va_K.moved hW.alike hK, hDc.weaken (fun _ _ _ _ => trivial)⟩⟩ rfl rfl hl.1 rfl (lv_room (Nat.le_of_ble_eq_true rfl)) dX11_format_8 ⟨Nat.le_of_ble_eq_true rfl, Nat.le_of_ble_eq_true rfl⟩) hS (fun q _ h => hFc q h) hFc (fun u t H1 locs ht hvm w_1 hB hz1 hk1 hS => ?_)
  generalize u = u_2 at w_1 hB
  obtain ⟨hP1, hK1, hD1⟩ := hB
  rw [ht] at hP1
  try dsimp only at w_1
  obtain ⟨hP, hD⟩ := va_join (wr := [(h, .inr (8, [.ref h_tape, .ref x, .ref h_shower, .ref cu, .ref f, .int h_formatted, .int h_fed, .int h_illPlace, .double h_value])), (f_sorts, .inl (cI, 4, .inl sorF))]) (w1 := [(x, .inr (7, [.ref x_signs, .int 0])), (f, .inr (2, [.ref f_kinds, .ref f_signs, .ref f_sizes, .ref f_places, .ref f_limits, .ref f_starts, .ref f_sorts, .int 0, .int 1, .int (-1)])), (f_starts, .inl (cI, 4, .inl u_2))]) hP hD [1, 2, 3] [0, 4] rfl rfl (by decide) (by decide) hk1 hFc hP1 hD1
  generalize H1 = H at hP hS ⊢
  have hP : va_P D vwCl [(h, .inr (8, [.ref h_tape, .ref x, .ref h_shower, .ref cu, .ref f, .int h_formatted, .int h_fed, .int h_illPlace, .double h_value])), (f_sorts, .inl (cI, 4, .inl sorF)), (x, .inr (7, [.ref x_signs, .int 0])), (f, .inr (2, [.ref f_kinds, .ref f_signs, .ref f_sizes, .ref f_places, .ref f_limits, .ref f_starts, .ref f_sorts, .int 0, .int 1, .int (-1)])), (f_starts, .inl (cI, 4, .inl u_2))] H := hP
  have hD : va_D A [(h, .inr (8, [.ref h_tape, .ref x, .ref h_shower, .ref cu, .ref f, .int h_formatted, .int h_fed, .int h_illPlace, .double h_value])), (f_sorts, .inl (cI, 4, .inl sorF)), (x, .inr (7, [.ref x_signs, .int 0])), (f, .inr (2, [.ref f_kinds, .ref f_signs, .ref f_sizes, .ref f_places, .ref f_limits, .ref f_starts, .ref f_sorts, .int 0, .int 1, .int (-1)])), (f_starts, .inl (cI, 4, .inl u_2))] := hD
  refine lv_aload_n hx hb dX11_format_11 rfl (lv_at hl 0 rfl) ?_
  refine lv_aload_n hx hb dX11_format_12 rfl (lv_at hl 0 rfl) ?_
  refine va_get (D := D) (ci := 8) (v := .ref f) (C := RX11) (T := TX11) (N := 9) hx hb hts iX11 hown hK hP 0 rfl rfl 4 (by decide) (hw 1 (.fieldLink RX11 34 "NumberFormats" "spare" "LNumberFormats$Format;") rfl) (fun _ h9 => h9) rfl dX11_format_13 ?_
  have hPc := hP.sub (ws' := [(f, .inr (2, [.ref f_kinds, .ref f_signs, .ref f_sizes, .ref f_places, .ref f_limits, .ref f_starts, .ref f_sorts, .int 0, .int 1, .int (-1)])), (f_starts, .inl (cI, 4, .inl u_2)), (f_sorts, .inl (cI, 4, .inl sorF))]) [3, 4, 1] rfl
  have hDc := hD.sub (ws' := [(f, .inr (2, [.ref f_kinds, .ref f_signs, .ref f_sizes, .ref f_places, .ref f_limits, .ref f_starts, .ref f_sorts, .int 0, .int 1, .int (-1)])), (f_starts, .inl (cI, 4, .inl u_2)), (f_sorts, .inl (cI, 4, .inl sorF))]) [3, 4, 1] (by decide) rfl
  have hFc := va_free (wc := [(f, .inr (2, [.ref f_kinds, .ref f_signs, .ref f_sizes, .ref f_places, .ref f_limits, .ref f_starts, .ref f_sorts, .int 0, .int 1, .int (-1)])), (f_starts, .inl (cI, 4, .inl u_2)), (f_sorts, .inl (cI, 4, .inl sorF))]) hD hS hA [3, 4, 1] rfl
  refine va_calli (va_runS (As := [.ref f]) (rest := [.ref h]) ⟨hx, hb, hml, hown, hts⟩ (c_X5_firstIll0 l D cI cD cJ H.size f f_kinds f_signs f_sizes f_places f_limits f_starts f_sorts u_2 sorF (by assumption)) (va_cwS 1 hts (goodIn_app (goodIn_r _ [6, 7, 8] rfl (by decide +kernel)) (goodIn_sub i_X5_firstIll k_X5_firstIll)) rfl rfl rfl (by decide +kernel) ⟨Nat.le_of_ble_eq_true rfl, Nat.le_of_ble_eq_true rfl⟩) ⟨fun a U g mk q => by obtain ⟨q0, q1, qP, qK, qD⟩ := q; exact ⟨q0, q1, qP, va_K.moved (u := U) (U := U.calling g mk a) (Vm.Alike.refl U.vm) qK, qD⟩, fun U hU hW => ⟨rfl, by rw [hU], by rw [hU]; exact hPc, va_K.moved hW.alike hK, hDc.weaken (fun _ _ _ _ => trivial)⟩⟩ rfl rfl hl.1 rfl (lv_room (Nat.le_of_ble_eq_true rfl)) dX11_format_16 ⟨Nat.le_of_ble_eq_true rfl, Nat.le_of_ble_eq_true rfl⟩) hS (fun q _ h => hFc q h) hFc (fun x_3 u t H1 locs ht hvm w_4 hB hz1 hk1 hS => ?_)
  generalize u = u_5 at w_4 hB
  obtain ⟨hP1, hK1, hD1⟩ := hB
  rw [ht] at hP1
  try dsimp only at w_4
  obtain ⟨hP, hD⟩ := va_join (wr := [(h, .inr (8, [.ref h_tape, .ref x, .ref h_shower, .ref cu, .ref f, .int h_formatted, .int h_fed, .int h_illPlace, .double h_value])), (x, .inr (7, [.ref x_signs, .int 0]))]) (w1 := [(f, .inr (2, [.ref f_kinds, .ref f_signs, .ref f_sizes, .ref f_places, .ref f_limits, .ref f_starts, .ref f_sorts, .int 0, .int 1, .int (-1)])), (f_starts, .inl (cI, 4, .inl u_2)), (f_sorts, .inl (cI, 4, .inl u_5))]) hP hD [3, 4, 1] [0, 2] rfl rfl (by decide) (by decide) hk1 hFc hP1 hD1
  generalize H1 = H at hP hS ⊢
  have hP : va_P D vwCl [(h, .inr (8, [.ref h_tape, .ref x, .ref h_shower, .ref cu, .ref f, .int h_formatted, .int h_fed, .int h_illPlace, .double h_value])), (x, .inr (7, [.ref x_signs, .int 0])), (f, .inr (2, [.ref f_kinds, .ref f_signs, .ref f_sizes, .ref f_places, .ref f_limits, .ref f_starts, .ref f_sorts, .int 0, .int 1, .int (-1)])), (f_starts, .inl (cI, 4, .inl u_2)), (f_sorts, .inl (cI, 4, .inl u_5))] H := hP
  have hD : va_D A [(h, .inr (8, [.ref h_tape, .ref x, .ref h_shower, .ref cu, .ref f, .int h_formatted, .int h_fed, .int h_illPlace, .double h_value])), (x, .inr (7, [.ref x_signs, .int 0])), (f, .inr (2, [.ref f_kinds, .ref f_signs, .ref f_sizes, .ref f_places, .ref f_limits, .ref f_starts, .ref f_sorts, .int 0, .int 1, .int (-1)])), (f_starts, .inl (cI, 4, .inl u_2)), (f_sorts, .inl (cI, 4, .inl u_5))] := hD
  have z_x_3 : (x_3 : Int32).toInt = -1 := by rw [w_4]; rfl
  refine va_put (D := D) (ci := 8) (v := .int x_3) (ty := .int) (C := RX11) (T := TX11) (N := 9) hx hb hts iX11 tyX11 tyX11_ok nmX11 hown hK hP hD hS 0 rfl rfl 7 (by decide) (hw 8 (.fieldLink RX11 37 "NumberFormats" "illPlace" "I") rfl) (fun _ h9 => h9) rfl (by decide +kernel) rfl rfl (Nat.le_of_ble_eq_true rfl) dX11_format_19 (fun H locs hP hD hS => ?_)
  have hP : va_P D vwCl [(h, .inr (8, [.ref h_tape, .ref x, .ref h_shower, .ref cu, .ref f, .int h_formatted, .int h_fed, .int x_3, .double h_value])), (x, .inr (7, [.ref x_signs, .int 0])), (f, .inr (2, [.ref f_kinds, .ref f_signs, .ref f_sizes, .ref f_places, .ref f_limits, .ref f_starts, .ref f_sorts, .int 0, .int 1, .int (-1)])), (f_starts, .inl (cI, 4, .inl u_2)), (f_sorts, .inl (cI, 4, .inl u_5))] H := hP
  have hD : va_D A [(h, .inr (8, [.ref h_tape, .ref x, .ref h_shower, .ref cu, .ref f, .int h_formatted, .int h_fed, .int x_3, .double h_value])), (x, .inr (7, [.ref x_signs, .int 0])), (f, .inr (2, [.ref f_kinds, .ref f_signs, .ref f_sizes, .ref f_places, .ref f_limits, .ref f_starts, .ref f_sorts, .int 0, .int 1, .int (-1)])), (f_starts, .inl (cI, 4, .inl u_2)), (f_sorts, .inl (cI, 4, .inl u_5))] := hD
  refine lv_aload_n hx hb dX11_format_22 rfl (lv_at hl 0 rfl) ?_
  refine va_get (D := D) (ci := 8) (v := .int x_3) (C := RX11) (T := TX11) (N := 9) hx hb hts iX11 hown hK hP 0 rfl rfl 7 (by decide) (hw 8 (.fieldLink RX11 37 "NumberFormats" "illPlace" "I") rfl) (fun _ h9 => h9) rfl dX11_format_23 ?_
  refine lv_iconst (v := (-1)) hx hb dX11_format_26 (by decide) ?_
  refine lv_icmp_eq (tgt := 40) hx hb dX11_format_27 (by decide) (fun c_6 => ?_) (fun c_6 => by have ic_6 : ¬ ((x_3 : Int32).toInt = ((-1) : Int32).toInt) := fun h9 => c_6 ((fa_eq x_3 (-1)).mpr h9); exfalso; subst_vars; omega)
  have ic_6 : (x_3 : Int32).toInt = ((-1) : Int32).toInt := (fa_eq x_3 (-1)).mp c_6
  refine lv_aload_n hx hb dX11_format_40 rfl (lv_at hl 0 rfl) ?_
  refine va_get (D := D) (ci := 8) (v := .ref f) (C := RX11) (T := TX11) (N := 9) hx hb hts iX11 hown hK hP 0 rfl rfl 4 (by decide) (hw 1 (.fieldLink RX11 34 "NumberFormats" "spare" "LNumberFormats$Format;") rfl) (fun _ h9 => h9) rfl dX11_format_41 ?_
  refine lv_astore_n (lv' := [(1, .ref f), (0, .ref h)]) hx hb dX11_format_44 rfl hl (by decide) rfl (fun ls hl => ?_)
  refine lv_aload_n hx hb dX11_format_45 rfl (lv_at hl 1 rfl) ?_
  refine lv_aload_n hx hb dX11_format_46 rfl (lv_at hl 1 rfl) ?_
  refine va_get (D := D) (ci := 8) (v := .ref cu) (C := RX11) (T := TX11) (N := 9) hx hb hts iX11 hown hK hP 0 rfl rfl 3 (by decide) (hw 9 (.fieldLink RX11 30 "NumberFormats" "current" "LNumberFormats$Format;") rfl) (fun _ h9 => h9) rfl dX11_format_47 ?_
  refine va_put (D := D) (ci := 8) (v := .ref cu) (ty := .object "NumberFormats$Format") (C := RX11) (T := TX11) (N := 9) hx hb hts iX11 tyX11 tyX11_ok nmX11 hown hK hP hD hS 0 rfl rfl 4 (by decide) (hw 1 (.fieldLink RX11 34 "NumberFormats" "spare" "LNumberFormats$Format;") rfl) (fun _ h9 => h9) rfl (by decide +kernel) rfl rfl (Nat.le_of_ble_eq_true rfl) dX11_format_50 (fun H locs hP hD hS => ?_)
  have hP : va_P D vwCl [(h, .inr (8, [.ref h_tape, .ref x, .ref h_shower, .ref cu, .ref cu, .int h_formatted, .int h_fed, .int x_3, .double h_value])), (x, .inr (7, [.ref x_signs, .int 0])), (f, .inr (2, [.ref f_kinds, .ref f_signs, .ref f_sizes, .ref f_places, .ref f_limits, .ref f_starts, .ref f_sorts, .int 0, .int 1, .int (-1)])), (f_starts, .inl (cI, 4, .inl u_2)), (f_sorts, .inl (cI, 4, .inl u_5))] H := hP
  have hD : va_D A [(h, .inr (8, [.ref h_tape, .ref x, .ref h_shower, .ref cu, .ref cu, .int h_formatted, .int h_fed, .int x_3, .double h_value])), (x, .inr (7, [.ref x_signs, .int 0])), (f, .inr (2, [.ref f_kinds, .ref f_signs, .ref f_sizes, .ref f_places, .ref f_limits, .ref f_starts, .ref f_sorts, .int 0, .int 1, .int (-1)])), (f_starts, .inl (cI, 4, .inl u_2)), (f_sorts, .inl (cI, 4, .inl u_5))] := hD
  refine lv_aload_n hx hb dX11_format_53 rfl (lv_at hl 1 rfl) ?_
  refine lv_aload_n hx hb dX11_format_54 rfl (lv_at hl 0 rfl) ?_
  refine va_put (D := D) (ci := 8) (v := .ref f) (ty := .object "NumberFormats$Format") (C := RX11) (T := TX11) (N := 9) hx hb hts iX11 tyX11 tyX11_ok nmX11 hown hK hP hD hS 0 rfl rfl 3 (by decide) (hw 9 (.fieldLink RX11 30 "NumberFormats" "current" "LNumberFormats$Format;") rfl) (fun _ h9 => h9) rfl (by decide +kernel) rfl rfl (Nat.le_of_ble_eq_true rfl) dX11_format_55 (fun H locs hP hD hS => ?_)
  have hP : va_P D vwCl [(h, .inr (8, [.ref h_tape, .ref x, .ref h_shower, .ref f, .ref cu, .int h_formatted, .int h_fed, .int x_3, .double h_value])), (x, .inr (7, [.ref x_signs, .int 0])), (f, .inr (2, [.ref f_kinds, .ref f_signs, .ref f_sizes, .ref f_places, .ref f_limits, .ref f_starts, .ref f_sorts, .int 0, .int 1, .int (-1)])), (f_starts, .inl (cI, 4, .inl u_2)), (f_sorts, .inl (cI, 4, .inl u_5))] H := hP
  have hD : va_D A [(h, .inr (8, [.ref h_tape, .ref x, .ref h_shower, .ref f, .ref cu, .int h_formatted, .int h_fed, .int x_3, .double h_value])), (x, .inr (7, [.ref x_signs, .int 0])), (f, .inr (2, [.ref f_kinds, .ref f_signs, .ref f_sizes, .ref f_places, .ref f_limits, .ref f_starts, .ref f_sorts, .int 0, .int 1, .int (-1)])), (f_starts, .inl (cI, 4, .inl u_2)), (f_sorts, .inl (cI, 4, .inl u_5))] := hD
  refine lv_aload_n hx hb dX11_format_58 rfl (lv_at hl 1 rfl) ?_
  refine lv_iconst (v := 1) hx hb dX11_format_59 (by decide) ?_
  refine va_put (D := D) (ci := 8) (v := .int 1) (ty := .boolean) (C := RX11) (T := TX11) (N := 9) hx hb hts iX11 tyX11 tyX11_ok nmX11 hown hK hP hD hS 0 rfl rfl 5 (by decide) (hw 10 (.fieldLink RX11 87 "NumberFormats" "formatted" "Z") rfl) (fun _ h9 => h9) rfl (by decide +kernel) rfl rfl (Nat.le_of_ble_eq_true rfl) dX11_format_60 (fun H locs hP hD hS => ?_)
  have hP : va_P D vwCl [(h, .inr (8, [.ref h_tape, .ref x, .ref h_shower, .ref f, .ref cu, .int 1, .int h_fed, .int x_3, .double h_value])), (x, .inr (7, [.ref x_signs, .int 0])), (f, .inr (2, [.ref f_kinds, .ref f_signs, .ref f_sizes, .ref f_places, .ref f_limits, .ref f_starts, .ref f_sorts, .int 0, .int 1, .int (-1)])), (f_starts, .inl (cI, 4, .inl u_2)), (f_sorts, .inl (cI, 4, .inl u_5))] H := hP
  have hD : va_D A [(h, .inr (8, [.ref h_tape, .ref x, .ref h_shower, .ref f, .ref cu, .int 1, .int h_fed, .int x_3, .double h_value])), (x, .inr (7, [.ref x_signs, .int 0])), (f, .inr (2, [.ref f_kinds, .ref f_signs, .ref f_sizes, .ref f_places, .ref f_limits, .ref f_starts, .ref f_sorts, .int 0, .int 1, .int (-1)])), (f_starts, .inl (cI, 4, .inl u_2)), (f_sorts, .inl (cI, 4, .inl u_5))] := hD
  refine lv_aload_n hx hb dX11_format_63 rfl (lv_at hl 1 rfl) ?_
  refine va_get (D := D) (ci := 8) (v := .ref f) (C := RX11) (T := TX11) (N := 9) hx hb hts iX11 hown hK hP 0 rfl rfl 3 (by decide) (hw 9 (.fieldLink RX11 30 "NumberFormats" "current" "LNumberFormats$Format;") rfl) (fun _ h9 => h9) rfl dX11_format_64 ?_
  have hPc := hP.sub (ws' := [(f, .inr (2, [.ref f_kinds, .ref f_signs, .ref f_sizes, .ref f_places, .ref f_limits, .ref f_starts, .ref f_sorts, .int 0, .int 1, .int (-1)]))]) [2] rfl
  refine va_calli (va_runV (As := []) (rest := []) ⟨hx, hb, hml, hown, hts⟩ (c_X2_sections l D cI cD cJ H.size f f_kinds f_signs f_sizes f_places f_limits f_starts f_sorts 0 1 (-1)) (cwV 0 hts (goodIn_app (goodIn_r _ [12, 13, 14, 15] rfl (by decide +kernel)) (goodIn_sub i_X2_sections k_X2_sections)) rfl rfl rfl (by decide +kernel) ⟨Nat.le_of_ble_eq_true rfl, Nat.le_of_ble_eq_true rfl⟩) ⟨fun a U g mk q => by obtain ⟨q0, qP, qK⟩ := q; exact ⟨q0, qP, va_K.moved (u := U) (U := U.calling g mk a) (Vm.Alike.refl U.vm) qK⟩, va_recv hK hPc (ci := 2) (q0 := 0) rfl rfl, fun U hU hW => ⟨rfl, by rw [hU]; exact hPc, va_K.moved hW.alike hK⟩⟩ rfl rfl hl.1 rfl (lv_room (Nat.le_of_ble_eq_true rfl)) dX11_format_67 ⟨Nat.le_of_ble_eq_true rfl, Nat.le_of_ble_eq_true rfl⟩) hS (fun q _ h => h.elim) (fun q h => h.elim) (fun x_7 u t H1 locs ht hvm w_8 hB hz1 hk1 hS => ?_)
  have hP : va_P D vwCl [(h, .inr (8, [.ref h_tape, .ref x, .ref h_shower, .ref f, .ref cu, .int 1, .int h_fed, .int x_3, .double h_value])), (x, .inr (7, [.ref x_signs, .int 0])), (f, .inr (2, [.ref f_kinds, .ref f_signs, .ref f_sizes, .ref f_places, .ref f_limits, .ref f_starts, .ref f_sorts, .int 0, .int 1, .int (-1)])), (f_starts, .inl (cI, 4, .inl u_2)), (f_sorts, .inl (cI, 4, .inl u_5))] H1 := hP.kept (fun k9 q9 h9 => hk1 q9.1 (vx_lt hP h9) (fun h => h))
  generalize H1 = H at hP hS ⊢
  try dsimp only at w_8
  have z_x_7 : (x_7 : Int32).toInt = 1 := by rw [w_8]; rfl
  have hP9 := hP.sub (ws' := [(h, .inr (8, [.ref h_tape, .ref x, .ref h_shower, .ref f, .ref cu, .int 1, .int h_fed, .int x_3, .double h_value])), (x, .inr (7, [.ref x_signs, .int 0])), (f, .inr (2, [.ref f_kinds, .ref f_signs, .ref f_sizes, .ref f_places, .ref f_limits, .ref f_starts, .ref f_sorts, .int 0, .int 1, .int (-1)])), (f_starts, .inl (cI, 4, .inl u_2)), (f_sorts, .inl (cI, 4, .inl u_5))]) [0, 1, 2, 3, 4] rfl
  have hD9 := hD.sub (ws' := [(h, .inr (8, [.ref h_tape, .ref x, .ref h_shower, .ref f, .ref cu, .int 1, .int h_fed, .int x_3, .double h_value])), (x, .inr (7, [.ref x_signs, .int 0])), (f, .inr (2, [.ref f_kinds, .ref f_signs, .ref f_sizes, .ref f_places, .ref f_limits, .ref f_starts, .ref f_sorts, .int 0, .int 1, .int (-1)])), (f_starts, .inl (cI, 4, .inl u_2)), (f_sorts, .inl (cI, 4, .inl u_5))]) [0, 1, 2, 3, 4] (by decide) rfl
  exact W.iret (v := x_7) hx hb hr (fun t ht hW => ⟨⟨x_7, (x_3, u_2, u_5), rfl, (by (try dsimp only); assumption), by rw [ht]; exact hP9, va_K.moved hW.alike hK, hD9⟩, hS.F ht⟩) hS.2.2 dX11_format_70

def ow_X12_has : List Cond := []
def pw_X12_has : List Cond := Cond.code yX12_has cX12_has 6 (some .boolean) :: (ow_X12_has)
set_option maxRecDepth 20000 in
theorem mo_X12_has : ∀ w ∈ ow_X12_has, w ∈ lw_tbl := by decide +kernel
set_option maxRecDepth 20000 in
theorem mc_X12_has : Cond.code yX12_has cX12_has 6 (some .boolean) ∈ lw_tbl := by decide +kernel
theorem m_X12_has : ∀ w ∈ pw_X12_has, w ∈ lw_tbl := List.forall_mem_cons.mpr ⟨mc_X12_has, mo_X12_has⟩
theorem ko_X12_has : ∀ w ∈ ow_X12_has, goodWord w = true := by decide +kernel
theorem k_X12_has : pw_X12_has.all goodWord = true := List.all_eq_true.mpr (List.forall_mem_cons.mpr ⟨by decide +kernel, ko_X12_has⟩)
set_option maxHeartbeats 400000 in
set_option maxRecDepth 100000 in
theorem c_X12_has (l : Launch) (D : va_G) (cI cD cJ : ClassId) (sz : Nat) (ka : Nat) (kf : Nat → Int32) (a : Int32) (b : Int32) (kd : Int32) (ha : 0 ≤ a.toInt) (hb9 : b.toInt ≤ 260) : Met l yX12_has pw_X12_has ({ frames := 0, cells := 0, slots := 0, locals := 0 }) (va_Pc [.ref ka, .int a, .int b, .int kd] (fun U => va_P D vwCl [(ka, .inl (cI, 260, .inl kf))] U.heap ∧ va_K D vwCl (ty3 cI cD cJ) U)) (va_Qi (fun (r : Int32) (u : Unit) => (b.toInt ≤ a.toInt → r.toInt = 0) ∧ (r.toInt = 0 ∨ r.toInt = 1)) (fun _ _ => True) (fun _ => False)) 0 0 (fun _ => False) := by
  refine Met.ofW (cc := cX12_has) (maxL := 6) (ret := (some .boolean)) (by decide) rfl ?_
  intro p e s m args below meth c s₁ B hml hv
  obtain ⟨rfl, hP, hK⟩ := hv
  have hx := B.exec
  have hb := B.bytes
  have hr := B.returns
  have hts := atoms_spec (ws := pw_X12_has) B.pre
  have hown : s.vm.findClass RX12 = some m.cls := findClass_of_methodNamed B.named
  have hlocks := B.notSynchronized
  have hS : va_S (fun _ => False) s.heap s.heap [] := va_S.rf
  have hw : ∀ (k : Nat) (w : Cond), ow_X12_has[k]? = some w → w.before _ s = true := fun k w h => hts w (List.mem_cons_of_mem _ (have h9 := List.mem_of_getElem? h; h9))
  have n_0 : ((0 : Int32)).toInt = 0 := by decide
  have n_1 : ((1 : Int32)).toInt = 1 := by decide
  have hl := lv_entry ([.ref ka, .int a, .int b, .int kd]) (n := 6) (Nat.le_of_ble_eq_true rfl)
  rw [lg_entry_eq]
  generalize (lg_sl ([.ref ka, .int a, .int b, .int kd]) ++ List.replicate (6 - (lg_sl ([.ref ka, .int a, .int b, .int kd])).length) Slot.unset).toArray = ls at hl ⊢
  have hl : lv_has ls 6 [(0, .ref ka), (1, .int a), (2, .int b), (3, .int kd)] := hl
  have b_a := ti_b a
  have b_b := ti_b b
  have b_kd := ti_b kd
  refine zz_cap (fun Z hZ1 hZ2 => ?_)
  refine lv_iconst (v := 0) hx hb dX12_has_0 (by decide) ?_
  refine lv_istore (lv' := [(4, .int 0), (0, .ref ka), (1, .int a), (2, .int b), (3, .int kd)]) hx hb dX12_has_1 hl (by decide) rfl (fun ls hl => ?_)
  refine lv_iload_n hx hb dX12_has_3 rfl (lv_at hl 2 rfl) ?_
  refine lv_istore (lv' := [(5, .int a), (4, .int 0), (0, .ref ka), (1, .int a), (2, .int b), (3, .int kd)]) hx hb dX12_has_4 hl (by decide) rfl (fun ls hl => ?_)
  have L_6 : ∀ (N : Nat) (x_1 : Int32) (x_2 : Int32) (H : Heap) (locs : List Loc) (ls : Array Slot), (a.toInt ≤ (x_1 : Int32).toInt) → ((x_2 : Int32).toInt = 0 ∨ (x_2 : Int32).toInt = 1) → (b.toInt ≤ a.toInt → (x_2 : Int32).toInt = 0) → ((b.toInt - (x_1 : Int32).toInt).toNat < N) → va_P D vwCl [(ka, .inl (cI, 260, .inl kf))] H → va_S (fun _ => False) s.heap H locs → lv_has ls 6 [(5, .int x_1), (4, .int x_2), (0, .ref ka), (1, .int a), (2, .int b), (3, .int kd)] → Z 0 0 H locs (F0 m 6 ls []) := by
    intro N
    induction N with
    | zero => intro _ _ _ _ _ _ _ _ hmu; exact absurd hmu (Nat.not_lt_zero _)
    | succ N ih =>
      intro x_1 x_2 H locs ls g6_0 g6_1 g6_2 hmu hP hS hl
      refine hZ2 ?_
      refine lv_iload hx hb dX12_has_6 (lv_at hl 0 rfl) ?_
      refine lv_iload_n hx hb dX12_has_8 rfl (lv_at hl 4 rfl) ?_
      refine lv_icmp_ge (tgt := 38) hx hb dX12_has_9 (by decide) (fun c_3 => ?_) (fun c_3 => ?_)
      · have ic_3 : (b : Int32).toInt ≤ (x_1 : Int32).toInt := (fa_le b x_1).mp c_3
        refine lv_iload hx hb dX12_has_38 (lv_at hl 1 rfl) ?_
        exact W.zret (v := x_2) hx hb hr (nz01 (by assumption)) (fun t ht hW => ⟨⟨x_2, (), rfl, (by (try dsimp only); omega), trivial⟩, hS.F ht⟩) hS.2.2 dX12_has_40
      · have ic_3 : ¬ ((b : Int32).toInt ≤ (x_1 : Int32).toInt) := fun h9 => c_3 ((fa_le b x_1).mpr h9)
        refine lv_iload hx hb dX12_has_12 (lv_at hl 1 rfl) ?_
        have K_30 : ∀ (z_4 : Int32) (H : Heap) (locs : List Loc) (ls : Array Slot), ((z_4 : Int32).toInt = 0 ∨ (z_4 : Int32).toInt = 1) → va_P D vwCl [(ka, .inl (cI, 260, .inl kf))] H → va_S (fun _ => False) s.heap H locs → lv_has ls 6 [(5, .int x_1), (4, .int x_2), (0, .ref ka), (1, .int a), (2, .int b), (3, .int kd)] → Z 0 0 H locs (F0 m 30 ls [.int z_4]) := by
          intro z_4 H locs ls g30_0 hP hS hl
          refine hZ2 ?_
          refine lv_istore (lv' := [(4, .int z_4), (5, .int x_1), (0, .ref ka), (1, .int a), (2, .int b), (3, .int kd)]) hx hb dX12_has_30 hl (by decide) rfl (fun ls hl => ?_)
          obtain ⟨x_5, ex_5⟩ : ∃ y : Int32, y = x_1 + 1 := ⟨_, rfl⟩
          have tx_5 := ti_add ex_5
          refine lv_iinc (v := x_5) (lv' := [(5, .int x_5), (4, .int z_4), (0, .ref ka), (1, .int a), (2, .int b), (3, .int kd)]) hx hb dX12_has_32 hl (k := 1) rfl (by rw [ex_5]; rfl) (by decide) rfl (fun ls hl => ?_)
          refine lv_goto (tgt := 6) hx hb dX12_has_35 (by decide) ?_
          exact hZ1 (ih x_5 z_4 _ _ _ (by omega) (by omega) (by omega) (by omega) hP hS hl)
        refine lv_if_ne (tgt := 25) hx hb dX12_has_14 (by decide) (fun c_6 => ?_) (fun c_6 => ?_)
        · have ic_6 : ¬ ((x_2 : Int32).toInt = (0 : Int32).toInt) := fun h9 => c_6 ((fa_eq x_2 0).mpr h9)
          refine lv_iconst (v := 1) hx hb dX12_has_25 (by decide) ?_
          refine lv_goto (tgt := 30) hx hb dX12_has_26 (by decide) ?_
          exact hZ1 (K_30 1 _ _ _ (by omega) hP hS hl)
        · have ic_6 : (x_2 : Int32).toInt = (0 : Int32).toInt := (fa_eq x_2 0).mp c_6
          refine lv_aload_n hx hb dX12_has_17 rfl (lv_at hl 2 rfl) ?_
          refine lv_iload hx hb dX12_has_18 (lv_at hl 0 rfl) ?_
          have h_20 : vp_in x_1 260 := by rw [vp_in_iff]; omega
          refine va_iald hx hb hK hP 0 0 rfl rfl h_20 dX12_has_20 ?_
          refine lv_topi (fun x_7 ex_7 => ?_)
          refine lv_iload_n hx hb dX12_has_21 rfl (lv_at hl 5 rfl) ?_
          refine lv_icmp_ne (tgt := 29) hx hb dX12_has_22 (by decide) (fun c_8 => ?_) (fun c_8 => ?_)
          · have ic_8 : ¬ ((x_7 : Int32).toInt = (kd : Int32).toInt) := fun h9 => c_8 ((fa_eq x_7 kd).mpr h9)
            refine lv_iconst (v := 0) hx hb dX12_has_29 (by decide) ?_
            exact hZ1 (K_30 0 _ _ _ (by omega) hP hS hl)
          · have ic_8 : (x_7 : Int32).toInt = (kd : Int32).toInt := (fa_eq x_7 kd).mp c_8
            refine lv_iconst (v := 1) hx hb dX12_has_25 (by decide) ?_
            refine lv_goto (tgt := 30) hx hb dX12_has_26 (by decide) ?_
            exact hZ1 (K_30 1 _ _ _ (by omega) hP hS hl)
  exact hZ1 (L_6 (((b.toInt - (a : Int32).toInt).toNat) + 1) a 0 _ _ _ (by omega) (by omega) (by omega) (by omega) hP hS hl)

def ow_X12_sortOf : List Cond := [Cond.methodLink RX12 225 yX12_has, Cond.static yX12_has, Cond.initialized RX12]
def pw_X12_sortOf : List Cond := Cond.code yX12_sortOf cX12_sortOf 3 (some .int) :: (ow_X12_sortOf ++ (pw_X12_has))
set_option maxRecDepth 20000 in
theorem mo_X12_sortOf : ∀ w ∈ ow_X12_sortOf, w ∈ lw_tbl := by decide +kernel
set_option maxRecDepth 20000 in
theorem mc_X12_sortOf : Cond.code yX12_sortOf cX12_sortOf 3 (some .int) ∈ lw_tbl := by decide +kernel
theorem m_X12_sortOf : ∀ w ∈ pw_X12_sortOf, w ∈ lw_tbl := List.forall_mem_cons.mpr ⟨mc_X12_sortOf, (List.forall_mem_append.mpr ⟨mo_X12_sortOf, m_X12_has⟩)⟩
theorem ko_X12_sortOf : ∀ w ∈ ow_X12_sortOf, goodWord w = true := by decide +kernel
theorem k_X12_sortOf : pw_X12_sortOf.all goodWord = true := List.all_eq_true.mpr (List.forall_mem_cons.mpr ⟨by decide +kernel, (List.forall_mem_append.mpr ⟨ko_X12_sortOf, (List.all_eq_true.mp k_X12_has)⟩)⟩)
set_option maxHeartbeats 400000 in
set_option maxRecDepth 100000 in
theorem c_X12_sortOf (l : Launch) (D : va_G) (cI cD cJ : ClassId) (sz : Nat) (ka : Nat) (kf : Nat → Int32) (a : Int32) (b : Int32) (ha : 0 ≤ a.toInt) (hb9 : b.toInt ≤ 260) : Met l yX12_sortOf pw_X12_sortOf ({ frames := 1, cells := 0, slots := 0, locals := 25 }) (va_Pc [.ref ka, .int a, .int b] (fun U => va_P D vwCl [(ka, .inl (cI, 260, .inl kf))] U.heap ∧ va_K D vwCl (ty3 cI cD cJ) U)) (va_Qi (fun (r : Int32) (u : Unit) => b.toInt ≤ a.toInt → r.toInt = 0) (fun _ _ => True) (fun _ => False)) 0 0 (fun _ => False) := by
  refine Met.ofW (cc := cX12_sortOf) (maxL := 3) (ret := (some .int)) (by decide) rfl ?_
  intro p e s m args below meth c s₁ B hml hv
  obtain ⟨rfl, hP, hK⟩ := hv
  have hx := B.exec
  have hb := B.bytes
  have hr := B.returns
  have hts := atoms_spec (ws := pw_X12_sortOf) B.pre
  have hown : s.vm.findClass RX12 = some m.cls := findClass_of_methodNamed B.named
  have hlocks := B.notSynchronized
  have hS : va_S (fun _ => False) s.heap s.heap [] := va_S.rf
  have hw : ∀ (k : Nat) (w : Cond), ow_X12_sortOf[k]? = some w → w.before _ s = true := fun k w h => hts w (List.mem_cons_of_mem _ (have h9 := List.mem_of_getElem? h; List.mem_append_left _ h9))
  have i_X12_has : ∀ w ∈ pw_X12_has, w ∈ pw_X12_sortOf := fun w h9 => List.mem_cons_of_mem _ (List.mem_append_right _ (h9))
  have n_0 : ((0 : Int32)).toInt = 0 := by decide
  have n_1 : ((1 : Int32)).toInt = 1 := by decide
  have n_10 : ((10 : Int32)).toInt = 10 := by decide
  have n_12 : ((12 : Int32)).toInt = 12 := by decide
  have n_2 : ((2 : Int32)).toInt = 2 := by decide
  have n_3 : ((3 : Int32)).toInt = 3 := by decide
  have n_6 : ((6 : Int32)).toInt = 6 := by decide
  have n_8 : ((8 : Int32)).toInt = 8 := by decide
  have n_9 : ((9 : Int32)).toInt = 9 := by decide
  have hl := lv_entry ([.ref ka, .int a, .int b]) (n := 3) (Nat.le_of_ble_eq_true rfl)
  rw [lg_entry_eq]
  generalize (lg_sl ([.ref ka, .int a, .int b]) ++ List.replicate (3 - (lg_sl ([.ref ka, .int a, .int b])).length) Slot.unset).toArray = ls at hl ⊢
  have hl : lv_has ls 3 [(0, .ref ka), (1, .int a), (2, .int b)] := hl
  have b_a := ti_b a
  have b_b := ti_b b
  refine lv_aload_n hx hb dX12_sortOf_0 rfl (lv_at hl 0 rfl) ?_
  refine lv_iload_n hx hb dX12_sortOf_1 rfl (lv_at hl 1 rfl) ?_
  refine lv_iload_n hx hb dX12_sortOf_2 rfl (lv_at hl 2 rfl) ?_
  refine lv_bipush (v := 10) hx hb dX12_sortOf_3 (by decide) ?_
  have hPc := hP.sub (ws' := [(ka, .inl (cI, 260, .inl kf))]) [0] rfl
  refine va_calli (va_runS (As := [.ref ka, .int a, .int b, .int 10]) (rest := []) ⟨hx, hb, hml, hown, hts⟩ (c_X12_has l D cI cD cJ s.heap.size ka kf a b 10 (by omega) (by omega)) (va_cwS 4 hts (goodIn_app (goodIn_r _ [1, 2, 3] rfl (by decide +kernel)) (goodIn_sub i_X12_has k_X12_has)) rfl rfl rfl (by decide +kernel) ⟨Nat.le_of_ble_eq_true rfl, Nat.le_of_ble_eq_true rfl⟩) ⟨fun a U g mk q => by obtain ⟨q0, qP, qK⟩ := q; exact ⟨q0, qP, va_K.moved (u := U) (U := U.calling g mk a) (Vm.Alike.refl U.vm) qK⟩, fun U hU hW => ⟨rfl, by rw [hU]; exact hPc, va_K.moved hW.alike hK⟩⟩ rfl rfl hl.1 rfl (lv_room (Nat.le_of_ble_eq_true rfl)) dX12_sortOf_5 ⟨Nat.le_of_ble_eq_true rfl, Nat.le_of_ble_eq_true rfl⟩) hS (fun q _ h => h.elim) (fun q h => h.elim) (fun x_1 u t H1 locs ht hvm w_2 hB hz1 hk1 hS => ?_)
  have hP : va_P D vwCl [(ka, .inl (cI, 260, .inl kf))] H1 := hP.kept (fun k9 q9 h9 => hk1 q9.1 (vx_lt hP h9) (fun h => h))
  generalize H1 = H at hP hS ⊢
  try dsimp only at w_2
  refine lv_if_ne (tgt := 33) hx hb dX12_sortOf_8 (by decide) (fun c_3 => ?_) (fun c_3 => ?_)
  · have ic_3 : ¬ ((x_1 : Int32).toInt = (0 : Int32).toInt) := fun h9 => c_3 ((fa_eq x_1 0).mpr h9)
    refine lv_iconst (v := 3) hx hb dX12_sortOf_33 (by decide) ?_
    exact W.iret (v := 3) hx hb hr (fun t ht hW => ⟨⟨3, (), rfl, (by (try dsimp only); omega), trivial⟩, hS.F ht⟩) hS.2.2 dX12_sortOf_34
  · have ic_3 : (x_1 : Int32).toInt = (0 : Int32).toInt := (fa_eq x_1 0).mp c_3
    refine lv_aload_n hx hb dX12_sortOf_11 rfl (lv_at hl 0 rfl) ?_
    refine lv_iload_n hx hb dX12_sortOf_12 rfl (lv_at hl 1 rfl) ?_
    refine lv_iload_n hx hb dX12_sortOf_13 rfl (lv_at hl 2 rfl) ?_
    refine lv_bipush (v := 12) hx hb dX12_sortOf_14 (by decide) ?_
    have hPc := hP.sub (ws' := [(ka, .inl (cI, 260, .inl kf))]) [0] rfl
    refine va_calli (va_runS (As := [.ref ka, .int a, .int b, .int 12]) (rest := []) ⟨hx, hb, hml, hown, hts⟩ (c_X12_has l D cI cD cJ H.size ka kf a b 12 (by omega) (by omega)) (va_cwS 4 hts (goodIn_app (goodIn_r _ [1, 2, 3] rfl (by decide +kernel)) (goodIn_sub i_X12_has k_X12_has)) rfl rfl rfl (by decide +kernel) ⟨Nat.le_of_ble_eq_true rfl, Nat.le_of_ble_eq_true rfl⟩) ⟨fun a U g mk q => by obtain ⟨q0, qP, qK⟩ := q; exact ⟨q0, qP, va_K.moved (u := U) (U := U.calling g mk a) (Vm.Alike.refl U.vm) qK⟩, fun U hU hW => ⟨rfl, by rw [hU]; exact hPc, va_K.moved hW.alike hK⟩⟩ rfl rfl hl.1 rfl (lv_room (Nat.le_of_ble_eq_true rfl)) dX12_sortOf_16 ⟨Nat.le_of_ble_eq_true rfl, Nat.le_of_ble_eq_true rfl⟩) hS (fun q _ h => h.elim) (fun q h => h.elim) (fun x_4 u t H1 locs ht hvm w_5 hB hz1 hk1 hS => ?_)
    have hP : va_P D vwCl [(ka, .inl (cI, 260, .inl kf))] H1 := hP.kept (fun k9 q9 h9 => hk1 q9.1 (vx_lt hP h9) (fun h => h))
    generalize H1 = H at hP hS ⊢
    try dsimp only at w_5
    refine lv_if_ne (tgt := 33) hx hb dX12_sortOf_19 (by decide) (fun c_6 => ?_) (fun c_6 => ?_)
    · have ic_6 : ¬ ((x_4 : Int32).toInt = (0 : Int32).toInt) := fun h9 => c_6 ((fa_eq x_4 0).mpr h9)
      refine lv_iconst (v := 3) hx hb dX12_sortOf_33 (by decide) ?_
      exact W.iret (v := 3) hx hb hr (fun t ht hW => ⟨⟨3, (), rfl, (by (try dsimp only); omega), trivial⟩, hS.F ht⟩) hS.2.2 dX12_sortOf_34
    · have ic_6 : (x_4 : Int32).toInt = (0 : Int32).toInt := (fa_eq x_4 0).mp c_6
      refine lv_aload_n hx hb dX12_sortOf_22 rfl (lv_at hl 0 rfl) ?_
      refine lv_iload_n hx hb dX12_sortOf_23 rfl (lv_at hl 1 rfl) ?_
      refine lv_iload_n hx hb dX12_sortOf_24 rfl (lv_at hl 2 rfl) ?_
      refine lv_bipush (v := 9) hx hb dX12_sortOf_25 (by decide) ?_
      have hPc := hP.sub (ws' := [(ka, .inl (cI, 260, .inl kf))]) [0] rfl
      refine va_calli (va_runS (As := [.ref ka, .int a, .int b, .int 9]) (rest := []) ⟨hx, hb, hml, hown, hts⟩ (c_X12_has l D cI cD cJ H.size ka kf a b 9 (by omega) (by omega)) (va_cwS 4 hts (goodIn_app (goodIn_r _ [1, 2, 3] rfl (by decide +kernel)) (goodIn_sub i_X12_has k_X12_has)) rfl rfl rfl (by decide +kernel) ⟨Nat.le_of_ble_eq_true rfl, Nat.le_of_ble_eq_true rfl⟩) ⟨fun a U g mk q => by obtain ⟨q0, qP, qK⟩ := q; exact ⟨q0, qP, va_K.moved (u := U) (U := U.calling g mk a) (Vm.Alike.refl U.vm) qK⟩, fun U hU hW => ⟨rfl, by rw [hU]; exact hPc, va_K.moved hW.alike hK⟩⟩ rfl rfl hl.1 rfl (lv_room (Nat.le_of_ble_eq_true rfl)) dX12_sortOf_27 ⟨Nat.le_of_ble_eq_true rfl, Nat.le_of_ble_eq_true rfl⟩) hS (fun q _ h => h.elim) (fun q h => h.elim) (fun x_7 u t H1 locs ht hvm w_8 hB hz1 hk1 hS => ?_)
      have hP : va_P D vwCl [(ka, .inl (cI, 260, .inl kf))] H1 := hP.kept (fun k9 q9 h9 => hk1 q9.1 (vx_lt hP h9) (fun h => h))
      generalize H1 = H at hP hS ⊢
      try dsimp only at w_8
      refine lv_if_eq (tgt := 35) hx hb dX12_sortOf_30 (by decide) (fun c_9 => ?_) (fun c_9 => ?_)
      · have ic_9 : (x_7 : Int32).toInt = (0 : Int32).toInt := (fa_eq x_7 0).mp c_9
        refine lv_aload_n hx hb dX12_sortOf_35 rfl (lv_at hl 0 rfl) ?_
        refine lv_iload_n hx hb dX12_sortOf_36 rfl (lv_at hl 1 rfl) ?_
        refine lv_iload_n hx hb dX12_sortOf_37 rfl (lv_at hl 2 rfl) ?_
        refine lv_bipush (v := 6) hx hb dX12_sortOf_38 (by decide) ?_
        have hPc := hP.sub (ws' := [(ka, .inl (cI, 260, .inl kf))]) [0] rfl
        refine va_calli (va_runS (As := [.ref ka, .int a, .int b, .int 6]) (rest := []) ⟨hx, hb, hml, hown, hts⟩ (c_X12_has l D cI cD cJ H.size ka kf a b 6 (by omega) (by omega)) (va_cwS 4 hts (goodIn_app (goodIn_r _ [1, 2, 3] rfl (by decide +kernel)) (goodIn_sub i_X12_has k_X12_has)) rfl rfl rfl (by decide +kernel) ⟨Nat.le_of_ble_eq_true rfl, Nat.le_of_ble_eq_true rfl⟩) ⟨fun a U g mk q => by obtain ⟨q0, qP, qK⟩ := q; exact ⟨q0, qP, va_K.moved (u := U) (U := U.calling g mk a) (Vm.Alike.refl U.vm) qK⟩, fun U hU hW => ⟨rfl, by rw [hU]; exact hPc, va_K.moved hW.alike hK⟩⟩ rfl rfl hl.1 rfl (lv_room (Nat.le_of_ble_eq_true rfl)) dX12_sortOf_40 ⟨Nat.le_of_ble_eq_true rfl, Nat.le_of_ble_eq_true rfl⟩) hS (fun q _ h => h.elim) (fun q h => h.elim) (fun x_10 u t H1 locs ht hvm w_11 hB hz1 hk1 hS => ?_)
        have hP : va_P D vwCl [(ka, .inl (cI, 260, .inl kf))] H1 := hP.kept (fun k9 q9 h9 => hk1 q9.1 (vx_lt hP h9) (fun h => h))
        generalize H1 = H at hP hS ⊢
        try dsimp only at w_11
        refine lv_if_eq (tgt := 50) hx hb dX12_sortOf_43 (by decide) (fun c_12 => ?_) (fun c_12 => ?_)
        · have ic_12 : (x_10 : Int32).toInt = (0 : Int32).toInt := (fa_eq x_10 0).mp c_12
          refine lv_aload_n hx hb dX12_sortOf_50 rfl (lv_at hl 0 rfl) ?_
          refine lv_iload_n hx hb dX12_sortOf_51 rfl (lv_at hl 1 rfl) ?_
          refine lv_iload_n hx hb dX12_sortOf_52 rfl (lv_at hl 2 rfl) ?_
          refine lv_bipush (v := 8) hx hb dX12_sortOf_53 (by decide) ?_
          have hPc := hP.sub (ws' := [(ka, .inl (cI, 260, .inl kf))]) [0] rfl
          refine va_calli (va_runS (As := [.ref ka, .int a, .int b, .int 8]) (rest := []) ⟨hx, hb, hml, hown, hts⟩ (c_X12_has l D cI cD cJ H.size ka kf a b 8 (by omega) (by omega)) (va_cwS 4 hts (goodIn_app (goodIn_r _ [1, 2, 3] rfl (by decide +kernel)) (goodIn_sub i_X12_has k_X12_has)) rfl rfl rfl (by decide +kernel) ⟨Nat.le_of_ble_eq_true rfl, Nat.le_of_ble_eq_true rfl⟩) ⟨fun a U g mk q => by obtain ⟨q0, qP, qK⟩ := q; exact ⟨q0, qP, va_K.moved (u := U) (U := U.calling g mk a) (Vm.Alike.refl U.vm) qK⟩, fun U hU hW => ⟨rfl, by rw [hU]; exact hPc, va_K.moved hW.alike hK⟩⟩ rfl rfl hl.1 rfl (lv_room (Nat.le_of_ble_eq_true rfl)) dX12_sortOf_55 ⟨Nat.le_of_ble_eq_true rfl, Nat.le_of_ble_eq_true rfl⟩) hS (fun q _ h => h.elim) (fun q h => h.elim) (fun x_13 u t H1 locs ht hvm w_14 hB hz1 hk1 hS => ?_)
          have hP : va_P D vwCl [(ka, .inl (cI, 260, .inl kf))] H1 := hP.kept (fun k9 q9 h9 => hk1 q9.1 (vx_lt hP h9) (fun h => h))
          generalize H1 = H at hP hS ⊢
          try dsimp only at w_14
          refine lv_if_eq (tgt := 66) hx hb dX12_sortOf_58 (by decide) (fun c_15 => ?_) (fun c_15 => ?_)
          · have ic_15 : (x_13 : Int32).toInt = (0 : Int32).toInt := (fa_eq x_13 0).mp c_15
            refine lv_aload_n hx hb dX12_sortOf_66 rfl (lv_at hl 0 rfl) ?_
            refine lv_iload_n hx hb dX12_sortOf_67 rfl (lv_at hl 1 rfl) ?_
            refine lv_iload_n hx hb dX12_sortOf_68 rfl (lv_at hl 2 rfl) ?_
            refine lv_iconst (v := 1) hx hb dX12_sortOf_69 (by decide) ?_
            have hPc := hP.sub (ws' := [(ka, .inl (cI, 260, .inl kf))]) [0] rfl
            refine va_calli (va_runS (As := [.ref ka, .int a, .int b, .int 1]) (rest := []) ⟨hx, hb, hml, hown, hts⟩ (c_X12_has l D cI cD cJ H.size ka kf a b 1 (by omega) (by omega)) (va_cwS 4 hts (goodIn_app (goodIn_r _ [1, 2, 3] rfl (by decide +kernel)) (goodIn_sub i_X12_has k_X12_has)) rfl rfl rfl (by decide +kernel) ⟨Nat.le_of_ble_eq_true rfl, Nat.le_of_ble_eq_true rfl⟩) ⟨fun a U g mk q => by obtain ⟨q0, qP, qK⟩ := q; exact ⟨q0, qP, va_K.moved (u := U) (U := U.calling g mk a) (Vm.Alike.refl U.vm) qK⟩, fun U hU hW => ⟨rfl, by rw [hU]; exact hPc, va_K.moved hW.alike hK⟩⟩ rfl rfl hl.1 rfl (lv_room (Nat.le_of_ble_eq_true rfl)) dX12_sortOf_70 ⟨Nat.le_of_ble_eq_true rfl, Nat.le_of_ble_eq_true rfl⟩) hS (fun q _ h => h.elim) (fun q h => h.elim) (fun x_16 u t H1 locs ht hvm w_17 hB hz1 hk1 hS => ?_)
            have hP : va_P D vwCl [(ka, .inl (cI, 260, .inl kf))] H1 := hP.kept (fun k9 q9 h9 => hk1 q9.1 (vx_lt hP h9) (fun h => h))
            generalize H1 = H at hP hS ⊢
            try dsimp only at w_17
            refine lv_if_eq (tgt := 80) hx hb dX12_sortOf_73 (by decide) (fun c_18 => ?_) (fun c_18 => ?_)
            · have ic_18 : (x_16 : Int32).toInt = (0 : Int32).toInt := (fa_eq x_16 0).mp c_18
              refine lv_iconst (v := 0) hx hb dX12_sortOf_80 (by decide) ?_
              exact W.iret (v := 0) hx hb hr (fun t ht hW => ⟨⟨0, (), rfl, (by (try dsimp only); omega), trivial⟩, hS.F ht⟩) hS.2.2 dX12_sortOf_81
            · have ic_18 : ¬ ((x_16 : Int32).toInt = (0 : Int32).toInt) := fun h9 => c_18 ((fa_eq x_16 0).mpr h9)
              refine lv_iconst (v := 1) hx hb dX12_sortOf_76 (by decide) ?_
              refine lv_goto (tgt := 81) hx hb dX12_sortOf_77 (by decide) ?_
              exact W.iret (v := 1) hx hb hr (fun t ht hW => ⟨⟨1, (), rfl, (by (try dsimp only); omega), trivial⟩, hS.F ht⟩) hS.2.2 dX12_sortOf_81
          · have ic_15 : ¬ ((x_13 : Int32).toInt = (0 : Int32).toInt) := fun h9 => c_15 ((fa_eq x_13 0).mpr h9)
            refine lv_bipush (v := 8) hx hb dX12_sortOf_61 (by decide) ?_
            refine lv_goto (tgt := 81) hx hb dX12_sortOf_63 (by decide) ?_
            exact W.iret (v := 8) hx hb hr (fun t ht hW => ⟨⟨8, (), rfl, (by (try dsimp only); omega), trivial⟩, hS.F ht⟩) hS.2.2 dX12_sortOf_81
        · have ic_12 : ¬ ((x_10 : Int32).toInt = (0 : Int32).toInt) := fun h9 => c_12 ((fa_eq x_10 0).mpr h9)
          refine lv_iconst (v := 2) hx hb dX12_sortOf_46 (by decide) ?_
          refine lv_goto (tgt := 81) hx hb dX12_sortOf_47 (by decide) ?_
          exact W.iret (v := 2) hx hb hr (fun t ht hW => ⟨⟨2, (), rfl, (by (try dsimp only); omega), trivial⟩, hS.F ht⟩) hS.2.2 dX12_sortOf_81
      · have ic_9 : ¬ ((x_7 : Int32).toInt = (0 : Int32).toInt) := fun h9 => c_9 ((fa_eq x_7 0).mpr h9)
        refine lv_iconst (v := 3) hx hb dX12_sortOf_33 (by decide) ?_
        exact W.iret (v := 3) hx hb hr (fun t ht hW => ⟨⟨3, (), rfl, (by (try dsimp only); omega), trivial⟩, hS.F ht⟩) hS.2.2 dX12_sortOf_34

def ow_X12_wrongIn : List Cond := [Cond.fieldLink RX12 42 "NumberFormatsModel" "readKind" "[I", Cond.methodLink RX12 245 yX12_sortOf, Cond.static yX12_sortOf, Cond.initialized RX12]
def pw_X12_wrongIn : List Cond := Cond.code yX12_wrongIn cX12_wrongIn 8 (some .int) :: (ow_X12_wrongIn ++ (pw_X12_sortOf ++ (wsX120)))
set_option maxRecDepth 20000 in
theorem mo_X12_wrongIn : ∀ w ∈ ow_X12_wrongIn, w ∈ lw_tbl := by decide +kernel
set_option maxRecDepth 20000 in
theorem mc_X12_wrongIn : Cond.code yX12_wrongIn cX12_wrongIn 8 (some .int) ∈ lw_tbl := by decide +kernel
theorem m_X12_wrongIn : ∀ w ∈ pw_X12_wrongIn, w ∈ lw_tbl := List.forall_mem_cons.mpr ⟨mc_X12_wrongIn, (List.forall_mem_append.mpr ⟨mo_X12_wrongIn, (List.forall_mem_append.mpr ⟨m_X12_sortOf, inX12⟩)⟩)⟩
theorem ko_X12_wrongIn : ∀ w ∈ ow_X12_wrongIn, goodWord w = true := by decide +kernel
theorem k_X12_wrongIn : pw_X12_wrongIn.all goodWord = true := List.all_eq_true.mpr (List.forall_mem_cons.mpr ⟨by decide +kernel, (List.forall_mem_append.mpr ⟨ko_X12_wrongIn, (List.forall_mem_append.mpr ⟨(List.all_eq_true.mp k_X12_sortOf), kX_X12⟩)⟩)⟩)
set_option maxHeartbeats 400000 in
set_option maxRecDepth 100000 in
theorem c_X12_wrongIn0 (l : Launch) (D : va_G) (cI cD cJ : ClassId) (sz : Nat) (h : Nat) (h_code : Int32) (h_taped : Int32) (h_tape : Nat) (h_size : Int32) (h_text : Nat) (h_value : UInt64) (h_out : Int32) (h_output : Nat) (h_illAt : Int32) (h_format : Nat) (h_sections : Int32) (h_items : Int32) (h_kind : Nat) (h_what : Nat) (h_of : Nat) (h_relation : Nat) (h_bound : Nat) (h_reads : Int32) (h_readSections : Int32) (h_readKind : Nat) (h_readWhat : Nat) (h_readOf : Nat) (h_place : Nat) (h_readRelation : Nat) (h_readBound : Nat) (h_stop : Int32) (h_meant : Nat) (h_row : Nat) (h_exact : Nat) (h_error : Nat) (h_bestError : Nat) (h_m : Int64) (h_e : Int32) (h_digits : Nat) (h_whole : Int32) (kf : Nat → Int32) (sc1 : Int32) (a : Int32) (b : Int32) (ha : 0 ≤ a.toInt) (hb9 : b.toInt ≤ 260) (hab : b.toInt ≤ a.toInt) (hs3 : sc1.toInt ≠ 3) : Met l yX12_wrongIn pw_X12_wrongIn ({ frames := 2, cells := 0, slots := 0, locals := 47 }) (va_Pc [.ref h, .int sc1, .int a, .int b] (fun U => va_P D vwCl [(h, .inr (9, [.int h_code, .int h_taped, .ref h_tape, .int h_size, .ref h_text, .double h_value, .int h_out, .ref h_output, .int h_illAt, .ref h_format, .int h_sections, .int h_items, .ref h_kind, .ref h_what, .ref h_of, .ref h_relation, .ref h_bound, .int h_reads, .int h_readSections, .ref h_readKind, .ref h_readWhat, .ref h_readOf, .ref h_place, .ref h_readRelation, .ref h_readBound, .int h_stop, .ref h_meant, .ref h_row, .ref h_exact, .ref h_error, .ref h_bestError, .long h_m, .int h_e, .ref h_digits, .int h_whole])), (h_readKind, .inl (cI, 260, .inl kf))] U.heap ∧ va_K D vwCl (ty3 cI cD cJ) U)) (va_Qi (fun (r : Int32) (u : Unit) => r.toInt = -1) (fun _ _ => True) (fun _ => False)) 0 0 (fun _ => False) := by
  refine Met.ofW (cc := cX12_wrongIn) (maxL := 8) (ret := (some .int)) (by decide) rfl ?_
  intro p e s m args below meth c s₁ B hml hv
  obtain ⟨rfl, hP, hK⟩ := hv
  have hx := B.exec
  have hb := B.bytes
  have hr := B.returns
  have hts := atoms_spec (ws := pw_X12_wrongIn) B.pre
  have hown : s.vm.findClass RX12 = some m.cls := findClass_of_methodNamed B.named
  have hlocks := B.notSynchronized
  have hS : va_S (fun _ => False) s.heap s.heap [] := va_S.rf
  have hw : ∀ (k : Nat) (w : Cond), ow_X12_wrongIn[k]? = some w → w.before _ s = true := fun k w h => hts w (List.mem_cons_of_mem _ (have h9 := List.mem_of_getElem? h; List.mem_append_left _ h9))
  have i_X12_sortOf : ∀ w ∈ pw_X12_sortOf, w ∈ pw_X12_wrongIn := fun w h9 => List.mem_cons_of_mem _ (List.mem_append_right _ (List.mem_append_left _ h9))
  have iX12 : ∀ w ∈ u_ws RX12 TX12 35, w ∈ pw_X12_wrongIn := fun w h9 => List.mem_cons_of_mem _ (List.mem_append_right _ (List.mem_append_right _ (h9)))
  have n_m1 : (((-1) : Int32)).toInt = (-1) := by decide
  have n_3 : ((3 : Int32)).toInt = 3 := by decide
  have hl := lv_entry ([.ref h, .int sc1, .int a, .int b]) (n := 8) (Nat.le_of_ble_eq_true rfl)
  rw [lg_entry_eq]
  generalize (lg_sl ([.ref h, .int sc1, .int a, .int b]) ++ List.replicate (8 - (lg_sl ([.ref h, .int sc1, .int a, .int b])).length) Slot.unset).toArray = ls at hl ⊢
  have hl : lv_has ls 8 [(0, .ref h), (1, .int sc1), (2, .int a), (3, .int b)] := hl
  have b_sc1 := ti_b sc1
  have b_a := ti_b a
  have b_b := ti_b b
  refine lv_aload_n hx hb dX12_wrongIn_0 rfl (lv_at hl 0 rfl) ?_
  refine va_get (D := D) (ci := 9) (v := .ref h_readKind) (C := RX12) (T := TX12) (N := 35) hx hb hts iX12 hown hK hP 0 rfl rfl 19 (by decide) (hw 0 (.fieldLink RX12 42 "NumberFormatsModel" "readKind" "[I") rfl) (fun _ h9 => h9) rfl dX12_wrongIn_1 ?_
  refine lv_iload_n hx hb dX12_wrongIn_4 rfl (lv_at hl 2 rfl) ?_
  refine lv_iload_n hx hb dX12_wrongIn_5 rfl (lv_at hl 3 rfl) ?_
  have hPc := hP.sub (ws' := [(h_readKind, .inl (cI, 260, .inl kf))]) [1] rfl
  refine va_calli (va_runS (As := [.ref h_readKind, .int a, .int b]) (rest := []) ⟨hx, hb, hml, hown, hts⟩ (c_X12_sortOf l D cI cD cJ s.heap.size h_readKind kf a b (by omega) (by omega)) (va_cwS 3 hts (goodIn_app (goodIn_r _ [2, 3, 4] rfl (by decide +kernel)) (goodIn_sub i_X12_sortOf k_X12_sortOf)) rfl rfl rfl (by decide +kernel) ⟨Nat.le_of_ble_eq_true rfl, Nat.le_of_ble_eq_true rfl⟩) ⟨fun a U g mk q => by obtain ⟨q0, qP, qK⟩ := q; exact ⟨q0, qP, va_K.moved (u := U) (U := U.calling g mk a) (Vm.Alike.refl U.vm) qK⟩, fun U hU hW => ⟨rfl, by rw [hU]; exact hPc, va_K.moved hW.alike hK⟩⟩ rfl rfl hl.1 rfl (lv_room (Nat.le_of_ble_eq_true rfl)) dX12_wrongIn_6 ⟨Nat.le_of_ble_eq_true rfl, Nat.le_of_ble_eq_true rfl⟩) hS (fun q _ h => h.elim) (fun q h => h.elim) (fun x_1 u t H1 locs ht hvm w_2 hB hz1 hk1 hS => ?_)
  have hP : va_P D vwCl [(h, .inr (9, [.int h_code, .int h_taped, .ref h_tape, .int h_size, .ref h_text, .double h_value, .int h_out, .ref h_output, .int h_illAt, .ref h_format, .int h_sections, .int h_items, .ref h_kind, .ref h_what, .ref h_of, .ref h_relation, .ref h_bound, .int h_reads, .int h_readSections, .ref h_readKind, .ref h_readWhat, .ref h_readOf, .ref h_place, .ref h_readRelation, .ref h_readBound, .int h_stop, .ref h_meant, .ref h_row, .ref h_exact, .ref h_error, .ref h_bestError, .long h_m, .int h_e, .ref h_digits, .int h_whole])), (h_readKind, .inl (cI, 260, .inl kf))] H1 := hP.kept (fun k9 q9 h9 => hk1 q9.1 (vx_lt hP h9) (fun h => h))
  generalize H1 = H at hP hS ⊢
  try dsimp only at w_2
  refine lv_istore (lv' := [(4, .int x_1), (0, .ref h), (1, .int sc1), (2, .int a), (3, .int b)]) hx hb dX12_wrongIn_9 hl (by decide) rfl (fun ls hl => ?_)
  refine lv_iload_n hx hb dX12_wrongIn_11 rfl (lv_at hl 2 rfl) ?_
  refine lv_iconst (v := 3) hx hb dX12_wrongIn_12 (by decide) ?_
  refine lv_icmp_ne (tgt := 34) hx hb dX12_wrongIn_13 (by decide) (fun c_3 => ?_) (fun c_3 => by have ic_3 : (sc1 : Int32).toInt = (3 : Int32).toInt := (fa_eq sc1 3).mp c_3; exfalso; omega)
  have ic_3 : ¬ ((sc1 : Int32).toInt = (3 : Int32).toInt) := fun h9 => c_3 ((fa_eq sc1 3).mpr h9)
  refine lv_iload_n hx hb dX12_wrongIn_34 rfl (lv_at hl 3 rfl) ?_
  refine lv_istore (lv' := [(5, .int a), (4, .int x_1), (0, .ref h), (1, .int sc1), (2, .int a), (3, .int b)]) hx hb dX12_wrongIn_35 hl (by decide) rfl (fun ls hl => ?_)
  refine lv_iload hx hb dX12_wrongIn_37 (lv_at hl 0 rfl) ?_
  refine lv_iload_n hx hb dX12_wrongIn_39 rfl (lv_at hl 5 rfl) ?_
  refine lv_icmp_ge (tgt := 296) hx hb dX12_wrongIn_40 (by decide) (fun c_4 => ?_) (fun c_4 => by have ic_4 : ¬ ((b : Int32).toInt ≤ (a : Int32).toInt) := fun h9 => c_4 ((fa_le b a).mpr h9); exfalso; omega)
  have ic_4 : (b : Int32).toInt ≤ (a : Int32).toInt := (fa_le b a).mp c_4
  refine lv_iconst (v := (-1)) hx hb dX12_wrongIn_296 (by decide) ?_
  exact W.iret (v := (-1)) hx hb hr (fun t ht hW => ⟨⟨(-1), (), rfl, (by (try dsimp only); omega), trivial⟩, hS.F ht⟩) hS.2.2 dX12_wrongIn_297

def ow_X12_readAll : List Cond := [Cond.fieldLink RX12 172 "NumberFormatsModel" "reads" "I", Cond.fieldLink RX12 188 "NumberFormatsModel" "readSections" "I", Cond.fieldLink RX12 88 "NumberFormatsModel" "size" "I", Cond.methodLink RX12 256 yX12_wrongIn, Cond.instanceMethod yX12_wrongIn, Cond.selects RX12 yX12_wrongIn yX12_wrongIn, Cond.initialized RX12, Cond.fieldLink RX12 54 "NumberFormatsModel" "readRelation" "[I"]
def pw_X12_readAll : List Cond := Cond.code yX12_readAll cX12_readAll 4 (some .int) :: (ow_X12_readAll ++ (pw_X12_wrongIn ++ (wsX120)))
set_option maxRecDepth 20000 in
theorem mo_X12_readAll : ∀ w ∈ ow_X12_readAll, w ∈ lw_tbl := by decide +kernel
set_option maxRecDepth 20000 in
theorem mc_X12_readAll : Cond.code yX12_readAll cX12_readAll 4 (some .int) ∈ lw_tbl := by decide +kernel
theorem m_X12_readAll : ∀ w ∈ pw_X12_readAll, w ∈ lw_tbl := List.forall_mem_cons.mpr ⟨mc_X12_readAll, (List.forall_mem_append.mpr ⟨mo_X12_readAll, (List.forall_mem_append.mpr ⟨m_X12_wrongIn, inX12⟩)⟩)⟩
theorem ko_X12_readAll : ∀ w ∈ ow_X12_readAll, goodWord w = true := by decide +kernel
theorem k_X12_readAll : pw_X12_readAll.all goodWord = true := List.all_eq_true.mpr (List.forall_mem_cons.mpr ⟨by decide +kernel, (List.forall_mem_append.mpr ⟨ko_X12_readAll, (List.forall_mem_append.mpr ⟨(List.all_eq_true.mp k_X12_wrongIn), kX_X12⟩)⟩)⟩)
set_option maxHeartbeats 400000 in
set_option maxRecDepth 100000 in
theorem c_X12_readAll0 (l : Launch) (D : va_G) (cI cD cJ : ClassId) (sz : Nat) (h : Nat) (h_code : Int32) (h_taped : Int32) (h_tape : Nat) (h_text : Nat) (h_value : UInt64) (h_out : Int32) (h_output : Nat) (h_illAt : Int32) (h_format : Nat) (h_sections : Int32) (h_items : Int32) (h_kind : Nat) (h_what : Nat) (h_of : Nat) (h_relation : Nat) (h_bound : Nat) (h_reads : Int32) (h_readSections : Int32) (h_readKind : Nat) (h_readWhat : Nat) (h_readOf : Nat) (h_place : Nat) (h_readRelation : Nat) (h_readBound : Nat) (h_stop : Int32) (h_meant : Nat) (h_row : Nat) (h_exact : Nat) (h_error : Nat) (h_bestError : Nat) (h_m : Int64) (h_e : Int32) (h_digits : Nat) (h_whole : Int32) (rrF : Nat → Int32) (rkF : Nat → Int32) : Met l yX12_readAll pw_X12_readAll ({ frames := 3, cells := 0, slots := 0, locals := 74 }) (va_Pc [.ref h] (fun U => U.heap.size = sz ∧ va_P D vwCl [(h, .inr (9, [.int h_code, .int h_taped, .ref h_tape, .int 0, .ref h_text, .double h_value, .int h_out, .ref h_output, .int h_illAt, .ref h_format, .int h_sections, .int h_items, .ref h_kind, .ref h_what, .ref h_of, .ref h_relation, .ref h_bound, .int h_reads, .int h_readSections, .ref h_readKind, .ref h_readWhat, .ref h_readOf, .ref h_place, .ref h_readRelation, .ref h_readBound, .int h_stop, .ref h_meant, .ref h_row, .ref h_exact, .ref h_error, .ref h_bestError, .long h_m, .int h_e, .ref h_digits, .int h_whole])), (h_readRelation, .inl (cI, 8, .inl rrF)), (h_readKind, .inl (cI, 260, .inl rkF))] U.heap ∧ va_K D vwCl (ty3 cI cD cJ) U ∧ va_D (fun _ => True) [(h, .inr (9, [.int h_code, .int h_taped, .ref h_tape, .int 0, .ref h_text, .double h_value, .int h_out, .ref h_output, .int h_illAt, .ref h_format, .int h_sections, .int h_items, .ref h_kind, .ref h_what, .ref h_of, .ref h_relation, .ref h_bound, .int h_reads, .int h_readSections, .ref h_readKind, .ref h_readWhat, .ref h_readOf, .ref h_place, .ref h_readRelation, .ref h_readBound, .int h_stop, .ref h_meant, .ref h_row, .ref h_exact, .ref h_error, .ref h_bestError, .long h_m, .int h_e, .ref h_digits, .int h_whole])), (h_readRelation, .inl (cI, 8, .inl rrF)), (h_readKind, .inl (cI, 260, .inl rkF))])) (va_Qi (fun (r : Int32) (u : Int32 × (Nat → Int32)) => match u with | (rs2, rrF2) => r.toInt = -1 ∧ rs2.toInt = 1) (fun (u : Int32 × (Nat → Int32)) (t : State) => match u with | (rs2, rrF2) => va_P D vwCl [(h, .inr (9, [.int h_code, .int h_taped, .ref h_tape, .int 0, .ref h_text, .double h_value, .int h_out, .ref h_output, .int h_illAt, .ref h_format, .int h_sections, .int h_items, .ref h_kind, .ref h_what, .ref h_of, .ref h_relation, .ref h_bound, .int 0, .int rs2, .ref h_readKind, .ref h_readWhat, .ref h_readOf, .ref h_place, .ref h_readRelation, .ref h_readBound, .int h_stop, .ref h_meant, .ref h_row, .ref h_exact, .ref h_error, .ref h_bestError, .long h_m, .int h_e, .ref h_digits, .int h_whole])), (h_readRelation, .inl (cI, 8, .inl rrF2)), (h_readKind, .inl (cI, 260, .inl rkF))] t.heap ∧ va_K D vwCl (ty3 cI cD cJ) t ∧ va_D (va_A [(h, .inr (9, [.int h_code, .int h_taped, .ref h_tape, .int 0, .ref h_text, .double h_value, .int h_out, .ref h_output, .int h_illAt, .ref h_format, .int h_sections, .int h_items, .ref h_kind, .ref h_what, .ref h_of, .ref h_relation, .ref h_bound, .int h_reads, .int h_readSections, .ref h_readKind, .ref h_readWhat, .ref h_readOf, .ref h_place, .ref h_readRelation, .ref h_readBound, .int h_stop, .ref h_meant, .ref h_row, .ref h_exact, .ref h_error, .ref h_bestError, .long h_m, .int h_e, .ref h_digits, .int h_whole])), (h_readRelation, .inl (cI, 8, .inl rrF)), (h_readKind, .inl (cI, 260, .inl rkF))] sz) [(h, .inr (9, [.int h_code, .int h_taped, .ref h_tape, .int 0, .ref h_text, .double h_value, .int h_out, .ref h_output, .int h_illAt, .ref h_format, .int h_sections, .int h_items, .ref h_kind, .ref h_what, .ref h_of, .ref h_relation, .ref h_bound, .int 0, .int rs2, .ref h_readKind, .ref h_readWhat, .ref h_readOf, .ref h_place, .ref h_readRelation, .ref h_readBound, .int h_stop, .ref h_meant, .ref h_row, .ref h_exact, .ref h_error, .ref h_bestError, .long h_m, .int h_e, .ref h_digits, .int h_whole])), (h_readRelation, .inl (cI, 8, .inl rrF2)), (h_readKind, .inl (cI, 260, .inl rkF))]) (va_A [(h, .inr (9, [.int h_code, .int h_taped, .ref h_tape, .int 0, .ref h_text, .double h_value, .int h_out, .ref h_output, .int h_illAt, .ref h_format, .int h_sections, .int h_items, .ref h_kind, .ref h_what, .ref h_of, .ref h_relation, .ref h_bound, .int h_reads, .int h_readSections, .ref h_readKind, .ref h_readWhat, .ref h_readOf, .ref h_place, .ref h_readRelation, .ref h_readBound, .int h_stop, .ref h_meant, .ref h_row, .ref h_exact, .ref h_error, .ref h_bestError, .long h_m, .int h_e, .ref h_digits, .int h_whole])), (h_readRelation, .inl (cI, 8, .inl rrF)), (h_readKind, .inl (cI, 260, .inl rkF))] sz)) 0 0 (va_A [(h, .inr (9, [.int h_code, .int h_taped, .ref h_tape, .int 0, .ref h_text, .double h_value, .int h_out, .ref h_output, .int h_illAt, .ref h_format, .int h_sections, .int h_items, .ref h_kind, .ref h_what, .ref h_of, .ref h_relation, .ref h_bound, .int h_reads, .int h_readSections, .ref h_readKind, .ref h_readWhat, .ref h_readOf, .ref h_place, .ref h_readRelation, .ref h_readBound, .int h_stop, .ref h_meant, .ref h_row, .ref h_exact, .ref h_error, .ref h_bestError, .long h_m, .int h_e, .ref h_digits, .int h_whole])), (h_readRelation, .inl (cI, 8, .inl rrF)), (h_readKind, .inl (cI, 260, .inl rkF))] sz) := by
  refine Met.ofW (cc := cX12_readAll) (maxL := 4) (ret := (some .int)) (by decide) rfl ?_
  intro p e s m args below meth c s₁ B hml hv
  obtain ⟨rfl, hsz, hP, hK, hD0⟩ := hv
  have hx := B.exec
  have hb := B.bytes
  have hr := B.returns
  have hts := atoms_spec (ws := pw_X12_readAll) B.pre
  have hown : s.vm.findClass RX12 = some m.cls := findClass_of_methodNamed B.named
  have hlocks := B.notSynchronized
  subst hsz
  have hD := hD0.self (sz := s.heap.size)
  generalize hAe : va_A [(h, .inr (9, [.int h_code, .int h_taped, .ref h_tape, .int 0, .ref h_text, .double h_value, .int h_out, .ref h_output, .int h_illAt, .ref h_format, .int h_sections, .int h_items, .ref h_kind, .ref h_what, .ref h_of, .ref h_relation, .ref h_bound, .int h_reads, .int h_readSections, .ref h_readKind, .ref h_readWhat, .ref h_readOf, .ref h_place, .ref h_readRelation, .ref h_readBound, .int h_stop, .ref h_meant, .ref h_row, .ref h_exact, .ref h_error, .ref h_bestError, .long h_m, .int h_e, .ref h_digits, .int h_whole])), (h_readRelation, .inl (cI, 8, .inl rrF)), (h_readKind, .inl (cI, 260, .inl rkF))] s.heap.size = A at hD ⊢
  have hA : ∀ q : Nat, s.heap.size ≤ q → A q := fun q h => by rw [← hAe]; exact Or.inr h
  have hS : va_S A s.heap s.heap [] := va_S.rf
  have hw : ∀ (k : Nat) (w : Cond), ow_X12_readAll[k]? = some w → w.before _ s = true := fun k w h => hts w (List.mem_cons_of_mem _ (have h9 := List.mem_of_getElem? h; List.mem_append_left _ h9))
  have i_X12_wrongIn : ∀ w ∈ pw_X12_wrongIn, w ∈ pw_X12_readAll := fun w h9 => List.mem_cons_of_mem _ (List.mem_append_right _ (List.mem_append_left _ h9))
  have iX12 : ∀ w ∈ u_ws RX12 TX12 35, w ∈ pw_X12_readAll := fun w h9 => List.mem_cons_of_mem _ (List.mem_append_right _ (List.mem_append_right _ (h9)))
  have n_m1 : (((-1) : Int32)).toInt = (-1) := by decide
  have n_0 : ((0 : Int32)).toInt = 0 := by decide
  have n_1 : ((1 : Int32)).toInt = 1 := by decide
  have n_8 : ((8 : Int32)).toInt = 8 := by decide
  have hl := lv_entry ([.ref h]) (n := 4) (Nat.le_of_ble_eq_true rfl)
  rw [lg_entry_eq]
  generalize (lg_sl ([.ref h]) ++ List.replicate (4 - (lg_sl ([.ref h])).length) Slot.unset).toArray = ls at hl ⊢
  have hl : lv_has ls 4 [(0, .ref h)] := hl
  refine zz_cap (fun Z hZ1 hZ2 => ?_)
  refine lv_aload_n hx hb dX12_readAll_0 rfl (lv_at hl 0 rfl) ?_
  refine lv_iconst (v := 0) hx hb dX12_readAll_1 (by decide) ?_
  refine va_put (D := D) (ci := 9) (v := .int 0) (ty := .int) (C := RX12) (T := TX12) (N := 35) hx hb hts iX12 tyX12 tyX12_ok nmX12 hown hK hP hD hS 0 rfl rfl 17 (by decide) (hw 0 (.fieldLink RX12 172 "NumberFormatsModel" "reads" "I") rfl) (fun _ h9 => h9) rfl (by decide +kernel) rfl rfl (Nat.le_of_ble_eq_true rfl) dX12_readAll_2 (fun H locs hP hD hS => ?_)
  have hP : va_P D vwCl [(h, .inr (9, [.int h_code, .int h_taped, .ref h_tape, .int 0, .ref h_text, .double h_value, .int h_out, .ref h_output, .int h_illAt, .ref h_format, .int h_sections, .int h_items, .ref h_kind, .ref h_what, .ref h_of, .ref h_relation, .ref h_bound, .int 0, .int h_readSections, .ref h_readKind, .ref h_readWhat, .ref h_readOf, .ref h_place, .ref h_readRelation, .ref h_readBound, .int h_stop, .ref h_meant, .ref h_row, .ref h_exact, .ref h_error, .ref h_bestError, .long h_m, .int h_e, .ref h_digits, .int h_whole])), (h_readRelation, .inl (cI, 8, .inl rrF)), (h_readKind, .inl (cI, 260, .inl rkF))] H := hP
  have hD : va_D A [(h, .inr (9, [.int h_code, .int h_taped, .ref h_tape, .int 0, .ref h_text, .double h_value, .int h_out, .ref h_output, .int h_illAt, .ref h_format, .int h_sections, .int h_items, .ref h_kind, .ref h_what, .ref h_of, .ref h_relation, .ref h_bound, .int 0, .int h_readSections, .ref h_readKind, .ref h_readWhat, .ref h_readOf, .ref h_place, .ref h_readRelation, .ref h_readBound, .int h_stop, .ref h_meant, .ref h_row, .ref h_exact, .ref h_error, .ref h_bestError, .long h_m, .int h_e, .ref h_digits, .int h_whole])), (h_readRelation, .inl (cI, 8, .inl rrF)), (h_readKind, .inl (cI, 260, .inl rkF))] := hD
  refine lv_aload_n hx hb dX12_readAll_5 rfl (lv_at hl 0 rfl) ?_
  refine lv_iconst (v := 0) hx hb dX12_readAll_6 (by decide) ?_
  refine va_put (D := D) (ci := 9) (v := .int 0) (ty := .int) (C := RX12) (T := TX12) (N := 35) hx hb hts iX12 tyX12 tyX12_ok nmX12 hown hK hP hD hS 0 rfl rfl 18 (by decide) (hw 1 (.fieldLink RX12 188 "NumberFormatsModel" "readSections" "I") rfl) (fun _ h9 => h9) rfl (by decide +kernel) rfl rfl (Nat.le_of_ble_eq_true rfl) dX12_readAll_7 (fun H locs hP hD hS => ?_)
  have hP : va_P D vwCl [(h, .inr (9, [.int h_code, .int h_taped, .ref h_tape, .int 0, .ref h_text, .double h_value, .int h_out, .ref h_output, .int h_illAt, .ref h_format, .int h_sections, .int h_items, .ref h_kind, .ref h_what, .ref h_of, .ref h_relation, .ref h_bound, .int 0, .int 0, .ref h_readKind, .ref h_readWhat, .ref h_readOf, .ref h_place, .ref h_readRelation, .ref h_readBound, .int h_stop, .ref h_meant, .ref h_row, .ref h_exact, .ref h_error, .ref h_bestError, .long h_m, .int h_e, .ref h_digits, .int h_whole])), (h_readRelation, .inl (cI, 8, .inl rrF)), (h_readKind, .inl (cI, 260, .inl rkF))] H := hP
  have hD : va_D A [(h, .inr (9, [.int h_code, .int h_taped, .ref h_tape, .int 0, .ref h_text, .double h_value, .int h_out, .ref h_output, .int h_illAt, .ref h_format, .int h_sections, .int h_items, .ref h_kind, .ref h_what, .ref h_of, .ref h_relation, .ref h_bound, .int 0, .int 0, .ref h_readKind, .ref h_readWhat, .ref h_readOf, .ref h_place, .ref h_readRelation, .ref h_readBound, .int h_stop, .ref h_meant, .ref h_row, .ref h_exact, .ref h_error, .ref h_bestError, .long h_m, .int h_e, .ref h_digits, .int h_whole])), (h_readRelation, .inl (cI, 8, .inl rrF)), (h_readKind, .inl (cI, 260, .inl rkF))] := hD
  refine lv_iconst (v := 0) hx hb dX12_readAll_10 (by decide) ?_
  refine lv_istore_n (lv' := [(1, .int 0), (0, .ref h)]) hx hb dX12_readAll_11 rfl hl (by decide) rfl (fun ls hl => ?_)
  have L_12 : ∀ (N : Nat) (x_1 : Int32) (f_2 : Nat → Int32) (H : Heap) (locs : List Loc) (ls : Array Slot), (0 ≤ (x_1 : Int32).toInt) → ((8 - (x_1 : Int32).toInt).toNat < N) → va_P D vwCl [(h, .inr (9, [.int h_code, .int h_taped, .ref h_tape, .int 0, .ref h_text, .double h_value, .int h_out, .ref h_output, .int h_illAt, .ref h_format, .int h_sections, .int h_items, .ref h_kind, .ref h_what, .ref h_of, .ref h_relation, .ref h_bound, .int 0, .int 0, .ref h_readKind, .ref h_readWhat, .ref h_readOf, .ref h_place, .ref h_readRelation, .ref h_readBound, .int h_stop, .ref h_meant, .ref h_row, .ref h_exact, .ref h_error, .ref h_bestError, .long h_m, .int h_e, .ref h_digits, .int h_whole])), (h_readRelation, .inl (cI, 8, .inl f_2)), (h_readKind, .inl (cI, 260, .inl rkF))] H → va_D A [(h, .inr (9, [.int h_code, .int h_taped, .ref h_tape, .int 0, .ref h_text, .double h_value, .int h_out, .ref h_output, .int h_illAt, .ref h_format, .int h_sections, .int h_items, .ref h_kind, .ref h_what, .ref h_of, .ref h_relation, .ref h_bound, .int 0, .int 0, .ref h_readKind, .ref h_readWhat, .ref h_readOf, .ref h_place, .ref h_readRelation, .ref h_readBound, .int h_stop, .ref h_meant, .ref h_row, .ref h_exact, .ref h_error, .ref h_bestError, .long h_m, .int h_e, .ref h_digits, .int h_whole])), (h_readRelation, .inl (cI, 8, .inl f_2)), (h_readKind, .inl (cI, 260, .inl rkF))] → va_S A s.heap H locs → lv_has ls 4 [(1, .int x_1), (0, .ref h)] → Z 0 0 H locs (F0 m 12 ls []) := by
    intro N
    induction N with
    | zero => intro _ _ _ _ _ _ hmu; exact absurd hmu (Nat.not_lt_zero _)
    | succ N ih =>
      intro x_1 f_2 H locs ls g12_0 hmu hP hD hS hl
      refine hZ2 ?_
      refine lv_iload_n hx hb dX12_readAll_12 rfl (lv_at hl 0 rfl) ?_
      refine lv_bipush (v := 8) hx hb dX12_readAll_13 (by decide) ?_
      refine lv_icmp_ge (tgt := 31) hx hb dX12_readAll_15 (by decide) (fun c_3 => ?_) (fun c_3 => ?_)
      · have ic_3 : (8 : Int32).toInt ≤ (x_1 : Int32).toInt := (fa_le 8 x_1).mp c_3
        refine lv_iconst (v := 0) hx hb dX12_readAll_31 (by decide) ?_
        refine lv_istore_n (lv' := [(1, .int 0), (0, .ref h)]) hx hb dX12_readAll_32 rfl hl (by decide) rfl (fun ls hl => ?_)
        refine lv_iconst (v := 0) hx hb dX12_readAll_33 (by decide) ?_
        refine lv_istore_n (lv' := [(2, .int 0), (1, .int 0), (0, .ref h)]) hx hb dX12_readAll_34 rfl hl (by decide) rfl (fun ls hl => ?_)
        refine lv_iload_n hx hb dX12_readAll_35 rfl (lv_at hl 0 rfl) ?_
        refine lv_aload_n hx hb dX12_readAll_36 rfl (lv_at hl 2 rfl) ?_
        refine va_get (D := D) (ci := 9) (v := .int 0) (C := RX12) (T := TX12) (N := 35) hx hb hts iX12 hown hK hP 0 rfl rfl 3 (by decide) (hw 2 (.fieldLink RX12 88 "NumberFormatsModel" "size" "I") rfl) (fun _ h9 => h9) rfl dX12_readAll_37 ?_
        refine lv_icmp_gt (tgt := 185) hx hb dX12_readAll_40 (by decide) (fun c_4 => by have ic_4 : (0 : Int32).toInt < (0 : Int32).toInt := (fa_lt 0 0).mp c_4; exfalso; omega) (fun c_4 => ?_)
        have ic_4 : ¬ ((0 : Int32).toInt < (0 : Int32).toInt) := fun h9 => c_4 ((fa_lt 0 0).mpr h9)
        refine lv_iload_n hx hb dX12_readAll_43 rfl (lv_at hl 0 rfl) ?_
        refine lv_aload_n hx hb dX12_readAll_44 rfl (lv_at hl 2 rfl) ?_
        refine va_get (D := D) (ci := 9) (v := .int 0) (C := RX12) (T := TX12) (N := 35) hx hb hts iX12 hown hK hP 0 rfl rfl 3 (by decide) (hw 2 (.fieldLink RX12 88 "NumberFormatsModel" "size" "I") rfl) (fun _ h9 => h9) rfl dX12_readAll_45 ?_
        refine lv_icmp_eq (tgt := 62) hx hb dX12_readAll_48 (by decide) (fun c_5 => ?_) (fun c_5 => by have ic_5 : ¬ ((0 : Int32).toInt = (0 : Int32).toInt) := fun h9 => c_5 ((fa_eq 0 0).mpr h9); exfalso; omega)
        have ic_5 : (0 : Int32).toInt = (0 : Int32).toInt := (fa_eq 0 0).mp c_5
        refine lv_aload_n hx hb dX12_readAll_62 rfl (lv_at hl 2 rfl) ?_
        refine lv_aload_n hx hb dX12_readAll_63 rfl (lv_at hl 2 rfl) ?_
        refine va_get (D := D) (ci := 9) (v := .int 0) (C := RX12) (T := TX12) (N := 35) hx hb hts iX12 hown hK hP 0 rfl rfl 18 (by decide) (hw 1 (.fieldLink RX12 188 "NumberFormatsModel" "readSections" "I") rfl) (fun _ h9 => h9) rfl dX12_readAll_64 ?_
        refine lv_iload_n hx hb dX12_readAll_67 rfl (lv_at hl 1 rfl) ?_
        refine lv_aload_n hx hb dX12_readAll_68 rfl (lv_at hl 2 rfl) ?_
        refine va_get (D := D) (ci := 9) (v := .int 0) (C := RX12) (T := TX12) (N := 35) hx hb hts iX12 hown hK hP 0 rfl rfl 17 (by decide) (hw 0 (.fieldLink RX12 172 "NumberFormatsModel" "reads" "I") rfl) (fun _ h9 => h9) rfl dX12_readAll_69 ?_
        have hPc := hP.sub (ws' := [(h, .inr (9, [.int h_code, .int h_taped, .ref h_tape, .int 0, .ref h_text, .double h_value, .int h_out, .ref h_output, .int h_illAt, .ref h_format, .int h_sections, .int h_items, .ref h_kind, .ref h_what, .ref h_of, .ref h_relation, .ref h_bound, .int 0, .int 0, .ref h_readKind, .ref h_readWhat, .ref h_readOf, .ref h_place, .ref h_readRelation, .ref h_readBound, .int h_stop, .ref h_meant, .ref h_row, .ref h_exact, .ref h_error, .ref h_bestError, .long h_m, .int h_e, .ref h_digits, .int h_whole])), (h_readKind, .inl (cI, 260, .inl rkF))]) [0, 2] rfl
        refine va_calli (va_runV (As := [.int 0, .int 0, .int 0]) (rest := []) ⟨hx, hb, hml, hown, hts⟩ (c_X12_wrongIn0 l D cI cD cJ H.size h h_code h_taped h_tape 0 h_text h_value h_out h_output h_illAt h_format h_sections h_items h_kind h_what h_of h_relation h_bound 0 0 h_readKind h_readWhat h_readOf h_place h_readRelation h_readBound h_stop h_meant h_row h_exact h_error h_bestError h_m h_e h_digits h_whole rkF 0 0 0 (by omega) (by omega) (by omega) (by omega)) (cwV 3 hts (goodIn_app (goodIn_r _ [4, 5, 6, 7] rfl (by decide +kernel)) (goodIn_sub i_X12_wrongIn k_X12_wrongIn)) rfl rfl rfl (by decide +kernel) ⟨Nat.le_of_ble_eq_true rfl, Nat.le_of_ble_eq_true rfl⟩) ⟨fun a U g mk q => by obtain ⟨q0, qP, qK⟩ := q; exact ⟨q0, qP, va_K.moved (u := U) (U := U.calling g mk a) (Vm.Alike.refl U.vm) qK⟩, va_recv hK hPc (ci := 9) (q0 := 0) rfl rfl, fun U hU hW => ⟨rfl, by rw [hU]; exact hPc, va_K.moved hW.alike hK⟩⟩ rfl rfl hl.1 rfl (lv_room (Nat.le_of_ble_eq_true rfl)) dX12_readAll_72 ⟨Nat.le_of_ble_eq_true rfl, Nat.le_of_ble_eq_true rfl⟩) hS (fun q _ h => h.elim) (fun q h => h.elim) (fun x_6 u t H1 locs ht hvm w_7 hB hz1 hk1 hS => ?_)
        have hP : va_P D vwCl [(h, .inr (9, [.int h_code, .int h_taped, .ref h_tape, .int 0, .ref h_text, .double h_value, .int h_out, .ref h_output, .int h_illAt, .ref h_format, .int h_sections, .int h_items, .ref h_kind, .ref h_what, .ref h_of, .ref h_relation, .ref h_bound, .int 0, .int 0, .ref h_readKind, .ref h_readWhat, .ref h_readOf, .ref h_place, .ref h_readRelation, .ref h_readBound, .int h_stop, .ref h_meant, .ref h_row, .ref h_exact, .ref h_error, .ref h_bestError, .long h_m, .int h_e, .ref h_digits, .int h_whole])), (h_readRelation, .inl (cI, 8, .inl f_2)), (h_readKind, .inl (cI, 260, .inl rkF))] H1 := hP.kept (fun k9 q9 h9 => hk1 q9.1 (vx_lt hP h9) (fun h => h))
        generalize H1 = H at hP hS ⊢
        try dsimp only at w_7
        refine lv_istore_n (lv' := [(3, .int x_6), (2, .int 0), (1, .int 0), (0, .ref h)]) hx hb dX12_readAll_75 rfl hl (by decide) rfl (fun ls hl => ?_)
        refine lv_iload_n hx hb dX12_readAll_76 rfl (lv_at hl 0 rfl) ?_
        refine lv_if_lt (tgt := 82) hx hb dX12_readAll_77 (by decide) (fun c_8 => ?_) (fun c_8 => by have ic_8 : ¬ ((x_6 : Int32).toInt < (0 : Int32).toInt) := fun h9 => c_8 ((fa_lt x_6 0).mpr h9); exfalso; omega)
        have ic_8 : (x_6 : Int32).toInt < (0 : Int32).toInt := (fa_lt x_6 0).mp c_8
        refine lv_aload_n hx hb dX12_readAll_82 rfl (lv_at hl 3 rfl) ?_
        refine lv_dup hx hb dX12_readAll_83 rfl ?_
        refine va_get (D := D) (ci := 9) (v := .int 0) (C := RX12) (T := TX12) (N := 35) hx hb hts iX12 hown hK hP 0 rfl rfl 18 (by decide) (hw 1 (.fieldLink RX12 188 "NumberFormatsModel" "readSections" "I") rfl) (fun _ h9 => h9) rfl dX12_readAll_84 ?_
        refine lv_iconst (v := 1) hx hb dX12_readAll_87 (by decide) ?_
        refine lv_iadd hx hb dX12_readAll_88 ?_
        refine lv_topi (fun x_9 ex_9 => ?_)
        have tx_9 := ti_add ex_9
        refine va_put (D := D) (ci := 9) (v := .int x_9) (ty := .int) (C := RX12) (T := TX12) (N := 35) hx hb hts iX12 tyX12 tyX12_ok nmX12 hown hK hP hD hS 0 rfl rfl 18 (by decide) (hw 1 (.fieldLink RX12 188 "NumberFormatsModel" "readSections" "I") rfl) (fun _ h9 => h9) rfl (by decide +kernel) rfl rfl (Nat.le_of_ble_eq_true rfl) dX12_readAll_89 (fun H locs hP hD hS => ?_)
        have hP : va_P D vwCl [(h, .inr (9, [.int h_code, .int h_taped, .ref h_tape, .int 0, .ref h_text, .double h_value, .int h_out, .ref h_output, .int h_illAt, .ref h_format, .int h_sections, .int h_items, .ref h_kind, .ref h_what, .ref h_of, .ref h_relation, .ref h_bound, .int 0, .int x_9, .ref h_readKind, .ref h_readWhat, .ref h_readOf, .ref h_place, .ref h_readRelation, .ref h_readBound, .int h_stop, .ref h_meant, .ref h_row, .ref h_exact, .ref h_error, .ref h_bestError, .long h_m, .int h_e, .ref h_digits, .int h_whole])), (h_readRelation, .inl (cI, 8, .inl f_2)), (h_readKind, .inl (cI, 260, .inl rkF))] H := hP
        have hD : va_D A [(h, .inr (9, [.int h_code, .int h_taped, .ref h_tape, .int 0, .ref h_text, .double h_value, .int h_out, .ref h_output, .int h_illAt, .ref h_format, .int h_sections, .int h_items, .ref h_kind, .ref h_what, .ref h_of, .ref h_relation, .ref h_bound, .int 0, .int x_9, .ref h_readKind, .ref h_readWhat, .ref h_readOf, .ref h_place, .ref h_readRelation, .ref h_readBound, .int h_stop, .ref h_meant, .ref h_row, .ref h_exact, .ref h_error, .ref h_bestError, .long h_m, .int h_e, .ref h_digits, .int h_whole])), (h_readRelation, .inl (cI, 8, .inl f_2)), (h_readKind, .inl (cI, 260, .inl rkF))] := hD
        refine lv_iload_n hx hb dX12_readAll_92 rfl (lv_at hl 1 rfl) ?_
        refine lv_aload_n hx hb dX12_readAll_93 rfl (lv_at hl 3 rfl) ?_
        refine va_get (D := D) (ci := 9) (v := .int 0) (C := RX12) (T := TX12) (N := 35) hx hb hts iX12 hown hK hP 0 rfl rfl 3 (by decide) (hw 2 (.fieldLink RX12 88 "NumberFormatsModel" "size" "I") rfl) (fun _ h9 => h9) rfl dX12_readAll_94 ?_
        refine lv_icmp_ge (tgt := 110) hx hb dX12_readAll_97 (by decide) (fun c_10 => ?_) (fun c_10 => by have ic_10 : ¬ ((0 : Int32).toInt ≤ (0 : Int32).toInt) := fun h9 => c_10 ((fa_le 0 0).mpr h9); exfalso; omega)
        have ic_10 : (0 : Int32).toInt ≤ (0 : Int32).toInt := (fa_le 0 0).mp c_10
        refine lv_aload_n hx hb dX12_readAll_110 rfl (lv_at hl 3 rfl) ?_
        refine va_get (D := D) (ci := 9) (v := .int 0) (C := RX12) (T := TX12) (N := 35) hx hb hts iX12 hown hK hP 0 rfl rfl 17 (by decide) (hw 0 (.fieldLink RX12 172 "NumberFormatsModel" "reads" "I") rfl) (fun _ h9 => h9) rfl dX12_readAll_111 ?_
        refine lv_istore_n (lv' := [(1, .int 0), (3, .int x_6), (2, .int 0), (0, .ref h)]) hx hb dX12_readAll_114 rfl hl (by decide) rfl (fun ls hl => ?_)
        obtain ⟨x_11, ex_11⟩ : ∃ y : Int32, y = 0 + 1 := ⟨_, rfl⟩
        have tx_11 := ti_add ex_11
        refine lv_iinc (v := x_11) (lv' := [(2, .int x_11), (1, .int 0), (3, .int x_6), (0, .ref h)]) hx hb dX12_readAll_115 hl (k := 2) rfl (by rw [ex_11]; rfl) (by decide) rfl (fun ls hl => ?_)
        refine lv_goto (tgt := 35) hx hb dX12_readAll_118 (by decide) ?_
        refine lv_iload_n hx hb dX12_readAll_35 rfl (lv_at hl 0 rfl) ?_
        refine lv_aload_n hx hb dX12_readAll_36 rfl (lv_at hl 3 rfl) ?_
        refine va_get (D := D) (ci := 9) (v := .int 0) (C := RX12) (T := TX12) (N := 35) hx hb hts iX12 hown hK hP 0 rfl rfl 3 (by decide) (hw 2 (.fieldLink RX12 88 "NumberFormatsModel" "size" "I") rfl) (fun _ h9 => h9) rfl dX12_readAll_37 ?_
        refine lv_icmp_gt (tgt := 185) hx hb dX12_readAll_40 (by decide) (fun c_12 => ?_) (fun c_12 => by have ic_12 : ¬ ((0 : Int32).toInt < (x_11 : Int32).toInt) := fun h9 => c_12 ((fa_lt 0 x_11).mpr h9); exfalso; omega)
        have ic_12 : (0 : Int32).toInt < (x_11 : Int32).toInt := (fa_lt 0 x_11).mp c_12
        refine lv_iconst (v := (-1)) hx hb dX12_readAll_185 (by decide) ?_
        have hP9 := hP.sub (ws' := [(h, .inr (9, [.int h_code, .int h_taped, .ref h_tape, .int 0, .ref h_text, .double h_value, .int h_out, .ref h_output, .int h_illAt, .ref h_format, .int h_sections, .int h_items, .ref h_kind, .ref h_what, .ref h_of, .ref h_relation, .ref h_bound, .int 0, .int x_9, .ref h_readKind, .ref h_readWhat, .ref h_readOf, .ref h_place, .ref h_readRelation, .ref h_readBound, .int h_stop, .ref h_meant, .ref h_row, .ref h_exact, .ref h_error, .ref h_bestError, .long h_m, .int h_e, .ref h_digits, .int h_whole])), (h_readRelation, .inl (cI, 8, .inl f_2)), (h_readKind, .inl (cI, 260, .inl rkF))]) [0, 1, 2] rfl
        have hD9 := hD.sub (ws' := [(h, .inr (9, [.int h_code, .int h_taped, .ref h_tape, .int 0, .ref h_text, .double h_value, .int h_out, .ref h_output, .int h_illAt, .ref h_format, .int h_sections, .int h_items, .ref h_kind, .ref h_what, .ref h_of, .ref h_relation, .ref h_bound, .int 0, .int x_9, .ref h_readKind, .ref h_readWhat, .ref h_readOf, .ref h_place, .ref h_readRelation, .ref h_readBound, .int h_stop, .ref h_meant, .ref h_row, .ref h_exact, .ref h_error, .ref h_bestError, .long h_m, .int h_e, .ref h_digits, .int h_whole])), (h_readRelation, .inl (cI, 8, .inl f_2)), (h_readKind, .inl (cI, 260, .inl rkF))]) [0, 1, 2] (by decide) rfl
        exact W.iret (v := (-1)) hx hb hr (fun t ht hW => ⟨⟨(-1), (x_9, f_2), rfl, (by (try dsimp only); omega), by rw [ht]; exact hP9, va_K.moved hW.alike hK, hD9⟩, hS.F ht⟩) hS.2.2 dX12_readAll_186
      · have ic_3 : ¬ ((8 : Int32).toInt ≤ (x_1 : Int32).toInt) := fun h9 => c_3 ((fa_le 8 x_1).mpr h9)
        refine lv_aload_n hx hb dX12_readAll_18 rfl (lv_at hl 1 rfl) ?_
        refine va_get (D := D) (ci := 9) (v := .ref h_readRelation) (C := RX12) (T := TX12) (N := 35) hx hb hts iX12 hown hK hP 0 rfl rfl 23 (by decide) (hw 7 (.fieldLink RX12 54 "NumberFormatsModel" "readRelation" "[I") rfl) (fun _ h9 => h9) rfl dX12_readAll_19 ?_
        refine lv_iload_n hx hb dX12_readAll_22 rfl (lv_at hl 0 rfl) ?_
        refine lv_iconst (v := 0) hx hb dX12_readAll_23 (by decide) ?_
        have h_24 : vp_in x_1 8 := by rw [vp_in_iff]; omega
        refine va_iast hx hb hK hP hD hS 1 0 rfl rfl h_24 dX12_readAll_24 (fun H locs hP hD hS => ?_)
        obtain ⟨f_13, ef_13⟩ : ∃ y : Nat → Int32, y = upd f_2 (x_1 : Int32).toNatClampNeg 0 := ⟨_, rfl⟩
        rw [← ef_13] at hP hD
        have hP : va_P D vwCl [(h, .inr (9, [.int h_code, .int h_taped, .ref h_tape, .int 0, .ref h_text, .double h_value, .int h_out, .ref h_output, .int h_illAt, .ref h_format, .int h_sections, .int h_items, .ref h_kind, .ref h_what, .ref h_of, .ref h_relation, .ref h_bound, .int 0, .int 0, .ref h_readKind, .ref h_readWhat, .ref h_readOf, .ref h_place, .ref h_readRelation, .ref h_readBound, .int h_stop, .ref h_meant, .ref h_row, .ref h_exact, .ref h_error, .ref h_bestError, .long h_m, .int h_e, .ref h_digits, .int h_whole])), (h_readRelation, .inl (cI, 8, .inl f_13)), (h_readKind, .inl (cI, 260, .inl rkF))] H := hP
        have hD : va_D A [(h, .inr (9, [.int h_code, .int h_taped, .ref h_tape, .int 0, .ref h_text, .double h_value, .int h_out, .ref h_output, .int h_illAt, .ref h_format, .int h_sections, .int h_items, .ref h_kind, .ref h_what, .ref h_of, .ref h_relation, .ref h_bound, .int 0, .int 0, .ref h_readKind, .ref h_readWhat, .ref h_readOf, .ref h_place, .ref h_readRelation, .ref h_readBound, .int h_stop, .ref h_meant, .ref h_row, .ref h_exact, .ref h_error, .ref h_bestError, .long h_m, .int h_e, .ref h_digits, .int h_whole])), (h_readRelation, .inl (cI, 8, .inl f_13)), (h_readKind, .inl (cI, 260, .inl rkF))] := hD
        obtain ⟨x_14, ex_14⟩ : ∃ y : Int32, y = x_1 + 1 := ⟨_, rfl⟩
        have tx_14 := ti_add ex_14
        refine lv_iinc (v := x_14) (lv' := [(1, .int x_14), (0, .ref h)]) hx hb dX12_readAll_25 hl (k := 0) rfl (by rw [ex_14]; rfl) (by decide) rfl (fun ls hl => ?_)
        refine lv_goto (tgt := 12) hx hb dX12_readAll_28 (by decide) ?_
        exact hZ1 (ih x_14 f_13 _ _ _ (by omega) (by omega) hP hD hS hl)
  exact hZ1 (L_12 (((8 - (0 : Int32).toInt).toNat) + 1) 0 rrF _ _ _ (by omega) (by omega) hP hD hS hl)

def ow_X12_format : List Cond := [Cond.methodLink RX12 263 yX12_readAll, Cond.instanceMethod yX12_readAll, Cond.selects RX12 yX12_readAll yX12_readAll, Cond.initialized RX12, Cond.fieldLink RX12 19 "NumberFormatsModel" "illAt" "I", Cond.fieldLink RX12 78 "NumberFormatsModel" "code" "I", Cond.fieldLink RX12 188 "NumberFormatsModel" "readSections" "I", Cond.fieldLink RX12 267 "NumberFormatsModel" "sections" "I", Cond.fieldLink RX12 172 "NumberFormatsModel" "reads" "I", Cond.fieldLink RX12 270 "NumberFormatsModel" "items" "I", Cond.fieldLink RX12 88 "NumberFormatsModel" "size" "I", Cond.fieldLink RX12 35 "NumberFormatsModel" "relation" "[I", Cond.fieldLink RX12 54 "NumberFormatsModel" "readRelation" "[I", Cond.fieldLink RX12 38 "NumberFormatsModel" "bound" "[D", Cond.fieldLink RX12 57 "NumberFormatsModel" "readBound" "[D"]
def pw_X12_format : List Cond := Cond.code yX12_format cX12_format 2 (some .int) :: (ow_X12_format ++ (pw_X12_readAll ++ (wsX120)))
set_option maxRecDepth 20000 in
theorem mo_X12_format : ∀ w ∈ ow_X12_format, w ∈ lw_tbl := by decide +kernel
set_option maxRecDepth 20000 in
theorem mc_X12_format : Cond.code yX12_format cX12_format 2 (some .int) ∈ lw_tbl := by decide +kernel
theorem m_X12_format : ∀ w ∈ pw_X12_format, w ∈ lw_tbl := List.forall_mem_cons.mpr ⟨mc_X12_format, (List.forall_mem_append.mpr ⟨mo_X12_format, (List.forall_mem_append.mpr ⟨m_X12_readAll, inX12⟩)⟩)⟩
theorem ko_X12_format : ∀ w ∈ ow_X12_format, goodWord w = true := by decide +kernel
theorem k_X12_format : pw_X12_format.all goodWord = true := List.all_eq_true.mpr (List.forall_mem_cons.mpr ⟨by decide +kernel, (List.forall_mem_append.mpr ⟨ko_X12_format, (List.forall_mem_append.mpr ⟨(List.all_eq_true.mp k_X12_readAll), kX_X12⟩)⟩)⟩)
set_option maxHeartbeats 400000 in
set_option maxRecDepth 100000 in
theorem c_X12_format0 (l : Launch) (D : va_G) (cI cD cJ : ClassId) (sz : Nat) (h : Nat) (h_code : Int32) (h_taped : Int32) (h_tape : Nat) (h_text : Nat) (h_value : UInt64) (h_out : Int32) (h_output : Nat) (h_illAt : Int32) (h_format : Nat) (h_sections : Int32) (h_items : Int32) (h_kind : Nat) (h_what : Nat) (h_of : Nat) (h_relation : Nat) (h_bound : Nat) (h_reads : Int32) (h_readSections : Int32) (h_readKind : Nat) (h_readWhat : Nat) (h_readOf : Nat) (h_place : Nat) (h_readRelation : Nat) (h_readBound : Nat) (h_stop : Int32) (h_meant : Nat) (h_row : Nat) (h_exact : Nat) (h_error : Nat) (h_bestError : Nat) (h_m : Int64) (h_e : Int32) (h_digits : Nat) (h_whole : Int32) (rrF : Nat → Int32) (rkF : Nat → Int32) (reF : Nat → Int32) (boF : Nat → UInt64) (rbF : Nat → UInt64) : Met l yX12_format pw_X12_format ({ frames := 4, cells := 0, slots := 0, locals := 97 }) (va_Pc [.ref h] (fun U => U.heap.size = sz ∧ va_P D vwCl [(h, .inr (9, [.int h_code, .int h_taped, .ref h_tape, .int 0, .ref h_text, .double h_value, .int h_out, .ref h_output, .int h_illAt, .ref h_format, .int h_sections, .int h_items, .ref h_kind, .ref h_what, .ref h_of, .ref h_relation, .ref h_bound, .int h_reads, .int h_readSections, .ref h_readKind, .ref h_readWhat, .ref h_readOf, .ref h_place, .ref h_readRelation, .ref h_readBound, .int h_stop, .ref h_meant, .ref h_row, .ref h_exact, .ref h_error, .ref h_bestError, .long h_m, .int h_e, .ref h_digits, .int h_whole])), (h_readRelation, .inl (cI, 8, .inl rrF)), (h_readKind, .inl (cI, 260, .inl rkF)), (h_relation, .inl (cI, 4, .inl reF)), (h_bound, .inl (cD, 4, .inr (.inr (.inr (.inl boF))))), (h_readBound, .inl (cD, 8, .inr (.inr (.inr (.inl rbF)))))] U.heap ∧ va_K D vwCl (ty3 cI cD cJ) U ∧ va_D (fun _ => True) [(h, .inr (9, [.int h_code, .int h_taped, .ref h_tape, .int 0, .ref h_text, .double h_value, .int h_out, .ref h_output, .int h_illAt, .ref h_format, .int h_sections, .int h_items, .ref h_kind, .ref h_what, .ref h_of, .ref h_relation, .ref h_bound, .int h_reads, .int h_readSections, .ref h_readKind, .ref h_readWhat, .ref h_readOf, .ref h_place, .ref h_readRelation, .ref h_readBound, .int h_stop, .ref h_meant, .ref h_row, .ref h_exact, .ref h_error, .ref h_bestError, .long h_m, .int h_e, .ref h_digits, .int h_whole])), (h_readRelation, .inl (cI, 8, .inl rrF)), (h_readKind, .inl (cI, 260, .inl rkF)), (h_relation, .inl (cI, 4, .inl reF)), (h_bound, .inl (cD, 4, .inr (.inr (.inr (.inl boF))))), (h_readBound, .inl (cD, 8, .inr (.inr (.inr (.inl rbF)))))])) (va_Qi (fun (r : Int32) (u : Int32 × Int32 × Int32 × (Nat → Int32) × (Nat → Int32) × (Nat → UInt64)) => match u with | (il2, sec2, rs2, rrF2, reF2, boF2) => r.toInt = 1) (fun (u : Int32 × Int32 × Int32 × (Nat → Int32) × (Nat → Int32) × (Nat → UInt64)) (t : State) => match u with | (il2, sec2, rs2, rrF2, reF2, boF2) => va_P D vwCl [(h, .inr (9, [.int 0, .int h_taped, .ref h_tape, .int 0, .ref h_text, .double h_value, .int h_out, .ref h_output, .int il2, .ref h_format, .int sec2, .int 0, .ref h_kind, .ref h_what, .ref h_of, .ref h_relation, .ref h_bound, .int 0, .int rs2, .ref h_readKind, .ref h_readWhat, .ref h_readOf, .ref h_place, .ref h_readRelation, .ref h_readBound, .int h_stop, .ref h_meant, .ref h_row, .ref h_exact, .ref h_error, .ref h_bestError, .long h_m, .int h_e, .ref h_digits, .int h_whole])), (h_readRelation, .inl (cI, 8, .inl rrF2)), (h_readKind, .inl (cI, 260, .inl rkF)), (h_relation, .inl (cI, 4, .inl reF2)), (h_bound, .inl (cD, 4, .inr (.inr (.inr (.inl boF2))))), (h_readBound, .inl (cD, 8, .inr (.inr (.inr (.inl rbF)))))] t.heap ∧ va_K D vwCl (ty3 cI cD cJ) t ∧ va_D (va_A [(h, .inr (9, [.int h_code, .int h_taped, .ref h_tape, .int 0, .ref h_text, .double h_value, .int h_out, .ref h_output, .int h_illAt, .ref h_format, .int h_sections, .int h_items, .ref h_kind, .ref h_what, .ref h_of, .ref h_relation, .ref h_bound, .int h_reads, .int h_readSections, .ref h_readKind, .ref h_readWhat, .ref h_readOf, .ref h_place, .ref h_readRelation, .ref h_readBound, .int h_stop, .ref h_meant, .ref h_row, .ref h_exact, .ref h_error, .ref h_bestError, .long h_m, .int h_e, .ref h_digits, .int h_whole])), (h_readRelation, .inl (cI, 8, .inl rrF)), (h_readKind, .inl (cI, 260, .inl rkF)), (h_relation, .inl (cI, 4, .inl reF)), (h_bound, .inl (cD, 4, .inr (.inr (.inr (.inl boF))))), (h_readBound, .inl (cD, 8, .inr (.inr (.inr (.inl rbF)))))] sz) [(h, .inr (9, [.int 0, .int h_taped, .ref h_tape, .int 0, .ref h_text, .double h_value, .int h_out, .ref h_output, .int il2, .ref h_format, .int sec2, .int 0, .ref h_kind, .ref h_what, .ref h_of, .ref h_relation, .ref h_bound, .int 0, .int rs2, .ref h_readKind, .ref h_readWhat, .ref h_readOf, .ref h_place, .ref h_readRelation, .ref h_readBound, .int h_stop, .ref h_meant, .ref h_row, .ref h_exact, .ref h_error, .ref h_bestError, .long h_m, .int h_e, .ref h_digits, .int h_whole])), (h_readRelation, .inl (cI, 8, .inl rrF2)), (h_readKind, .inl (cI, 260, .inl rkF)), (h_relation, .inl (cI, 4, .inl reF2)), (h_bound, .inl (cD, 4, .inr (.inr (.inr (.inl boF2))))), (h_readBound, .inl (cD, 8, .inr (.inr (.inr (.inl rbF)))))]) (va_A [(h, .inr (9, [.int h_code, .int h_taped, .ref h_tape, .int 0, .ref h_text, .double h_value, .int h_out, .ref h_output, .int h_illAt, .ref h_format, .int h_sections, .int h_items, .ref h_kind, .ref h_what, .ref h_of, .ref h_relation, .ref h_bound, .int h_reads, .int h_readSections, .ref h_readKind, .ref h_readWhat, .ref h_readOf, .ref h_place, .ref h_readRelation, .ref h_readBound, .int h_stop, .ref h_meant, .ref h_row, .ref h_exact, .ref h_error, .ref h_bestError, .long h_m, .int h_e, .ref h_digits, .int h_whole])), (h_readRelation, .inl (cI, 8, .inl rrF)), (h_readKind, .inl (cI, 260, .inl rkF)), (h_relation, .inl (cI, 4, .inl reF)), (h_bound, .inl (cD, 4, .inr (.inr (.inr (.inl boF))))), (h_readBound, .inl (cD, 8, .inr (.inr (.inr (.inl rbF)))))] sz)) 0 0 (va_A [(h, .inr (9, [.int h_code, .int h_taped, .ref h_tape, .int 0, .ref h_text, .double h_value, .int h_out, .ref h_output, .int h_illAt, .ref h_format, .int h_sections, .int h_items, .ref h_kind, .ref h_what, .ref h_of, .ref h_relation, .ref h_bound, .int h_reads, .int h_readSections, .ref h_readKind, .ref h_readWhat, .ref h_readOf, .ref h_place, .ref h_readRelation, .ref h_readBound, .int h_stop, .ref h_meant, .ref h_row, .ref h_exact, .ref h_error, .ref h_bestError, .long h_m, .int h_e, .ref h_digits, .int h_whole])), (h_readRelation, .inl (cI, 8, .inl rrF)), (h_readKind, .inl (cI, 260, .inl rkF)), (h_relation, .inl (cI, 4, .inl reF)), (h_bound, .inl (cD, 4, .inr (.inr (.inr (.inl boF))))), (h_readBound, .inl (cD, 8, .inr (.inr (.inr (.inl rbF)))))] sz) := by
  refine Met.ofW (cc := cX12_format) (maxL := 2) (ret := (some .int)) (by decide) rfl ?_
  intro p e s m args below meth c s₁ B hml hv
  obtain ⟨rfl, hsz, hP, hK, hD0⟩ := hv
  have hx := B.exec
  have hb := B.bytes
  have hr := B.returns
  have hts := atoms_spec (ws := pw_X12_format) B.pre
  have hown : s.vm.findClass RX12 = some m.cls := findClass_of_methodNamed B.named
  have hlocks := B.notSynchronized
  subst hsz
  have hD := hD0.self (sz := s.heap.size)
  generalize hAe : va_A [(h, .inr (9, [.int h_code, .int h_taped, .ref h_tape, .int 0, .ref h_text, .double h_value, .int h_out, .ref h_output, .int h_illAt, .ref h_format, .int h_sections, .int h_items, .ref h_kind, .ref h_what, .ref h_of, .ref h_relation, .ref h_bound, .int h_reads, .int h_readSections, .ref h_readKind, .ref h_readWhat, .ref h_readOf, .ref h_place, .ref h_readRelation, .ref h_readBound, .int h_stop, .ref h_meant, .ref h_row, .ref h_exact, .ref h_error, .ref h_bestError, .long h_m, .int h_e, .ref h_digits, .int h_whole])), (h_readRelation, .inl (cI, 8, .inl rrF)), (h_readKind, .inl (cI, 260, .inl rkF)), (h_relation, .inl (cI, 4, .inl reF)), (h_bound, .inl (cD, 4, .inr (.inr (.inr (.inl boF))))), (h_readBound, .inl (cD, 8, .inr (.inr (.inr (.inl rbF)))))] s.heap.size = A at hD ⊢
  have hA : ∀ q : Nat, s.heap.size ≤ q → A q := fun q h => by rw [← hAe]; exact Or.inr h
  have hS : va_S A s.heap s.heap [] := va_S.rf
  have hw : ∀ (k : Nat) (w : Cond), ow_X12_format[k]? = some w → w.before _ s = true := fun k w h => hts w (List.mem_cons_of_mem _ (have h9 := List.mem_of_getElem? h; List.mem_append_left _ h9))
  have i_X12_readAll : ∀ w ∈ pw_X12_readAll, w ∈ pw_X12_format := fun w h9 => List.mem_cons_of_mem _ (List.mem_append_right _ (List.mem_append_left _ h9))
  have iX12 : ∀ w ∈ u_ws RX12 TX12 35, w ∈ pw_X12_format := fun w h9 => List.mem_cons_of_mem _ (List.mem_append_right _ (List.mem_append_right _ (h9)))
  have n_0 : ((0 : Int32)).toInt = 0 := by decide
  have n_1 : ((1 : Int32)).toInt = 1 := by decide
  have n_4 : ((4 : Int32)).toInt = 4 := by decide
  have hl := lv_entry ([.ref h]) (n := 2) (Nat.le_of_ble_eq_true rfl)
  rw [lg_entry_eq]
  generalize (lg_sl ([.ref h]) ++ List.replicate (2 - (lg_sl ([.ref h])).length) Slot.unset).toArray = ls at hl ⊢
  have hl : lv_has ls 2 [(0, .ref h)] := hl
  refine zz_cap (fun Z hZ1 hZ2 => ?_)
  refine lv_aload_n hx hb dX12_format_0 rfl (lv_at hl 0 rfl) ?_
  refine lv_aload_n hx hb dX12_format_1 rfl (lv_at hl 0 rfl) ?_
  have hPc := hP.sub (ws' := [(h, .inr (9, [.int h_code, .int h_taped, .ref h_tape, .int 0, .ref h_text, .double h_value, .int h_out, .ref h_output, .int h_illAt, .ref h_format, .int h_sections, .int h_items, .ref h_kind, .ref h_what, .ref h_of, .ref h_relation, .ref h_bound, .int h_reads, .int h_readSections, .ref h_readKind, .ref h_readWhat, .ref h_readOf, .ref h_place, .ref h_readRelation, .ref h_readBound, .int h_stop, .ref h_meant, .ref h_row, .ref h_exact, .ref h_error, .ref h_bestError, .long h_m, .int h_e, .ref h_digits, .int h_whole])), (h_readRelation, .inl (cI, 8, .inl rrF)), (h_readKind, .inl (cI, 260, .inl rkF))]) [0, 1, 2] rfl
  have hDc := hD.sub (ws' := [(h, .inr (9, [.int h_code, .int h_taped, .ref h_tape, .int 0, .ref h_text, .double h_value, .int h_out, .ref h_output, .int h_illAt, .ref h_format, .int h_sections, .int h_items, .ref h_kind, .ref h_what, .ref h_of, .ref h_relation, .ref h_bound, .int h_reads, .int h_readSections, .ref h_readKind, .ref h_readWhat, .ref h_readOf, .ref h_place, .ref h_readRelation, .ref h_readBound, .int h_stop, .ref h_meant, .ref h_row, .ref h_exact, .ref h_error, .ref h_bestError, .long h_m, .int h_e, .ref h_digits, .int h_whole])), (h_readRelation, .inl (cI, 8, .inl rrF)), (h_readKind, .inl (cI, 260, .inl rkF))]) [0, 1, 2] (by decide) rfl
  have hFc := va_free (wc := [(h, .inr (9, [.int h_code, .int h_taped, .ref h_tape, .int 0, .ref h_text, .double h_value, .int h_out, .ref h_output, .int h_illAt, .ref h_format, .int h_sections, .int h_items, .ref h_kind, .ref h_what, .ref h_of, .ref h_relation, .ref h_bound, .int h_reads, .int h_readSections, .ref h_readKind, .ref h_readWhat, .ref h_readOf, .ref h_place, .ref h_readRelation, .ref h_readBound, .int h_stop, .ref h_meant, .ref h_row, .ref h_exact, .ref h_error, .ref h_bestError, .long h_m, .int h_e, .ref h_digits, .int h_whole])), (h_readRelation, .inl (cI, 8, .inl rrF)), (h_readKind, .inl (cI, 260, .inl rkF))]) hD hS hA [0, 1, 2] rfl
  refine va_calli (va_runV (As := []) (rest := [.ref h]) ⟨hx, hb, hml, hown, hts⟩ (c_X12_readAll0 l D cI cD cJ s.heap.size h h_code h_taped h_tape h_text h_value h_out h_output h_illAt h_format h_sections h_items h_kind h_what h_of h_relation h_bound h_reads h_readSections h_readKind h_readWhat h_readOf h_place h_readRelation h_readBound h_stop h_meant h_row h_exact h_error h_bestError h_m h_e h_digits h_whole rrF rkF) (cwV 0 hts (goodIn_app (goodIn_r _ [1, 2, 3, 4] rfl (by decide +kernel)) (goodIn_sub i_X12_readAll k_X12_readAll)) rfl rfl rfl (by decide +kernel) ⟨Nat.le_of_ble_eq_true rfl, Nat.le_of_ble_eq_true rfl⟩) ⟨fun a U g mk q => by obtain ⟨q0, q1, qP, qK, qD⟩ := q; exact ⟨q0, q1, qP, va_K.moved (u := U) (U := U.calling g mk a) (Vm.Alike.refl U.vm) qK, qD⟩, va_recv hK hPc (ci := 9) (q0 := 0) rfl rfl, fun U hU hW => ⟨rfl, by rw [hU], by rw [hU]; exact hPc, va_K.moved hW.alike hK, hDc.weaken (fun _ _ _ _ => trivial)⟩⟩ rfl rfl hl.1 rfl (lv_room (Nat.le_of_ble_eq_true rfl)) dX12_format_2 ⟨Nat.le_of_ble_eq_true rfl, Nat.le_of_ble_eq_true rfl⟩) hS (fun q _ h => hFc q h) hFc (fun x_1 u t H1 locs ht hvm w_2 hB hz1 hk1 hS => ?_)
  obtain ⟨u_3, u_4⟩ := u
  obtain ⟨hP1, hK1, hD1⟩ := hB
  rw [ht] at hP1
  try dsimp only at w_2
  obtain ⟨hP, hD⟩ := va_join (wr := [(h_relation, .inl (cI, 4, .inl reF)), (h_bound, .inl (cD, 4, .inr (.inr (.inr (.inl boF))))), (h_readBound, .inl (cD, 8, .inr (.inr (.inr (.inl rbF)))))]) (w1 := [(h, .inr (9, [.int h_code, .int h_taped, .ref h_tape, .int 0, .ref h_text, .double h_value, .int h_out, .ref h_output, .int h_illAt, .ref h_format, .int h_sections, .int h_items, .ref h_kind, .ref h_what, .ref h_of, .ref h_relation, .ref h_bound, .int 0, .int u_3, .ref h_readKind, .ref h_readWhat, .ref h_readOf, .ref h_place, .ref h_readRelation, .ref h_readBound, .int h_stop, .ref h_meant, .ref h_row, .ref h_exact, .ref h_error, .ref h_bestError, .long h_m, .int h_e, .ref h_digits, .int h_whole])), (h_readRelation, .inl (cI, 8, .inl u_4)), (h_readKind, .inl (cI, 260, .inl rkF))]) hP hD [0, 1, 2] [3, 4, 5] rfl rfl (by decide) (by decide) hk1 hFc hP1 hD1
  generalize H1 = H at hP hS ⊢
  have hP : va_P D vwCl [(h_relation, .inl (cI, 4, .inl reF)), (h_bound, .inl (cD, 4, .inr (.inr (.inr (.inl boF))))), (h_readBound, .inl (cD, 8, .inr (.inr (.inr (.inl rbF))))), (h, .inr (9, [.int h_code, .int h_taped, .ref h_tape, .int 0, .ref h_text, .double h_value, .int h_out, .ref h_output, .int h_illAt, .ref h_format, .int h_sections, .int h_items, .ref h_kind, .ref h_what, .ref h_of, .ref h_relation, .ref h_bound, .int 0, .int u_3, .ref h_readKind, .ref h_readWhat, .ref h_readOf, .ref h_place, .ref h_readRelation, .ref h_readBound, .int h_stop, .ref h_meant, .ref h_row, .ref h_exact, .ref h_error, .ref h_bestError, .long h_m, .int h_e, .ref h_digits, .int h_whole])), (h_readRelation, .inl (cI, 8, .inl u_4)), (h_readKind, .inl (cI, 260, .inl rkF))] H := hP
  have hD : va_D A [(h_relation, .inl (cI, 4, .inl reF)), (h_bound, .inl (cD, 4, .inr (.inr (.inr (.inl boF))))), (h_readBound, .inl (cD, 8, .inr (.inr (.inr (.inl rbF))))), (h, .inr (9, [.int h_code, .int h_taped, .ref h_tape, .int 0, .ref h_text, .double h_value, .int h_out, .ref h_output, .int h_illAt, .ref h_format, .int h_sections, .int h_items, .ref h_kind, .ref h_what, .ref h_of, .ref h_relation, .ref h_bound, .int 0, .int u_3, .ref h_readKind, .ref h_readWhat, .ref h_readOf, .ref h_place, .ref h_readRelation, .ref h_readBound, .int h_stop, .ref h_meant, .ref h_row, .ref h_exact, .ref h_error, .ref h_bestError, .long h_m, .int h_e, .ref h_digits, .int h_whole])), (h_readRelation, .inl (cI, 8, .inl u_4)), (h_readKind, .inl (cI, 260, .inl rkF))] := hD
  refine va_put (D := D) (ci := 9) (v := .int x_1) (ty := .int) (C := RX12) (T := TX12) (N := 35) hx hb hts iX12 tyX12 tyX12_ok nmX12 hown hK hP hD hS 3 rfl rfl 8 (by decide) (hw 4 (.fieldLink RX12 19 "NumberFormatsModel" "illAt" "I") rfl) (fun _ h9 => h9) rfl (by decide +kernel) rfl rfl (Nat.le_of_ble_eq_true rfl) dX12_format_5 (fun H locs hP hD hS => ?_)
  have hP : va_P D vwCl [(h_relation, .inl (cI, 4, .inl reF)), (h_bound, .inl (cD, 4, .inr (.inr (.inr (.inl boF))))), (h_readBound, .inl (cD, 8, .inr (.inr (.inr (.inl rbF))))), (h, .inr (9, [.int h_code, .int h_taped, .ref h_tape, .int 0, .ref h_text, .double h_value, .int h_out, .ref h_output, .int x_1, .ref h_format, .int h_sections, .int h_items, .ref h_kind, .ref h_what, .ref h_of, .ref h_relation, .ref h_bound, .int 0, .int u_3, .ref h_readKind, .ref h_readWhat, .ref h_readOf, .ref h_place, .ref h_readRelation, .ref h_readBound, .int h_stop, .ref h_meant, .ref h_row, .ref h_exact, .ref h_error, .ref h_bestError, .long h_m, .int h_e, .ref h_digits, .int h_whole])), (h_readRelation, .inl (cI, 8, .inl u_4)), (h_readKind, .inl (cI, 260, .inl rkF))] H := hP
  have hD : va_D A [(h_relation, .inl (cI, 4, .inl reF)), (h_bound, .inl (cD, 4, .inr (.inr (.inr (.inl boF))))), (h_readBound, .inl (cD, 8, .inr (.inr (.inr (.inl rbF))))), (h, .inr (9, [.int h_code, .int h_taped, .ref h_tape, .int 0, .ref h_text, .double h_value, .int h_out, .ref h_output, .int x_1, .ref h_format, .int h_sections, .int h_items, .ref h_kind, .ref h_what, .ref h_of, .ref h_relation, .ref h_bound, .int 0, .int u_3, .ref h_readKind, .ref h_readWhat, .ref h_readOf, .ref h_place, .ref h_readRelation, .ref h_readBound, .int h_stop, .ref h_meant, .ref h_row, .ref h_exact, .ref h_error, .ref h_bestError, .long h_m, .int h_e, .ref h_digits, .int h_whole])), (h_readRelation, .inl (cI, 8, .inl u_4)), (h_readKind, .inl (cI, 260, .inl rkF))] := hD
  refine lv_aload_n hx hb dX12_format_8 rfl (lv_at hl 0 rfl) ?_
  refine lv_aload_n hx hb dX12_format_9 rfl (lv_at hl 0 rfl) ?_
  refine va_get (D := D) (ci := 9) (v := .int x_1) (C := RX12) (T := TX12) (N := 35) hx hb hts iX12 hown hK hP 3 rfl rfl 8 (by decide) (hw 4 (.fieldLink RX12 19 "NumberFormatsModel" "illAt" "I") rfl) (fun _ h9 => h9) rfl dX12_format_10 ?_
  refine lv_if_lt (tgt := 20) hx hb dX12_format_13 (by decide) (fun c_5 => ?_) (fun c_5 => by have ic_5 : ¬ ((x_1 : Int32).toInt < (0 : Int32).toInt) := fun h9 => c_5 ((fa_lt x_1 0).mpr h9); exfalso; omega)
  have ic_5 : (x_1 : Int32).toInt < (0 : Int32).toInt := (fa_lt x_1 0).mp c_5
  refine lv_iconst (v := 0) hx hb dX12_format_20 (by decide) ?_
  refine va_put (D := D) (ci := 9) (v := .int 0) (ty := .int) (C := RX12) (T := TX12) (N := 35) hx hb hts iX12 tyX12 tyX12_ok nmX12 hown hK hP hD hS 3 rfl rfl 0 (by decide) (hw 5 (.fieldLink RX12 78 "NumberFormatsModel" "code" "I") rfl) (fun _ h9 => h9) rfl (by decide +kernel) rfl rfl (Nat.le_of_ble_eq_true rfl) dX12_format_21 (fun H locs hP hD hS => ?_)
  have hP : va_P D vwCl [(h_relation, .inl (cI, 4, .inl reF)), (h_bound, .inl (cD, 4, .inr (.inr (.inr (.inl boF))))), (h_readBound, .inl (cD, 8, .inr (.inr (.inr (.inl rbF))))), (h, .inr (9, [.int 0, .int h_taped, .ref h_tape, .int 0, .ref h_text, .double h_value, .int h_out, .ref h_output, .int x_1, .ref h_format, .int h_sections, .int h_items, .ref h_kind, .ref h_what, .ref h_of, .ref h_relation, .ref h_bound, .int 0, .int u_3, .ref h_readKind, .ref h_readWhat, .ref h_readOf, .ref h_place, .ref h_readRelation, .ref h_readBound, .int h_stop, .ref h_meant, .ref h_row, .ref h_exact, .ref h_error, .ref h_bestError, .long h_m, .int h_e, .ref h_digits, .int h_whole])), (h_readRelation, .inl (cI, 8, .inl u_4)), (h_readKind, .inl (cI, 260, .inl rkF))] H := hP
  have hD : va_D A [(h_relation, .inl (cI, 4, .inl reF)), (h_bound, .inl (cD, 4, .inr (.inr (.inr (.inl boF))))), (h_readBound, .inl (cD, 8, .inr (.inr (.inr (.inl rbF))))), (h, .inr (9, [.int 0, .int h_taped, .ref h_tape, .int 0, .ref h_text, .double h_value, .int h_out, .ref h_output, .int x_1, .ref h_format, .int h_sections, .int h_items, .ref h_kind, .ref h_what, .ref h_of, .ref h_relation, .ref h_bound, .int 0, .int u_3, .ref h_readKind, .ref h_readWhat, .ref h_readOf, .ref h_place, .ref h_readRelation, .ref h_readBound, .int h_stop, .ref h_meant, .ref h_row, .ref h_exact, .ref h_error, .ref h_bestError, .long h_m, .int h_e, .ref h_digits, .int h_whole])), (h_readRelation, .inl (cI, 8, .inl u_4)), (h_readKind, .inl (cI, 260, .inl rkF))] := hD
  refine lv_aload_n hx hb dX12_format_24 rfl (lv_at hl 0 rfl) ?_
  refine va_get (D := D) (ci := 9) (v := .int 0) (C := RX12) (T := TX12) (N := 35) hx hb hts iX12 hown hK hP 3 rfl rfl 0 (by decide) (hw 5 (.fieldLink RX12 78 "NumberFormatsModel" "code" "I") rfl) (fun _ h9 => h9) rfl dX12_format_25 ?_
  refine lv_if_eq (tgt := 33) hx hb dX12_format_28 (by decide) (fun c_6 => ?_) (fun c_6 => by have ic_6 : ¬ ((0 : Int32).toInt = (0 : Int32).toInt) := fun h9 => c_6 ((fa_eq 0 0).mpr h9); exfalso; omega)
  have ic_6 : (0 : Int32).toInt = (0 : Int32).toInt := (fa_eq 0 0).mp c_6
  refine lv_aload_n hx hb dX12_format_33 rfl (lv_at hl 0 rfl) ?_
  refine lv_aload_n hx hb dX12_format_34 rfl (lv_at hl 0 rfl) ?_
  refine va_get (D := D) (ci := 9) (v := .int u_3) (C := RX12) (T := TX12) (N := 35) hx hb hts iX12 hown hK hP 3 rfl rfl 18 (by decide) (hw 6 (.fieldLink RX12 188 "NumberFormatsModel" "readSections" "I") rfl) (fun _ h9 => h9) rfl dX12_format_35 ?_
  refine va_put (D := D) (ci := 9) (v := .int u_3) (ty := .int) (C := RX12) (T := TX12) (N := 35) hx hb hts iX12 tyX12 tyX12_ok nmX12 hown hK hP hD hS 3 rfl rfl 10 (by decide) (hw 7 (.fieldLink RX12 267 "NumberFormatsModel" "sections" "I") rfl) (fun _ h9 => h9) rfl (by decide +kernel) rfl rfl (Nat.le_of_ble_eq_true rfl) dX12_format_38 (fun H locs hP hD hS => ?_)
  have hP : va_P D vwCl [(h_relation, .inl (cI, 4, .inl reF)), (h_bound, .inl (cD, 4, .inr (.inr (.inr (.inl boF))))), (h_readBound, .inl (cD, 8, .inr (.inr (.inr (.inl rbF))))), (h, .inr (9, [.int 0, .int h_taped, .ref h_tape, .int 0, .ref h_text, .double h_value, .int h_out, .ref h_output, .int x_1, .ref h_format, .int u_3, .int h_items, .ref h_kind, .ref h_what, .ref h_of, .ref h_relation, .ref h_bound, .int 0, .int u_3, .ref h_readKind, .ref h_readWhat, .ref h_readOf, .ref h_place, .ref h_readRelation, .ref h_readBound, .int h_stop, .ref h_meant, .ref h_row, .ref h_exact, .ref h_error, .ref h_bestError, .long h_m, .int h_e, .ref h_digits, .int h_whole])), (h_readRelation, .inl (cI, 8, .inl u_4)), (h_readKind, .inl (cI, 260, .inl rkF))] H := hP
  have hD : va_D A [(h_relation, .inl (cI, 4, .inl reF)), (h_bound, .inl (cD, 4, .inr (.inr (.inr (.inl boF))))), (h_readBound, .inl (cD, 8, .inr (.inr (.inr (.inl rbF))))), (h, .inr (9, [.int 0, .int h_taped, .ref h_tape, .int 0, .ref h_text, .double h_value, .int h_out, .ref h_output, .int x_1, .ref h_format, .int u_3, .int h_items, .ref h_kind, .ref h_what, .ref h_of, .ref h_relation, .ref h_bound, .int 0, .int u_3, .ref h_readKind, .ref h_readWhat, .ref h_readOf, .ref h_place, .ref h_readRelation, .ref h_readBound, .int h_stop, .ref h_meant, .ref h_row, .ref h_exact, .ref h_error, .ref h_bestError, .long h_m, .int h_e, .ref h_digits, .int h_whole])), (h_readRelation, .inl (cI, 8, .inl u_4)), (h_readKind, .inl (cI, 260, .inl rkF))] := hD
  refine lv_aload_n hx hb dX12_format_41 rfl (lv_at hl 0 rfl) ?_
  refine lv_aload_n hx hb dX12_format_42 rfl (lv_at hl 0 rfl) ?_
  refine va_get (D := D) (ci := 9) (v := .int 0) (C := RX12) (T := TX12) (N := 35) hx hb hts iX12 hown hK hP 3 rfl rfl 17 (by decide) (hw 8 (.fieldLink RX12 172 "NumberFormatsModel" "reads" "I") rfl) (fun _ h9 => h9) rfl dX12_format_43 ?_
  refine va_put (D := D) (ci := 9) (v := .int 0) (ty := .int) (C := RX12) (T := TX12) (N := 35) hx hb hts iX12 tyX12 tyX12_ok nmX12 hown hK hP hD hS 3 rfl rfl 11 (by decide) (hw 9 (.fieldLink RX12 270 "NumberFormatsModel" "items" "I") rfl) (fun _ h9 => h9) rfl (by decide +kernel) rfl rfl (Nat.le_of_ble_eq_true rfl) dX12_format_46 (fun H locs hP hD hS => ?_)
  have hP : va_P D vwCl [(h_relation, .inl (cI, 4, .inl reF)), (h_bound, .inl (cD, 4, .inr (.inr (.inr (.inl boF))))), (h_readBound, .inl (cD, 8, .inr (.inr (.inr (.inl rbF))))), (h, .inr (9, [.int 0, .int h_taped, .ref h_tape, .int 0, .ref h_text, .double h_value, .int h_out, .ref h_output, .int x_1, .ref h_format, .int u_3, .int 0, .ref h_kind, .ref h_what, .ref h_of, .ref h_relation, .ref h_bound, .int 0, .int u_3, .ref h_readKind, .ref h_readWhat, .ref h_readOf, .ref h_place, .ref h_readRelation, .ref h_readBound, .int h_stop, .ref h_meant, .ref h_row, .ref h_exact, .ref h_error, .ref h_bestError, .long h_m, .int h_e, .ref h_digits, .int h_whole])), (h_readRelation, .inl (cI, 8, .inl u_4)), (h_readKind, .inl (cI, 260, .inl rkF))] H := hP
  have hD : va_D A [(h_relation, .inl (cI, 4, .inl reF)), (h_bound, .inl (cD, 4, .inr (.inr (.inr (.inl boF))))), (h_readBound, .inl (cD, 8, .inr (.inr (.inr (.inl rbF))))), (h, .inr (9, [.int 0, .int h_taped, .ref h_tape, .int 0, .ref h_text, .double h_value, .int h_out, .ref h_output, .int x_1, .ref h_format, .int u_3, .int 0, .ref h_kind, .ref h_what, .ref h_of, .ref h_relation, .ref h_bound, .int 0, .int u_3, .ref h_readKind, .ref h_readWhat, .ref h_readOf, .ref h_place, .ref h_readRelation, .ref h_readBound, .int h_stop, .ref h_meant, .ref h_row, .ref h_exact, .ref h_error, .ref h_bestError, .long h_m, .int h_e, .ref h_digits, .int h_whole])), (h_readRelation, .inl (cI, 8, .inl u_4)), (h_readKind, .inl (cI, 260, .inl rkF))] := hD
  refine lv_iconst (v := 0) hx hb dX12_format_49 (by decide) ?_
  refine lv_istore_n (lv' := [(1, .int 0), (0, .ref h)]) hx hb dX12_format_50 rfl hl (by decide) rfl (fun ls hl => ?_)
  refine lv_iload_n hx hb dX12_format_51 rfl (lv_at hl 0 rfl) ?_
  refine lv_aload_n hx hb dX12_format_52 rfl (lv_at hl 1 rfl) ?_
  refine va_get (D := D) (ci := 9) (v := .int 0) (C := RX12) (T := TX12) (N := 35) hx hb hts iX12 hown hK hP 3 rfl rfl 11 (by decide) (hw 9 (.fieldLink RX12 270 "NumberFormatsModel" "items" "I") rfl) (fun _ h9 => h9) rfl dX12_format_53 ?_
  refine lv_icmp_ge (tgt := 101) hx hb dX12_format_56 (by decide) (fun c_7 => ?_) (fun c_7 => by have ic_7 : ¬ ((0 : Int32).toInt ≤ (0 : Int32).toInt) := fun h9 => c_7 ((fa_le 0 0).mpr h9); exfalso; omega)
  have ic_7 : (0 : Int32).toInt ≤ (0 : Int32).toInt := (fa_le 0 0).mp c_7
  refine lv_iconst (v := 0) hx hb dX12_format_101 (by decide) ?_
  refine lv_istore_n (lv' := [(1, .int 0), (0, .ref h)]) hx hb dX12_format_102 rfl hl (by decide) rfl (fun ls hl => ?_)
  have L_103 : ∀ (N : Nat) (x_8 : Int32) (f_9 : Nat → Int32) (f_10 : Nat → UInt64) (H : Heap) (locs : List Loc) (ls : Array Slot), (0 ≤ (x_8 : Int32).toInt) → ((4 - (x_8 : Int32).toInt).toNat < N) → va_P D vwCl [(h_relation, .inl (cI, 4, .inl f_9)), (h_bound, .inl (cD, 4, .inr (.inr (.inr (.inl f_10))))), (h_readBound, .inl (cD, 8, .inr (.inr (.inr (.inl rbF))))), (h, .inr (9, [.int 0, .int h_taped, .ref h_tape, .int 0, .ref h_text, .double h_value, .int h_out, .ref h_output, .int x_1, .ref h_format, .int u_3, .int 0, .ref h_kind, .ref h_what, .ref h_of, .ref h_relation, .ref h_bound, .int 0, .int u_3, .ref h_readKind, .ref h_readWhat, .ref h_readOf, .ref h_place, .ref h_readRelation, .ref h_readBound, .int h_stop, .ref h_meant, .ref h_row, .ref h_exact, .ref h_error, .ref h_bestError, .long h_m, .int h_e, .ref h_digits, .int h_whole])), (h_readRelation, .inl (cI, 8, .inl u_4)), (h_readKind, .inl (cI, 260, .inl rkF))] H → va_D A [(h_relation, .inl (cI, 4, .inl f_9)), (h_bound, .inl (cD, 4, .inr (.inr (.inr (.inl f_10))))), (h_readBound, .inl (cD, 8, .inr (.inr (.inr (.inl rbF))))), (h, .inr (9, [.int 0, .int h_taped, .ref h_tape, .int 0, .ref h_text, .double h_value, .int h_out, .ref h_output, .int x_1, .ref h_format, .int u_3, .int 0, .ref h_kind, .ref h_what, .ref h_of, .ref h_relation, .ref h_bound, .int 0, .int u_3, .ref h_readKind, .ref h_readWhat, .ref h_readOf, .ref h_place, .ref h_readRelation, .ref h_readBound, .int h_stop, .ref h_meant, .ref h_row, .ref h_exact, .ref h_error, .ref h_bestError, .long h_m, .int h_e, .ref h_digits, .int h_whole])), (h_readRelation, .inl (cI, 8, .inl u_4)), (h_readKind, .inl (cI, 260, .inl rkF))] → va_S A s.heap H locs → lv_has ls 2 [(1, .int x_8), (0, .ref h)] → Z 0 0 H locs (F0 m 103 ls []) := by
    intro N
    induction N with
    | zero => intro _ _ _ _ _ _ _ hmu; exact absurd hmu (Nat.not_lt_zero _)
    | succ N ih =>
      intro x_8 f_9 f_10 H locs ls g103_0 hmu hP hD hS hl
      refine hZ2 ?_
      refine lv_iload_n hx hb dX12_format_103 rfl (lv_at hl 0 rfl) ?_
      refine lv_iconst (v := 4) hx hb dX12_format_104 (by decide) ?_
      refine lv_icmp_ge (tgt := 138) hx hb dX12_format_105 (by decide) (fun c_11 => ?_) (fun c_11 => ?_)
      · have ic_11 : (4 : Int32).toInt ≤ (x_8 : Int32).toInt := (fa_le 4 x_8).mp c_11
        refine lv_iconst (v := 0) hx hb dX12_format_138 (by decide) ?_
        refine lv_istore_n (lv' := [(1, .int 0), (0, .ref h)]) hx hb dX12_format_139 rfl hl (by decide) rfl (fun ls hl => ?_)
        refine lv_iload_n hx hb dX12_format_140 rfl (lv_at hl 0 rfl) ?_
        refine lv_aload_n hx hb dX12_format_141 rfl (lv_at hl 1 rfl) ?_
        refine va_get (D := D) (ci := 9) (v := .int 0) (C := RX12) (T := TX12) (N := 35) hx hb hts iX12 hown hK hP 3 rfl rfl 3 (by decide) (hw 10 (.fieldLink RX12 88 "NumberFormatsModel" "size" "I") rfl) (fun _ h9 => h9) rfl dX12_format_142 ?_
        refine lv_icmp_ge (tgt := 166) hx hb dX12_format_145 (by decide) (fun c_12 => ?_) (fun c_12 => by have ic_12 : ¬ ((0 : Int32).toInt ≤ (0 : Int32).toInt) := fun h9 => c_12 ((fa_le 0 0).mpr h9); exfalso; omega)
        have ic_12 : (0 : Int32).toInt ≤ (0 : Int32).toInt := (fa_le 0 0).mp c_12
        refine lv_aload_n hx hb dX12_format_166 rfl (lv_at hl 1 rfl) ?_
        refine va_get (D := D) (ci := 9) (v := .int u_3) (C := RX12) (T := TX12) (N := 35) hx hb hts iX12 hown hK hP 3 rfl rfl 10 (by decide) (hw 7 (.fieldLink RX12 267 "NumberFormatsModel" "sections" "I") rfl) (fun _ h9 => h9) rfl dX12_format_167 ?_
        have hP9 := hP.sub (ws' := [(h, .inr (9, [.int 0, .int h_taped, .ref h_tape, .int 0, .ref h_text, .double h_value, .int h_out, .ref h_output, .int x_1, .ref h_format, .int u_3, .int 0, .ref h_kind, .ref h_what, .ref h_of, .ref h_relation, .ref h_bound, .int 0, .int u_3, .ref h_readKind, .ref h_readWhat, .ref h_readOf, .ref h_place, .ref h_readRelation, .ref h_readBound, .int h_stop, .ref h_meant, .ref h_row, .ref h_exact, .ref h_error, .ref h_bestError, .long h_m, .int h_e, .ref h_digits, .int h_whole])), (h_readRelation, .inl (cI, 8, .inl u_4)), (h_readKind, .inl (cI, 260, .inl rkF)), (h_relation, .inl (cI, 4, .inl f_9)), (h_bound, .inl (cD, 4, .inr (.inr (.inr (.inl f_10))))), (h_readBound, .inl (cD, 8, .inr (.inr (.inr (.inl rbF)))))]) [3, 4, 5, 0, 1, 2] rfl
        have hD9 := hD.sub (ws' := [(h, .inr (9, [.int 0, .int h_taped, .ref h_tape, .int 0, .ref h_text, .double h_value, .int h_out, .ref h_output, .int x_1, .ref h_format, .int u_3, .int 0, .ref h_kind, .ref h_what, .ref h_of, .ref h_relation, .ref h_bound, .int 0, .int u_3, .ref h_readKind, .ref h_readWhat, .ref h_readOf, .ref h_place, .ref h_readRelation, .ref h_readBound, .int h_stop, .ref h_meant, .ref h_row, .ref h_exact, .ref h_error, .ref h_bestError, .long h_m, .int h_e, .ref h_digits, .int h_whole])), (h_readRelation, .inl (cI, 8, .inl u_4)), (h_readKind, .inl (cI, 260, .inl rkF)), (h_relation, .inl (cI, 4, .inl f_9)), (h_bound, .inl (cD, 4, .inr (.inr (.inr (.inl f_10))))), (h_readBound, .inl (cD, 8, .inr (.inr (.inr (.inl rbF)))))]) [3, 4, 5, 0, 1, 2] (by decide) rfl
        exact W.iret (v := u_3) hx hb hr (fun t ht hW => ⟨⟨u_3, (x_1, u_3, u_3, u_4, f_9, f_10), rfl, (by (try dsimp only); omega), by rw [ht]; exact hP9, va_K.moved hW.alike hK, hD9⟩, hS.F ht⟩) hS.2.2 dX12_format_170
      · have ic_11 : ¬ ((4 : Int32).toInt ≤ (x_8 : Int32).toInt) := fun h9 => c_11 ((fa_le 4 x_8).mpr h9)
        refine lv_aload_n hx hb dX12_format_108 rfl (lv_at hl 1 rfl) ?_
        refine va_get (D := D) (ci := 9) (v := .ref h_relation) (C := RX12) (T := TX12) (N := 35) hx hb hts iX12 hown hK hP 3 rfl rfl 15 (by decide) (hw 11 (.fieldLink RX12 35 "NumberFormatsModel" "relation" "[I") rfl) (fun _ h9 => h9) rfl dX12_format_109 ?_
        refine lv_iload_n hx hb dX12_format_112 rfl (lv_at hl 0 rfl) ?_
        refine lv_aload_n hx hb dX12_format_113 rfl (lv_at hl 1 rfl) ?_
        refine va_get (D := D) (ci := 9) (v := .ref h_readRelation) (C := RX12) (T := TX12) (N := 35) hx hb hts iX12 hown hK hP 3 rfl rfl 23 (by decide) (hw 12 (.fieldLink RX12 54 "NumberFormatsModel" "readRelation" "[I") rfl) (fun _ h9 => h9) rfl dX12_format_114 ?_
        refine lv_iload_n hx hb dX12_format_117 rfl (lv_at hl 0 rfl) ?_
        have h_118 : vp_in x_8 8 := by rw [vp_in_iff]; omega
        refine va_iald hx hb hK hP 4 0 rfl rfl h_118 dX12_format_118 ?_
        refine lv_topi (fun x_13 ex_13 => ?_)
        have h_119 : vp_in x_8 4 := by rw [vp_in_iff]; omega
        refine va_iast hx hb hK hP hD hS 0 0 rfl rfl h_119 dX12_format_119 (fun H locs hP hD hS => ?_)
        obtain ⟨f_14, ef_14⟩ : ∃ y : Nat → Int32, y = upd f_9 (x_8 : Int32).toNatClampNeg x_13 := ⟨_, rfl⟩
        rw [← ef_14] at hP hD
        have hP : va_P D vwCl [(h_relation, .inl (cI, 4, .inl f_14)), (h_bound, .inl (cD, 4, .inr (.inr (.inr (.inl f_10))))), (h_readBound, .inl (cD, 8, .inr (.inr (.inr (.inl rbF))))), (h, .inr (9, [.int 0, .int h_taped, .ref h_tape, .int 0, .ref h_text, .double h_value, .int h_out, .ref h_output, .int x_1, .ref h_format, .int u_3, .int 0, .ref h_kind, .ref h_what, .ref h_of, .ref h_relation, .ref h_bound, .int 0, .int u_3, .ref h_readKind, .ref h_readWhat, .ref h_readOf, .ref h_place, .ref h_readRelation, .ref h_readBound, .int h_stop, .ref h_meant, .ref h_row, .ref h_exact, .ref h_error, .ref h_bestError, .long h_m, .int h_e, .ref h_digits, .int h_whole])), (h_readRelation, .inl (cI, 8, .inl u_4)), (h_readKind, .inl (cI, 260, .inl rkF))] H := hP
        have hD : va_D A [(h_relation, .inl (cI, 4, .inl f_14)), (h_bound, .inl (cD, 4, .inr (.inr (.inr (.inl f_10))))), (h_readBound, .inl (cD, 8, .inr (.inr (.inr (.inl rbF))))), (h, .inr (9, [.int 0, .int h_taped, .ref h_tape, .int 0, .ref h_text, .double h_value, .int h_out, .ref h_output, .int x_1, .ref h_format, .int u_3, .int 0, .ref h_kind, .ref h_what, .ref h_of, .ref h_relation, .ref h_bound, .int 0, .int u_3, .ref h_readKind, .ref h_readWhat, .ref h_readOf, .ref h_place, .ref h_readRelation, .ref h_readBound, .int h_stop, .ref h_meant, .ref h_row, .ref h_exact, .ref h_error, .ref h_bestError, .long h_m, .int h_e, .ref h_digits, .int h_whole])), (h_readRelation, .inl (cI, 8, .inl u_4)), (h_readKind, .inl (cI, 260, .inl rkF))] := hD
        refine lv_aload_n hx hb dX12_format_120 rfl (lv_at hl 1 rfl) ?_
        refine va_get (D := D) (ci := 9) (v := .ref h_bound) (C := RX12) (T := TX12) (N := 35) hx hb hts iX12 hown hK hP 3 rfl rfl 16 (by decide) (hw 13 (.fieldLink RX12 38 "NumberFormatsModel" "bound" "[D") rfl) (fun _ h9 => h9) rfl dX12_format_121 ?_
        refine lv_iload_n hx hb dX12_format_124 rfl (lv_at hl 0 rfl) ?_
        refine lv_aload_n hx hb dX12_format_125 rfl (lv_at hl 1 rfl) ?_
        refine va_get (D := D) (ci := 9) (v := .ref h_readBound) (C := RX12) (T := TX12) (N := 35) hx hb hts iX12 hown hK hP 3 rfl rfl 24 (by decide) (hw 14 (.fieldLink RX12 57 "NumberFormatsModel" "readBound" "[D") rfl) (fun _ h9 => h9) rfl dX12_format_126 ?_
        refine lv_iload_n hx hb dX12_format_129 rfl (lv_at hl 0 rfl) ?_
        have h_130 : vp_in x_8 8 := by rw [vp_in_iff]; omega
        refine va_dald hx hb hK hP 2 1 rfl rfl h_130 dX12_format_130 ?_
        refine lv_topd (fun d_15 ed_15 => ?_)
        have h_131 : vp_in x_8 4 := by rw [vp_in_iff]; omega
        refine va_dast hx hb hK hP hD hS 1 1 rfl rfl h_131 dX12_format_131 (fun H locs hP hD hS => ?_)
        obtain ⟨f_16, ef_16⟩ : ∃ y : Nat → UInt64, y = vf_upd f_10 (x_8 : Int32).toNatClampNeg d_15 := ⟨_, rfl⟩
        rw [← ef_16] at hP hD
        have hP : va_P D vwCl [(h_relation, .inl (cI, 4, .inl f_14)), (h_bound, .inl (cD, 4, .inr (.inr (.inr (.inl f_16))))), (h_readBound, .inl (cD, 8, .inr (.inr (.inr (.inl rbF))))), (h, .inr (9, [.int 0, .int h_taped, .ref h_tape, .int 0, .ref h_text, .double h_value, .int h_out, .ref h_output, .int x_1, .ref h_format, .int u_3, .int 0, .ref h_kind, .ref h_what, .ref h_of, .ref h_relation, .ref h_bound, .int 0, .int u_3, .ref h_readKind, .ref h_readWhat, .ref h_readOf, .ref h_place, .ref h_readRelation, .ref h_readBound, .int h_stop, .ref h_meant, .ref h_row, .ref h_exact, .ref h_error, .ref h_bestError, .long h_m, .int h_e, .ref h_digits, .int h_whole])), (h_readRelation, .inl (cI, 8, .inl u_4)), (h_readKind, .inl (cI, 260, .inl rkF))] H := hP
        have hD : va_D A [(h_relation, .inl (cI, 4, .inl f_14)), (h_bound, .inl (cD, 4, .inr (.inr (.inr (.inl f_16))))), (h_readBound, .inl (cD, 8, .inr (.inr (.inr (.inl rbF))))), (h, .inr (9, [.int 0, .int h_taped, .ref h_tape, .int 0, .ref h_text, .double h_value, .int h_out, .ref h_output, .int x_1, .ref h_format, .int u_3, .int 0, .ref h_kind, .ref h_what, .ref h_of, .ref h_relation, .ref h_bound, .int 0, .int u_3, .ref h_readKind, .ref h_readWhat, .ref h_readOf, .ref h_place, .ref h_readRelation, .ref h_readBound, .int h_stop, .ref h_meant, .ref h_row, .ref h_exact, .ref h_error, .ref h_bestError, .long h_m, .int h_e, .ref h_digits, .int h_whole])), (h_readRelation, .inl (cI, 8, .inl u_4)), (h_readKind, .inl (cI, 260, .inl rkF))] := hD
        obtain ⟨x_17, ex_17⟩ : ∃ y : Int32, y = x_8 + 1 := ⟨_, rfl⟩
        have tx_17 := ti_add ex_17
        refine lv_iinc (v := x_17) (lv' := [(1, .int x_17), (0, .ref h)]) hx hb dX12_format_132 hl (k := 0) rfl (by rw [ex_17]; rfl) (by decide) rfl (fun ls hl => ?_)
        refine lv_goto (tgt := 103) hx hb dX12_format_135 (by decide) ?_
        exact hZ1 (ih x_17 f_14 f_16 _ _ _ (by omega) (by omega) hP hD hS hl)
  exact hZ1 (L_103 (((4 - (0 : Int32).toInt).toNat) + 1) 0 reF boF _ _ _ (by omega) (by omega) hP hD hS hl)

