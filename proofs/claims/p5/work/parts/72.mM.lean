def ow_X12_nearest : List Cond := [Cond.fieldLink RX12 60 "NumberFormatsModel" "meant" "[I", Cond.methodLink RX12 110 yX12_clear, Cond.static yX12_clear, Cond.initialized RX12, Cond.methodLink RX12 103 yX12_first, Cond.static yX12_first, Cond.methodLink RX12 141 yX12_apart, Cond.instanceMethod yX12_apart, Cond.selects RX12 yX12_apart yX12_apart, Cond.fieldLink RX12 134 "NumberFormatsModel" "m" "J", Cond.constantLong RX12 153 (2), Cond.fieldLink RX12 123 "NumberFormatsModel" "e" "I", Cond.methodLink RX12 145 yX12_expand, Cond.instanceMethod yX12_expand, Cond.selects RX12 yX12_expand yX12_expand, Cond.fieldLink RX12 63 "NumberFormatsModel" "row" "[I", Cond.methodLink RX12 155 yX12_compare, Cond.static yX12_compare, Cond.constantLong RX12 159 (4503599627370496), Cond.constantDouble RX12 128 (4602678819172646912), Cond.constantDouble RX12 132 (4611686018427387904), Cond.constantLong RX12 161 (4), Cond.constantLong RX12 114 (10)]
def pw_X12_nearest : List Cond := Cond.code yX12_nearest cX12_nearest 13 (some .double) :: (ow_X12_nearest ++ (pw_X12_clear ++ (pw_X12_first ++ (pw_X12_apart ++ (pw_X12_expand ++ (pw_X12_compare ++ (wsX120)))))))
set_option maxRecDepth 20000 in
theorem mo_X12_nearest : ∀ w ∈ ow_X12_nearest, w ∈ lw_tbl := by decide +kernel
set_option maxRecDepth 20000 in
theorem mc_X12_nearest : Cond.code yX12_nearest cX12_nearest 13 (some .double) ∈ lw_tbl := by decide +kernel
theorem m_X12_nearest : ∀ w ∈ pw_X12_nearest, w ∈ lw_tbl := List.forall_mem_cons.mpr ⟨mc_X12_nearest, (List.forall_mem_append.mpr ⟨mo_X12_nearest, (List.forall_mem_append.mpr ⟨m_X12_clear, (List.forall_mem_append.mpr ⟨m_X12_first, (List.forall_mem_append.mpr ⟨m_X12_apart, (List.forall_mem_append.mpr ⟨m_X12_expand, (List.forall_mem_append.mpr ⟨m_X12_compare, inX12⟩)⟩)⟩)⟩)⟩)⟩)⟩
theorem ko_X12_nearest : ∀ w ∈ ow_X12_nearest, goodWord w = true := by decide +kernel
theorem k_X12_nearest : pw_X12_nearest.all goodWord = true := List.all_eq_true.mpr (List.forall_mem_cons.mpr ⟨by decide +kernel, (List.forall_mem_append.mpr ⟨ko_X12_nearest, (List.forall_mem_append.mpr ⟨(List.all_eq_true.mp k_X12_clear), (List.forall_mem_append.mpr ⟨(List.all_eq_true.mp k_X12_first), (List.forall_mem_append.mpr ⟨(List.all_eq_true.mp k_X12_apart), (List.forall_mem_append.mpr ⟨(List.all_eq_true.mp k_X12_expand), (List.forall_mem_append.mpr ⟨(List.all_eq_true.mp k_X12_compare), kX_X12⟩)⟩)⟩)⟩)⟩)⟩)⟩)
set_option maxHeartbeats 4000000 in
set_option maxRecDepth 100000 in
theorem c_X12_nearest (l : Launch) (D : va_G) (cI cD cJ : ClassId) (sz : Nat) (h : Nat) (h_code : Int32) (h_taped : Int32) (h_tape : Nat) (h_size : Int32) (h_text : Nat) (h_value : UInt64) (h_out : Int32) (h_output : Nat) (h_illAt : Int32) (h_format : Nat) (h_sections : Int32) (h_items : Int32) (h_kind : Nat) (h_what : Nat) (h_of : Nat) (h_relation : Nat) (h_bound : Nat) (h_reads : Int32) (h_readSections : Int32) (h_readKind : Nat) (h_readWhat : Nat) (h_readOf : Nat) (h_place : Nat) (h_readRelation : Nat) (h_readBound : Nat) (h_stop : Int32) (h_meant : Nat) (h_row : Nat) (h_exact : Nat) (h_error : Nat) (h_bestError : Nat) (h_m : Int64) (h_e : Int32) (h_digits : Nat) (h_whole : Int32) (h_meantF : Nat → Int32) (h_rowF : Nat → Int32) (p1 : Int64) (p2 : Int64) (p3 : Int32) (hh0 : 0 ≤ p1.toInt) (hh1 : p1.toInt ≤ 999999999) (hh2 : DN p3 p2) (hh3 : p3.toInt ≤ 9) (iv_h_taped : 0 ≤ (h_taped : Int32).toInt ∧ (h_taped : Int32).toInt ≤ 260) (iv_h_size : 0 ≤ (h_size : Int32).toInt ∧ (h_size : Int32).toInt ≤ 255) (iv_h_value : inR h_value) (iv_h_out : 0 ≤ (h_out : Int32).toInt ∧ (h_out : Int32).toInt ≤ 1024) (iv_h_sections : 0 ≤ (h_sections : Int32).toInt ∧ (h_sections : Int32).toInt ≤ 4) (iv_h_items : 0 ≤ (h_items : Int32).toInt ∧ (h_items : Int32).toInt ≤ 255) (iv_h_reads : 0 ≤ (h_reads : Int32).toInt ∧ (h_reads : Int32).toInt ≤ 255) (iv_h_readSections : 0 ≤ (h_readSections : Int32).toInt ∧ (h_readSections : Int32).toInt ≤ 4) (iv_h_whole : 0 ≤ (h_whole : Int32).toInt ∧ (h_whole : Int32).toInt ≤ 1001) : MetD lw_cs l yX12_nearest pw_X12_nearest ({ frames := 3, cells := 0, slots := 0, locals := 72 }) (va_Pc [.ref h, .long p1, .long p2, .int p3] (fun U => U.heap.size = sz ∧ va_P D vwCl [(h, .inr (9, [.int h_code, .int h_taped, .ref h_tape, .int h_size, .ref h_text, .double h_value, .int h_out, .ref h_output, .int h_illAt, .ref h_format, .int h_sections, .int h_items, .ref h_kind, .ref h_what, .ref h_of, .ref h_relation, .ref h_bound, .int h_reads, .int h_readSections, .ref h_readKind, .ref h_readWhat, .ref h_readOf, .ref h_place, .ref h_readRelation, .ref h_readBound, .int h_stop, .ref h_meant, .ref h_row, .ref h_exact, .ref h_error, .ref h_bestError, .long h_m, .int h_e, .ref h_digits, .int h_whole])), (h_meant, .inl (cI, 1420, .inl h_meantF)), (h_row, .inl (cI, 1420, .inl h_rowF))] U.heap ∧ va_K D vwCl (ty3 cI cD cJ) U ∧ va_D (fun _ => True) [(h, .inr (9, [.int h_code, .int h_taped, .ref h_tape, .int h_size, .ref h_text, .double h_value, .int h_out, .ref h_output, .int h_illAt, .ref h_format, .int h_sections, .int h_items, .ref h_kind, .ref h_what, .ref h_of, .ref h_relation, .ref h_bound, .int h_reads, .int h_readSections, .ref h_readKind, .ref h_readWhat, .ref h_readOf, .ref h_place, .ref h_readRelation, .ref h_readBound, .int h_stop, .ref h_meant, .ref h_row, .ref h_exact, .ref h_error, .ref h_bestError, .long h_m, .int h_e, .ref h_digits, .int h_whole])), (h_meant, .inl (cI, 1420, .inl h_meantF)), (h_row, .inl (cI, 1420, .inl h_rowF))])) (va_Qd (fun (r : UInt64) (u : Int64 × Int32 × (Nat → Int32) × (Nat → Int32)) => match u with | (h_m2, h_e2, h_meantF2, h_rowF2) => True) (fun (u : Int64 × Int32 × (Nat → Int32) × (Nat → Int32)) (t : State) => match u with | (h_m2, h_e2, h_meantF2, h_rowF2) => va_P D vwCl [(h, .inr (9, [.int h_code, .int h_taped, .ref h_tape, .int h_size, .ref h_text, .double h_value, .int h_out, .ref h_output, .int h_illAt, .ref h_format, .int h_sections, .int h_items, .ref h_kind, .ref h_what, .ref h_of, .ref h_relation, .ref h_bound, .int h_reads, .int h_readSections, .ref h_readKind, .ref h_readWhat, .ref h_readOf, .ref h_place, .ref h_readRelation, .ref h_readBound, .int h_stop, .ref h_meant, .ref h_row, .ref h_exact, .ref h_error, .ref h_bestError, .long h_m2, .int h_e2, .ref h_digits, .int h_whole])), (h_meant, .inl (cI, 1420, .inl h_meantF2)), (h_row, .inl (cI, 1420, .inl h_rowF2))] t.heap ∧ va_K D vwCl (ty3 cI cD cJ) t ∧ va_D (va_A [(h, .inr (9, [.int h_code, .int h_taped, .ref h_tape, .int h_size, .ref h_text, .double h_value, .int h_out, .ref h_output, .int h_illAt, .ref h_format, .int h_sections, .int h_items, .ref h_kind, .ref h_what, .ref h_of, .ref h_relation, .ref h_bound, .int h_reads, .int h_readSections, .ref h_readKind, .ref h_readWhat, .ref h_readOf, .ref h_place, .ref h_readRelation, .ref h_readBound, .int h_stop, .ref h_meant, .ref h_row, .ref h_exact, .ref h_error, .ref h_bestError, .long h_m, .int h_e, .ref h_digits, .int h_whole])), (h_meant, .inl (cI, 1420, .inl h_meantF)), (h_row, .inl (cI, 1420, .inl h_rowF))] sz) [(h, .inr (9, [.int h_code, .int h_taped, .ref h_tape, .int h_size, .ref h_text, .double h_value, .int h_out, .ref h_output, .int h_illAt, .ref h_format, .int h_sections, .int h_items, .ref h_kind, .ref h_what, .ref h_of, .ref h_relation, .ref h_bound, .int h_reads, .int h_readSections, .ref h_readKind, .ref h_readWhat, .ref h_readOf, .ref h_place, .ref h_readRelation, .ref h_readBound, .int h_stop, .ref h_meant, .ref h_row, .ref h_exact, .ref h_error, .ref h_bestError, .long h_m2, .int h_e2, .ref h_digits, .int h_whole])), (h_meant, .inl (cI, 1420, .inl h_meantF2)), (h_row, .inl (cI, 1420, .inl h_rowF2))]) (va_A [(h, .inr (9, [.int h_code, .int h_taped, .ref h_tape, .int h_size, .ref h_text, .double h_value, .int h_out, .ref h_output, .int h_illAt, .ref h_format, .int h_sections, .int h_items, .ref h_kind, .ref h_what, .ref h_of, .ref h_relation, .ref h_bound, .int h_reads, .int h_readSections, .ref h_readKind, .ref h_readWhat, .ref h_readOf, .ref h_place, .ref h_readRelation, .ref h_readBound, .int h_stop, .ref h_meant, .ref h_row, .ref h_exact, .ref h_error, .ref h_bestError, .long h_m, .int h_e, .ref h_digits, .int h_whole])), (h_meant, .inl (cI, 1420, .inl h_meantF)), (h_row, .inl (cI, 1420, .inl h_rowF))] sz)) 0 0 (va_A [(h, .inr (9, [.int h_code, .int h_taped, .ref h_tape, .int h_size, .ref h_text, .double h_value, .int h_out, .ref h_output, .int h_illAt, .ref h_format, .int h_sections, .int h_items, .ref h_kind, .ref h_what, .ref h_of, .ref h_relation, .ref h_bound, .int h_reads, .int h_readSections, .ref h_readKind, .ref h_readWhat, .ref h_readOf, .ref h_place, .ref h_readRelation, .ref h_readBound, .int h_stop, .ref h_meant, .ref h_row, .ref h_exact, .ref h_error, .ref h_bestError, .long h_m, .int h_e, .ref h_digits, .int h_whole])), (h_meant, .inl (cI, 1420, .inl h_meantF)), (h_row, .inl (cI, 1420, .inl h_rowF))] sz) := by
  refine MetD.ofW (cc := cX12_nearest) (maxL := 13) (ret := (some .double)) (by decide +kernel) rfl ?_
  intro p e s m args below meth c s₁ B hml hv hd0
  obtain ⟨rfl, hsz, hP, hK, hD0⟩ := hv
  have hx := B.exec
  have hb := B.bytes
  have hr := B.returns
  have hts := atoms_spec (ws := pw_X12_nearest) B.pre
  have hown : s.vm.findClass RX12 = some m.cls := findClass_of_methodNamed B.named
  have hlocks := B.notSynchronized
  subst hsz
  have hD := hD0.self (sz := s.heap.size)
  generalize hAe : va_A [(h, .inr (9, [.int h_code, .int h_taped, .ref h_tape, .int h_size, .ref h_text, .double h_value, .int h_out, .ref h_output, .int h_illAt, .ref h_format, .int h_sections, .int h_items, .ref h_kind, .ref h_what, .ref h_of, .ref h_relation, .ref h_bound, .int h_reads, .int h_readSections, .ref h_readKind, .ref h_readWhat, .ref h_readOf, .ref h_place, .ref h_readRelation, .ref h_readBound, .int h_stop, .ref h_meant, .ref h_row, .ref h_exact, .ref h_error, .ref h_bestError, .long h_m, .int h_e, .ref h_digits, .int h_whole])), (h_meant, .inl (cI, 1420, .inl h_meantF)), (h_row, .inl (cI, 1420, .inl h_rowF))] s.heap.size = A at hD ⊢
  have hA : ∀ q : Nat, s.heap.size ≤ q → A q := fun q h => by rw [← hAe]; exact Or.inr h
  have hS : va_S A s.heap s.heap [] := va_S.rf
  have hw : ∀ {d9 : Drawn} (k : Nat) (w : Cond), ow_X12_nearest[k]? = some w → w.before _ (s.setDrawn d9) = true := fun k w h => dr_words hts _ w (List.mem_cons_of_mem _ (have h9 := List.mem_of_getElem? h; List.mem_append_left _ h9))
  have i_X12_clear : ∀ w ∈ pw_X12_clear, w ∈ pw_X12_nearest := fun w h9 => List.mem_cons_of_mem _ (List.mem_append_right _ (List.mem_append_left _ h9))
  have i_X12_first : ∀ w ∈ pw_X12_first, w ∈ pw_X12_nearest := fun w h9 => List.mem_cons_of_mem _ (List.mem_append_right _ (List.mem_append_right _ (List.mem_append_left _ h9)))
  have i_X12_apart : ∀ w ∈ pw_X12_apart, w ∈ pw_X12_nearest := fun w h9 => List.mem_cons_of_mem _ (List.mem_append_right _ (List.mem_append_right _ (List.mem_append_right _ (List.mem_append_left _ h9))))
  have i_X12_expand : ∀ w ∈ pw_X12_expand, w ∈ pw_X12_nearest := fun w h9 => List.mem_cons_of_mem _ (List.mem_append_right _ (List.mem_append_right _ (List.mem_append_right _ (List.mem_append_right _ (List.mem_append_left _ h9)))))
  have i_X12_compare : ∀ w ∈ pw_X12_compare, w ∈ pw_X12_nearest := fun w h9 => List.mem_cons_of_mem _ (List.mem_append_right _ (List.mem_append_right _ (List.mem_append_right _ (List.mem_append_right _ (List.mem_append_right _ (List.mem_append_left _ h9))))))
  have iX12 : ∀ w ∈ u_ws RX12 TX12 35, w ∈ pw_X12_nearest := fun w h9 => List.mem_cons_of_mem _ (List.mem_append_right _ (List.mem_append_right _ (List.mem_append_right _ (List.mem_append_right _ (List.mem_append_right _ (List.mem_append_right _ (h9)))))))
  have n_m1 : (((-1) : Int32)).toInt = (-1) := by decide
  have n_0 : ((0 : Int32)).toInt = 0 := by decide
  have n_1 : ((1 : Int32)).toInt = 1 := by decide
  have n_1420 : ((1420 : Int32)).toInt = 1420 := by decide
  have n_2 : ((2 : Int32)).toInt = 2 := by decide
  have n_319 : ((319 : Int32)).toInt = 319 := by decide
  have nl_0 : ((0 : Int64)).toInt = 0 := by decide
  have nl_1 : ((1 : Int64)).toInt = 1 := by decide
  have nl_10 : ((10 : Int64)).toInt = 10 := by decide
  have nl_2 : ((2 : Int64)).toInt = 2 := by decide
  have nl_4 : ((4 : Int64)).toInt = 4 := by decide
  have nl_4503599627370496 : ((4503599627370496 : Int64)).toInt = 4503599627370496 := by decide
  have hl := lv_entry ([.ref h, .long p1, .long p2, .int p3]) (n := 13) (Nat.le_of_ble_eq_true rfl)
  rw [lg_entry_eq]
  generalize (lg_sl ([.ref h, .long p1, .long p2, .int p3]) ++ List.replicate (13 - (lg_sl ([.ref h, .long p1, .long p2, .int p3])).length) Slot.unset).toArray = ls at hl ⊢
  have hl : lv_has ls 13 [(0, .ref h), (1, .long p1), (3, .long p2), (5, .int p3)] := hl
  have b_p3 := ti_b p3
  refine zz_capD (fun Z hZ1 hZ2 => ?_)
  have hd9 := DN_lin hh2
  refine lv_aload_n hx hb dX12_nearest_0 rfl (lv_at hl 0 rfl) ?_
  refine va_get (s := s.setDrawn s.drawn) (D := D) (ci := 9) (v := .ref h_meant) (C := RX12) (T := TX12) (N := 35) hx hb (dr_words hts _) iX12 hown hK hP 0 rfl rfl 26 (by decide) (hw 0 (.fieldLink RX12 60 "NumberFormatsModel" "meant" "[I") rfl) (fun _ h9 => h9) rfl dX12_nearest_1 ?_
  have hPc := hP.sub (ws' := [(h_meant, .inl (cI, 1420, .inl h_meantF))]) [1] rfl
  have hDc := hD.sub (ws' := [(h_meant, .inl (cI, 1420, .inl h_meantF))]) [1] (by decide) rfl
  have hFc := va_free (wc := [(h_meant, .inl (cI, 1420, .inl h_meantF))]) hD hS hA [1] rfl
  refine va_callv (va_runS (As := [.ref h_meant]) (rest := []) ⟨hx, hb, hml, hown, (dr_words hts _)⟩ (c_X12_clear l D cI cD cJ s.heap.size h_meant h_meantF) (va_cwS 1 (dr_words hts _) (goodIn_app (goodIn_r _ [2, 3, 4] rfl (by decide +kernel)) (goodIn_sub i_X12_clear k_X12_clear)) rfl rfl rfl (by decide +kernel) ⟨Nat.le_of_ble_eq_true rfl, Nat.le_of_ble_eq_true rfl⟩) ⟨fun a U g mk q => by obtain ⟨q0, q1, qP, qK, qD⟩ := q; exact ⟨q0, q1, qP, va_K.moved (u := U) (U := U.calling g mk a) (Vm.Alike.refl U.vm) qK, qD⟩, fun U hU hW => ⟨rfl, by rw [hU], by rw [hU]; exact hPc, va_K.moved hW.alike hK, hDc.weaken (fun _ _ _ _ => trivial)⟩⟩ rfl rfl hl.1 rfl (lv_room (Nat.le_of_ble_eq_true rfl)) dX12_nearest_4 ⟨Nat.le_of_ble_eq_true rfl, Nat.le_of_ble_eq_true rfl⟩) hS (fun q _ h => hFc q h) hFc (fun u t H1 locs ht hvm w_1 hB hz1 hk1 hS => ?_)
  generalize u = u_2 at w_1 hB
  obtain ⟨hP1, hK1, hD1⟩ := hB
  rw [ht] at hP1
  try dsimp only at w_1
  obtain ⟨hP, hD⟩ := va_join (wr := [(h, .inr (9, [.int h_code, .int h_taped, .ref h_tape, .int h_size, .ref h_text, .double h_value, .int h_out, .ref h_output, .int h_illAt, .ref h_format, .int h_sections, .int h_items, .ref h_kind, .ref h_what, .ref h_of, .ref h_relation, .ref h_bound, .int h_reads, .int h_readSections, .ref h_readKind, .ref h_readWhat, .ref h_readOf, .ref h_place, .ref h_readRelation, .ref h_readBound, .int h_stop, .ref h_meant, .ref h_row, .ref h_exact, .ref h_error, .ref h_bestError, .long h_m, .int h_e, .ref h_digits, .int h_whole])), (h_row, .inl (cI, 1420, .inl h_rowF))]) (w1 := [(h_meant, .inl (cI, 1420, .inl u_2))]) hP hD [1] [0, 2] rfl rfl (by decide) (by decide) hk1 hFc hP1 hD1
  generalize H1 = H at hP hS ⊢
  have hP : va_P D vwCl [(h, .inr (9, [.int h_code, .int h_taped, .ref h_tape, .int h_size, .ref h_text, .double h_value, .int h_out, .ref h_output, .int h_illAt, .ref h_format, .int h_sections, .int h_items, .ref h_kind, .ref h_what, .ref h_of, .ref h_relation, .ref h_bound, .int h_reads, .int h_readSections, .ref h_readKind, .ref h_readWhat, .ref h_readOf, .ref h_place, .ref h_readRelation, .ref h_readBound, .int h_stop, .ref h_meant, .ref h_row, .ref h_exact, .ref h_error, .ref h_bestError, .long h_m, .int h_e, .ref h_digits, .int h_whole])), (h_row, .inl (cI, 1420, .inl h_rowF)), (h_meant, .inl (cI, 1420, .inl u_2))] H := hP
  have hD : va_D A [(h, .inr (9, [.int h_code, .int h_taped, .ref h_tape, .int h_size, .ref h_text, .double h_value, .int h_out, .ref h_output, .int h_illAt, .ref h_format, .int h_sections, .int h_items, .ref h_kind, .ref h_what, .ref h_of, .ref h_relation, .ref h_bound, .int h_reads, .int h_readSections, .ref h_readKind, .ref h_readWhat, .ref h_readOf, .ref h_place, .ref h_readRelation, .ref h_readBound, .int h_stop, .ref h_meant, .ref h_row, .ref h_exact, .ref h_error, .ref h_bestError, .long h_m, .int h_e, .ref h_digits, .int h_whole])), (h_row, .inl (cI, 1420, .inl h_rowF)), (h_meant, .inl (cI, 1420, .inl u_2))] := hD
  have hzr := w_1
  refine lv_lload_n hx hb dX12_nearest_7 rfl (lv_at hl 1 rfl) ?_
  refine lv_lstore (lv' := [(6, .long p1), (0, .ref h), (1, .long p1), (3, .long p2), (5, .int p3)]) hx hb dX12_nearest_8 hl (by decide) rfl (fun ls hl => ?_)
  refine lv_sipush (v := 319) hx hb dX12_nearest_10 (by decide) ?_
  refine lv_istore (lv' := [(8, .int 319), (6, .long p1), (0, .ref h), (1, .long p1), (3, .long p2), (5, .int p3)]) hx hb dX12_nearest_13 hl (by decide) rfl (fun ls hl => ?_)
  have L_15 : ∀ (N : Nat) (x_3 : Int32) (y_4 : Int64) (f_5 : Nat → Int32) (H : Heap) (locs : List Loc) (ls : Array Slot) (dq15_6 : Drawn), s.drawn.sameBut dq15_6 lw_cs → (EDg p1 y_4 f_5 x_3) → ((y_4 : Int64).toInt.toNat < N) → va_P D vwCl [(h, .inr (9, [.int h_code, .int h_taped, .ref h_tape, .int h_size, .ref h_text, .double h_value, .int h_out, .ref h_output, .int h_illAt, .ref h_format, .int h_sections, .int h_items, .ref h_kind, .ref h_what, .ref h_of, .ref h_relation, .ref h_bound, .int h_reads, .int h_readSections, .ref h_readKind, .ref h_readWhat, .ref h_readOf, .ref h_place, .ref h_readRelation, .ref h_readBound, .int h_stop, .ref h_meant, .ref h_row, .ref h_exact, .ref h_error, .ref h_bestError, .long h_m, .int h_e, .ref h_digits, .int h_whole])), (h_row, .inl (cI, 1420, .inl h_rowF)), (h_meant, .inl (cI, 1420, .inl f_5))] H → va_D A [(h, .inr (9, [.int h_code, .int h_taped, .ref h_tape, .int h_size, .ref h_text, .double h_value, .int h_out, .ref h_output, .int h_illAt, .ref h_format, .int h_sections, .int h_items, .ref h_kind, .ref h_what, .ref h_of, .ref h_relation, .ref h_bound, .int h_reads, .int h_readSections, .ref h_readKind, .ref h_readWhat, .ref h_readOf, .ref h_place, .ref h_readRelation, .ref h_readBound, .int h_stop, .ref h_meant, .ref h_row, .ref h_exact, .ref h_error, .ref h_bestError, .long h_m, .int h_e, .ref h_digits, .int h_whole])), (h_row, .inl (cI, 1420, .inl h_rowF)), (h_meant, .inl (cI, 1420, .inl f_5))] → va_S A s.heap H locs → lv_has ls 13 [(8, .int x_3), (6, .long y_4), (0, .ref h), (1, .long p1), (3, .long p2), (5, .int p3)] → Z dq15_6 0 0 H locs (F0 m 15 ls []) := by
    intro N
    induction N with
    | zero => intro _ _ _ _ _ _ _ _ _ hmu; exact absurd hmu (Nat.not_lt_zero _)
    | succ N ih_15 =>
      intro x_3 y_4 f_5 H locs ls dq15_6 hdq15_6 g15_0 hmu hP hD hS hl
      refine hZ2 ?_
      have hq9 := EDg_lin g15_0
      refine lv_lload hx hb dX12_nearest_15 (lv_at hl 1 rfl) ?_
      refine lv_lconst (v := 0) hx hb dX12_nearest_17 (by decide) ?_
      refine W.lcmp hx hb dX12_nearest_18 ?_
      refine lv_topi (fun x_7 ex_7 => ?_)
      have tx_7 := ti_lcmp ex_7
      refine lv_if_le (tgt := 50) hx hb dX12_nearest_19 (by decide) (fun c_8 => ?_) (fun c_8 => ?_)
      · have ic_8 : (x_7 : Int32).toInt ≤ (0 : Int32).toInt := (fa_le x_7 0).mp c_8
        have he1 := ED1_of g15_0 (by omega) hh0
        refine lv_lload_n hx hb dX12_nearest_50 rfl (lv_at hl 4 rfl) ?_
        refine lv_lstore (lv' := [(6, .long p2), (8, .int x_3), (0, .ref h), (1, .long p1), (3, .long p2), (5, .int p3)]) hx hb dX12_nearest_51 hl (by decide) rfl (fun ls hl => ?_)
        refine lv_sipush (v := 319) hx hb dX12_nearest_53 (by decide) ?_
        refine lv_iload hx hb dX12_nearest_56 (lv_at hl 5 rfl) ?_
        refine lv_iadd hx hb dX12_nearest_58 ?_
        refine lv_topi (fun x_9 ex_9 => ?_)
        have b_p3 := ti_b p3
        have tx_9 := ti_add ex_9
        refine lv_istore (lv' := [(8, .int x_9), (6, .long p2), (0, .ref h), (1, .long p1), (3, .long p2), (5, .int p3)]) hx hb dX12_nearest_59 hl (by decide) rfl (fun ls hl => ?_)
        have L_61 : ∀ (N : Nat) (x_10 : Int32) (y_11 : Int64) (f_12 : Nat → Int32) (H : Heap) (locs : List Loc) (ls : Array Slot) (dq61_13 : Drawn), s.drawn.sameBut dq61_13 lw_cs → (EB p1 p2 y_11 p3 f_12 x_10) → ((x_10 : Int32).toInt.toNat < N) → va_P D vwCl [(h, .inr (9, [.int h_code, .int h_taped, .ref h_tape, .int h_size, .ref h_text, .double h_value, .int h_out, .ref h_output, .int h_illAt, .ref h_format, .int h_sections, .int h_items, .ref h_kind, .ref h_what, .ref h_of, .ref h_relation, .ref h_bound, .int h_reads, .int h_readSections, .ref h_readKind, .ref h_readWhat, .ref h_readOf, .ref h_place, .ref h_readRelation, .ref h_readBound, .int h_stop, .ref h_meant, .ref h_row, .ref h_exact, .ref h_error, .ref h_bestError, .long h_m, .int h_e, .ref h_digits, .int h_whole])), (h_row, .inl (cI, 1420, .inl h_rowF)), (h_meant, .inl (cI, 1420, .inl f_12))] H → va_D A [(h, .inr (9, [.int h_code, .int h_taped, .ref h_tape, .int h_size, .ref h_text, .double h_value, .int h_out, .ref h_output, .int h_illAt, .ref h_format, .int h_sections, .int h_items, .ref h_kind, .ref h_what, .ref h_of, .ref h_relation, .ref h_bound, .int h_reads, .int h_readSections, .ref h_readKind, .ref h_readWhat, .ref h_readOf, .ref h_place, .ref h_readRelation, .ref h_readBound, .int h_stop, .ref h_meant, .ref h_row, .ref h_exact, .ref h_error, .ref h_bestError, .long h_m, .int h_e, .ref h_digits, .int h_whole])), (h_row, .inl (cI, 1420, .inl h_rowF)), (h_meant, .inl (cI, 1420, .inl f_12))] → va_S A s.heap H locs → lv_has ls 13 [(8, .int x_10), (6, .long y_11), (0, .ref h), (1, .long p1), (3, .long p2), (5, .int p3)] → Z dq61_13 0 0 H locs (F0 m 61 ls []) := by
          intro N
          induction N with
          | zero => intro _ _ _ _ _ _ _ _ _ hmu; exact absurd hmu (Nat.not_lt_zero _)
          | succ N ih_61 =>
            intro x_10 y_11 f_12 H locs ls dq61_13 hdq61_13 g61_0 hmu hP hD hS hl
            refine hZ2 ?_
            have hq8 := EB_lin g61_0
            refine lv_iload hx hb dX12_nearest_61 (lv_at hl 0 rfl) ?_
            refine lv_sipush (v := 319) hx hb dX12_nearest_63 (by decide) ?_
            refine lv_icmp_le (tgt := 97) hx hb dX12_nearest_66 (by decide) (fun c_14 => ?_) (fun c_14 => ?_)
            · have ic_14 : (x_10 : Int32).toInt ≤ (319 : Int32).toInt := (fa_le x_10 319).mp c_14
              have hmv := MV_of g61_0 (by omega)
              refine lv_aload_n hx hb dX12_nearest_97 rfl (lv_at hl 2 rfl) ?_
              refine va_get (s := s.setDrawn dq61_13) (D := D) (ci := 9) (v := .ref h_meant) (C := RX12) (T := TX12) (N := 35) hx hb (dr_words hts _) iX12 hown hK hP 0 rfl rfl 26 (by decide) (hw 0 (.fieldLink RX12 60 "NumberFormatsModel" "meant" "[I") rfl) (fun _ h9 => h9) rfl dX12_nearest_98 ?_
              have hPc := hP.sub (ws' := [(h_meant, .inl (cI, 1420, .inl f_12))]) [2] rfl
              refine va_calli (va_runS (As := [.ref h_meant]) (rest := []) ⟨hx, hb, hml, hown, (dr_words hts _)⟩ (c_X12_first l D cI cD cJ H.size h_meant f_12) (va_cwS 1 (dr_words hts _) (goodIn_app (goodIn_r _ [5, 6, 4] rfl (by decide +kernel)) (goodIn_sub i_X12_first k_X12_first)) rfl rfl rfl (by decide +kernel) ⟨Nat.le_of_ble_eq_true rfl, Nat.le_of_ble_eq_true rfl⟩) ⟨fun a U g mk q => by obtain ⟨q0, qP, qK⟩ := q; exact ⟨q0, qP, va_K.moved (u := U) (U := U.calling g mk a) (Vm.Alike.refl U.vm) qK⟩, fun U hU hW => ⟨rfl, by rw [hU]; exact hPc, va_K.moved hW.alike hK⟩⟩ rfl rfl hl.1 rfl (lv_room (Nat.le_of_ble_eq_true rfl)) dX12_nearest_101 ⟨Nat.le_of_ble_eq_true rfl, Nat.le_of_ble_eq_true rfl⟩) hS (fun q _ h => h.elim) (fun q h => h.elim) (fun x_15 u t H1 locs ht hvm w_16 hB hz1 hk1 hS => ?_)
              have hP : va_P D vwCl [(h, .inr (9, [.int h_code, .int h_taped, .ref h_tape, .int h_size, .ref h_text, .double h_value, .int h_out, .ref h_output, .int h_illAt, .ref h_format, .int h_sections, .int h_items, .ref h_kind, .ref h_what, .ref h_of, .ref h_relation, .ref h_bound, .int h_reads, .int h_readSections, .ref h_readKind, .ref h_readWhat, .ref h_readOf, .ref h_place, .ref h_readRelation, .ref h_readBound, .int h_stop, .ref h_meant, .ref h_row, .ref h_exact, .ref h_error, .ref h_bestError, .long h_m, .int h_e, .ref h_digits, .int h_whole])), (h_row, .inl (cI, 1420, .inl h_rowF)), (h_meant, .inl (cI, 1420, .inl f_12))] H1 := hP.kept (fun k9 q9 h9 => hk1 q9.1 (vx_lt hP h9) (fun h => h))
              generalize H1 = H at hP hS ⊢
              try dsimp only at w_16
              have b_x_15 := ti_b x_15
              have hf9 := w_16
              refine lv_sipush (v := 1420) hx hb dX12_nearest_104 (by decide) ?_
              refine lv_icmp_ne (tgt := 112) hx hb dX12_nearest_107 (by decide) (fun c_17 => ?_) (fun c_17 => ?_)
              · have ic_17 : ¬ ((x_15 : Int32).toInt = (1420 : Int32).toInt) := fun h9 => c_17 ((fa_eq x_15 1420).mpr h9)
                have hp9 := MV_pos hmv hf9 (by omega)
                refine lv_lconst (v := 1) hx hb dX12_nearest_112 (by decide) ?_
                refine lv_lstore (lv' := [(8, .long 1), (6, .long y_11), (0, .ref h), (1, .long p1), (3, .long p2), (5, .int p3)]) hx hb dX12_nearest_113 hl (by decide) rfl (fun ls hl => ?_)
                refine lv_iconst (v := 0) hx hb dX12_nearest_115 (by decide) ?_
                refine lv_istore (lv' := [(10, .int 0), (8, .long 1), (6, .long y_11), (0, .ref h), (1, .long p1), (3, .long p2), (5, .int p3)]) hx hb dX12_nearest_116 hl (by decide) rfl (fun ls hl => ?_)
                have L_118 : ∀ (N : Nat) (x_18 : Int32) (y_19 : Int64) (H : Heap) (locs : List Loc) (ls : Array Slot) (dq118_20 : Drawn), s.drawn.sameBut dq118_20 lw_cs → (TE y_19 x_18) → ((x_18 : Int32).toInt ≤ p3.toInt) → ((10 - (x_18 : Int32).toInt).toNat < N) → va_P D vwCl [(h, .inr (9, [.int h_code, .int h_taped, .ref h_tape, .int h_size, .ref h_text, .double h_value, .int h_out, .ref h_output, .int h_illAt, .ref h_format, .int h_sections, .int h_items, .ref h_kind, .ref h_what, .ref h_of, .ref h_relation, .ref h_bound, .int h_reads, .int h_readSections, .ref h_readKind, .ref h_readWhat, .ref h_readOf, .ref h_place, .ref h_readRelation, .ref h_readBound, .int h_stop, .ref h_meant, .ref h_row, .ref h_exact, .ref h_error, .ref h_bestError, .long h_m, .int h_e, .ref h_digits, .int h_whole])), (h_row, .inl (cI, 1420, .inl h_rowF)), (h_meant, .inl (cI, 1420, .inl f_12))] H → va_D A [(h, .inr (9, [.int h_code, .int h_taped, .ref h_tape, .int h_size, .ref h_text, .double h_value, .int h_out, .ref h_output, .int h_illAt, .ref h_format, .int h_sections, .int h_items, .ref h_kind, .ref h_what, .ref h_of, .ref h_relation, .ref h_bound, .int h_reads, .int h_readSections, .ref h_readKind, .ref h_readWhat, .ref h_readOf, .ref h_place, .ref h_readRelation, .ref h_readBound, .int h_stop, .ref h_meant, .ref h_row, .ref h_exact, .ref h_error, .ref h_bestError, .long h_m, .int h_e, .ref h_digits, .int h_whole])), (h_row, .inl (cI, 1420, .inl h_rowF)), (h_meant, .inl (cI, 1420, .inl f_12))] → va_S A s.heap H locs → lv_has ls 13 [(10, .int x_18), (8, .long y_19), (0, .ref h), (1, .long p1), (3, .long p2), (5, .int p3)] → Z dq118_20 0 0 H locs (F0 m 118 ls []) := by
                  intro N
                  induction N with
                  | zero => intro _ _ _ _ _ _ _ _ _ hmu; exact absurd hmu (Nat.not_lt_zero _)
                  | succ N ih_118 =>
                    intro x_18 y_19 H locs ls dq118_20 hdq118_20 g118_0 g118_1 hmu hP hD hS hl
                    refine hZ2 ?_
                    have hq7 := TE_lin g118_0
                    refine lv_iload hx hb dX12_nearest_118 (lv_at hl 0 rfl) ?_
                    refine lv_iload hx hb dX12_nearest_120 (lv_at hl 5 rfl) ?_
                    refine lv_icmp_ge (tgt := 139) hx hb dX12_nearest_122 (by decide) (fun c_21 => ?_) (fun c_21 => ?_)
                    · have ic_21 : (p3 : Int32).toInt ≤ (x_18 : Int32).toInt := (fa_le p3 x_18).mp c_21
                      have hl8 := TE_lin g118_0
                      have hk9 : x_18 = p3 := (fa_eq _ _).mpr (by omega)
                      have hte : TE y_19 p3 := hk9 ▸ g118_0
                      refine lv_aload_n hx hb dX12_nearest_139 rfl (lv_at hl 2 rfl) ?_
                      refine lv_lload_n hx hb dX12_nearest_140 rfl (lv_at hl 3 rfl) ?_
                      refine lv_l2d hx hb dX12_nearest_141 ?_
                      refine lv_topd (fun d_22 ed_22 => ?_)
                      refine lv_lload_n hx hb dX12_nearest_142 rfl (lv_at hl 4 rfl) ?_
                      refine lv_l2d hx hb dX12_nearest_143 ?_
                      refine lv_topd (fun d_23 ed_23 => ?_)
                      refine lv_lload hx hb dX12_nearest_144 (lv_at hl 1 rfl) ?_
                      refine lv_l2d hx hb dX12_nearest_146 ?_
                      refine lv_topd (fun d_24 ed_24 => ?_)
                      refine lv_ddiv_any hdq118_20 lw_bits hx hb dX12_nearest_147 (fun d_25 dhd_26 ad_25 hd_26 => ?_)
                      refine lv_dadd_any hd_26 lw_bits hx hb dX12_nearest_148 (fun d_27 dhd_28 ad_27 hd_28 => ?_)
                      have hnx : NX p1 p2 y_19 d_27 := NX_of hh0 hh1 (by omega) (by omega) hd9.2.2.1 (DN_TE hh2 hte) (by rw [TE_nat hte]; exact hp9) (by rw [← ed_23, ← ed_24]; exact ad_25) (by rw [← ed_22]; exact ad_27)
                      have hPc := hP.sub (ws' := [(h, .inr (9, [.int h_code, .int h_taped, .ref h_tape, .int h_size, .ref h_text, .double h_value, .int h_out, .ref h_output, .int h_illAt, .ref h_format, .int h_sections, .int h_items, .ref h_kind, .ref h_what, .ref h_of, .ref h_relation, .ref h_bound, .int h_reads, .int h_readSections, .ref h_readKind, .ref h_readWhat, .ref h_readOf, .ref h_place, .ref h_readRelation, .ref h_readBound, .int h_stop, .ref h_meant, .ref h_row, .ref h_exact, .ref h_error, .ref h_bestError, .long h_m, .int h_e, .ref h_digits, .int h_whole]))]) [0] rfl
                      have hDc := hD.sub (ws' := [(h, .inr (9, [.int h_code, .int h_taped, .ref h_tape, .int h_size, .ref h_text, .double h_value, .int h_out, .ref h_output, .int h_illAt, .ref h_format, .int h_sections, .int h_items, .ref h_kind, .ref h_what, .ref h_of, .ref h_relation, .ref h_bound, .int h_reads, .int h_readSections, .ref h_readKind, .ref h_readWhat, .ref h_readOf, .ref h_place, .ref h_readRelation, .ref h_readBound, .int h_stop, .ref h_meant, .ref h_row, .ref h_exact, .ref h_error, .ref h_bestError, .long h_m, .int h_e, .ref h_digits, .int h_whole]))]) [0] (by decide) rfl
                      have hFc := va_free (wc := [(h, .inr (9, [.int h_code, .int h_taped, .ref h_tape, .int h_size, .ref h_text, .double h_value, .int h_out, .ref h_output, .int h_illAt, .ref h_format, .int h_sections, .int h_items, .ref h_kind, .ref h_what, .ref h_of, .ref h_relation, .ref h_bound, .int h_reads, .int h_readSections, .ref h_readKind, .ref h_readWhat, .ref h_readOf, .ref h_place, .ref h_readRelation, .ref h_readBound, .int h_stop, .ref h_meant, .ref h_row, .ref h_exact, .ref h_error, .ref h_bestError, .long h_m, .int h_e, .ref h_digits, .int h_whole]))]) hD hS hA [0] rfl
                      refine va_callvD hd_28 (va_runV_D (As := [.double d_27]) (rest := []) ⟨hx, hb, hml, hown, (dr_words hts _)⟩ (c_X12_apart l D cI cD cJ H.size h h_code h_taped h_tape h_size h_text h_value h_out h_output h_illAt h_format h_sections h_items h_kind h_what h_of h_relation h_bound h_reads h_readSections h_readKind h_readWhat h_readOf h_place h_readRelation h_readBound h_stop h_meant h_row h_exact h_error h_bestError h_m h_e h_digits h_whole d_27 hnx.1 (by omega) (by omega) (by assumption) (by omega) (by omega) (by omega) (by omega) (by omega) (by omega)) (cwV 1 (dr_words hts _) (goodIn_app (goodIn_r _ [7, 8, 9, 4] rfl (by decide +kernel)) (goodIn_sub i_X12_apart k_X12_apart)) rfl rfl rfl (by decide +kernel) ⟨Nat.le_of_ble_eq_true rfl, Nat.le_of_ble_eq_true rfl⟩) ⟨fun a U g mk q => by obtain ⟨q0, q1, qP, qK, qD⟩ := q; exact ⟨q0, q1, qP, va_K.moved (u := U) (U := U.calling g mk a) (Vm.Alike.refl U.vm) qK, qD⟩, va_recv hK hPc (ci := 9) (q0 := 0) rfl rfl, fun U hU hW => ⟨rfl, by rw [hU], by rw [hU]; exact hPc, va_K.moved hW.alike hK, hDc.weaken (fun _ _ _ _ => trivial)⟩⟩ rfl rfl hl.1 rfl (lv_room (Nat.le_of_ble_eq_true rfl)) dX12_nearest_149 ⟨Nat.le_of_ble_eq_true rfl, Nat.le_of_ble_eq_true rfl⟩) hS (fun q _ h => hFc q h) hFc (fun u t H1 locs ht hvm w_29 hB hz1 hk1 hS dhd_30 hd_30 => ?_)
                      obtain ⟨u_31, u_32⟩ := u
                      obtain ⟨hP1, hK1, hD1⟩ := hB
                      rw [ht] at hP1
                      try dsimp only at w_29
                      obtain ⟨hP, hD⟩ := va_join (wr := [(h_row, .inl (cI, 1420, .inl h_rowF)), (h_meant, .inl (cI, 1420, .inl f_12))]) (w1 := [(h, .inr (9, [.int h_code, .int h_taped, .ref h_tape, .int h_size, .ref h_text, .double h_value, .int h_out, .ref h_output, .int h_illAt, .ref h_format, .int h_sections, .int h_items, .ref h_kind, .ref h_what, .ref h_of, .ref h_relation, .ref h_bound, .int h_reads, .int h_readSections, .ref h_readKind, .ref h_readWhat, .ref h_readOf, .ref h_place, .ref h_readRelation, .ref h_readBound, .int h_stop, .ref h_meant, .ref h_row, .ref h_exact, .ref h_error, .ref h_bestError, .long u_31, .int u_32, .ref h_digits, .int h_whole]))]) hP hD [0] [1, 2] rfl rfl (by decide) (by decide) hk1 hFc hP1 hD1
                      generalize H1 = H at hP hS ⊢
                      have hP : va_P D vwCl [(h_row, .inl (cI, 1420, .inl h_rowF)), (h_meant, .inl (cI, 1420, .inl f_12)), (h, .inr (9, [.int h_code, .int h_taped, .ref h_tape, .int h_size, .ref h_text, .double h_value, .int h_out, .ref h_output, .int h_illAt, .ref h_format, .int h_sections, .int h_items, .ref h_kind, .ref h_what, .ref h_of, .ref h_relation, .ref h_bound, .int h_reads, .int h_readSections, .ref h_readKind, .ref h_readWhat, .ref h_readOf, .ref h_place, .ref h_readRelation, .ref h_readBound, .int h_stop, .ref h_meant, .ref h_row, .ref h_exact, .ref h_error, .ref h_bestError, .long u_31, .int u_32, .ref h_digits, .int h_whole]))] H := hP
                      have hD : va_D A [(h_row, .inl (cI, 1420, .inl h_rowF)), (h_meant, .inl (cI, 1420, .inl f_12)), (h, .inr (9, [.int h_code, .int h_taped, .ref h_tape, .int h_size, .ref h_text, .double h_value, .int h_out, .ref h_output, .int h_illAt, .ref h_format, .int h_sections, .int h_items, .ref h_kind, .ref h_what, .ref h_of, .ref h_relation, .ref h_bound, .int h_reads, .int h_readSections, .ref h_readKind, .ref h_readWhat, .ref h_readOf, .ref h_place, .ref h_readRelation, .ref h_readBound, .int h_stop, .ref h_meant, .ref h_row, .ref h_exact, .ref h_error, .ref h_bestError, .long u_31, .int u_32, .ref h_digits, .int h_whole]))] := hD
                      have hri := NR_0 hmv hte hd9.2.2.1 (DN_TE hh2 hte) hh0 hh1 hnx w_29
                      have L_152 : ∀ (N : Nat) (f_33 : Nat → Int32) (x_34 : Int64) (H : Heap) (locs : List Loc) (ls : Array Slot) (dq152_35 : Drawn), s.drawn.sameBut dq152_35 lw_cs → (NRI f_12 x_34 u_32) → (NRm f_12 x_34 u_32 < N) → va_P D vwCl [(h_row, .inl (cI, 1420, .inl f_33)), (h_meant, .inl (cI, 1420, .inl f_12)), (h, .inr (9, [.int h_code, .int h_taped, .ref h_tape, .int h_size, .ref h_text, .double h_value, .int h_out, .ref h_output, .int h_illAt, .ref h_format, .int h_sections, .int h_items, .ref h_kind, .ref h_what, .ref h_of, .ref h_relation, .ref h_bound, .int h_reads, .int h_readSections, .ref h_readKind, .ref h_readWhat, .ref h_readOf, .ref h_place, .ref h_readRelation, .ref h_readBound, .int h_stop, .ref h_meant, .ref h_row, .ref h_exact, .ref h_error, .ref h_bestError, .long x_34, .int u_32, .ref h_digits, .int h_whole]))] H → va_D A [(h_row, .inl (cI, 1420, .inl f_33)), (h_meant, .inl (cI, 1420, .inl f_12)), (h, .inr (9, [.int h_code, .int h_taped, .ref h_tape, .int h_size, .ref h_text, .double h_value, .int h_out, .ref h_output, .int h_illAt, .ref h_format, .int h_sections, .int h_items, .ref h_kind, .ref h_what, .ref h_of, .ref h_relation, .ref h_bound, .int h_reads, .int h_readSections, .ref h_readKind, .ref h_readWhat, .ref h_readOf, .ref h_place, .ref h_readRelation, .ref h_readBound, .int h_stop, .ref h_meant, .ref h_row, .ref h_exact, .ref h_error, .ref h_bestError, .long x_34, .int u_32, .ref h_digits, .int h_whole]))] → va_S A s.heap H locs → lv_has ls 13 [(0, .ref h)] → Z dq152_35 0 0 H locs (F0 m 152 ls []) := by
                        intro N
                        induction N with
                        | zero => intro _ _ _ _ _ _ _ _ hmu; exact absurd hmu (Nat.not_lt_zero _)
                        | succ N ih_152 =>
                          intro f_33 x_34 H locs ls dq152_35 hdq152_35 g152_0 hmu hP hD hS hl
                          refine hZ2 ?_
                          have hl9 := NRI_lin g152_0
                          refine lv_aload_n hx hb dX12_nearest_152 rfl (lv_at hl 0 rfl) ?_
                          refine va_get (s := s.setDrawn dq152_35) (D := D) (ci := 9) (v := .long x_34) (C := RX12) (T := TX12) (N := 35) hx hb (dr_words hts _) iX12 hown hK hP 2 rfl rfl 31 (by decide) (hw 9 (.fieldLink RX12 134 "NumberFormatsModel" "m" "J") rfl) (fun _ h9 => h9) rfl dX12_nearest_153 ?_
                          refine lv_ldc2 (v := 2) hx hb hown (hw 10 (.constantLong RX12 153 (2)) rfl) dX12_nearest_156 ?_
                          refine lv_lrem hx hb dX12_nearest_159 (by decide) ?_
                          refine lv_topl (fun y_36 ey_36 => ?_)
                          have ty_36 := tl_rem ey_36 (by decide)
                          rw [nl_2] at ty_36
                          try (have uy_36 := tl_remE ey_36 (by decide) (by omega); rw [nl_2] at uy_36)
                          refine lv_lconst (v := 1) hx hb dX12_nearest_160 (by decide) ?_
                          refine W.lcmp hx hb dX12_nearest_161 ?_
                          refine lv_topi (fun x_37 ex_37 => ?_)
                          have tx_37 := ti_lcmp ex_37
                          have K_170 : ∀ (z_39 : Int32) (H : Heap) (locs : List Loc) (ls : Array Slot) (dq170_38 : Drawn), s.drawn.sameBut dq170_38 lw_cs → ((z_39 : Int32).toInt = (x_34 : Int64).toInt % 2) → va_P D vwCl [(h_row, .inl (cI, 1420, .inl f_33)), (h_meant, .inl (cI, 1420, .inl f_12)), (h, .inr (9, [.int h_code, .int h_taped, .ref h_tape, .int h_size, .ref h_text, .double h_value, .int h_out, .ref h_output, .int h_illAt, .ref h_format, .int h_sections, .int h_items, .ref h_kind, .ref h_what, .ref h_of, .ref h_relation, .ref h_bound, .int h_reads, .int h_readSections, .ref h_readKind, .ref h_readWhat, .ref h_readOf, .ref h_place, .ref h_readRelation, .ref h_readBound, .int h_stop, .ref h_meant, .ref h_row, .ref h_exact, .ref h_error, .ref h_bestError, .long x_34, .int u_32, .ref h_digits, .int h_whole]))] H → va_D A [(h_row, .inl (cI, 1420, .inl f_33)), (h_meant, .inl (cI, 1420, .inl f_12)), (h, .inr (9, [.int h_code, .int h_taped, .ref h_tape, .int h_size, .ref h_text, .double h_value, .int h_out, .ref h_output, .int h_illAt, .ref h_format, .int h_sections, .int h_items, .ref h_kind, .ref h_what, .ref h_of, .ref h_relation, .ref h_bound, .int h_reads, .int h_readSections, .ref h_readKind, .ref h_readWhat, .ref h_readOf, .ref h_place, .ref h_readRelation, .ref h_readBound, .int h_stop, .ref h_meant, .ref h_row, .ref h_exact, .ref h_error, .ref h_bestError, .long x_34, .int u_32, .ref h_digits, .int h_whole]))] → va_S A s.heap H locs → lv_has ls 13 [(0, .ref h)] → Z dq170_38 0 0 H locs (F0 m 170 ls [.int z_39]) := by
                            intro z_39 H locs ls dq170_38 hdq170_38 g170_0 hP hD hS hl
                            refine hZ2 ?_
                            refine lv_istore (lv' := [(10, .int z_39), (0, .ref h)]) hx hb dX12_nearest_170 hl (by decide) rfl (fun ls hl => ?_)
                            refine lv_aload_n hx hb dX12_nearest_172 rfl (lv_at hl 1 rfl) ?_
                            refine lv_ldc2 (v := 2) hx hb hown (hw 10 (.constantLong RX12 153 (2)) rfl) dX12_nearest_173 ?_
                            refine lv_aload_n hx hb dX12_nearest_176 rfl (lv_at hl 1 rfl) ?_
                            refine va_get (s := s.setDrawn dq170_38) (D := D) (ci := 9) (v := .long x_34) (C := RX12) (T := TX12) (N := 35) hx hb (dr_words hts _) iX12 hown hK hP 2 rfl rfl 31 (by decide) (hw 9 (.fieldLink RX12 134 "NumberFormatsModel" "m" "J") rfl) (fun _ h9 => h9) rfl dX12_nearest_177 ?_
                            refine lv_lmul hx hb dX12_nearest_180 ?_
                            refine lv_topl (fun y_40 ey_40 => ?_)
                            have ty_40 := tl_mul ey_40
                            rw [nl_2] at ty_40
                            refine lv_lconst (v := 1) hx hb dX12_nearest_181 (by decide) ?_
                            refine lv_ladd hx hb dX12_nearest_182 ?_
                            refine lv_topl (fun y_41 ey_41 => ?_)
                            have b_y_40 := tl_b y_40
                            have ty_41 := tl_add ey_41
                            refine lv_aload_n hx hb dX12_nearest_183 rfl (lv_at hl 1 rfl) ?_
                            refine va_get (s := s.setDrawn dq170_38) (D := D) (ci := 9) (v := .int u_32) (C := RX12) (T := TX12) (N := 35) hx hb (dr_words hts _) iX12 hown hK hP 2 rfl rfl 32 (by decide) (hw 11 (.fieldLink RX12 123 "NumberFormatsModel" "e" "I") rfl) (fun _ h9 => h9) rfl dX12_nearest_184 ?_
                            refine lv_iconst (v := 1) hx hb dX12_nearest_187 (by decide) ?_
                            refine lv_isub hx hb dX12_nearest_188 ?_
                            refine lv_topi (fun x_42 ex_42 => ?_)
                            have b_u_32 := ti_b u_32
                            have tx_42 := ti_sub ex_42
                            have hPc := hP.sub (ws' := [(h, .inr (9, [.int h_code, .int h_taped, .ref h_tape, .int h_size, .ref h_text, .double h_value, .int h_out, .ref h_output, .int h_illAt, .ref h_format, .int h_sections, .int h_items, .ref h_kind, .ref h_what, .ref h_of, .ref h_relation, .ref h_bound, .int h_reads, .int h_readSections, .ref h_readKind, .ref h_readWhat, .ref h_readOf, .ref h_place, .ref h_readRelation, .ref h_readBound, .int h_stop, .ref h_meant, .ref h_row, .ref h_exact, .ref h_error, .ref h_bestError, .long x_34, .int u_32, .ref h_digits, .int h_whole])), (h_row, .inl (cI, 1420, .inl f_33))]) [2, 0] rfl
                            have hDc := hD.sub (ws' := [(h, .inr (9, [.int h_code, .int h_taped, .ref h_tape, .int h_size, .ref h_text, .double h_value, .int h_out, .ref h_output, .int h_illAt, .ref h_format, .int h_sections, .int h_items, .ref h_kind, .ref h_what, .ref h_of, .ref h_relation, .ref h_bound, .int h_reads, .int h_readSections, .ref h_readKind, .ref h_readWhat, .ref h_readOf, .ref h_place, .ref h_readRelation, .ref h_readBound, .int h_stop, .ref h_meant, .ref h_row, .ref h_exact, .ref h_error, .ref h_bestError, .long x_34, .int u_32, .ref h_digits, .int h_whole])), (h_row, .inl (cI, 1420, .inl f_33))]) [2, 0] (by decide) rfl
                            have hFc := va_free (wc := [(h, .inr (9, [.int h_code, .int h_taped, .ref h_tape, .int h_size, .ref h_text, .double h_value, .int h_out, .ref h_output, .int h_illAt, .ref h_format, .int h_sections, .int h_items, .ref h_kind, .ref h_what, .ref h_of, .ref h_relation, .ref h_bound, .int h_reads, .int h_readSections, .ref h_readKind, .ref h_readWhat, .ref h_readOf, .ref h_place, .ref h_readRelation, .ref h_readBound, .int h_stop, .ref h_meant, .ref h_row, .ref h_exact, .ref h_error, .ref h_bestError, .long x_34, .int u_32, .ref h_digits, .int h_whole])), (h_row, .inl (cI, 1420, .inl f_33))]) hD hS hA [2, 0] rfl
                            refine va_callv (va_runV (As := [.long y_41, .int x_42]) (rest := []) ⟨hx, hb, hml, hown, (dr_words hts _)⟩ (c_X12_expand l D cI cD cJ H.size h h_code h_taped h_tape h_size h_text h_value h_out h_output h_illAt h_format h_sections h_items h_kind h_what h_of h_relation h_bound h_reads h_readSections h_readKind h_readWhat h_readOf h_place h_readRelation h_readBound h_stop h_meant h_row h_exact h_error h_bestError x_34 u_32 h_digits h_whole f_33 y_41 x_42 (by omega) (by omega) (by assumption) (by omega) (by omega) (by omega) (by omega) (by omega) (by omega)) (cwV 2 (dr_words hts _) (goodIn_app (goodIn_r _ [13, 14, 15, 4] rfl (by decide +kernel)) (goodIn_sub i_X12_expand k_X12_expand)) rfl rfl rfl (by decide +kernel) ⟨Nat.le_of_ble_eq_true rfl, Nat.le_of_ble_eq_true rfl⟩) ⟨fun a U g mk q => by obtain ⟨q0, q1, qP, qK, qD⟩ := q; exact ⟨q0, q1, qP, va_K.moved (u := U) (U := U.calling g mk a) (Vm.Alike.refl U.vm) qK, qD⟩, va_recv hK hPc (ci := 9) (q0 := 0) rfl rfl, fun U hU hW => ⟨rfl, by rw [hU], by rw [hU]; exact hPc, va_K.moved hW.alike hK, hDc.weaken (fun _ _ _ _ => trivial)⟩⟩ rfl rfl hl.1 rfl (lv_room (Nat.le_of_ble_eq_true rfl)) dX12_nearest_189 ⟨Nat.le_of_ble_eq_true rfl, Nat.le_of_ble_eq_true rfl⟩) hS (fun q _ h => hFc q h) hFc (fun u t H1 locs ht hvm w_43 hB hz1 hk1 hS => ?_)
                            generalize u = u_44 at w_43 hB
                            obtain ⟨hP1, hK1, hD1⟩ := hB
                            rw [ht] at hP1
                            try dsimp only at w_43
                            obtain ⟨hP, hD⟩ := va_join (wr := [(h_meant, .inl (cI, 1420, .inl f_12))]) (w1 := [(h, .inr (9, [.int h_code, .int h_taped, .ref h_tape, .int h_size, .ref h_text, .double h_value, .int h_out, .ref h_output, .int h_illAt, .ref h_format, .int h_sections, .int h_items, .ref h_kind, .ref h_what, .ref h_of, .ref h_relation, .ref h_bound, .int h_reads, .int h_readSections, .ref h_readKind, .ref h_readWhat, .ref h_readOf, .ref h_place, .ref h_readRelation, .ref h_readBound, .int h_stop, .ref h_meant, .ref h_row, .ref h_exact, .ref h_error, .ref h_bestError, .long x_34, .int u_32, .ref h_digits, .int h_whole])), (h_row, .inl (cI, 1420, .inl u_44))]) hP hD [2, 0] [1] rfl rfl (by decide) (by decide) hk1 hFc hP1 hD1
                            generalize H1 = H at hP hS ⊢
                            have hP : va_P D vwCl [(h_meant, .inl (cI, 1420, .inl f_12)), (h, .inr (9, [.int h_code, .int h_taped, .ref h_tape, .int h_size, .ref h_text, .double h_value, .int h_out, .ref h_output, .int h_illAt, .ref h_format, .int h_sections, .int h_items, .ref h_kind, .ref h_what, .ref h_of, .ref h_relation, .ref h_bound, .int h_reads, .int h_readSections, .ref h_readKind, .ref h_readWhat, .ref h_readOf, .ref h_place, .ref h_readRelation, .ref h_readBound, .int h_stop, .ref h_meant, .ref h_row, .ref h_exact, .ref h_error, .ref h_bestError, .long x_34, .int u_32, .ref h_digits, .int h_whole])), (h_row, .inl (cI, 1420, .inl u_44))] H := hP
                            have hD : va_D A [(h_meant, .inl (cI, 1420, .inl f_12)), (h, .inr (9, [.int h_code, .int h_taped, .ref h_tape, .int h_size, .ref h_text, .double h_value, .int h_out, .ref h_output, .int h_illAt, .ref h_format, .int h_sections, .int h_items, .ref h_kind, .ref h_what, .ref h_of, .ref h_relation, .ref h_bound, .int h_reads, .int h_readSections, .ref h_readKind, .ref h_readWhat, .ref h_readOf, .ref h_place, .ref h_readRelation, .ref h_readBound, .int h_stop, .ref h_meant, .ref h_row, .ref h_exact, .ref h_error, .ref h_bestError, .long x_34, .int u_32, .ref h_digits, .int h_whole])), (h_row, .inl (cI, 1420, .inl u_44))] := hD
                            have hx1 := w_43
                            refine lv_aload_n hx hb dX12_nearest_192 rfl (lv_at hl 1 rfl) ?_
                            refine va_get (s := s.setDrawn dq170_38) (D := D) (ci := 9) (v := .ref h_meant) (C := RX12) (T := TX12) (N := 35) hx hb (dr_words hts _) iX12 hown hK hP 1 rfl rfl 26 (by decide) (hw 0 (.fieldLink RX12 60 "NumberFormatsModel" "meant" "[I") rfl) (fun _ h9 => h9) rfl dX12_nearest_193 ?_
                            refine lv_aload_n hx hb dX12_nearest_196 rfl (lv_at hl 1 rfl) ?_
                            refine va_get (s := s.setDrawn dq170_38) (D := D) (ci := 9) (v := .ref h_row) (C := RX12) (T := TX12) (N := 35) hx hb (dr_words hts _) iX12 hown hK hP 1 rfl rfl 27 (by decide) (hw 15 (.fieldLink RX12 63 "NumberFormatsModel" "row" "[I") rfl) (fun _ h9 => h9) rfl dX12_nearest_197 ?_
                            have hPc := hP.sub (ws' := [(h_meant, .inl (cI, 1420, .inl f_12)), (h_row, .inl (cI, 1420, .inl u_44))]) [0, 2] rfl
                            refine va_calli (va_runS (As := [.ref h_meant, .ref h_row]) (rest := []) ⟨hx, hb, hml, hown, (dr_words hts _)⟩ (c_X12_compare l D cI cD cJ H.size h_meant f_12 h_row u_44) (va_cwS 2 (dr_words hts _) (goodIn_app (goodIn_r _ [17, 18, 4] rfl (by decide +kernel)) (goodIn_sub i_X12_compare k_X12_compare)) rfl rfl rfl (by decide +kernel) ⟨Nat.le_of_ble_eq_true rfl, Nat.le_of_ble_eq_true rfl⟩) ⟨fun a U g mk q => by obtain ⟨q0, qP, qK⟩ := q; exact ⟨q0, qP, va_K.moved (u := U) (U := U.calling g mk a) (Vm.Alike.refl U.vm) qK⟩, fun U hU hW => ⟨rfl, by rw [hU]; exact hPc, va_K.moved hW.alike hK⟩⟩ rfl rfl hl.1 rfl (lv_room (Nat.le_of_ble_eq_true rfl)) dX12_nearest_200 ⟨Nat.le_of_ble_eq_true rfl, Nat.le_of_ble_eq_true rfl⟩) hS (fun q _ h => h.elim) (fun q h => h.elim) (fun x_45 u t H1 locs ht hvm w_46 hB hz1 hk1 hS => ?_)
                            have hP : va_P D vwCl [(h_meant, .inl (cI, 1420, .inl f_12)), (h, .inr (9, [.int h_code, .int h_taped, .ref h_tape, .int h_size, .ref h_text, .double h_value, .int h_out, .ref h_output, .int h_illAt, .ref h_format, .int h_sections, .int h_items, .ref h_kind, .ref h_what, .ref h_of, .ref h_relation, .ref h_bound, .int h_reads, .int h_readSections, .ref h_readKind, .ref h_readWhat, .ref h_readOf, .ref h_place, .ref h_readRelation, .ref h_readBound, .int h_stop, .ref h_meant, .ref h_row, .ref h_exact, .ref h_error, .ref h_bestError, .long x_34, .int u_32, .ref h_digits, .int h_whole])), (h_row, .inl (cI, 1420, .inl u_44))] H1 := hP.kept (fun k9 q9 h9 => hk1 q9.1 (vx_lt hP h9) (fun h => h))
                            generalize H1 = H at hP hS ⊢
                            try dsimp only at w_46
                            have b_x_45 := ti_b x_45
                            have hup := NUp_of g152_0 hx1 (by omega) (by omega) w_46
                            refine lv_istore (lv' := [(11, .int x_45), (10, .int z_39), (0, .ref h)]) hx hb dX12_nearest_203 hl (by decide) rfl (fun ls hl => ?_)
                            refine lv_iload hx hb dX12_nearest_205 (lv_at hl 0 rfl) ?_
                            have K_220 : ∀ (H : Heap) (locs : List Loc) (ls : Array Slot) (dq220_47 : Drawn), s.drawn.sameBut dq220_47 lw_cs → (NUp f_12 x_34 u_32) → va_P D vwCl [(h_meant, .inl (cI, 1420, .inl f_12)), (h, .inr (9, [.int h_code, .int h_taped, .ref h_tape, .int h_size, .ref h_text, .double h_value, .int h_out, .ref h_output, .int h_illAt, .ref h_format, .int h_sections, .int h_items, .ref h_kind, .ref h_what, .ref h_of, .ref h_relation, .ref h_bound, .int h_reads, .int h_readSections, .ref h_readKind, .ref h_readWhat, .ref h_readOf, .ref h_place, .ref h_readRelation, .ref h_readBound, .int h_stop, .ref h_meant, .ref h_row, .ref h_exact, .ref h_error, .ref h_bestError, .long x_34, .int u_32, .ref h_digits, .int h_whole])), (h_row, .inl (cI, 1420, .inl u_44))] H → va_D A [(h_meant, .inl (cI, 1420, .inl f_12)), (h, .inr (9, [.int h_code, .int h_taped, .ref h_tape, .int h_size, .ref h_text, .double h_value, .int h_out, .ref h_output, .int h_illAt, .ref h_format, .int h_sections, .int h_items, .ref h_kind, .ref h_what, .ref h_of, .ref h_relation, .ref h_bound, .int h_reads, .int h_readSections, .ref h_readKind, .ref h_readWhat, .ref h_readOf, .ref h_place, .ref h_readRelation, .ref h_readBound, .int h_stop, .ref h_meant, .ref h_row, .ref h_exact, .ref h_error, .ref h_bestError, .long x_34, .int u_32, .ref h_digits, .int h_whole])), (h_row, .inl (cI, 1420, .inl u_44))] → va_S A s.heap H locs → lv_has ls 13 [(0, .ref h)] → Z dq220_47 0 0 H locs (F0 m 220 ls []) := by
                              intro  H locs ls dq220_47 hdq220_47 g220_0 hP hD hS hl
                              refine hZ2 ?_
                              refine lv_aload_n hx hb dX12_nearest_220 rfl (lv_at hl 0 rfl) ?_
                              refine lv_dup hx hb dX12_nearest_221 rfl ?_
                              refine va_get (s := s.setDrawn dq220_47) (D := D) (ci := 9) (v := .long x_34) (C := RX12) (T := TX12) (N := 35) hx hb (dr_words hts _) iX12 hown hK hP 1 rfl rfl 31 (by decide) (hw 9 (.fieldLink RX12 134 "NumberFormatsModel" "m" "J") rfl) (fun _ h9 => h9) rfl dX12_nearest_222 ?_
                              refine lv_lconst (v := 1) hx hb dX12_nearest_225 (by decide) ?_
                              refine lv_ladd hx hb dX12_nearest_226 ?_
                              refine lv_topl (fun y_48 ey_48 => ?_)
                              have b_x_34 := tl_b x_34
                              have ty_48 := tl_add ey_48
                              refine va_put (s := s.setDrawn dq220_47) (D := D) (ci := 9) (v := .long y_48) (ty := .long) (C := RX12) (T := TX12) (N := 35) hx hb (dr_words hts _) iX12 tyX12 tyX12_ok nmX12 hown hK hP hD hS 1 rfl rfl 31 (by decide) (hw 9 (.fieldLink RX12 134 "NumberFormatsModel" "m" "J") rfl) (fun _ h9 => h9) rfl (by decide +kernel) rfl rfl (Nat.le_of_ble_eq_true rfl) dX12_nearest_227 (fun H locs hP hD hS => ?_)
                              have hP : va_P D vwCl [(h_meant, .inl (cI, 1420, .inl f_12)), (h, .inr (9, [.int h_code, .int h_taped, .ref h_tape, .int h_size, .ref h_text, .double h_value, .int h_out, .ref h_output, .int h_illAt, .ref h_format, .int h_sections, .int h_items, .ref h_kind, .ref h_what, .ref h_of, .ref h_relation, .ref h_bound, .int h_reads, .int h_readSections, .ref h_readKind, .ref h_readWhat, .ref h_readOf, .ref h_place, .ref h_readRelation, .ref h_readBound, .int h_stop, .ref h_meant, .ref h_row, .ref h_exact, .ref h_error, .ref h_bestError, .long y_48, .int u_32, .ref h_digits, .int h_whole])), (h_row, .inl (cI, 1420, .inl u_44))] H := hP
                              have hD : va_D A [(h_meant, .inl (cI, 1420, .inl f_12)), (h, .inr (9, [.int h_code, .int h_taped, .ref h_tape, .int h_size, .ref h_text, .double h_value, .int h_out, .ref h_output, .int h_illAt, .ref h_format, .int h_sections, .int h_items, .ref h_kind, .ref h_what, .ref h_of, .ref h_relation, .ref h_bound, .int h_reads, .int h_readSections, .ref h_readKind, .ref h_readWhat, .ref h_readOf, .ref h_place, .ref h_readRelation, .ref h_readBound, .int h_stop, .ref h_meant, .ref h_row, .ref h_exact, .ref h_error, .ref h_bestError, .long y_48, .int u_32, .ref h_digits, .int h_whole])), (h_row, .inl (cI, 1420, .inl u_44))] := hD
                              have hnr := NR_up (m' := y_48) g152_0 g220_0 (by omega)
                              have hnr2 := hnr.2
                              refine lv_goto (tgt := 152) hx hb dX12_nearest_230 (by decide) ?_
                              exact hZ1 (ih_152 u_44 y_48 _ _ _ dq220_47 hdq220_47 hnr.1 (by omega) (hP.sub [2, 0, 1] rfl) (hD.sub [2, 0, 1] (by decide) rfl) hS hl)
                            refine lv_if_gt (tgt := 220) hx hb dX12_nearest_207 (by decide) (fun c_49 => ?_) (fun c_49 => ?_)
                            · have ic_49 : (0 : Int32).toInt < (x_45 : Int32).toInt := (fa_lt 0 x_45).mp c_49
                              exact hZ1 (K_220  _ _ _ dq170_38 hdq170_38 (hup.1 (by omega)) hP hD hS (lv_sub hl [2] rfl))
                            · have ic_49 : ¬ ((0 : Int32).toInt < (x_45 : Int32).toInt) := fun h9 => c_49 ((fa_lt 0 x_45).mpr h9)
                              refine lv_iload hx hb dX12_nearest_210 (lv_at hl 0 rfl) ?_
                              have K_233 : ∀ (H : Heap) (locs : List Loc) (ls : Array Slot) (dq233_50 : Drawn), s.drawn.sameBut dq233_50 lw_cs → va_P D vwCl [(h_meant, .inl (cI, 1420, .inl f_12)), (h, .inr (9, [.int h_code, .int h_taped, .ref h_tape, .int h_size, .ref h_text, .double h_value, .int h_out, .ref h_output, .int h_illAt, .ref h_format, .int h_sections, .int h_items, .ref h_kind, .ref h_what, .ref h_of, .ref h_relation, .ref h_bound, .int h_reads, .int h_readSections, .ref h_readKind, .ref h_readWhat, .ref h_readOf, .ref h_place, .ref h_readRelation, .ref h_readBound, .int h_stop, .ref h_meant, .ref h_row, .ref h_exact, .ref h_error, .ref h_bestError, .long x_34, .int u_32, .ref h_digits, .int h_whole])), (h_row, .inl (cI, 1420, .inl u_44))] H → va_D A [(h_meant, .inl (cI, 1420, .inl f_12)), (h, .inr (9, [.int h_code, .int h_taped, .ref h_tape, .int h_size, .ref h_text, .double h_value, .int h_out, .ref h_output, .int h_illAt, .ref h_format, .int h_sections, .int h_items, .ref h_kind, .ref h_what, .ref h_of, .ref h_relation, .ref h_bound, .int h_reads, .int h_readSections, .ref h_readKind, .ref h_readWhat, .ref h_readOf, .ref h_place, .ref h_readRelation, .ref h_readBound, .int h_stop, .ref h_meant, .ref h_row, .ref h_exact, .ref h_error, .ref h_bestError, .long x_34, .int u_32, .ref h_digits, .int h_whole])), (h_row, .inl (cI, 1420, .inl u_44))] → va_S A s.heap H locs → lv_has ls 13 [(10, .int z_39), (0, .ref h)] → Z dq233_50 0 0 H locs (F0 m 233 ls []) := by
                                intro  H locs ls dq233_50 hdq233_50  hP hD hS hl
                                refine hZ2 ?_
                                refine lv_aload_n hx hb dX12_nearest_233 rfl (lv_at hl 1 rfl) ?_
                                refine va_get (s := s.setDrawn dq233_50) (D := D) (ci := 9) (v := .long x_34) (C := RX12) (T := TX12) (N := 35) hx hb (dr_words hts _) iX12 hown hK hP 1 rfl rfl 31 (by decide) (hw 9 (.fieldLink RX12 134 "NumberFormatsModel" "m" "J") rfl) (fun _ h9 => h9) rfl dX12_nearest_234 ?_
                                refine lv_ldc2 (v := 4503599627370496) hx hb hown (hw 18 (.constantLong RX12 159 (4503599627370496)) rfl) dX12_nearest_237 ?_
                                refine W.lcmp hx hb dX12_nearest_240 ?_
                                refine lv_topi (fun x_51 ex_51 => ?_)
                                have tx_51 := ti_lcmp ex_51
                                have K_287 : ∀ (f_52 : Nat → Int32) (H : Heap) (locs : List Loc) (ls : Array Slot) (dq287_53 : Drawn), s.drawn.sameBut dq287_53 lw_cs → (dg f_52 ∧ vl f_52 = NLo x_34 u_32) → va_P D vwCl [(h_meant, .inl (cI, 1420, .inl f_12)), (h, .inr (9, [.int h_code, .int h_taped, .ref h_tape, .int h_size, .ref h_text, .double h_value, .int h_out, .ref h_output, .int h_illAt, .ref h_format, .int h_sections, .int h_items, .ref h_kind, .ref h_what, .ref h_of, .ref h_relation, .ref h_bound, .int h_reads, .int h_readSections, .ref h_readKind, .ref h_readWhat, .ref h_readOf, .ref h_place, .ref h_readRelation, .ref h_readBound, .int h_stop, .ref h_meant, .ref h_row, .ref h_exact, .ref h_error, .ref h_bestError, .long x_34, .int u_32, .ref h_digits, .int h_whole])), (h_row, .inl (cI, 1420, .inl f_52))] H → va_D A [(h_meant, .inl (cI, 1420, .inl f_12)), (h, .inr (9, [.int h_code, .int h_taped, .ref h_tape, .int h_size, .ref h_text, .double h_value, .int h_out, .ref h_output, .int h_illAt, .ref h_format, .int h_sections, .int h_items, .ref h_kind, .ref h_what, .ref h_of, .ref h_relation, .ref h_bound, .int h_reads, .int h_readSections, .ref h_readKind, .ref h_readWhat, .ref h_readOf, .ref h_place, .ref h_readRelation, .ref h_readBound, .int h_stop, .ref h_meant, .ref h_row, .ref h_exact, .ref h_error, .ref h_bestError, .long x_34, .int u_32, .ref h_digits, .int h_whole])), (h_row, .inl (cI, 1420, .inl f_52))] → va_S A s.heap H locs → lv_has ls 13 [(10, .int z_39), (0, .ref h)] → Z dq287_53 0 0 H locs (F0 m 287 ls []) := by
                                  intro f_52 H locs ls dq287_53 hdq287_53 g287_0 hP hD hS hl
                                  refine hZ2 ?_
                                  refine lv_aload_n hx hb dX12_nearest_287 rfl (lv_at hl 1 rfl) ?_
                                  refine va_get (s := s.setDrawn dq287_53) (D := D) (ci := 9) (v := .ref h_meant) (C := RX12) (T := TX12) (N := 35) hx hb (dr_words hts _) iX12 hown hK hP 1 rfl rfl 26 (by decide) (hw 0 (.fieldLink RX12 60 "NumberFormatsModel" "meant" "[I") rfl) (fun _ h9 => h9) rfl dX12_nearest_288 ?_
                                  refine lv_aload_n hx hb dX12_nearest_291 rfl (lv_at hl 1 rfl) ?_
                                  refine va_get (s := s.setDrawn dq287_53) (D := D) (ci := 9) (v := .ref h_row) (C := RX12) (T := TX12) (N := 35) hx hb (dr_words hts _) iX12 hown hK hP 1 rfl rfl 27 (by decide) (hw 15 (.fieldLink RX12 63 "NumberFormatsModel" "row" "[I") rfl) (fun _ h9 => h9) rfl dX12_nearest_292 ?_
                                  have hPc := hP.sub (ws' := [(h_meant, .inl (cI, 1420, .inl f_12)), (h_row, .inl (cI, 1420, .inl f_52))]) [0, 2] rfl
                                  refine va_calli (va_runS (As := [.ref h_meant, .ref h_row]) (rest := []) ⟨hx, hb, hml, hown, (dr_words hts _)⟩ (c_X12_compare l D cI cD cJ H.size h_meant f_12 h_row f_52) (va_cwS 2 (dr_words hts _) (goodIn_app (goodIn_r _ [17, 18, 4] rfl (by decide +kernel)) (goodIn_sub i_X12_compare k_X12_compare)) rfl rfl rfl (by decide +kernel) ⟨Nat.le_of_ble_eq_true rfl, Nat.le_of_ble_eq_true rfl⟩) ⟨fun a U g mk q => by obtain ⟨q0, qP, qK⟩ := q; exact ⟨q0, qP, va_K.moved (u := U) (U := U.calling g mk a) (Vm.Alike.refl U.vm) qK⟩, fun U hU hW => ⟨rfl, by rw [hU]; exact hPc, va_K.moved hW.alike hK⟩⟩ rfl rfl hl.1 rfl (lv_room (Nat.le_of_ble_eq_true rfl)) dX12_nearest_295 ⟨Nat.le_of_ble_eq_true rfl, Nat.le_of_ble_eq_true rfl⟩) hS (fun q _ h => h.elim) (fun q h => h.elim) (fun x_54 u t H1 locs ht hvm w_55 hB hz1 hk1 hS => ?_)
                                  have hP : va_P D vwCl [(h_meant, .inl (cI, 1420, .inl f_12)), (h, .inr (9, [.int h_code, .int h_taped, .ref h_tape, .int h_size, .ref h_text, .double h_value, .int h_out, .ref h_output, .int h_illAt, .ref h_format, .int h_sections, .int h_items, .ref h_kind, .ref h_what, .ref h_of, .ref h_relation, .ref h_bound, .int h_reads, .int h_readSections, .ref h_readKind, .ref h_readWhat, .ref h_readOf, .ref h_place, .ref h_readRelation, .ref h_readBound, .int h_stop, .ref h_meant, .ref h_row, .ref h_exact, .ref h_error, .ref h_bestError, .long x_34, .int u_32, .ref h_digits, .int h_whole])), (h_row, .inl (cI, 1420, .inl f_52))] H1 := hP.kept (fun k9 q9 h9 => hk1 q9.1 (vx_lt hP h9) (fun h => h))
                                  generalize H1 = H at hP hS ⊢
                                  try dsimp only at w_55
                                  have b_x_54 := ti_b x_54
                                  have hdn := NDn_of g152_0 g287_0 w_55
                                  refine lv_istore (lv' := [(12, .int x_54), (10, .int z_39), (0, .ref h)]) hx hb dX12_nearest_298 hl (by decide) rfl (fun ls hl => ?_)
                                  refine lv_iload hx hb dX12_nearest_300 (lv_at hl 0 rfl) ?_
                                  have K_331 : ∀ (H : Heap) (locs : List Loc) (ls : Array Slot) (dq331_56 : Drawn), s.drawn.sameBut dq331_56 lw_cs → va_P D vwCl [(h_meant, .inl (cI, 1420, .inl f_12)), (h, .inr (9, [.int h_code, .int h_taped, .ref h_tape, .int h_size, .ref h_text, .double h_value, .int h_out, .ref h_output, .int h_illAt, .ref h_format, .int h_sections, .int h_items, .ref h_kind, .ref h_what, .ref h_of, .ref h_relation, .ref h_bound, .int h_reads, .int h_readSections, .ref h_readKind, .ref h_readWhat, .ref h_readOf, .ref h_place, .ref h_readRelation, .ref h_readBound, .int h_stop, .ref h_meant, .ref h_row, .ref h_exact, .ref h_error, .ref h_bestError, .long x_34, .int u_32, .ref h_digits, .int h_whole])), (h_row, .inl (cI, 1420, .inl f_52))] H → va_D A [(h_meant, .inl (cI, 1420, .inl f_12)), (h, .inr (9, [.int h_code, .int h_taped, .ref h_tape, .int h_size, .ref h_text, .double h_value, .int h_out, .ref h_output, .int h_illAt, .ref h_format, .int h_sections, .int h_items, .ref h_kind, .ref h_what, .ref h_of, .ref h_relation, .ref h_bound, .int h_reads, .int h_readSections, .ref h_readKind, .ref h_readWhat, .ref h_readOf, .ref h_place, .ref h_readRelation, .ref h_readBound, .int h_stop, .ref h_meant, .ref h_row, .ref h_exact, .ref h_error, .ref h_bestError, .long x_34, .int u_32, .ref h_digits, .int h_whole])), (h_row, .inl (cI, 1420, .inl f_52))] → va_S A s.heap H locs → lv_has ls 13 [(0, .ref h)] → Z dq331_56 0 0 H locs (F0 m 331 ls []) := by
                                    intro  H locs ls dq331_56 hdq331_56  hP hD hS hl
                                    refine hZ2 ?_
                                    refine lv_aload_n hx hb dX12_nearest_331 rfl (lv_at hl 0 rfl) ?_
                                    refine va_get (s := s.setDrawn dq331_56) (D := D) (ci := 9) (v := .long x_34) (C := RX12) (T := TX12) (N := 35) hx hb (dr_words hts _) iX12 hown hK hP 1 rfl rfl 31 (by decide) (hw 9 (.fieldLink RX12 134 "NumberFormatsModel" "m" "J") rfl) (fun _ h9 => h9) rfl dX12_nearest_332 ?_
                                    refine lv_l2d hx hb dX12_nearest_335 ?_
                                    refine lv_topd (fun d_57 ed_57 => ?_)
                                    refine lv_dstore (lv' := [(10, .double d_57), (0, .ref h)]) hx hb dX12_nearest_336 hl (by decide) rfl (fun ls hl => ?_)
                                    refine lv_iconst (v := 0) hx hb dX12_nearest_338 (by decide) ?_
                                    refine lv_istore (lv' := [(12, .int 0), (10, .double d_57), (0, .ref h)]) hx hb dX12_nearest_339 hl (by decide) rfl (fun ls hl => ?_)
                                    have L_341 : ∀ (N : Nat) (x_58 : Int32) (d_59 : UInt64) (H : Heap) (locs : List Loc) (ls : Array Slot) (dq341_60 : Drawn), s.drawn.sameBut dq341_60 lw_cs → ((2147483647 - (x_58 : Int32).toInt).toNat < N) → va_P D vwCl [(h_meant, .inl (cI, 1420, .inl f_12)), (h, .inr (9, [.int h_code, .int h_taped, .ref h_tape, .int h_size, .ref h_text, .double h_value, .int h_out, .ref h_output, .int h_illAt, .ref h_format, .int h_sections, .int h_items, .ref h_kind, .ref h_what, .ref h_of, .ref h_relation, .ref h_bound, .int h_reads, .int h_readSections, .ref h_readKind, .ref h_readWhat, .ref h_readOf, .ref h_place, .ref h_readRelation, .ref h_readBound, .int h_stop, .ref h_meant, .ref h_row, .ref h_exact, .ref h_error, .ref h_bestError, .long x_34, .int u_32, .ref h_digits, .int h_whole])), (h_row, .inl (cI, 1420, .inl f_52))] H → va_D A [(h_meant, .inl (cI, 1420, .inl f_12)), (h, .inr (9, [.int h_code, .int h_taped, .ref h_tape, .int h_size, .ref h_text, .double h_value, .int h_out, .ref h_output, .int h_illAt, .ref h_format, .int h_sections, .int h_items, .ref h_kind, .ref h_what, .ref h_of, .ref h_relation, .ref h_bound, .int h_reads, .int h_readSections, .ref h_readKind, .ref h_readWhat, .ref h_readOf, .ref h_place, .ref h_readRelation, .ref h_readBound, .int h_stop, .ref h_meant, .ref h_row, .ref h_exact, .ref h_error, .ref h_bestError, .long x_34, .int u_32, .ref h_digits, .int h_whole])), (h_row, .inl (cI, 1420, .inl f_52))] → va_S A s.heap H locs → lv_has ls 13 [(12, .int x_58), (10, .double d_59), (0, .ref h)] → Z dq341_60 0 0 H locs (F0 m 341 ls []) := by
                                      intro N
                                      induction N with
                                      | zero => intro _ _ _ _ _ _ _ hmu; exact absurd hmu (Nat.not_lt_zero _)
                                      | succ N ih_341 =>
                                        intro x_58 d_59 H locs ls dq341_60 hdq341_60  hmu hP hD hS hl
                                        refine hZ2 ?_
                                        refine lv_iload hx hb dX12_nearest_341 (lv_at hl 0 rfl) ?_
                                        refine lv_aload_n hx hb dX12_nearest_343 rfl (lv_at hl 2 rfl) ?_
                                        refine va_get (s := s.setDrawn dq341_60) (D := D) (ci := 9) (v := .int u_32) (C := RX12) (T := TX12) (N := 35) hx hb (dr_words hts _) iX12 hown hK hP 1 rfl rfl 32 (by decide) (hw 11 (.fieldLink RX12 123 "NumberFormatsModel" "e" "I") rfl) (fun _ h9 => h9) rfl dX12_nearest_344 ?_
                                        refine lv_icmp_ge (tgt := 364) hx hb dX12_nearest_347 (by decide) (fun c_61 => ?_) (fun c_61 => ?_)
                                        · have ic_61 : (u_32 : Int32).toInt ≤ (x_58 : Int32).toInt := (fa_le u_32 x_58).mp c_61
                                          refine lv_iconst (v := 0) hx hb dX12_nearest_364 (by decide) ?_
                                          refine lv_istore (lv' := [(12, .int 0), (10, .double d_59), (0, .ref h)]) hx hb dX12_nearest_365 hl (by decide) rfl (fun ls hl => ?_)
                                          have L_367 : ∀ (N : Nat) (x_62 : Int32) (d_63 : UInt64) (H : Heap) (locs : List Loc) (ls : Array Slot) (dq367_64 : Drawn), s.drawn.sameBut dq367_64 lw_cs → (((x_62 : Int32).toInt + 2147483648).toNat < N) → va_P D vwCl [(h_meant, .inl (cI, 1420, .inl f_12)), (h, .inr (9, [.int h_code, .int h_taped, .ref h_tape, .int h_size, .ref h_text, .double h_value, .int h_out, .ref h_output, .int h_illAt, .ref h_format, .int h_sections, .int h_items, .ref h_kind, .ref h_what, .ref h_of, .ref h_relation, .ref h_bound, .int h_reads, .int h_readSections, .ref h_readKind, .ref h_readWhat, .ref h_readOf, .ref h_place, .ref h_readRelation, .ref h_readBound, .int h_stop, .ref h_meant, .ref h_row, .ref h_exact, .ref h_error, .ref h_bestError, .long x_34, .int u_32, .ref h_digits, .int h_whole])), (h_row, .inl (cI, 1420, .inl f_52))] H → va_D A [(h_meant, .inl (cI, 1420, .inl f_12)), (h, .inr (9, [.int h_code, .int h_taped, .ref h_tape, .int h_size, .ref h_text, .double h_value, .int h_out, .ref h_output, .int h_illAt, .ref h_format, .int h_sections, .int h_items, .ref h_kind, .ref h_what, .ref h_of, .ref h_relation, .ref h_bound, .int h_reads, .int h_readSections, .ref h_readKind, .ref h_readWhat, .ref h_readOf, .ref h_place, .ref h_readRelation, .ref h_readBound, .int h_stop, .ref h_meant, .ref h_row, .ref h_exact, .ref h_error, .ref h_bestError, .long x_34, .int u_32, .ref h_digits, .int h_whole])), (h_row, .inl (cI, 1420, .inl f_52))] → va_S A s.heap H locs → lv_has ls 13 [(12, .int x_62), (10, .double d_63), (0, .ref h)] → Z dq367_64 0 0 H locs (F0 m 367 ls []) := by
                                            intro N
                                            induction N with
                                            | zero => intro _ _ _ _ _ _ _ hmu; exact absurd hmu (Nat.not_lt_zero _)
                                            | succ N ih_367 =>
                                              intro x_62 d_63 H locs ls dq367_64 hdq367_64  hmu hP hD hS hl
                                              refine hZ2 ?_
                                              refine lv_iload hx hb dX12_nearest_367 (lv_at hl 0 rfl) ?_
                                              refine lv_aload_n hx hb dX12_nearest_369 rfl (lv_at hl 2 rfl) ?_
                                              refine va_get (s := s.setDrawn dq367_64) (D := D) (ci := 9) (v := .int u_32) (C := RX12) (T := TX12) (N := 35) hx hb (dr_words hts _) iX12 hown hK hP 1 rfl rfl 32 (by decide) (hw 11 (.fieldLink RX12 123 "NumberFormatsModel" "e" "I") rfl) (fun _ h9 => h9) rfl dX12_nearest_370 ?_
                                              refine lv_icmp_le (tgt := 390) hx hb dX12_nearest_373 (by decide) (fun c_65 => ?_) (fun c_65 => ?_)
                                              · have ic_65 : (x_62 : Int32).toInt ≤ (u_32 : Int32).toInt := (fa_le x_62 u_32).mp c_65
                                                refine lv_dload hx hb dX12_nearest_390 (lv_at hl 1 rfl) ?_
                                                refine W.endD hdq367_64 ?_
                                                have hP9 := hP.sub (ws' := [(h, .inr (9, [.int h_code, .int h_taped, .ref h_tape, .int h_size, .ref h_text, .double h_value, .int h_out, .ref h_output, .int h_illAt, .ref h_format, .int h_sections, .int h_items, .ref h_kind, .ref h_what, .ref h_of, .ref h_relation, .ref h_bound, .int h_reads, .int h_readSections, .ref h_readKind, .ref h_readWhat, .ref h_readOf, .ref h_place, .ref h_readRelation, .ref h_readBound, .int h_stop, .ref h_meant, .ref h_row, .ref h_exact, .ref h_error, .ref h_bestError, .long x_34, .int u_32, .ref h_digits, .int h_whole])), (h_meant, .inl (cI, 1420, .inl f_12)), (h_row, .inl (cI, 1420, .inl f_52))]) [1, 0, 2] rfl
                                                have hD9 := hD.sub (ws' := [(h, .inr (9, [.int h_code, .int h_taped, .ref h_tape, .int h_size, .ref h_text, .double h_value, .int h_out, .ref h_output, .int h_illAt, .ref h_format, .int h_sections, .int h_items, .ref h_kind, .ref h_what, .ref h_of, .ref h_relation, .ref h_bound, .int h_reads, .int h_readSections, .ref h_readKind, .ref h_readWhat, .ref h_readOf, .ref h_place, .ref h_readRelation, .ref h_readBound, .int h_stop, .ref h_meant, .ref h_row, .ref h_exact, .ref h_error, .ref h_bestError, .long x_34, .int u_32, .ref h_digits, .int h_whole])), (h_meant, .inl (cI, 1420, .inl f_12)), (h_row, .inl (cI, 1420, .inl f_52))]) [1, 0, 2] (by decide) rfl
                                                exact W.dret (v := d_63) hx hb hr (fun t ht hW => ⟨⟨d_63, (x_34, u_32, f_12, f_52), rfl, trivial, by rw [ht]; exact hP9, va_K.moved hW.alike hK, hD9⟩, hS.F ht⟩) hS.2.2 dX12_nearest_392
                                              · have ic_65 : ¬ ((x_62 : Int32).toInt ≤ (u_32 : Int32).toInt) := fun h9 => c_65 ((fa_le x_62 u_32).mpr h9)
                                                refine lv_dload hx hb dX12_nearest_376 (lv_at hl 1 rfl) ?_
                                                refine lv_ldc2d (v := 4602678819172646912) hx hb hown (hw 19 (.constantDouble RX12 128 (4602678819172646912)) rfl) dX12_nearest_378 ?_
                                                refine lv_dmul_any hdq367_64 lw_bits hx hb dX12_nearest_381 (fun d_66 dhd_67 ad_66 hd_67 => ?_)
                                                refine lv_dstore (lv' := [(10, .double d_66), (12, .int x_62), (0, .ref h)]) hx hb dX12_nearest_382 hl (by decide) rfl (fun ls hl => ?_)
                                                obtain ⟨x_68, ex_68⟩ : ∃ y : Int32, y = x_62 + (-1) := ⟨_, rfl⟩
                                                have b_x_62 := ti_b x_62
                                                have tx_68 := ti_add ex_68
                                                refine lv_iinc (v := x_68) (lv' := [(12, .int x_68), (10, .double d_66), (0, .ref h)]) hx hb dX12_nearest_384 hl (k := 1) rfl (by rw [ex_68]; rfl) (by decide) rfl (fun ls hl => ?_)
                                                refine lv_goto (tgt := 367) hx hb dX12_nearest_387 (by decide) ?_
                                                exact hZ1 (ih_367 x_68 d_66 _ _ _ dhd_67 hd_67 (by omega) hP hD hS hl)
                                          exact hZ1 (L_367 ((((0 : Int32).toInt + 2147483648).toNat) + 1) 0 d_59 _ _ _ dq341_60 hdq341_60 (by omega) hP hD hS hl)
                                        · have ic_61 : ¬ ((u_32 : Int32).toInt ≤ (x_58 : Int32).toInt) := fun h9 => c_61 ((fa_le u_32 x_58).mpr h9)
                                          refine lv_dload hx hb dX12_nearest_350 (lv_at hl 1 rfl) ?_
                                          refine lv_ldc2d (v := 4611686018427387904) hx hb hown (hw 20 (.constantDouble RX12 132 (4611686018427387904)) rfl) dX12_nearest_352 ?_
                                          refine lv_dmul_any hdq341_60 lw_bits hx hb dX12_nearest_355 (fun d_69 dhd_70 ad_69 hd_70 => ?_)
                                          refine lv_dstore (lv' := [(10, .double d_69), (12, .int x_58), (0, .ref h)]) hx hb dX12_nearest_356 hl (by decide) rfl (fun ls hl => ?_)
                                          obtain ⟨x_71, ex_71⟩ : ∃ y : Int32, y = x_58 + 1 := ⟨_, rfl⟩
                                          have b_x_58 := ti_b x_58
                                          have tx_71 := ti_add ex_71
                                          refine lv_iinc (v := x_71) (lv' := [(12, .int x_71), (10, .double d_69), (0, .ref h)]) hx hb dX12_nearest_358 hl (k := 1) rfl (by rw [ex_71]; rfl) (by decide) rfl (fun ls hl => ?_)
                                          refine lv_goto (tgt := 341) hx hb dX12_nearest_361 (by decide) ?_
                                          exact hZ1 (ih_341 x_71 d_69 _ _ _ dhd_70 hd_70 (by omega) hP hD hS hl)
                                    exact hZ1 (L_341 (((2147483647 - (0 : Int32).toInt).toNat) + 1) 0 d_57 _ _ _ dq331_56 hdq331_56 (by omega) hP hD hS hl)
                                  refine lv_if_gt (tgt := 331) hx hb dX12_nearest_302 (by decide) (fun c_72 => ?_) (fun c_72 => ?_)
                                  · have ic_72 : (0 : Int32).toInt < (x_54 : Int32).toInt := (fa_lt 0 x_54).mp c_72
                                    exact hZ1 (K_331  _ _ _ dq287_53 hdq287_53 hP hD hS (lv_sub hl [2] rfl))
                                  · have ic_72 : ¬ ((0 : Int32).toInt < (x_54 : Int32).toInt) := fun h9 => c_72 ((fa_lt 0 x_54).mpr h9)
                                    refine lv_iload hx hb dX12_nearest_305 (lv_at hl 0 rfl) ?_
                                    have K_318 : ∀ (H : Heap) (locs : List Loc) (ls : Array Slot) (dq318_73 : Drawn), s.drawn.sameBut dq318_73 lw_cs → (vl f_12 < NLo x_34 u_32 ∨ (vl f_12 = NLo x_34 u_32 ∧ (x_34 : Int64).toInt.toNat % 2 = 1)) → va_P D vwCl [(h_meant, .inl (cI, 1420, .inl f_12)), (h, .inr (9, [.int h_code, .int h_taped, .ref h_tape, .int h_size, .ref h_text, .double h_value, .int h_out, .ref h_output, .int h_illAt, .ref h_format, .int h_sections, .int h_items, .ref h_kind, .ref h_what, .ref h_of, .ref h_relation, .ref h_bound, .int h_reads, .int h_readSections, .ref h_readKind, .ref h_readWhat, .ref h_readOf, .ref h_place, .ref h_readRelation, .ref h_readBound, .int h_stop, .ref h_meant, .ref h_row, .ref h_exact, .ref h_error, .ref h_bestError, .long x_34, .int u_32, .ref h_digits, .int h_whole])), (h_row, .inl (cI, 1420, .inl f_52))] H → va_D A [(h_meant, .inl (cI, 1420, .inl f_12)), (h, .inr (9, [.int h_code, .int h_taped, .ref h_tape, .int h_size, .ref h_text, .double h_value, .int h_out, .ref h_output, .int h_illAt, .ref h_format, .int h_sections, .int h_items, .ref h_kind, .ref h_what, .ref h_of, .ref h_relation, .ref h_bound, .int h_reads, .int h_readSections, .ref h_readKind, .ref h_readWhat, .ref h_readOf, .ref h_place, .ref h_readRelation, .ref h_readBound, .int h_stop, .ref h_meant, .ref h_row, .ref h_exact, .ref h_error, .ref h_bestError, .long x_34, .int u_32, .ref h_digits, .int h_whole])), (h_row, .inl (cI, 1420, .inl f_52))] → va_S A s.heap H locs → lv_has ls 13 [(0, .ref h)] → Z dq318_73 0 0 H locs (F0 m 318 ls []) := by
                                      intro  H locs ls dq318_73 hdq318_73 g318_0 hP hD hS hl
                                      refine hZ2 ?_
                                      refine lv_aload_n hx hb dX12_nearest_318 rfl (lv_at hl 0 rfl) ?_
                                      refine lv_dup hx hb dX12_nearest_319 rfl ?_
                                      refine va_get (s := s.setDrawn dq318_73) (D := D) (ci := 9) (v := .long x_34) (C := RX12) (T := TX12) (N := 35) hx hb (dr_words hts _) iX12 hown hK hP 1 rfl rfl 31 (by decide) (hw 9 (.fieldLink RX12 134 "NumberFormatsModel" "m" "J") rfl) (fun _ h9 => h9) rfl dX12_nearest_320 ?_
                                      refine lv_lconst (v := 1) hx hb dX12_nearest_323 (by decide) ?_
                                      refine lv_lsub hx hb dX12_nearest_324 ?_
                                      refine lv_topl (fun y_74 ey_74 => ?_)
                                      have b_x_34 := tl_b x_34
                                      have ty_74 := tl_sub ey_74
                                      refine va_put (s := s.setDrawn dq318_73) (D := D) (ci := 9) (v := .long y_74) (ty := .long) (C := RX12) (T := TX12) (N := 35) hx hb (dr_words hts _) iX12 tyX12 tyX12_ok nmX12 hown hK hP hD hS 1 rfl rfl 31 (by decide) (hw 9 (.fieldLink RX12 134 "NumberFormatsModel" "m" "J") rfl) (fun _ h9 => h9) rfl (by decide +kernel) rfl rfl (Nat.le_of_ble_eq_true rfl) dX12_nearest_325 (fun H locs hP hD hS => ?_)
                                      have hP : va_P D vwCl [(h_meant, .inl (cI, 1420, .inl f_12)), (h, .inr (9, [.int h_code, .int h_taped, .ref h_tape, .int h_size, .ref h_text, .double h_value, .int h_out, .ref h_output, .int h_illAt, .ref h_format, .int h_sections, .int h_items, .ref h_kind, .ref h_what, .ref h_of, .ref h_relation, .ref h_bound, .int h_reads, .int h_readSections, .ref h_readKind, .ref h_readWhat, .ref h_readOf, .ref h_place, .ref h_readRelation, .ref h_readBound, .int h_stop, .ref h_meant, .ref h_row, .ref h_exact, .ref h_error, .ref h_bestError, .long y_74, .int u_32, .ref h_digits, .int h_whole])), (h_row, .inl (cI, 1420, .inl f_52))] H := hP
                                      have hD : va_D A [(h_meant, .inl (cI, 1420, .inl f_12)), (h, .inr (9, [.int h_code, .int h_taped, .ref h_tape, .int h_size, .ref h_text, .double h_value, .int h_out, .ref h_output, .int h_illAt, .ref h_format, .int h_sections, .int h_items, .ref h_kind, .ref h_what, .ref h_of, .ref h_relation, .ref h_bound, .int h_reads, .int h_readSections, .ref h_readKind, .ref h_readWhat, .ref h_readOf, .ref h_place, .ref h_readRelation, .ref h_readBound, .int h_stop, .ref h_meant, .ref h_row, .ref h_exact, .ref h_error, .ref h_bestError, .long y_74, .int u_32, .ref h_digits, .int h_whole])), (h_row, .inl (cI, 1420, .inl f_52))] := hD
                                      have hnr := NR_dn (m' := y_74) g152_0 g318_0 (by omega)
                                      have hnr2 := hnr.2
                                      refine lv_goto (tgt := 152) hx hb dX12_nearest_328 (by decide) ?_
                                      exact hZ1 (ih_152 f_52 y_74 _ _ _ dq318_73 hdq318_73 hnr.1 (by omega) (hP.sub [2, 0, 1] rfl) (hD.sub [2, 0, 1] (by decide) rfl) hS hl)
                                    refine lv_if_ne (tgt := 318) hx hb dX12_nearest_307 (by decide) (fun c_75 => ?_) (fun c_75 => ?_)
                                    · have ic_75 : ¬ ((x_54 : Int32).toInt = (0 : Int32).toInt) := fun h9 => c_75 ((fa_eq x_54 0).mpr h9)
                                      exact hZ1 (K_318  _ _ _ dq287_53 hdq287_53 (hdn.1 (by omega)) hP hD hS (lv_sub hl [2] rfl))
                                    · have ic_75 : (x_54 : Int32).toInt = (0 : Int32).toInt := (fa_eq x_54 0).mp c_75
                                      refine lv_iload hx hb dX12_nearest_310 (lv_at hl 1 rfl) ?_
                                      refine lv_if_ne (tgt := 318) hx hb dX12_nearest_312 (by decide) (fun c_76 => ?_) (fun c_76 => ?_)
                                      · have ic_76 : ¬ ((z_39 : Int32).toInt = (0 : Int32).toInt) := fun h9 => c_76 ((fa_eq z_39 0).mpr h9)
                                        exact hZ1 (K_318  _ _ _ dq287_53 hdq287_53 (hdn.2 (by omega) (by omega)) hP hD hS (lv_sub hl [2] rfl))
                                      · have ic_76 : (z_39 : Int32).toInt = (0 : Int32).toInt := (fa_eq z_39 0).mp c_76
                                        refine lv_goto (tgt := 331) hx hb dX12_nearest_315 (by decide) ?_
                                        exact hZ1 (K_331  _ _ _ dq287_53 hdq287_53 hP hD hS (lv_sub hl [2] rfl))
                                refine lv_if_ne (tgt := 267) hx hb dX12_nearest_241 (by decide) (fun c_77 => ?_) (fun c_77 => ?_)
                                · have ic_77 : ¬ ((x_51 : Int32).toInt = (0 : Int32).toInt) := fun h9 => c_77 ((fa_eq x_51 0).mpr h9)
                                  refine lv_aload_n hx hb dX12_nearest_267 rfl (lv_at hl 1 rfl) ?_
                                  refine lv_ldc2 (v := 2) hx hb hown (hw 10 (.constantLong RX12 153 (2)) rfl) dX12_nearest_268 ?_
                                  refine lv_aload_n hx hb dX12_nearest_271 rfl (lv_at hl 1 rfl) ?_
                                  refine va_get (s := s.setDrawn dq233_50) (D := D) (ci := 9) (v := .long x_34) (C := RX12) (T := TX12) (N := 35) hx hb (dr_words hts _) iX12 hown hK hP 1 rfl rfl 31 (by decide) (hw 9 (.fieldLink RX12 134 "NumberFormatsModel" "m" "J") rfl) (fun _ h9 => h9) rfl dX12_nearest_272 ?_
                                  refine lv_lmul hx hb dX12_nearest_275 ?_
                                  refine lv_topl (fun y_78 ey_78 => ?_)
                                  have ty_78 := tl_mul ey_78
                                  rw [nl_2] at ty_78
                                  refine lv_lconst (v := 1) hx hb dX12_nearest_276 (by decide) ?_
                                  refine lv_lsub hx hb dX12_nearest_277 ?_
                                  refine lv_topl (fun y_79 ey_79 => ?_)
                                  have b_y_78 := tl_b y_78
                                  have ty_79 := tl_sub ey_79
                                  refine lv_aload_n hx hb dX12_nearest_278 rfl (lv_at hl 1 rfl) ?_
                                  refine va_get (s := s.setDrawn dq233_50) (D := D) (ci := 9) (v := .int u_32) (C := RX12) (T := TX12) (N := 35) hx hb (dr_words hts _) iX12 hown hK hP 1 rfl rfl 32 (by decide) (hw 11 (.fieldLink RX12 123 "NumberFormatsModel" "e" "I") rfl) (fun _ h9 => h9) rfl dX12_nearest_279 ?_
                                  refine lv_iconst (v := 1) hx hb dX12_nearest_282 (by decide) ?_
                                  refine lv_isub hx hb dX12_nearest_283 ?_
                                  refine lv_topi (fun x_80 ex_80 => ?_)
                                  have b_u_32 := ti_b u_32
                                  have tx_80 := ti_sub ex_80
                                  have hPc := hP.sub (ws' := [(h, .inr (9, [.int h_code, .int h_taped, .ref h_tape, .int h_size, .ref h_text, .double h_value, .int h_out, .ref h_output, .int h_illAt, .ref h_format, .int h_sections, .int h_items, .ref h_kind, .ref h_what, .ref h_of, .ref h_relation, .ref h_bound, .int h_reads, .int h_readSections, .ref h_readKind, .ref h_readWhat, .ref h_readOf, .ref h_place, .ref h_readRelation, .ref h_readBound, .int h_stop, .ref h_meant, .ref h_row, .ref h_exact, .ref h_error, .ref h_bestError, .long x_34, .int u_32, .ref h_digits, .int h_whole])), (h_row, .inl (cI, 1420, .inl u_44))]) [1, 2] rfl
                                  have hDc := hD.sub (ws' := [(h, .inr (9, [.int h_code, .int h_taped, .ref h_tape, .int h_size, .ref h_text, .double h_value, .int h_out, .ref h_output, .int h_illAt, .ref h_format, .int h_sections, .int h_items, .ref h_kind, .ref h_what, .ref h_of, .ref h_relation, .ref h_bound, .int h_reads, .int h_readSections, .ref h_readKind, .ref h_readWhat, .ref h_readOf, .ref h_place, .ref h_readRelation, .ref h_readBound, .int h_stop, .ref h_meant, .ref h_row, .ref h_exact, .ref h_error, .ref h_bestError, .long x_34, .int u_32, .ref h_digits, .int h_whole])), (h_row, .inl (cI, 1420, .inl u_44))]) [1, 2] (by decide) rfl
                                  have hFc := va_free (wc := [(h, .inr (9, [.int h_code, .int h_taped, .ref h_tape, .int h_size, .ref h_text, .double h_value, .int h_out, .ref h_output, .int h_illAt, .ref h_format, .int h_sections, .int h_items, .ref h_kind, .ref h_what, .ref h_of, .ref h_relation, .ref h_bound, .int h_reads, .int h_readSections, .ref h_readKind, .ref h_readWhat, .ref h_readOf, .ref h_place, .ref h_readRelation, .ref h_readBound, .int h_stop, .ref h_meant, .ref h_row, .ref h_exact, .ref h_error, .ref h_bestError, .long x_34, .int u_32, .ref h_digits, .int h_whole])), (h_row, .inl (cI, 1420, .inl u_44))]) hD hS hA [1, 2] rfl
                                  refine va_callv (va_runV (As := [.long y_79, .int x_80]) (rest := []) ⟨hx, hb, hml, hown, (dr_words hts _)⟩ (c_X12_expand l D cI cD cJ H.size h h_code h_taped h_tape h_size h_text h_value h_out h_output h_illAt h_format h_sections h_items h_kind h_what h_of h_relation h_bound h_reads h_readSections h_readKind h_readWhat h_readOf h_place h_readRelation h_readBound h_stop h_meant h_row h_exact h_error h_bestError x_34 u_32 h_digits h_whole u_44 y_79 x_80 (by omega) (by omega) (by assumption) (by omega) (by omega) (by omega) (by omega) (by omega) (by omega)) (cwV 2 (dr_words hts _) (goodIn_app (goodIn_r _ [13, 14, 15, 4] rfl (by decide +kernel)) (goodIn_sub i_X12_expand k_X12_expand)) rfl rfl rfl (by decide +kernel) ⟨Nat.le_of_ble_eq_true rfl, Nat.le_of_ble_eq_true rfl⟩) ⟨fun a U g mk q => by obtain ⟨q0, q1, qP, qK, qD⟩ := q; exact ⟨q0, q1, qP, va_K.moved (u := U) (U := U.calling g mk a) (Vm.Alike.refl U.vm) qK, qD⟩, va_recv hK hPc (ci := 9) (q0 := 0) rfl rfl, fun U hU hW => ⟨rfl, by rw [hU], by rw [hU]; exact hPc, va_K.moved hW.alike hK, hDc.weaken (fun _ _ _ _ => trivial)⟩⟩ rfl rfl hl.1 rfl (lv_room (Nat.le_of_ble_eq_true rfl)) dX12_nearest_284 ⟨Nat.le_of_ble_eq_true rfl, Nat.le_of_ble_eq_true rfl⟩) hS (fun q _ h => hFc q h) hFc (fun u t H1 locs ht hvm w_81 hB hz1 hk1 hS => ?_)
                                  generalize u = u_82 at w_81 hB
                                  obtain ⟨hP1, hK1, hD1⟩ := hB
                                  rw [ht] at hP1
                                  try dsimp only at w_81
                                  obtain ⟨hP, hD⟩ := va_join (wr := [(h_meant, .inl (cI, 1420, .inl f_12))]) (w1 := [(h, .inr (9, [.int h_code, .int h_taped, .ref h_tape, .int h_size, .ref h_text, .double h_value, .int h_out, .ref h_output, .int h_illAt, .ref h_format, .int h_sections, .int h_items, .ref h_kind, .ref h_what, .ref h_of, .ref h_relation, .ref h_bound, .int h_reads, .int h_readSections, .ref h_readKind, .ref h_readWhat, .ref h_readOf, .ref h_place, .ref h_readRelation, .ref h_readBound, .int h_stop, .ref h_meant, .ref h_row, .ref h_exact, .ref h_error, .ref h_bestError, .long x_34, .int u_32, .ref h_digits, .int h_whole])), (h_row, .inl (cI, 1420, .inl u_82))]) hP hD [1, 2] [0] rfl rfl (by decide) (by decide) hk1 hFc hP1 hD1
                                  generalize H1 = H at hP hS ⊢
                                  have hP : va_P D vwCl [(h_meant, .inl (cI, 1420, .inl f_12)), (h, .inr (9, [.int h_code, .int h_taped, .ref h_tape, .int h_size, .ref h_text, .double h_value, .int h_out, .ref h_output, .int h_illAt, .ref h_format, .int h_sections, .int h_items, .ref h_kind, .ref h_what, .ref h_of, .ref h_relation, .ref h_bound, .int h_reads, .int h_readSections, .ref h_readKind, .ref h_readWhat, .ref h_readOf, .ref h_place, .ref h_readRelation, .ref h_readBound, .int h_stop, .ref h_meant, .ref h_row, .ref h_exact, .ref h_error, .ref h_bestError, .long x_34, .int u_32, .ref h_digits, .int h_whole])), (h_row, .inl (cI, 1420, .inl u_82))] H := hP
                                  have hD : va_D A [(h_meant, .inl (cI, 1420, .inl f_12)), (h, .inr (9, [.int h_code, .int h_taped, .ref h_tape, .int h_size, .ref h_text, .double h_value, .int h_out, .ref h_output, .int h_illAt, .ref h_format, .int h_sections, .int h_items, .ref h_kind, .ref h_what, .ref h_of, .ref h_relation, .ref h_bound, .int h_reads, .int h_readSections, .ref h_readKind, .ref h_readWhat, .ref h_readOf, .ref h_place, .ref h_readRelation, .ref h_readBound, .int h_stop, .ref h_meant, .ref h_row, .ref h_exact, .ref h_error, .ref h_bestError, .long x_34, .int u_32, .ref h_digits, .int h_whole])), (h_row, .inl (cI, 1420, .inl u_82))] := hD
                                  have hx2 := NLo_2 g152_0 w_81 (by omega) (by omega) (by omega)
                                  exact hZ1 (K_287 u_82 _ _ _ dq233_50 hdq233_50 hx2 hP hD hS hl)
                                · have ic_77 : (x_51 : Int32).toInt = (0 : Int32).toInt := (fa_eq x_51 0).mp c_77
                                  refine lv_aload_n hx hb dX12_nearest_244 rfl (lv_at hl 1 rfl) ?_
                                  refine lv_ldc2 (v := 4) hx hb hown (hw 21 (.constantLong RX12 161 (4)) rfl) dX12_nearest_245 ?_
                                  refine lv_aload_n hx hb dX12_nearest_248 rfl (lv_at hl 1 rfl) ?_
                                  refine va_get (s := s.setDrawn dq233_50) (D := D) (ci := 9) (v := .long x_34) (C := RX12) (T := TX12) (N := 35) hx hb (dr_words hts _) iX12 hown hK hP 1 rfl rfl 31 (by decide) (hw 9 (.fieldLink RX12 134 "NumberFormatsModel" "m" "J") rfl) (fun _ h9 => h9) rfl dX12_nearest_249 ?_
                                  refine lv_lmul hx hb dX12_nearest_252 ?_
                                  refine lv_topl (fun y_83 ey_83 => ?_)
                                  have ty_83 := tl_mul ey_83
                                  rw [nl_4] at ty_83
                                  refine lv_lconst (v := 1) hx hb dX12_nearest_253 (by decide) ?_
                                  refine lv_lsub hx hb dX12_nearest_254 ?_
                                  refine lv_topl (fun y_84 ey_84 => ?_)
                                  have b_y_83 := tl_b y_83
                                  have ty_84 := tl_sub ey_84
                                  refine lv_aload_n hx hb dX12_nearest_255 rfl (lv_at hl 1 rfl) ?_
                                  refine va_get (s := s.setDrawn dq233_50) (D := D) (ci := 9) (v := .int u_32) (C := RX12) (T := TX12) (N := 35) hx hb (dr_words hts _) iX12 hown hK hP 1 rfl rfl 32 (by decide) (hw 11 (.fieldLink RX12 123 "NumberFormatsModel" "e" "I") rfl) (fun _ h9 => h9) rfl dX12_nearest_256 ?_
                                  refine lv_iconst (v := 2) hx hb dX12_nearest_259 (by decide) ?_
                                  refine lv_isub hx hb dX12_nearest_260 ?_
                                  refine lv_topi (fun x_85 ex_85 => ?_)
                                  have b_u_32 := ti_b u_32
                                  have tx_85 := ti_sub ex_85
                                  have hPc := hP.sub (ws' := [(h, .inr (9, [.int h_code, .int h_taped, .ref h_tape, .int h_size, .ref h_text, .double h_value, .int h_out, .ref h_output, .int h_illAt, .ref h_format, .int h_sections, .int h_items, .ref h_kind, .ref h_what, .ref h_of, .ref h_relation, .ref h_bound, .int h_reads, .int h_readSections, .ref h_readKind, .ref h_readWhat, .ref h_readOf, .ref h_place, .ref h_readRelation, .ref h_readBound, .int h_stop, .ref h_meant, .ref h_row, .ref h_exact, .ref h_error, .ref h_bestError, .long x_34, .int u_32, .ref h_digits, .int h_whole])), (h_row, .inl (cI, 1420, .inl u_44))]) [1, 2] rfl
                                  have hDc := hD.sub (ws' := [(h, .inr (9, [.int h_code, .int h_taped, .ref h_tape, .int h_size, .ref h_text, .double h_value, .int h_out, .ref h_output, .int h_illAt, .ref h_format, .int h_sections, .int h_items, .ref h_kind, .ref h_what, .ref h_of, .ref h_relation, .ref h_bound, .int h_reads, .int h_readSections, .ref h_readKind, .ref h_readWhat, .ref h_readOf, .ref h_place, .ref h_readRelation, .ref h_readBound, .int h_stop, .ref h_meant, .ref h_row, .ref h_exact, .ref h_error, .ref h_bestError, .long x_34, .int u_32, .ref h_digits, .int h_whole])), (h_row, .inl (cI, 1420, .inl u_44))]) [1, 2] (by decide) rfl
                                  have hFc := va_free (wc := [(h, .inr (9, [.int h_code, .int h_taped, .ref h_tape, .int h_size, .ref h_text, .double h_value, .int h_out, .ref h_output, .int h_illAt, .ref h_format, .int h_sections, .int h_items, .ref h_kind, .ref h_what, .ref h_of, .ref h_relation, .ref h_bound, .int h_reads, .int h_readSections, .ref h_readKind, .ref h_readWhat, .ref h_readOf, .ref h_place, .ref h_readRelation, .ref h_readBound, .int h_stop, .ref h_meant, .ref h_row, .ref h_exact, .ref h_error, .ref h_bestError, .long x_34, .int u_32, .ref h_digits, .int h_whole])), (h_row, .inl (cI, 1420, .inl u_44))]) hD hS hA [1, 2] rfl
                                  refine va_callv (va_runV (As := [.long y_84, .int x_85]) (rest := []) ⟨hx, hb, hml, hown, (dr_words hts _)⟩ (c_X12_expand l D cI cD cJ H.size h h_code h_taped h_tape h_size h_text h_value h_out h_output h_illAt h_format h_sections h_items h_kind h_what h_of h_relation h_bound h_reads h_readSections h_readKind h_readWhat h_readOf h_place h_readRelation h_readBound h_stop h_meant h_row h_exact h_error h_bestError x_34 u_32 h_digits h_whole u_44 y_84 x_85 (by omega) (by omega) (by assumption) (by omega) (by omega) (by omega) (by omega) (by omega) (by omega)) (cwV 2 (dr_words hts _) (goodIn_app (goodIn_r _ [13, 14, 15, 4] rfl (by decide +kernel)) (goodIn_sub i_X12_expand k_X12_expand)) rfl rfl rfl (by decide +kernel) ⟨Nat.le_of_ble_eq_true rfl, Nat.le_of_ble_eq_true rfl⟩) ⟨fun a U g mk q => by obtain ⟨q0, q1, qP, qK, qD⟩ := q; exact ⟨q0, q1, qP, va_K.moved (u := U) (U := U.calling g mk a) (Vm.Alike.refl U.vm) qK, qD⟩, va_recv hK hPc (ci := 9) (q0 := 0) rfl rfl, fun U hU hW => ⟨rfl, by rw [hU], by rw [hU]; exact hPc, va_K.moved hW.alike hK, hDc.weaken (fun _ _ _ _ => trivial)⟩⟩ rfl rfl hl.1 rfl (lv_room (Nat.le_of_ble_eq_true rfl)) dX12_nearest_261 ⟨Nat.le_of_ble_eq_true rfl, Nat.le_of_ble_eq_true rfl⟩) hS (fun q _ h => hFc q h) hFc (fun u t H1 locs ht hvm w_86 hB hz1 hk1 hS => ?_)
                                  generalize u = u_87 at w_86 hB
                                  obtain ⟨hP1, hK1, hD1⟩ := hB
                                  rw [ht] at hP1
                                  try dsimp only at w_86
                                  obtain ⟨hP, hD⟩ := va_join (wr := [(h_meant, .inl (cI, 1420, .inl f_12))]) (w1 := [(h, .inr (9, [.int h_code, .int h_taped, .ref h_tape, .int h_size, .ref h_text, .double h_value, .int h_out, .ref h_output, .int h_illAt, .ref h_format, .int h_sections, .int h_items, .ref h_kind, .ref h_what, .ref h_of, .ref h_relation, .ref h_bound, .int h_reads, .int h_readSections, .ref h_readKind, .ref h_readWhat, .ref h_readOf, .ref h_place, .ref h_readRelation, .ref h_readBound, .int h_stop, .ref h_meant, .ref h_row, .ref h_exact, .ref h_error, .ref h_bestError, .long x_34, .int u_32, .ref h_digits, .int h_whole])), (h_row, .inl (cI, 1420, .inl u_87))]) hP hD [1, 2] [0] rfl rfl (by decide) (by decide) hk1 hFc hP1 hD1
                                  generalize H1 = H at hP hS ⊢
                                  have hP : va_P D vwCl [(h_meant, .inl (cI, 1420, .inl f_12)), (h, .inr (9, [.int h_code, .int h_taped, .ref h_tape, .int h_size, .ref h_text, .double h_value, .int h_out, .ref h_output, .int h_illAt, .ref h_format, .int h_sections, .int h_items, .ref h_kind, .ref h_what, .ref h_of, .ref h_relation, .ref h_bound, .int h_reads, .int h_readSections, .ref h_readKind, .ref h_readWhat, .ref h_readOf, .ref h_place, .ref h_readRelation, .ref h_readBound, .int h_stop, .ref h_meant, .ref h_row, .ref h_exact, .ref h_error, .ref h_bestError, .long x_34, .int u_32, .ref h_digits, .int h_whole])), (h_row, .inl (cI, 1420, .inl u_87))] H := hP
                                  have hD : va_D A [(h_meant, .inl (cI, 1420, .inl f_12)), (h, .inr (9, [.int h_code, .int h_taped, .ref h_tape, .int h_size, .ref h_text, .double h_value, .int h_out, .ref h_output, .int h_illAt, .ref h_format, .int h_sections, .int h_items, .ref h_kind, .ref h_what, .ref h_of, .ref h_relation, .ref h_bound, .int h_reads, .int h_readSections, .ref h_readKind, .ref h_readWhat, .ref h_readOf, .ref h_place, .ref h_readRelation, .ref h_readBound, .int h_stop, .ref h_meant, .ref h_row, .ref h_exact, .ref h_error, .ref h_bestError, .long x_34, .int u_32, .ref h_digits, .int h_whole])), (h_row, .inl (cI, 1420, .inl u_87))] := hD
                                  have hx2 := NLo_1 g152_0 w_86 (by omega) (by omega) (by omega)
                                  refine lv_goto (tgt := 287) hx hb dX12_nearest_264 (by decide) ?_
                                  exact hZ1 (K_287 u_87 _ _ _ dq233_50 hdq233_50 hx2 hP hD hS hl)
                              refine lv_if_ne (tgt := 233) hx hb dX12_nearest_212 (by decide) (fun c_88 => ?_) (fun c_88 => ?_)
                              · have ic_88 : ¬ ((x_45 : Int32).toInt = (0 : Int32).toInt) := fun h9 => c_88 ((fa_eq x_45 0).mpr h9)
                                exact hZ1 (K_233  _ _ _ dq170_38 hdq170_38 hP hD hS (lv_sub hl [1, 2] rfl))
                              · have ic_88 : (x_45 : Int32).toInt = (0 : Int32).toInt := (fa_eq x_45 0).mp c_88
                                refine lv_iload hx hb dX12_nearest_215 (lv_at hl 1 rfl) ?_
                                refine lv_if_eq (tgt := 233) hx hb dX12_nearest_217 (by decide) (fun c_89 => ?_) (fun c_89 => ?_)
                                · have ic_89 : (z_39 : Int32).toInt = (0 : Int32).toInt := (fa_eq z_39 0).mp c_89
                                  exact hZ1 (K_233  _ _ _ dq170_38 hdq170_38 hP hD hS (lv_sub hl [1, 2] rfl))
                                · have ic_89 : ¬ ((z_39 : Int32).toInt = (0 : Int32).toInt) := fun h9 => c_89 ((fa_eq z_39 0).mpr h9)
                                  exact hZ1 (K_220  _ _ _ dq170_38 hdq170_38 (hup.2 (by omega) (by omega)) hP hD hS (lv_sub hl [2] rfl))
                          refine lv_if_ne (tgt := 169) hx hb dX12_nearest_162 (by decide) (fun c_90 => ?_) (fun c_90 => ?_)
                          · have ic_90 : ¬ ((x_37 : Int32).toInt = (0 : Int32).toInt) := fun h9 => c_90 ((fa_eq x_37 0).mpr h9)
                            refine lv_iconst (v := 0) hx hb dX12_nearest_169 (by decide) ?_
                            exact hZ1 (K_170 0 _ _ _ dq152_35 hdq152_35 (by omega) hP hD hS hl)
                          · have ic_90 : (x_37 : Int32).toInt = (0 : Int32).toInt := (fa_eq x_37 0).mp c_90
                            refine lv_iconst (v := 1) hx hb dX12_nearest_165 (by decide) ?_
                            refine lv_goto (tgt := 170) hx hb dX12_nearest_166 (by decide) ?_
                            exact hZ1 (K_170 1 _ _ _ dq152_35 hdq152_35 (by omega) hP hD hS hl)
                      exact hZ1 (L_152 ((NRm f_12 u_31 u_32) + 1) h_rowF u_31 _ _ _ dhd_30 hd_30 hri (by omega) hP hD hS (lv_sub hl [2] rfl))
                    · have ic_21 : ¬ ((p3 : Int32).toInt ≤ (x_18 : Int32).toInt) := fun h9 => c_21 ((fa_le p3 x_18).mpr h9)
                      refine lv_ldc2 (v := 10) hx hb hown (hw 22 (.constantLong RX12 114 (10)) rfl) dX12_nearest_125 ?_
                      refine lv_lload hx hb dX12_nearest_128 (lv_at hl 1 rfl) ?_
                      refine lv_lmul hx hb dX12_nearest_130 ?_
                      refine lv_topl (fun y_91 ey_91 => ?_)
                      have ty_91 := tl_mul ey_91
                      rw [nl_10] at ty_91
                      refine lv_lstore (lv' := [(8, .long y_91), (10, .int x_18), (0, .ref h), (1, .long p1), (3, .long p2), (5, .int p3)]) hx hb dX12_nearest_131 hl (by decide) rfl (fun ls hl => ?_)
                      obtain ⟨x_92, ex_92⟩ : ∃ y : Int32, y = x_18 + 1 := ⟨_, rfl⟩
                      have b_x_18 := ti_b x_18
                      have tx_92 := ti_add ex_92
                      refine lv_iinc (v := x_92) (lv' := [(10, .int x_92), (8, .long y_91), (0, .ref h), (1, .long p1), (3, .long p2), (5, .int p3)]) hx hb dX12_nearest_133 hl (k := 1) rfl (by rw [ex_92]; rfl) (by decide) rfl (fun ls hl => ?_)
                      refine lv_goto (tgt := 118) hx hb dX12_nearest_136 (by decide) ?_
                      exact hZ1 (ih_118 x_92 y_91 _ _ _ dq118_20 hdq118_20 (TE_step g118_0 (by omega) ey_91 ex_92) (by omega) (by omega) hP hD hS hl)
                exact hZ1 (L_118 (((10 - (0 : Int32).toInt).toNat) + 1) 0 1 _ _ _ dq61_13 hdq61_13 TE_0 (by omega) (by omega) hP hD hS (lv_sub hl [0, 1, 3, 4, 5, 6] rfl))
              · have ic_17 : (x_15 : Int32).toInt = (1420 : Int32).toInt := (fa_eq x_15 1420).mp c_17
                refine lv_dconst0 hx hb dX12_nearest_110 ?_
                refine W.endD hdq61_13 ?_
                have hP9 := hP.sub (ws' := [(h, .inr (9, [.int h_code, .int h_taped, .ref h_tape, .int h_size, .ref h_text, .double h_value, .int h_out, .ref h_output, .int h_illAt, .ref h_format, .int h_sections, .int h_items, .ref h_kind, .ref h_what, .ref h_of, .ref h_relation, .ref h_bound, .int h_reads, .int h_readSections, .ref h_readKind, .ref h_readWhat, .ref h_readOf, .ref h_place, .ref h_readRelation, .ref h_readBound, .int h_stop, .ref h_meant, .ref h_row, .ref h_exact, .ref h_error, .ref h_bestError, .long h_m, .int h_e, .ref h_digits, .int h_whole])), (h_meant, .inl (cI, 1420, .inl f_12)), (h_row, .inl (cI, 1420, .inl h_rowF))]) [0, 2, 1] rfl
                have hD9 := hD.sub (ws' := [(h, .inr (9, [.int h_code, .int h_taped, .ref h_tape, .int h_size, .ref h_text, .double h_value, .int h_out, .ref h_output, .int h_illAt, .ref h_format, .int h_sections, .int h_items, .ref h_kind, .ref h_what, .ref h_of, .ref h_relation, .ref h_bound, .int h_reads, .int h_readSections, .ref h_readKind, .ref h_readWhat, .ref h_readOf, .ref h_place, .ref h_readRelation, .ref h_readBound, .int h_stop, .ref h_meant, .ref h_row, .ref h_exact, .ref h_error, .ref h_bestError, .long h_m, .int h_e, .ref h_digits, .int h_whole])), (h_meant, .inl (cI, 1420, .inl f_12)), (h_row, .inl (cI, 1420, .inl h_rowF))]) [0, 2, 1] (by decide) rfl
                exact W.dret (v := FP.dconst0) hx hb hr (fun t ht hW => ⟨⟨FP.dconst0, (h_m, h_e, f_12, h_rowF), rfl, trivial, by rw [ht]; exact hP9, va_K.moved hW.alike hK, hD9⟩, hS.F ht⟩) hS.2.2 dX12_nearest_111
            · have ic_14 : ¬ ((x_10 : Int32).toInt ≤ (319 : Int32).toInt) := fun h9 => c_14 ((fa_le x_10 319).mpr h9)
              refine lv_aload_n hx hb dX12_nearest_69 rfl (lv_at hl 2 rfl) ?_
              refine va_get (s := s.setDrawn dq61_13) (D := D) (ci := 9) (v := .ref h_meant) (C := RX12) (T := TX12) (N := 35) hx hb (dr_words hts _) iX12 hown hK hP 0 rfl rfl 26 (by decide) (hw 0 (.fieldLink RX12 60 "NumberFormatsModel" "meant" "[I") rfl) (fun _ h9 => h9) rfl dX12_nearest_70 ?_
              refine lv_iload hx hb dX12_nearest_73 (lv_at hl 0 rfl) ?_
              refine lv_lload hx hb dX12_nearest_75 (lv_at hl 1 rfl) ?_
              refine lv_ldc2 (v := 10) hx hb hown (hw 22 (.constantLong RX12 114 (10)) rfl) dX12_nearest_77 ?_
              refine lv_lrem hx hb dX12_nearest_80 (by decide) ?_
              refine lv_topl (fun y_93 ey_93 => ?_)
              have ty_93 := tl_rem ey_93 (by decide)
              rw [nl_10] at ty_93
              try (have uy_93 := tl_remE ey_93 (by decide) (by omega); rw [nl_10] at uy_93)
              refine lv_l2i hx hb dX12_nearest_81 rfl ?_
              refine lv_topi (fun x_94 ex_94 => ?_)
              have tx_94 := ti_l2i ex_94
              have h_82 : vp_in x_10 1420 := by rw [vp_in_iff]; omega
              refine va_iast (s := s.setDrawn dq61_13) hx hb hK hP hD hS 2 0 rfl rfl h_82 dX12_nearest_82 (fun H locs hP hD hS => ?_)
              obtain ⟨f_95, ef_95⟩ : ∃ y : Nat → Int32, y = upd f_12 (x_10 : Int32).toNatClampNeg x_94 := ⟨_, rfl⟩
              rw [← ef_95] at hP hD
              have hP : va_P D vwCl [(h, .inr (9, [.int h_code, .int h_taped, .ref h_tape, .int h_size, .ref h_text, .double h_value, .int h_out, .ref h_output, .int h_illAt, .ref h_format, .int h_sections, .int h_items, .ref h_kind, .ref h_what, .ref h_of, .ref h_relation, .ref h_bound, .int h_reads, .int h_readSections, .ref h_readKind, .ref h_readWhat, .ref h_readOf, .ref h_place, .ref h_readRelation, .ref h_readBound, .int h_stop, .ref h_meant, .ref h_row, .ref h_exact, .ref h_error, .ref h_bestError, .long h_m, .int h_e, .ref h_digits, .int h_whole])), (h_row, .inl (cI, 1420, .inl h_rowF)), (h_meant, .inl (cI, 1420, .inl f_95))] H := hP
              have hD : va_D A [(h, .inr (9, [.int h_code, .int h_taped, .ref h_tape, .int h_size, .ref h_text, .double h_value, .int h_out, .ref h_output, .int h_illAt, .ref h_format, .int h_sections, .int h_items, .ref h_kind, .ref h_what, .ref h_of, .ref h_relation, .ref h_bound, .int h_reads, .int h_readSections, .ref h_readKind, .ref h_readWhat, .ref h_readOf, .ref h_place, .ref h_readRelation, .ref h_readBound, .int h_stop, .ref h_meant, .ref h_row, .ref h_exact, .ref h_error, .ref h_bestError, .long h_m, .int h_e, .ref h_digits, .int h_whole])), (h_row, .inl (cI, 1420, .inl h_rowF)), (h_meant, .inl (cI, 1420, .inl f_95))] := hD
              refine lv_lload hx hb dX12_nearest_83 (lv_at hl 1 rfl) ?_
              refine lv_ldc2 (v := 10) hx hb hown (hw 22 (.constantLong RX12 114 (10)) rfl) dX12_nearest_85 ?_
              refine lv_ldiv hx hb dX12_nearest_88 (by decide) ?_
              refine lv_topl (fun y_96 ey_96 => ?_)
              have ty_96 := tl_div ey_96 (by decide)
              rw [nl_10] at ty_96
              try (have uy_96 := tl_divE ey_96 (by decide) (by omega); rw [nl_10] at uy_96)
              refine lv_lstore (lv' := [(6, .long y_96), (8, .int x_10), (0, .ref h), (1, .long p1), (3, .long p2), (5, .int p3)]) hx hb dX12_nearest_89 hl (by decide) rfl (fun ls hl => ?_)
              obtain ⟨x_97, ex_97⟩ : ∃ y : Int32, y = x_10 + (-1) := ⟨_, rfl⟩
              have b_x_10 := ti_b x_10
              have tx_97 := ti_add ex_97
              refine lv_iinc (v := x_97) (lv' := [(8, .int x_97), (6, .long y_96), (0, .ref h), (1, .long p1), (3, .long p2), (5, .int p3)]) hx hb dX12_nearest_91 hl (k := 1) rfl (by rw [ex_97]; rfl) (by decide) rfl (fun ls hl => ?_)
              refine lv_goto (tgt := 61) hx hb dX12_nearest_94 (by decide) ?_
              exact hZ1 (ih_61 x_97 y_96 f_95 _ _ _ dq61_13 hdq61_13 (EB_step g61_0 (by omega) ey_93 ex_94 ef_95 ey_96 ex_97) (by omega) hP hD hS hl)
        exact hZ1 (L_61 (((x_9 : Int32).toInt.toNat) + 1) x_9 p2 f_5 _ _ _ dq15_6 hdq15_6 (EB_0 he1 hh2 hh3 (by omega)) (by omega) hP hD hS hl)
      · have ic_8 : ¬ ((x_7 : Int32).toInt ≤ (0 : Int32).toInt) := fun h9 => c_8 ((fa_le x_7 0).mpr h9)
        refine lv_aload_n hx hb dX12_nearest_22 rfl (lv_at hl 2 rfl) ?_
        refine va_get (s := s.setDrawn dq15_6) (D := D) (ci := 9) (v := .ref h_meant) (C := RX12) (T := TX12) (N := 35) hx hb (dr_words hts _) iX12 hown hK hP 0 rfl rfl 26 (by decide) (hw 0 (.fieldLink RX12 60 "NumberFormatsModel" "meant" "[I") rfl) (fun _ h9 => h9) rfl dX12_nearest_23 ?_
        refine lv_iload hx hb dX12_nearest_26 (lv_at hl 0 rfl) ?_
        refine lv_lload hx hb dX12_nearest_28 (lv_at hl 1 rfl) ?_
        refine lv_ldc2 (v := 10) hx hb hown (hw 22 (.constantLong RX12 114 (10)) rfl) dX12_nearest_30 ?_
        refine lv_lrem hx hb dX12_nearest_33 (by decide) ?_
        refine lv_topl (fun y_98 ey_98 => ?_)
        have ty_98 := tl_rem ey_98 (by decide)
        rw [nl_10] at ty_98
        try (have uy_98 := tl_remE ey_98 (by decide) (by omega); rw [nl_10] at uy_98)
        refine lv_l2i hx hb dX12_nearest_34 rfl ?_
        refine lv_topi (fun x_99 ex_99 => ?_)
        have tx_99 := ti_l2i ex_99
        have h_35 : vp_in x_3 1420 := by rw [vp_in_iff]; omega
        refine va_iast (s := s.setDrawn dq15_6) hx hb hK hP hD hS 2 0 rfl rfl h_35 dX12_nearest_35 (fun H locs hP hD hS => ?_)
        obtain ⟨f_100, ef_100⟩ : ∃ y : Nat → Int32, y = upd f_5 (x_3 : Int32).toNatClampNeg x_99 := ⟨_, rfl⟩
        rw [← ef_100] at hP hD
        have hP : va_P D vwCl [(h, .inr (9, [.int h_code, .int h_taped, .ref h_tape, .int h_size, .ref h_text, .double h_value, .int h_out, .ref h_output, .int h_illAt, .ref h_format, .int h_sections, .int h_items, .ref h_kind, .ref h_what, .ref h_of, .ref h_relation, .ref h_bound, .int h_reads, .int h_readSections, .ref h_readKind, .ref h_readWhat, .ref h_readOf, .ref h_place, .ref h_readRelation, .ref h_readBound, .int h_stop, .ref h_meant, .ref h_row, .ref h_exact, .ref h_error, .ref h_bestError, .long h_m, .int h_e, .ref h_digits, .int h_whole])), (h_row, .inl (cI, 1420, .inl h_rowF)), (h_meant, .inl (cI, 1420, .inl f_100))] H := hP
        have hD : va_D A [(h, .inr (9, [.int h_code, .int h_taped, .ref h_tape, .int h_size, .ref h_text, .double h_value, .int h_out, .ref h_output, .int h_illAt, .ref h_format, .int h_sections, .int h_items, .ref h_kind, .ref h_what, .ref h_of, .ref h_relation, .ref h_bound, .int h_reads, .int h_readSections, .ref h_readKind, .ref h_readWhat, .ref h_readOf, .ref h_place, .ref h_readRelation, .ref h_readBound, .int h_stop, .ref h_meant, .ref h_row, .ref h_exact, .ref h_error, .ref h_bestError, .long h_m, .int h_e, .ref h_digits, .int h_whole])), (h_row, .inl (cI, 1420, .inl h_rowF)), (h_meant, .inl (cI, 1420, .inl f_100))] := hD
        refine lv_lload hx hb dX12_nearest_36 (lv_at hl 1 rfl) ?_
        refine lv_ldc2 (v := 10) hx hb hown (hw 22 (.constantLong RX12 114 (10)) rfl) dX12_nearest_38 ?_
        refine lv_ldiv hx hb dX12_nearest_41 (by decide) ?_
        refine lv_topl (fun y_101 ey_101 => ?_)
        have ty_101 := tl_div ey_101 (by decide)
        rw [nl_10] at ty_101
        try (have uy_101 := tl_divE ey_101 (by decide) (by omega); rw [nl_10] at uy_101)
        refine lv_lstore (lv' := [(6, .long y_101), (8, .int x_3), (0, .ref h), (1, .long p1), (3, .long p2), (5, .int p3)]) hx hb dX12_nearest_42 hl (by decide) rfl (fun ls hl => ?_)
        obtain ⟨x_102, ex_102⟩ : ∃ y : Int32, y = x_3 + (-1) := ⟨_, rfl⟩
        have b_x_3 := ti_b x_3
        have tx_102 := ti_add ex_102
        refine lv_iinc (v := x_102) (lv' := [(8, .int x_102), (6, .long y_101), (0, .ref h), (1, .long p1), (3, .long p2), (5, .int p3)]) hx hb dX12_nearest_44 hl (k := 1) rfl (by rw [ex_102]; rfl) (by decide) rfl (fun ls hl => ?_)
        refine lv_goto (tgt := 15) hx hb dX12_nearest_47 (by decide) ?_
        exact hZ1 (ih_15 x_102 y_101 f_100 _ _ _ dq15_6 hdq15_6 (EDg_step g15_0 (by omega) ey_98 ex_99 ef_100 ey_101 ex_102) (by omega) hP hD hS hl)
  exact hZ1 (L_15 (((p1 : Int64).toInt.toNat) + 1) 319 p1 u_2 _ _ _ s.drawn hd0 (EDg_0 hzr) (by omega) hP hD hS hl)

