def ow_X12_fits : List Cond := [Cond.fieldLink RX12 42 "NumberFormatsModel" "readKind" "[I", Cond.methodLink RX12 233 yX12_isFraction, Cond.static yX12_isFraction, Cond.initialized RX12, Cond.methodLink RX12 229 yX12_find, Cond.static yX12_find, Cond.methodLink RX12 237 yX12_rowFrom, Cond.static yX12_rowFrom]
def pw_X12_fits : List Cond := Cond.code yX12_fits cX12_fits 8 (some .boolean) :: (ow_X12_fits ++ (pw_X12_isFraction ++ (pw_X12_find ++ (pw_X12_rowFrom ++ (wsX120)))))
set_option maxRecDepth 20000 in
theorem mo_X12_fits : ∀ w ∈ ow_X12_fits, w ∈ lw_tbl := by decide +kernel
set_option maxRecDepth 20000 in
theorem mc_X12_fits : Cond.code yX12_fits cX12_fits 8 (some .boolean) ∈ lw_tbl := by decide +kernel
theorem m_X12_fits : ∀ w ∈ pw_X12_fits, w ∈ lw_tbl := List.forall_mem_cons.mpr ⟨mc_X12_fits, (List.forall_mem_append.mpr ⟨mo_X12_fits, (List.forall_mem_append.mpr ⟨m_X12_isFraction, (List.forall_mem_append.mpr ⟨m_X12_find, (List.forall_mem_append.mpr ⟨m_X12_rowFrom, inX12⟩)⟩)⟩)⟩)⟩
theorem ko_X12_fits : ∀ w ∈ ow_X12_fits, goodWord w = true := by decide +kernel
theorem k_X12_fits : pw_X12_fits.all goodWord = true := List.all_eq_true.mpr (List.forall_mem_cons.mpr ⟨by decide +kernel, (List.forall_mem_append.mpr ⟨ko_X12_fits, (List.forall_mem_append.mpr ⟨(List.all_eq_true.mp k_X12_isFraction), (List.forall_mem_append.mpr ⟨(List.all_eq_true.mp k_X12_find), (List.forall_mem_append.mpr ⟨(List.all_eq_true.mp k_X12_rowFrom), kX_X12⟩)⟩)⟩)⟩)⟩)
set_option maxHeartbeats 4000000 in
set_option maxRecDepth 100000 in
theorem c_X12_fits (l : Launch) (D : va_G) (cI cD cJ : ClassId) (sz : Nat) (h : Nat) (h_code : Int32) (h_taped : Int32) (h_tape : Nat) (h_size : Int32) (h_text : Nat) (h_value : UInt64) (h_out : Int32) (h_output : Nat) (h_illAt : Int32) (h_format : Nat) (h_sections : Int32) (h_items : Int32) (h_kind : Nat) (h_what : Nat) (h_of : Nat) (h_relation : Nat) (h_bound : Nat) (h_reads : Int32) (h_readSections : Int32) (h_readKind : Nat) (h_readWhat : Nat) (h_readOf : Nat) (h_place : Nat) (h_readRelation : Nat) (h_readBound : Nat) (h_stop : Int32) (h_meant : Nat) (h_row : Nat) (h_exact : Nat) (h_error : Nat) (h_bestError : Nat) (h_m : Int64) (h_e : Int32) (h_digits : Nat) (h_whole : Int32) (h_readKindF : Nat → Int32) (p1 : Int32) (p2 : Int32) (p3 : Int32) (hh0 : 0 ≤ p1.toInt) (hh1 : p1.toInt ≤ 257) (hh2 : 0 ≤ p2.toInt) (hh3 : p2.toInt ≤ 256) (hh4 : p3.toInt ≤ 256) (iv_h_taped : 0 ≤ (h_taped : Int32).toInt ∧ (h_taped : Int32).toInt ≤ 260) (iv_h_size : 0 ≤ (h_size : Int32).toInt ∧ (h_size : Int32).toInt ≤ 255) (iv_h_value : inR h_value) (iv_h_out : 0 ≤ (h_out : Int32).toInt ∧ (h_out : Int32).toInt ≤ 1024) (iv_h_sections : 0 ≤ (h_sections : Int32).toInt ∧ (h_sections : Int32).toInt ≤ 4) (iv_h_items : 0 ≤ (h_items : Int32).toInt ∧ (h_items : Int32).toInt ≤ 255) (iv_h_reads : 0 ≤ (h_reads : Int32).toInt ∧ (h_reads : Int32).toInt ≤ 255) (iv_h_readSections : 0 ≤ (h_readSections : Int32).toInt ∧ (h_readSections : Int32).toInt ≤ 4) (iv_h_whole : 0 ≤ (h_whole : Int32).toInt ∧ (h_whole : Int32).toInt ≤ 1001) : Met l yX12_fits pw_X12_fits ({ frames := 2, cells := 0, slots := 0, locals := 47 }) (va_Pc [.ref h, .int p1, .int p2, .int p3] (fun U => va_P D vwCl [(h, .inr (9, [.int h_code, .int h_taped, .ref h_tape, .int h_size, .ref h_text, .double h_value, .int h_out, .ref h_output, .int h_illAt, .ref h_format, .int h_sections, .int h_items, .ref h_kind, .ref h_what, .ref h_of, .ref h_relation, .ref h_bound, .int h_reads, .int h_readSections, .ref h_readKind, .ref h_readWhat, .ref h_readOf, .ref h_place, .ref h_readRelation, .ref h_readBound, .int h_stop, .ref h_meant, .ref h_row, .ref h_exact, .ref h_error, .ref h_bestError, .long h_m, .int h_e, .ref h_digits, .int h_whole])), (h_readKind, .inl (cI, 260, .inl h_readKindF))] U.heap ∧ va_K D vwCl (ty3 cI cD cJ) U)) (va_Qi (fun (r : Int32) (u : Unit) => (r.toInt = 0 ∨ r.toInt = 1)) (fun _ _ => True) (fun _ => False)) 0 0 (fun _ => False) := by
  refine Met.ofW (cc := cX12_fits) (maxL := 8) (ret := (some .boolean)) (by decide +kernel) rfl ?_
  intro p e s m args below meth c s₁ B hml hv
  obtain ⟨rfl, hP, hK⟩ := hv
  have hx := B.exec
  have hb := B.bytes
  have hr := B.returns
  have hts := atoms_spec (ws := pw_X12_fits) B.pre
  have hown : s.vm.findClass RX12 = some m.cls := findClass_of_methodNamed B.named
  have hlocks := B.notSynchronized
  have hS : va_S (fun _ => False) s.heap s.heap [] := va_S.rf
  have hw : ∀ (k : Nat) (w : Cond), ow_X12_fits[k]? = some w → w.before _ s = true := fun k w h => hts w (List.mem_cons_of_mem _ (have h9 := List.mem_of_getElem? h; List.mem_append_left _ h9))
  have i_X12_isFraction : ∀ w ∈ pw_X12_isFraction, w ∈ pw_X12_fits := fun w h9 => List.mem_cons_of_mem _ (List.mem_append_right _ (List.mem_append_left _ h9))
  have i_X12_find : ∀ w ∈ pw_X12_find, w ∈ pw_X12_fits := fun w h9 => List.mem_cons_of_mem _ (List.mem_append_right _ (List.mem_append_right _ (List.mem_append_left _ h9)))
  have i_X12_rowFrom : ∀ w ∈ pw_X12_rowFrom, w ∈ pw_X12_fits := fun w h9 => List.mem_cons_of_mem _ (List.mem_append_right _ (List.mem_append_right _ (List.mem_append_right _ (List.mem_append_left _ h9))))
  have iX12 : ∀ w ∈ u_ws RX12 TX12 35, w ∈ pw_X12_fits := fun w h9 => List.mem_cons_of_mem _ (List.mem_append_right _ (List.mem_append_right _ (List.mem_append_right _ (List.mem_append_right _ (h9)))))
  have n_0 : ((0 : Int32)).toInt = 0 := by decide
  have n_1 : ((1 : Int32)).toInt = 1 := by decide
  have n_2 : ((2 : Int32)).toInt = 2 := by decide
  have n_4 : ((4 : Int32)).toInt = 4 := by decide
  have n_5 : ((5 : Int32)).toInt = 5 := by decide
  have n_7 : ((7 : Int32)).toInt = 7 := by decide
  have hl := lv_entry ([.ref h, .int p1, .int p2, .int p3]) (n := 8) (Nat.le_of_ble_eq_true rfl)
  rw [lg_entry_eq]
  generalize (lg_sl ([.ref h, .int p1, .int p2, .int p3]) ++ List.replicate (8 - (lg_sl ([.ref h, .int p1, .int p2, .int p3])).length) Slot.unset).toArray = ls at hl ⊢
  have hl : lv_has ls 8 [(0, .ref h), (1, .int p1), (2, .int p2), (3, .int p3)] := hl
  have b_p1 := ti_b p1
  have b_p2 := ti_b p2
  have b_p3 := ti_b p3
  refine zz_cap (fun Z hZ1 hZ2 => ?_)
  refine lv_aload_n hx hb dX12_fits_0 rfl (lv_at hl 0 rfl) ?_
  refine va_get (D := D) (ci := 9) (v := .ref h_readKind) (C := RX12) (T := TX12) (N := 35) hx hb hts iX12 hown hK hP 0 rfl rfl 19 (by decide) (hw 0 (.fieldLink RX12 42 "NumberFormatsModel" "readKind" "[I") rfl) (fun _ h9 => h9) rfl dX12_fits_1 ?_
  refine lv_astore (lv' := [(4, .ref h_readKind), (0, .ref h), (1, .int p1), (2, .int p2), (3, .int p3)]) hx hb dX12_fits_4 hl (by decide) rfl (fun ls hl => ?_)
  refine lv_aload hx hb dX12_fits_6 (lv_at hl 0 rfl) ?_
  refine lv_iload_n hx hb dX12_fits_8 rfl (lv_at hl 3 rfl) ?_
  refine lv_iload_n hx hb dX12_fits_9 rfl (lv_at hl 4 rfl) ?_
  have hPc := hP.sub (ws' := [(h_readKind, .inl (cI, 260, .inl h_readKindF))]) [1] rfl
  refine va_calli (va_runS (As := [.ref h_readKind, .int p2, .int p3]) (rest := []) ⟨hx, hb, hml, hown, hts⟩ (c_X12_isFraction l D cI cD cJ s.heap.size h_readKind h_readKindF p2 p3 (by omega) (by omega) (by omega)) (va_cwS 3 hts (goodIn_app (goodIn_r _ [2, 3, 4] rfl (by decide +kernel)) (goodIn_sub i_X12_isFraction k_X12_isFraction)) rfl rfl rfl (by decide +kernel) ⟨Nat.le_of_ble_eq_true rfl, Nat.le_of_ble_eq_true rfl⟩) ⟨fun a U g mk q => by obtain ⟨q0, qP, qK⟩ := q; exact ⟨q0, qP, va_K.moved (u := U) (U := U.calling g mk a) (Vm.Alike.refl U.vm) qK⟩, fun U hU hW => ⟨rfl, by rw [hU]; exact hPc, va_K.moved hW.alike hK⟩⟩ rfl rfl hl.1 rfl (lv_room (Nat.le_of_ble_eq_true rfl)) dX12_fits_10 ⟨Nat.le_of_ble_eq_true rfl, Nat.le_of_ble_eq_true rfl⟩) hS (fun q _ h => h.elim) (fun q h => h.elim) (fun x_1 u t H1 locs ht hvm w_2 hB hz1 hk1 hS => ?_)
  have hP : va_P D vwCl [(h, .inr (9, [.int h_code, .int h_taped, .ref h_tape, .int h_size, .ref h_text, .double h_value, .int h_out, .ref h_output, .int h_illAt, .ref h_format, .int h_sections, .int h_items, .ref h_kind, .ref h_what, .ref h_of, .ref h_relation, .ref h_bound, .int h_reads, .int h_readSections, .ref h_readKind, .ref h_readWhat, .ref h_readOf, .ref h_place, .ref h_readRelation, .ref h_readBound, .int h_stop, .ref h_meant, .ref h_row, .ref h_exact, .ref h_error, .ref h_bestError, .long h_m, .int h_e, .ref h_digits, .int h_whole])), (h_readKind, .inl (cI, 260, .inl h_readKindF))] H1 := hP.kept (fun k9 q9 h9 => hk1 q9.1 (vx_lt hP h9) (fun h => h))
  generalize H1 = H at hP hS ⊢
  try dsimp only at w_2
  have b_x_1 := ti_b x_1
  refine lv_istore (lv' := [(5, .int x_1), (4, .ref h_readKind), (0, .ref h), (1, .int p1), (2, .int p2), (3, .int p3)]) hx hb dX12_fits_13 hl (by decide) rfl (fun ls hl => ?_)
  refine lv_aload hx hb dX12_fits_15 (lv_at hl 1 rfl) ?_
  refine lv_iload_n hx hb dX12_fits_17 rfl (lv_at hl 4 rfl) ?_
  refine lv_iload_n hx hb dX12_fits_18 rfl (lv_at hl 5 rfl) ?_
  refine lv_iconst (v := 5) hx hb dX12_fits_19 (by decide) ?_
  have hPc := hP.sub (ws' := [(h_readKind, .inl (cI, 260, .inl h_readKindF))]) [1] rfl
  refine va_calli (va_runS (As := [.ref h_readKind, .int p2, .int p3, .int 5]) (rest := []) ⟨hx, hb, hml, hown, hts⟩ (c_X12_find l D cI cD cJ H.size h_readKind h_readKindF p2 p3 5 (by omega) (by omega) (by omega)) (va_cwS 4 hts (goodIn_app (goodIn_r _ [5, 6, 4] rfl (by decide +kernel)) (goodIn_sub i_X12_find k_X12_find)) rfl rfl rfl (by decide +kernel) ⟨Nat.le_of_ble_eq_true rfl, Nat.le_of_ble_eq_true rfl⟩) ⟨fun a U g mk q => by obtain ⟨q0, qP, qK⟩ := q; exact ⟨q0, qP, va_K.moved (u := U) (U := U.calling g mk a) (Vm.Alike.refl U.vm) qK⟩, fun U hU hW => ⟨rfl, by rw [hU]; exact hPc, va_K.moved hW.alike hK⟩⟩ rfl rfl hl.1 rfl (lv_room (Nat.le_of_ble_eq_true rfl)) dX12_fits_20 ⟨Nat.le_of_ble_eq_true rfl, Nat.le_of_ble_eq_true rfl⟩) hS (fun q _ h => h.elim) (fun q h => h.elim) (fun x_3 u t H1 locs ht hvm w_4 hB hz1 hk1 hS => ?_)
  have hP : va_P D vwCl [(h, .inr (9, [.int h_code, .int h_taped, .ref h_tape, .int h_size, .ref h_text, .double h_value, .int h_out, .ref h_output, .int h_illAt, .ref h_format, .int h_sections, .int h_items, .ref h_kind, .ref h_what, .ref h_of, .ref h_relation, .ref h_bound, .int h_reads, .int h_readSections, .ref h_readKind, .ref h_readWhat, .ref h_readOf, .ref h_place, .ref h_readRelation, .ref h_readBound, .int h_stop, .ref h_meant, .ref h_row, .ref h_exact, .ref h_error, .ref h_bestError, .long h_m, .int h_e, .ref h_digits, .int h_whole])), (h_readKind, .inl (cI, 260, .inl h_readKindF))] H1 := hP.kept (fun k9 q9 h9 => hk1 q9.1 (vx_lt hP h9) (fun h => h))
  generalize H1 = H at hP hS ⊢
  try dsimp only at w_4
  have b_x_3 := ti_b x_3
  refine lv_istore (lv' := [(6, .int x_3), (5, .int x_1), (4, .ref h_readKind), (0, .ref h), (1, .int p1), (2, .int p2), (3, .int p3)]) hx hb dX12_fits_23 hl (by decide) rfl (fun ls hl => ?_)
  refine lv_aload hx hb dX12_fits_25 (lv_at hl 2 rfl) ?_
  refine lv_iload_n hx hb dX12_fits_27 rfl (lv_at hl 5 rfl) ?_
  refine lv_iload_n hx hb dX12_fits_28 rfl (lv_at hl 6 rfl) ?_
  refine lv_bipush (v := 7) hx hb dX12_fits_29 (by decide) ?_
  have hPc := hP.sub (ws' := [(h_readKind, .inl (cI, 260, .inl h_readKindF))]) [1] rfl
  refine va_calli (va_runS (As := [.ref h_readKind, .int p2, .int p3, .int 7]) (rest := []) ⟨hx, hb, hml, hown, hts⟩ (c_X12_find l D cI cD cJ H.size h_readKind h_readKindF p2 p3 7 (by omega) (by omega) (by omega)) (va_cwS 4 hts (goodIn_app (goodIn_r _ [5, 6, 4] rfl (by decide +kernel)) (goodIn_sub i_X12_find k_X12_find)) rfl rfl rfl (by decide +kernel) ⟨Nat.le_of_ble_eq_true rfl, Nat.le_of_ble_eq_true rfl⟩) ⟨fun a U g mk q => by obtain ⟨q0, qP, qK⟩ := q; exact ⟨q0, qP, va_K.moved (u := U) (U := U.calling g mk a) (Vm.Alike.refl U.vm) qK⟩, fun U hU hW => ⟨rfl, by rw [hU]; exact hPc, va_K.moved hW.alike hK⟩⟩ rfl rfl hl.1 rfl (lv_room (Nat.le_of_ble_eq_true rfl)) dX12_fits_31 ⟨Nat.le_of_ble_eq_true rfl, Nat.le_of_ble_eq_true rfl⟩) hS (fun q _ h => h.elim) (fun q h => h.elim) (fun x_5 u t H1 locs ht hvm w_6 hB hz1 hk1 hS => ?_)
  have hP : va_P D vwCl [(h, .inr (9, [.int h_code, .int h_taped, .ref h_tape, .int h_size, .ref h_text, .double h_value, .int h_out, .ref h_output, .int h_illAt, .ref h_format, .int h_sections, .int h_items, .ref h_kind, .ref h_what, .ref h_of, .ref h_relation, .ref h_bound, .int h_reads, .int h_readSections, .ref h_readKind, .ref h_readWhat, .ref h_readOf, .ref h_place, .ref h_readRelation, .ref h_readBound, .int h_stop, .ref h_meant, .ref h_row, .ref h_exact, .ref h_error, .ref h_bestError, .long h_m, .int h_e, .ref h_digits, .int h_whole])), (h_readKind, .inl (cI, 260, .inl h_readKindF))] H1 := hP.kept (fun k9 q9 h9 => hk1 q9.1 (vx_lt hP h9) (fun h => h))
  generalize H1 = H at hP hS ⊢
  try dsimp only at w_6
  have b_x_5 := ti_b x_5
  refine lv_istore (lv' := [(7, .int x_5), (6, .int x_3), (5, .int x_1), (4, .ref h_readKind), (0, .ref h), (1, .int p1), (2, .int p2), (3, .int p3)]) hx hb dX12_fits_34 hl (by decide) rfl (fun ls hl => ?_)
  refine lv_iload hx hb dX12_fits_36 (lv_at hl 2 rfl) ?_
  have K_69 : ∀ (H : Heap) (locs : List Loc) (ls : Array Slot), va_P D vwCl [(h, .inr (9, [.int h_code, .int h_taped, .ref h_tape, .int h_size, .ref h_text, .double h_value, .int h_out, .ref h_output, .int h_illAt, .ref h_format, .int h_sections, .int h_items, .ref h_kind, .ref h_what, .ref h_of, .ref h_relation, .ref h_bound, .int h_reads, .int h_readSections, .ref h_readKind, .ref h_readWhat, .ref h_readOf, .ref h_place, .ref h_readRelation, .ref h_readBound, .int h_stop, .ref h_meant, .ref h_row, .ref h_exact, .ref h_error, .ref h_bestError, .long h_m, .int h_e, .ref h_digits, .int h_whole])), (h_readKind, .inl (cI, 260, .inl h_readKindF))] H → va_S (fun _ => False) s.heap H locs → lv_has ls 8 [(6, .int x_3), (5, .int x_1), (4, .ref h_readKind), (1, .int p1), (2, .int p2), (3, .int p3)] → Z 0 0 H locs (F0 m 69 ls []) := by
    intro  H locs ls  hP hS hl
    refine hZ2 ?_
    refine lv_aload hx hb dX12_fits_69 (lv_at hl 2 rfl) ?_
    refine lv_iload_n hx hb dX12_fits_71 rfl (lv_at hl 3 rfl) ?_
    have h_72 : vp_in p1 260 := by rw [vp_in_iff]; omega
    refine va_iald hx hb hK hP 1 0 rfl rfl h_72 dX12_fits_72 ?_
    refine lv_topi (fun x_7 ex_7 => ?_)
    rcases (show (x_7 : Int32).toInt < 1 ∨ 13 < (x_7 : Int32).toInt ∨ (x_7 : Int32).toInt = 1 ∨ (x_7 : Int32).toInt = 2 ∨ (x_7 : Int32).toInt = 3 ∨ (x_7 : Int32).toInt = 4 ∨ (x_7 : Int32).toInt = 5 ∨ (x_7 : Int32).toInt = 6 ∨ (x_7 : Int32).toInt = 7 ∨ (x_7 : Int32).toInt = 8 ∨ (x_7 : Int32).toInt = 9 ∨ (x_7 : Int32).toInt = 10 ∨ (x_7 : Int32).toInt = 11 ∨ (x_7 : Int32).toInt = 12 ∨ (x_7 : Int32).toInt = 13 by omega) with v_8 | v_8 | v_8 | v_8 | v_8 | v_8 | v_8 | v_8 | v_8 | v_8 | v_8 | v_8 | v_8 | v_8 | v_8
    · refine lv_tableOut (tgt := 305) hx hb dX12_fits_73 (Or.inl v_8) (by decide) ?_
      refine lv_iconst (v := 1) hx hb dX12_fits_305 (by decide) ?_
      exact W.zret (v := 1) hx hb hr rfl (fun t ht hW => ⟨⟨1, (), rfl, (by (try dsimp only); first | omega | assumption), trivial⟩, hS.F ht⟩) hS.2.2 dX12_fits_306
    · refine lv_tableOut (tgt := 305) hx hb dX12_fits_73 (Or.inr v_8) (by decide) ?_
      refine lv_iconst (v := 1) hx hb dX12_fits_305 (by decide) ?_
      exact W.zret (v := 1) hx hb hr rfl (fun t ht hW => ⟨⟨1, (), rfl, (by (try dsimp only); first | omega | assumption), trivial⟩, hS.F ht⟩) hS.2.2 dX12_fits_306
    · refine lv_tableIn (off := 175) (tgt := 248) hx hb dX12_fits_73 (by omega) (by omega) (by rw [v_8]; rfl) (by decide) ?_
      refine lv_iload hx hb dX12_fits_248 (lv_at hl 1 rfl) ?_
      refine lv_if_eq (tgt := 259) hx hb dX12_fits_250 (by decide) (fun c_9 => ?_) (fun c_9 => ?_)
      · have ic_9 : (x_1 : Int32).toInt = (0 : Int32).toInt := (fa_eq x_1 0).mp c_9
        refine lv_iconst (v := 1) hx hb dX12_fits_259 (by decide) ?_
        exact W.zret (v := 1) hx hb hr rfl (fun t ht hW => ⟨⟨1, (), rfl, (by (try dsimp only); first | omega | assumption), trivial⟩, hS.F ht⟩) hS.2.2 dX12_fits_260
      · have ic_9 : ¬ ((x_1 : Int32).toInt = (0 : Int32).toInt) := fun h9 => c_9 ((fa_eq x_1 0).mpr h9)
        refine lv_iload_n hx hb dX12_fits_253 rfl (lv_at hl 3 rfl) ?_
        refine lv_iload hx hb dX12_fits_254 (lv_at hl 0 rfl) ?_
        refine lv_icmp_ge (tgt := 261) hx hb dX12_fits_256 (by decide) (fun c_10 => ?_) (fun c_10 => ?_)
        · have ic_10 : (x_3 : Int32).toInt ≤ (p1 : Int32).toInt := (fa_le x_3 p1).mp c_10
          refine lv_aload hx hb dX12_fits_261 (lv_at hl 2 rfl) ?_
          refine lv_iload hx hb dX12_fits_263 (lv_at hl 0 rfl) ?_
          refine lv_iconst (v := 1) hx hb dX12_fits_265 (by decide) ?_
          refine lv_iadd hx hb dX12_fits_266 ?_
          refine lv_topi (fun x_11 ex_11 => ?_)
          have b_x_3 := ti_b x_3
          have tx_11 := ti_add ex_11
          have h_267 : vp_in x_11 260 := by rw [vp_in_iff]; omega
          refine va_iald hx hb hK hP 1 0 rfl rfl h_267 dX12_fits_267 ?_
          refine lv_topi (fun x_12 ex_12 => ?_)
          refine lv_iconst (v := 1) hx hb dX12_fits_268 (by decide) ?_
          refine lv_icmp_ne (tgt := 303) hx hb dX12_fits_269 (by decide) (fun c_13 => ?_) (fun c_13 => ?_)
          · have ic_13 : ¬ ((x_12 : Int32).toInt = (1 : Int32).toInt) := fun h9 => c_13 ((fa_eq x_12 1).mpr h9)
            refine lv_iconst (v := 0) hx hb dX12_fits_303 (by decide) ?_
            exact W.zret (v := 0) hx hb hr rfl (fun t ht hW => ⟨⟨0, (), rfl, (by (try dsimp only); first | omega | assumption), trivial⟩, hS.F ht⟩) hS.2.2 dX12_fits_304
          · have ic_13 : (x_12 : Int32).toInt = (1 : Int32).toInt := (fa_eq x_12 1).mp c_13
            refine lv_iload_n hx hb dX12_fits_272 rfl (lv_at hl 3 rfl) ?_
            refine lv_iload hx hb dX12_fits_273 (lv_at hl 0 rfl) ?_
            refine lv_iconst (v := 4) hx hb dX12_fits_275 (by decide) ?_
            refine lv_iadd hx hb dX12_fits_276 ?_
            refine lv_topi (fun x_14 ex_14 => ?_)
            have b_x_3 := ti_b x_3
            have tx_14 := ti_add ex_14
            refine lv_icmp_ge (tgt := 303) hx hb dX12_fits_277 (by decide) (fun c_15 => ?_) (fun c_15 => ?_)
            · have ic_15 : (x_14 : Int32).toInt ≤ (p1 : Int32).toInt := (fa_le x_14 p1).mp c_15
              refine lv_iconst (v := 0) hx hb dX12_fits_303 (by decide) ?_
              exact W.zret (v := 0) hx hb hr rfl (fun t ht hW => ⟨⟨0, (), rfl, (by (try dsimp only); first | omega | assumption), trivial⟩, hS.F ht⟩) hS.2.2 dX12_fits_304
            · have ic_15 : ¬ ((x_14 : Int32).toInt ≤ (p1 : Int32).toInt) := fun h9 => c_15 ((fa_le x_14 p1).mpr h9)
              refine lv_iload_n hx hb dX12_fits_280 rfl (lv_at hl 3 rfl) ?_
              refine lv_iload hx hb dX12_fits_281 (lv_at hl 0 rfl) ?_
              refine lv_iconst (v := 1) hx hb dX12_fits_283 (by decide) ?_
              refine lv_iadd hx hb dX12_fits_284 ?_
              refine lv_topi (fun x_16 ex_16 => ?_)
              have b_x_3 := ti_b x_3
              have tx_16 := ti_add ex_16
              refine lv_aload hx hb dX12_fits_285 (lv_at hl 2 rfl) ?_
              refine lv_iload hx hb dX12_fits_287 (lv_at hl 0 rfl) ?_
              refine lv_iconst (v := 1) hx hb dX12_fits_289 (by decide) ?_
              refine lv_iadd hx hb dX12_fits_290 ?_
              refine lv_topi (fun x_17 ex_17 => ?_)
              have b_x_3 := ti_b x_3
              have tx_17 := ti_add ex_17
              refine lv_iload_n hx hb dX12_fits_291 rfl (lv_at hl 5 rfl) ?_
              have hPc := hP.sub (ws' := [(h_readKind, .inl (cI, 260, .inl h_readKindF))]) [1] rfl
              refine va_calli (va_runS (As := [.ref h_readKind, .int x_17, .int p3]) (rest := [.int x_16, .int p1]) ⟨hx, hb, hml, hown, hts⟩ (c_X12_rowFrom l D cI cD cJ H.size h_readKind h_readKindF x_17 p3 (by omega) (by omega) (by omega)) (va_cwS 3 hts (goodIn_app (goodIn_r _ [7, 8, 4] rfl (by decide +kernel)) (goodIn_sub i_X12_rowFrom k_X12_rowFrom)) rfl rfl rfl (by decide +kernel) ⟨Nat.le_of_ble_eq_true rfl, Nat.le_of_ble_eq_true rfl⟩) ⟨fun a U g mk q => by obtain ⟨q0, qP, qK⟩ := q; exact ⟨q0, qP, va_K.moved (u := U) (U := U.calling g mk a) (Vm.Alike.refl U.vm) qK⟩, fun U hU hW => ⟨rfl, by rw [hU]; exact hPc, va_K.moved hW.alike hK⟩⟩ rfl rfl hl.1 rfl (lv_room (Nat.le_of_ble_eq_true rfl)) dX12_fits_292 ⟨Nat.le_of_ble_eq_true rfl, Nat.le_of_ble_eq_true rfl⟩) hS (fun q _ h => h.elim) (fun q h => h.elim) (fun x_18 u t H1 locs ht hvm w_19 hB hz1 hk1 hS => ?_)
              have hP : va_P D vwCl [(h, .inr (9, [.int h_code, .int h_taped, .ref h_tape, .int h_size, .ref h_text, .double h_value, .int h_out, .ref h_output, .int h_illAt, .ref h_format, .int h_sections, .int h_items, .ref h_kind, .ref h_what, .ref h_of, .ref h_relation, .ref h_bound, .int h_reads, .int h_readSections, .ref h_readKind, .ref h_readWhat, .ref h_readOf, .ref h_place, .ref h_readRelation, .ref h_readBound, .int h_stop, .ref h_meant, .ref h_row, .ref h_exact, .ref h_error, .ref h_bestError, .long h_m, .int h_e, .ref h_digits, .int h_whole])), (h_readKind, .inl (cI, 260, .inl h_readKindF))] H1 := hP.kept (fun k9 q9 h9 => hk1 q9.1 (vx_lt hP h9) (fun h => h))
              generalize H1 = H at hP hS ⊢
              try dsimp only at w_19
              have b_x_18 := ti_b x_18
              refine lv_iadd hx hb dX12_fits_295 ?_
              refine lv_topi (fun x_20 ex_20 => ?_)
              have b_x_18 := ti_b x_18
              have tx_20 := ti_add ex_20
              refine lv_icmp_ge (tgt := 303) hx hb dX12_fits_296 (by decide) (fun c_21 => ?_) (fun c_21 => ?_)
              · have ic_21 : (x_20 : Int32).toInt ≤ (p1 : Int32).toInt := (fa_le x_20 p1).mp c_21
                refine lv_iconst (v := 0) hx hb dX12_fits_303 (by decide) ?_
                exact W.zret (v := 0) hx hb hr rfl (fun t ht hW => ⟨⟨0, (), rfl, (by (try dsimp only); first | omega | assumption), trivial⟩, hS.F ht⟩) hS.2.2 dX12_fits_304
              · have ic_21 : ¬ ((x_20 : Int32).toInt ≤ (p1 : Int32).toInt) := fun h9 => c_21 ((fa_le x_20 p1).mpr h9)
                refine lv_iconst (v := 1) hx hb dX12_fits_299 (by decide) ?_
                refine lv_goto (tgt := 304) hx hb dX12_fits_300 (by decide) ?_
                exact W.zret (v := 1) hx hb hr rfl (fun t ht hW => ⟨⟨1, (), rfl, (by (try dsimp only); first | omega | assumption), trivial⟩, hS.F ht⟩) hS.2.2 dX12_fits_304
        · have ic_10 : ¬ ((x_3 : Int32).toInt ≤ (p1 : Int32).toInt) := fun h9 => c_10 ((fa_le x_3 p1).mpr h9)
          refine lv_iconst (v := 1) hx hb dX12_fits_259 (by decide) ?_
          exact W.zret (v := 1) hx hb hr rfl (fun t ht hW => ⟨⟨1, (), rfl, (by (try dsimp only); first | omega | assumption), trivial⟩, hS.F ht⟩) hS.2.2 dX12_fits_260
    · refine lv_tableIn (off := 103) (tgt := 176) hx hb dX12_fits_73 (by omega) (by omega) (by rw [v_8]; rfl) (by decide) ?_
      refine lv_iload hx hb dX12_fits_176 (lv_at hl 1 rfl) ?_
      refine lv_if_ne (tgt := 197) hx hb dX12_fits_178 (by decide) (fun c_22 => ?_) (fun c_22 => ?_)
      · have ic_22 : ¬ ((x_1 : Int32).toInt = (0 : Int32).toInt) := fun h9 => c_22 ((fa_eq x_1 0).mpr h9)
        refine lv_iconst (v := 0) hx hb dX12_fits_197 (by decide) ?_
        exact W.zret (v := 0) hx hb hr rfl (fun t ht hW => ⟨⟨0, (), rfl, (by (try dsimp only); first | omega | assumption), trivial⟩, hS.F ht⟩) hS.2.2 dX12_fits_198
      · have ic_22 : (x_1 : Int32).toInt = (0 : Int32).toInt := (fa_eq x_1 0).mp c_22
        refine lv_iload_n hx hb dX12_fits_181 rfl (lv_at hl 3 rfl) ?_
        refine lv_aload hx hb dX12_fits_182 (lv_at hl 2 rfl) ?_
        refine lv_iload_n hx hb dX12_fits_184 rfl (lv_at hl 4 rfl) ?_
        refine lv_iload_n hx hb dX12_fits_185 rfl (lv_at hl 5 rfl) ?_
        refine lv_iconst (v := 2) hx hb dX12_fits_186 (by decide) ?_
        have hPc := hP.sub (ws' := [(h_readKind, .inl (cI, 260, .inl h_readKindF))]) [1] rfl
        refine va_calli (va_runS (As := [.ref h_readKind, .int p2, .int p3, .int 2]) (rest := [.int p1]) ⟨hx, hb, hml, hown, hts⟩ (c_X12_find l D cI cD cJ H.size h_readKind h_readKindF p2 p3 2 (by omega) (by omega) (by omega)) (va_cwS 4 hts (goodIn_app (goodIn_r _ [5, 6, 4] rfl (by decide +kernel)) (goodIn_sub i_X12_find k_X12_find)) rfl rfl rfl (by decide +kernel) ⟨Nat.le_of_ble_eq_true rfl, Nat.le_of_ble_eq_true rfl⟩) ⟨fun a U g mk q => by obtain ⟨q0, qP, qK⟩ := q; exact ⟨q0, qP, va_K.moved (u := U) (U := U.calling g mk a) (Vm.Alike.refl U.vm) qK⟩, fun U hU hW => ⟨rfl, by rw [hU]; exact hPc, va_K.moved hW.alike hK⟩⟩ rfl rfl hl.1 rfl (lv_room (Nat.le_of_ble_eq_true rfl)) dX12_fits_187 ⟨Nat.le_of_ble_eq_true rfl, Nat.le_of_ble_eq_true rfl⟩) hS (fun q _ h => h.elim) (fun q h => h.elim) (fun x_23 u t H1 locs ht hvm w_24 hB hz1 hk1 hS => ?_)
        have hP : va_P D vwCl [(h, .inr (9, [.int h_code, .int h_taped, .ref h_tape, .int h_size, .ref h_text, .double h_value, .int h_out, .ref h_output, .int h_illAt, .ref h_format, .int h_sections, .int h_items, .ref h_kind, .ref h_what, .ref h_of, .ref h_relation, .ref h_bound, .int h_reads, .int h_readSections, .ref h_readKind, .ref h_readWhat, .ref h_readOf, .ref h_place, .ref h_readRelation, .ref h_readBound, .int h_stop, .ref h_meant, .ref h_row, .ref h_exact, .ref h_error, .ref h_bestError, .long h_m, .int h_e, .ref h_digits, .int h_whole])), (h_readKind, .inl (cI, 260, .inl h_readKindF))] H1 := hP.kept (fun k9 q9 h9 => hk1 q9.1 (vx_lt hP h9) (fun h => h))
        generalize H1 = H at hP hS ⊢
        try dsimp only at w_24
        have b_x_23 := ti_b x_23
        refine lv_icmp_ne (tgt := 197) hx hb dX12_fits_190 (by decide) (fun c_25 => ?_) (fun c_25 => ?_)
        · have ic_25 : ¬ ((p1 : Int32).toInt = (x_23 : Int32).toInt) := fun h9 => c_25 ((fa_eq p1 x_23).mpr h9)
          refine lv_iconst (v := 0) hx hb dX12_fits_197 (by decide) ?_
          exact W.zret (v := 0) hx hb hr rfl (fun t ht hW => ⟨⟨0, (), rfl, (by (try dsimp only); first | omega | assumption), trivial⟩, hS.F ht⟩) hS.2.2 dX12_fits_198
        · have ic_25 : (p1 : Int32).toInt = (x_23 : Int32).toInt := (fa_eq p1 x_23).mp c_25
          refine lv_iconst (v := 1) hx hb dX12_fits_193 (by decide) ?_
          refine lv_goto (tgt := 198) hx hb dX12_fits_194 (by decide) ?_
          exact W.zret (v := 1) hx hb hr rfl (fun t ht hW => ⟨⟨1, (), rfl, (by (try dsimp only); first | omega | assumption), trivial⟩, hS.F ht⟩) hS.2.2 dX12_fits_198
    · refine lv_tableIn (off := 126) (tgt := 199) hx hb dX12_fits_73 (by omega) (by omega) (by rw [v_8]; rfl) (by decide) ?_
      refine lv_iload hx hb dX12_fits_199 (lv_at hl 1 rfl) ?_
      refine lv_if_ne (tgt := 208) hx hb dX12_fits_201 (by decide) (fun c_26 => ?_) (fun c_26 => ?_)
      · have ic_26 : ¬ ((x_1 : Int32).toInt = (0 : Int32).toInt) := fun h9 => c_26 ((fa_eq x_1 0).mpr h9)
        refine lv_iconst (v := 0) hx hb dX12_fits_208 (by decide) ?_
        exact W.zret (v := 0) hx hb hr rfl (fun t ht hW => ⟨⟨0, (), rfl, (by (try dsimp only); first | omega | assumption), trivial⟩, hS.F ht⟩) hS.2.2 dX12_fits_209
      · have ic_26 : (x_1 : Int32).toInt = (0 : Int32).toInt := (fa_eq x_1 0).mp c_26
        refine lv_iconst (v := 1) hx hb dX12_fits_204 (by decide) ?_
        refine lv_goto (tgt := 209) hx hb dX12_fits_205 (by decide) ?_
        exact W.zret (v := 1) hx hb hr rfl (fun t ht hW => ⟨⟨1, (), rfl, (by (try dsimp only); first | omega | assumption), trivial⟩, hS.F ht⟩) hS.2.2 dX12_fits_209
    · refine lv_tableIn (off := 126) (tgt := 199) hx hb dX12_fits_73 (by omega) (by omega) (by rw [v_8]; rfl) (by decide) ?_
      refine lv_iload hx hb dX12_fits_199 (lv_at hl 1 rfl) ?_
      refine lv_if_ne (tgt := 208) hx hb dX12_fits_201 (by decide) (fun c_27 => ?_) (fun c_27 => ?_)
      · have ic_27 : ¬ ((x_1 : Int32).toInt = (0 : Int32).toInt) := fun h9 => c_27 ((fa_eq x_1 0).mpr h9)
        refine lv_iconst (v := 0) hx hb dX12_fits_208 (by decide) ?_
        exact W.zret (v := 0) hx hb hr rfl (fun t ht hW => ⟨⟨0, (), rfl, (by (try dsimp only); first | omega | assumption), trivial⟩, hS.F ht⟩) hS.2.2 dX12_fits_209
      · have ic_27 : (x_1 : Int32).toInt = (0 : Int32).toInt := (fa_eq x_1 0).mp c_27
        refine lv_iconst (v := 1) hx hb dX12_fits_204 (by decide) ?_
        refine lv_goto (tgt := 209) hx hb dX12_fits_205 (by decide) ?_
        exact W.zret (v := 1) hx hb hr rfl (fun t ht hW => ⟨⟨1, (), rfl, (by (try dsimp only); first | omega | assumption), trivial⟩, hS.F ht⟩) hS.2.2 dX12_fits_209
    · refine lv_tableIn (off := 67) (tgt := 140) hx hb dX12_fits_73 (by omega) (by omega) (by rw [v_8]; rfl) (by decide) ?_
      refine lv_iload hx hb dX12_fits_140 (lv_at hl 1 rfl) ?_
      refine lv_if_eq (tgt := 155) hx hb dX12_fits_142 (by decide) (fun c_28 => ?_) (fun c_28 => ?_)
      · have ic_28 : (x_1 : Int32).toInt = (0 : Int32).toInt := (fa_eq x_1 0).mp c_28
        refine lv_iconst (v := 0) hx hb dX12_fits_155 (by decide) ?_
        exact W.zret (v := 0) hx hb hr rfl (fun t ht hW => ⟨⟨0, (), rfl, (by (try dsimp only); first | omega | assumption), trivial⟩, hS.F ht⟩) hS.2.2 dX12_fits_156
      · have ic_28 : ¬ ((x_1 : Int32).toInt = (0 : Int32).toInt) := fun h9 => c_28 ((fa_eq x_1 0).mpr h9)
        refine lv_iload_n hx hb dX12_fits_145 rfl (lv_at hl 3 rfl) ?_
        refine lv_iload hx hb dX12_fits_146 (lv_at hl 0 rfl) ?_
        refine lv_icmp_ne (tgt := 155) hx hb dX12_fits_148 (by decide) (fun c_29 => ?_) (fun c_29 => ?_)
        · have ic_29 : ¬ ((p1 : Int32).toInt = (x_3 : Int32).toInt) := fun h9 => c_29 ((fa_eq p1 x_3).mpr h9)
          refine lv_iconst (v := 0) hx hb dX12_fits_155 (by decide) ?_
          exact W.zret (v := 0) hx hb hr rfl (fun t ht hW => ⟨⟨0, (), rfl, (by (try dsimp only); first | omega | assumption), trivial⟩, hS.F ht⟩) hS.2.2 dX12_fits_156
        · have ic_29 : (p1 : Int32).toInt = (x_3 : Int32).toInt := (fa_eq p1 x_3).mp c_29
          refine lv_iconst (v := 1) hx hb dX12_fits_151 (by decide) ?_
          refine lv_goto (tgt := 156) hx hb dX12_fits_152 (by decide) ?_
          exact W.zret (v := 1) hx hb hr rfl (fun t ht hW => ⟨⟨1, (), rfl, (by (try dsimp only); first | omega | assumption), trivial⟩, hS.F ht⟩) hS.2.2 dX12_fits_156
    · refine lv_tableIn (off := 232) (tgt := 305) hx hb dX12_fits_73 (by omega) (by omega) (by rw [v_8]; rfl) (by decide) ?_
      refine lv_iconst (v := 1) hx hb dX12_fits_305 (by decide) ?_
      exact W.zret (v := 1) hx hb hr rfl (fun t ht hW => ⟨⟨1, (), rfl, (by (try dsimp only); first | omega | assumption), trivial⟩, hS.F ht⟩) hS.2.2 dX12_fits_306
    · refine lv_tableIn (off := 137) (tgt := 210) hx hb dX12_fits_73 (by omega) (by omega) (by rw [v_8]; rfl) (by decide) ?_
      refine lv_iload hx hb dX12_fits_210 (lv_at hl 1 rfl) ?_
      refine lv_if_ne (tgt := 246) hx hb dX12_fits_212 (by decide) (fun c_30 => ?_) (fun c_30 => ?_)
      · have ic_30 : ¬ ((x_1 : Int32).toInt = (0 : Int32).toInt) := fun h9 => c_30 ((fa_eq x_1 0).mpr h9)
        refine lv_iconst (v := 0) hx hb dX12_fits_246 (by decide) ?_
        exact W.zret (v := 0) hx hb hr rfl (fun t ht hW => ⟨⟨0, (), rfl, (by (try dsimp only); first | omega | assumption), trivial⟩, hS.F ht⟩) hS.2.2 dX12_fits_247
      · have ic_30 : (x_1 : Int32).toInt = (0 : Int32).toInt := (fa_eq x_1 0).mp c_30
        refine lv_iload_n hx hb dX12_fits_215 rfl (lv_at hl 3 rfl) ?_
        refine lv_iload_n hx hb dX12_fits_216 rfl (lv_at hl 4 rfl) ?_
        refine lv_icmp_le (tgt := 246) hx hb dX12_fits_217 (by decide) (fun c_31 => ?_) (fun c_31 => ?_)
        · have ic_31 : (p1 : Int32).toInt ≤ (p2 : Int32).toInt := (fa_le p1 p2).mp c_31
          refine lv_iconst (v := 0) hx hb dX12_fits_246 (by decide) ?_
          exact W.zret (v := 0) hx hb hr rfl (fun t ht hW => ⟨⟨0, (), rfl, (by (try dsimp only); first | omega | assumption), trivial⟩, hS.F ht⟩) hS.2.2 dX12_fits_247
        · have ic_31 : ¬ ((p1 : Int32).toInt ≤ (p2 : Int32).toInt) := fun h9 => c_31 ((fa_le p1 p2).mpr h9)
          refine lv_aload hx hb dX12_fits_220 (lv_at hl 2 rfl) ?_
          refine lv_iload_n hx hb dX12_fits_222 rfl (lv_at hl 3 rfl) ?_
          refine lv_iconst (v := 1) hx hb dX12_fits_223 (by decide) ?_
          refine lv_isub hx hb dX12_fits_224 ?_
          refine lv_topi (fun x_32 ex_32 => ?_)
          have b_p1 := ti_b p1
          have tx_32 := ti_sub ex_32
          have h_225 : vp_in x_32 260 := by rw [vp_in_iff]; omega
          refine va_iald hx hb hK hP 1 0 rfl rfl h_225 dX12_fits_225 ?_
          refine lv_topi (fun x_33 ex_33 => ?_)
          refine lv_iconst (v := 1) hx hb dX12_fits_226 (by decide) ?_
          refine lv_icmp_ne (tgt := 246) hx hb dX12_fits_227 (by decide) (fun c_34 => ?_) (fun c_34 => ?_)
          · have ic_34 : ¬ ((x_33 : Int32).toInt = (1 : Int32).toInt) := fun h9 => c_34 ((fa_eq x_33 1).mpr h9)
            refine lv_iconst (v := 0) hx hb dX12_fits_246 (by decide) ?_
            exact W.zret (v := 0) hx hb hr rfl (fun t ht hW => ⟨⟨0, (), rfl, (by (try dsimp only); first | omega | assumption), trivial⟩, hS.F ht⟩) hS.2.2 dX12_fits_247
          · have ic_34 : (x_33 : Int32).toInt = (1 : Int32).toInt := (fa_eq x_33 1).mp c_34
            refine lv_aload hx hb dX12_fits_230 (lv_at hl 2 rfl) ?_
            refine lv_iload_n hx hb dX12_fits_232 rfl (lv_at hl 3 rfl) ?_
            refine lv_iconst (v := 1) hx hb dX12_fits_233 (by decide) ?_
            refine lv_iadd hx hb dX12_fits_234 ?_
            refine lv_topi (fun x_35 ex_35 => ?_)
            have b_p1 := ti_b p1
            have tx_35 := ti_add ex_35
            refine lv_iload_n hx hb dX12_fits_235 rfl (lv_at hl 5 rfl) ?_
            have hPc := hP.sub (ws' := [(h_readKind, .inl (cI, 260, .inl h_readKindF))]) [1] rfl
            refine va_calli (va_runS (As := [.ref h_readKind, .int x_35, .int p3]) (rest := []) ⟨hx, hb, hml, hown, hts⟩ (c_X12_rowFrom l D cI cD cJ H.size h_readKind h_readKindF x_35 p3 (by omega) (by omega) (by omega)) (va_cwS 3 hts (goodIn_app (goodIn_r _ [7, 8, 4] rfl (by decide +kernel)) (goodIn_sub i_X12_rowFrom k_X12_rowFrom)) rfl rfl rfl (by decide +kernel) ⟨Nat.le_of_ble_eq_true rfl, Nat.le_of_ble_eq_true rfl⟩) ⟨fun a U g mk q => by obtain ⟨q0, qP, qK⟩ := q; exact ⟨q0, qP, va_K.moved (u := U) (U := U.calling g mk a) (Vm.Alike.refl U.vm) qK⟩, fun U hU hW => ⟨rfl, by rw [hU]; exact hPc, va_K.moved hW.alike hK⟩⟩ rfl rfl hl.1 rfl (lv_room (Nat.le_of_ble_eq_true rfl)) dX12_fits_236 ⟨Nat.le_of_ble_eq_true rfl, Nat.le_of_ble_eq_true rfl⟩) hS (fun q _ h => h.elim) (fun q h => h.elim) (fun x_36 u t H1 locs ht hvm w_37 hB hz1 hk1 hS => ?_)
            have hP : va_P D vwCl [(h, .inr (9, [.int h_code, .int h_taped, .ref h_tape, .int h_size, .ref h_text, .double h_value, .int h_out, .ref h_output, .int h_illAt, .ref h_format, .int h_sections, .int h_items, .ref h_kind, .ref h_what, .ref h_of, .ref h_relation, .ref h_bound, .int h_reads, .int h_readSections, .ref h_readKind, .ref h_readWhat, .ref h_readOf, .ref h_place, .ref h_readRelation, .ref h_readBound, .int h_stop, .ref h_meant, .ref h_row, .ref h_exact, .ref h_error, .ref h_bestError, .long h_m, .int h_e, .ref h_digits, .int h_whole])), (h_readKind, .inl (cI, 260, .inl h_readKindF))] H1 := hP.kept (fun k9 q9 h9 => hk1 q9.1 (vx_lt hP h9) (fun h => h))
            generalize H1 = H at hP hS ⊢
            try dsimp only at w_37
            have b_x_36 := ti_b x_36
            refine lv_if_le (tgt := 246) hx hb dX12_fits_239 (by decide) (fun c_38 => ?_) (fun c_38 => ?_)
            · have ic_38 : (x_36 : Int32).toInt ≤ (0 : Int32).toInt := (fa_le x_36 0).mp c_38
              refine lv_iconst (v := 0) hx hb dX12_fits_246 (by decide) ?_
              exact W.zret (v := 0) hx hb hr rfl (fun t ht hW => ⟨⟨0, (), rfl, (by (try dsimp only); first | omega | assumption), trivial⟩, hS.F ht⟩) hS.2.2 dX12_fits_247
            · have ic_38 : ¬ ((x_36 : Int32).toInt ≤ (0 : Int32).toInt) := fun h9 => c_38 ((fa_le x_36 0).mpr h9)
              refine lv_iconst (v := 1) hx hb dX12_fits_242 (by decide) ?_
              refine lv_goto (tgt := 247) hx hb dX12_fits_243 (by decide) ?_
              exact W.zret (v := 1) hx hb hr rfl (fun t ht hW => ⟨⟨1, (), rfl, (by (try dsimp only); first | omega | assumption), trivial⟩, hS.F ht⟩) hS.2.2 dX12_fits_247
    · refine lv_tableIn (off := 232) (tgt := 305) hx hb dX12_fits_73 (by omega) (by omega) (by rw [v_8]; rfl) (by decide) ?_
      refine lv_iconst (v := 1) hx hb dX12_fits_305 (by decide) ?_
      exact W.zret (v := 1) hx hb hr rfl (fun t ht hW => ⟨⟨1, (), rfl, (by (try dsimp only); first | omega | assumption), trivial⟩, hS.F ht⟩) hS.2.2 dX12_fits_306
    · refine lv_tableIn (off := 232) (tgt := 305) hx hb dX12_fits_73 (by omega) (by omega) (by rw [v_8]; rfl) (by decide) ?_
      refine lv_iconst (v := 1) hx hb dX12_fits_305 (by decide) ?_
      exact W.zret (v := 1) hx hb hr rfl (fun t ht hW => ⟨⟨1, (), rfl, (by (try dsimp only); first | omega | assumption), trivial⟩, hS.F ht⟩) hS.2.2 dX12_fits_306
    · refine lv_tableIn (off := 232) (tgt := 305) hx hb dX12_fits_73 (by omega) (by omega) (by rw [v_8]; rfl) (by decide) ?_
      refine lv_iconst (v := 1) hx hb dX12_fits_305 (by decide) ?_
      exact W.zret (v := 1) hx hb hr rfl (fun t ht hW => ⟨⟨1, (), rfl, (by (try dsimp only); first | omega | assumption), trivial⟩, hS.F ht⟩) hS.2.2 dX12_fits_306
    · refine lv_tableIn (off := 232) (tgt := 305) hx hb dX12_fits_73 (by omega) (by omega) (by rw [v_8]; rfl) (by decide) ?_
      refine lv_iconst (v := 1) hx hb dX12_fits_305 (by decide) ?_
      exact W.zret (v := 1) hx hb hr rfl (fun t ht hW => ⟨⟨1, (), rfl, (by (try dsimp only); first | omega | assumption), trivial⟩, hS.F ht⟩) hS.2.2 dX12_fits_306
    · refine lv_tableIn (off := 232) (tgt := 305) hx hb dX12_fits_73 (by omega) (by omega) (by rw [v_8]; rfl) (by decide) ?_
      refine lv_iconst (v := 1) hx hb dX12_fits_305 (by decide) ?_
      exact W.zret (v := 1) hx hb hr rfl (fun t ht hW => ⟨⟨1, (), rfl, (by (try dsimp only); first | omega | assumption), trivial⟩, hS.F ht⟩) hS.2.2 dX12_fits_306
    · refine lv_tableIn (off := 84) (tgt := 157) hx hb dX12_fits_73 (by omega) (by omega) (by rw [v_8]; rfl) (by decide) ?_
      refine lv_iload hx hb dX12_fits_157 (lv_at hl 1 rfl) ?_
      refine lv_if_eq (tgt := 174) hx hb dX12_fits_159 (by decide) (fun c_39 => ?_) (fun c_39 => ?_)
      · have ic_39 : (x_1 : Int32).toInt = (0 : Int32).toInt := (fa_eq x_1 0).mp c_39
        refine lv_iconst (v := 0) hx hb dX12_fits_174 (by decide) ?_
        exact W.zret (v := 0) hx hb hr rfl (fun t ht hW => ⟨⟨0, (), rfl, (by (try dsimp only); first | omega | assumption), trivial⟩, hS.F ht⟩) hS.2.2 dX12_fits_175
      · have ic_39 : ¬ ((x_1 : Int32).toInt = (0 : Int32).toInt) := fun h9 => c_39 ((fa_eq x_1 0).mpr h9)
        refine lv_iload_n hx hb dX12_fits_162 rfl (lv_at hl 3 rfl) ?_
        refine lv_iload hx hb dX12_fits_163 (lv_at hl 0 rfl) ?_
        refine lv_iconst (v := 1) hx hb dX12_fits_165 (by decide) ?_
        refine lv_iadd hx hb dX12_fits_166 ?_
        refine lv_topi (fun x_40 ex_40 => ?_)
        have b_x_3 := ti_b x_3
        have tx_40 := ti_add ex_40
        refine lv_icmp_ne (tgt := 174) hx hb dX12_fits_167 (by decide) (fun c_41 => ?_) (fun c_41 => ?_)
        · have ic_41 : ¬ ((p1 : Int32).toInt = (x_40 : Int32).toInt) := fun h9 => c_41 ((fa_eq p1 x_40).mpr h9)
          refine lv_iconst (v := 0) hx hb dX12_fits_174 (by decide) ?_
          exact W.zret (v := 0) hx hb hr rfl (fun t ht hW => ⟨⟨0, (), rfl, (by (try dsimp only); first | omega | assumption), trivial⟩, hS.F ht⟩) hS.2.2 dX12_fits_175
        · have ic_41 : (p1 : Int32).toInt = (x_40 : Int32).toInt := (fa_eq p1 x_40).mp c_41
          refine lv_iconst (v := 1) hx hb dX12_fits_170 (by decide) ?_
          refine lv_goto (tgt := 175) hx hb dX12_fits_171 (by decide) ?_
          exact W.zret (v := 1) hx hb hr rfl (fun t ht hW => ⟨⟨1, (), rfl, (by (try dsimp only); first | omega | assumption), trivial⟩, hS.F ht⟩) hS.2.2 dX12_fits_175
  refine lv_if_ne (tgt := 69) hx hb dX12_fits_38 (by decide) (fun c_42 => ?_) (fun c_42 => ?_)
  · have ic_42 : ¬ ((x_1 : Int32).toInt = (0 : Int32).toInt) := fun h9 => c_42 ((fa_eq x_1 0).mpr h9)
    exact hZ1 (K_69  _ _ _ hP hS (lv_sub hl [1, 2, 3, 5, 6, 7] rfl))
  · have ic_42 : (x_1 : Int32).toInt = (0 : Int32).toInt := (fa_eq x_1 0).mp c_42
    refine lv_iload_n hx hb dX12_fits_41 rfl (lv_at hl 5 rfl) ?_
    refine lv_iload hx hb dX12_fits_42 (lv_at hl 0 rfl) ?_
    refine lv_icmp_le (tgt := 69) hx hb dX12_fits_44 (by decide) (fun c_43 => ?_) (fun c_43 => ?_)
    · have ic_43 : (p1 : Int32).toInt ≤ (x_5 : Int32).toInt := (fa_le p1 x_5).mp c_43
      exact hZ1 (K_69  _ _ _ hP hS (lv_sub hl [1, 2, 3, 5, 6, 7] rfl))
    · have ic_43 : ¬ ((p1 : Int32).toInt ≤ (x_5 : Int32).toInt) := fun h9 => c_43 ((fa_le p1 x_5).mpr h9)
      refine lv_aload hx hb dX12_fits_47 (lv_at hl 3 rfl) ?_
      refine lv_iload_n hx hb dX12_fits_49 rfl (lv_at hl 5 rfl) ?_
      have h_50 : vp_in p1 260 := by rw [vp_in_iff]; omega
      refine va_iald hx hb hK hP 1 0 rfl rfl h_50 dX12_fits_50 ?_
      refine lv_topi (fun x_44 ex_44 => ?_)
      refine lv_iconst (v := 1) hx hb dX12_fits_51 (by decide) ?_
      refine lv_icmp_ne (tgt := 67) hx hb dX12_fits_52 (by decide) (fun c_45 => ?_) (fun c_45 => ?_)
      · have ic_45 : ¬ ((x_44 : Int32).toInt = (1 : Int32).toInt) := fun h9 => c_45 ((fa_eq x_44 1).mpr h9)
        refine lv_iconst (v := 0) hx hb dX12_fits_67 (by decide) ?_
        exact W.zret (v := 0) hx hb hr rfl (fun t ht hW => ⟨⟨0, (), rfl, (by (try dsimp only); first | omega | assumption), trivial⟩, hS.F ht⟩) hS.2.2 dX12_fits_68
      · have ic_45 : (x_44 : Int32).toInt = (1 : Int32).toInt := (fa_eq x_44 1).mp c_45
        refine lv_iload_n hx hb dX12_fits_55 rfl (lv_at hl 5 rfl) ?_
        refine lv_iload hx hb dX12_fits_56 (lv_at hl 0 rfl) ?_
        refine lv_iconst (v := 4) hx hb dX12_fits_58 (by decide) ?_
        refine lv_iadd hx hb dX12_fits_59 ?_
        refine lv_topi (fun x_46 ex_46 => ?_)
        have b_x_5 := ti_b x_5
        have tx_46 := ti_add ex_46
        refine lv_icmp_ge (tgt := 67) hx hb dX12_fits_60 (by decide) (fun c_47 => ?_) (fun c_47 => ?_)
        · have ic_47 : (x_46 : Int32).toInt ≤ (p1 : Int32).toInt := (fa_le x_46 p1).mp c_47
          refine lv_iconst (v := 0) hx hb dX12_fits_67 (by decide) ?_
          exact W.zret (v := 0) hx hb hr rfl (fun t ht hW => ⟨⟨0, (), rfl, (by (try dsimp only); first | omega | assumption), trivial⟩, hS.F ht⟩) hS.2.2 dX12_fits_68
        · have ic_47 : ¬ ((x_46 : Int32).toInt ≤ (p1 : Int32).toInt) := fun h9 => c_47 ((fa_le x_46 p1).mpr h9)
          refine lv_iconst (v := 1) hx hb dX12_fits_63 (by decide) ?_
          refine lv_goto (tgt := 68) hx hb dX12_fits_64 (by decide) ?_
          exact W.zret (v := 1) hx hb hr rfl (fun t ht hW => ⟨⟨1, (), rfl, (by (try dsimp only); first | omega | assumption), trivial⟩, hS.F ht⟩) hS.2.2 dX12_fits_68

def ow_X12_wrongIn : List Cond := [Cond.fieldLink RX12 42 "NumberFormatsModel" "readKind" "[I", Cond.methodLink RX12 245 yX12_sortOf, Cond.static yX12_sortOf, Cond.initialized RX12, Cond.fieldLink RX12 51 "NumberFormatsModel" "place" "[I", Cond.methodLink RX12 229 yX12_find, Cond.static yX12_find, Cond.fieldLink RX12 45 "NumberFormatsModel" "readWhat" "[I", Cond.methodLink RX12 252 yX12_isTenth, Cond.static yX12_isTenth, Cond.methodLink RX12 248 yX12_fits, Cond.instanceMethod yX12_fits, Cond.selects RX12 yX12_fits yX12_fits]
def pw_X12_wrongIn : List Cond := Cond.code yX12_wrongIn cX12_wrongIn 8 (some .int) :: (ow_X12_wrongIn ++ (pw_X12_sortOf ++ (pw_X12_find ++ (pw_X12_isTenth ++ (pw_X12_fits ++ (wsX120))))))
set_option maxRecDepth 20000 in
theorem mo_X12_wrongIn : ∀ w ∈ ow_X12_wrongIn, w ∈ lw_tbl := by decide +kernel
set_option maxRecDepth 20000 in
theorem mc_X12_wrongIn : Cond.code yX12_wrongIn cX12_wrongIn 8 (some .int) ∈ lw_tbl := by decide +kernel
theorem m_X12_wrongIn : ∀ w ∈ pw_X12_wrongIn, w ∈ lw_tbl := List.forall_mem_cons.mpr ⟨mc_X12_wrongIn, (List.forall_mem_append.mpr ⟨mo_X12_wrongIn, (List.forall_mem_append.mpr ⟨m_X12_sortOf, (List.forall_mem_append.mpr ⟨m_X12_find, (List.forall_mem_append.mpr ⟨m_X12_isTenth, (List.forall_mem_append.mpr ⟨m_X12_fits, inX12⟩)⟩)⟩)⟩)⟩)⟩
theorem ko_X12_wrongIn : ∀ w ∈ ow_X12_wrongIn, goodWord w = true := by decide +kernel
theorem k_X12_wrongIn : pw_X12_wrongIn.all goodWord = true := List.all_eq_true.mpr (List.forall_mem_cons.mpr ⟨by decide +kernel, (List.forall_mem_append.mpr ⟨ko_X12_wrongIn, (List.forall_mem_append.mpr ⟨(List.all_eq_true.mp k_X12_sortOf), (List.forall_mem_append.mpr ⟨(List.all_eq_true.mp k_X12_find), (List.forall_mem_append.mpr ⟨(List.all_eq_true.mp k_X12_isTenth), (List.forall_mem_append.mpr ⟨(List.all_eq_true.mp k_X12_fits), kX_X12⟩)⟩)⟩)⟩)⟩)⟩)
set_option maxHeartbeats 4000000 in
set_option maxRecDepth 100000 in
theorem c_X12_wrongIn (l : Launch) (D : va_G) (cI cD cJ : ClassId) (sz : Nat) (h : Nat) (h_code : Int32) (h_taped : Int32) (h_tape : Nat) (h_size : Int32) (h_text : Nat) (h_value : UInt64) (h_out : Int32) (h_output : Nat) (h_illAt : Int32) (h_format : Nat) (h_sections : Int32) (h_items : Int32) (h_kind : Nat) (h_what : Nat) (h_of : Nat) (h_relation : Nat) (h_bound : Nat) (h_reads : Int32) (h_readSections : Int32) (h_readKind : Nat) (h_readWhat : Nat) (h_readOf : Nat) (h_place : Nat) (h_readRelation : Nat) (h_readBound : Nat) (h_stop : Int32) (h_meant : Nat) (h_row : Nat) (h_exact : Nat) (h_error : Nat) (h_bestError : Nat) (h_m : Int64) (h_e : Int32) (h_digits : Nat) (h_whole : Int32) (h_readKindF : Nat → Int32) (h_readWhatF : Nat → Int32) (h_placeF : Nat → Int32) (p1 : Int32) (p2 : Int32) (p3 : Int32) (hh0 : 0 ≤ p2.toInt) (hh1 : p2.toInt ≤ 256) (hh2 : p3.toInt ≤ 255) (iv_h_taped : 0 ≤ (h_taped : Int32).toInt ∧ (h_taped : Int32).toInt ≤ 260) (iv_h_size : 0 ≤ (h_size : Int32).toInt ∧ (h_size : Int32).toInt ≤ 255) (iv_h_value : inR h_value) (iv_h_out : 0 ≤ (h_out : Int32).toInt ∧ (h_out : Int32).toInt ≤ 1024) (iv_h_sections : 0 ≤ (h_sections : Int32).toInt ∧ (h_sections : Int32).toInt ≤ 4) (iv_h_items : 0 ≤ (h_items : Int32).toInt ∧ (h_items : Int32).toInt ≤ 255) (iv_h_reads : 0 ≤ (h_reads : Int32).toInt ∧ (h_reads : Int32).toInt ≤ 255) (iv_h_readSections : 0 ≤ (h_readSections : Int32).toInt ∧ (h_readSections : Int32).toInt ≤ 4) (iv_h_whole : 0 ≤ (h_whole : Int32).toInt ∧ (h_whole : Int32).toInt ≤ 1001) (iv_h_readWhatF : ∀ k9 : Nat, k9 < 260 → -100000 ≤ (h_readWhatF k9).toInt ∧ (h_readWhatF k9).toInt ≤ 100000) (jv_h_readKindF : QK h_readKindF h_readWhatF) : Met l yX12_wrongIn pw_X12_wrongIn ({ frames := 3, cells := 0, slots := 0, locals := 74 }) (va_Pc [.ref h, .int p1, .int p2, .int p3] (fun U => va_P D vwCl [(h, .inr (9, [.int h_code, .int h_taped, .ref h_tape, .int h_size, .ref h_text, .double h_value, .int h_out, .ref h_output, .int h_illAt, .ref h_format, .int h_sections, .int h_items, .ref h_kind, .ref h_what, .ref h_of, .ref h_relation, .ref h_bound, .int h_reads, .int h_readSections, .ref h_readKind, .ref h_readWhat, .ref h_readOf, .ref h_place, .ref h_readRelation, .ref h_readBound, .int h_stop, .ref h_meant, .ref h_row, .ref h_exact, .ref h_error, .ref h_bestError, .long h_m, .int h_e, .ref h_digits, .int h_whole])), (h_readKind, .inl (cI, 260, .inl h_readKindF)), (h_readWhat, .inl (cI, 260, .inl h_readWhatF)), (h_place, .inl (cI, 260, .inl h_placeF))] U.heap ∧ va_K D vwCl (ty3 cI cD cJ) U)) (va_Qi (fun (r : Int32) (u : Unit) => True) (fun _ _ => True) (fun _ => False)) 0 0 (fun _ => False) := by
  refine Met.ofW (cc := cX12_wrongIn) (maxL := 8) (ret := (some .int)) (by decide +kernel) rfl ?_
  intro p e s m args below meth c s₁ B hml hv
  obtain ⟨rfl, hP, hK⟩ := hv
  have hx := B.exec
  have hb := B.bytes
  have hr := B.returns
  have hts := atoms_spec (ws := pw_X12_wrongIn) B.pre
  have hown : s.vm.findClass RX12 = some m.cls := findClass_of_methodNamed B.named
  have hlocks := B.notSynchronized
  have hS : va_S (fun _ => False) s.heap s.heap [] := va_S.rf
  have hw : ∀ (k : Nat) (w : Cond), ow_X12_wrongIn[k]? = some w → w.before _ s = true := fun k w h => hts w (List.mem_cons_of_mem _ (have h9 := List.mem_of_getElem? h; List.mem_append_left _ h9))
  have i_X12_sortOf : ∀ w ∈ pw_X12_sortOf, w ∈ pw_X12_wrongIn := fun w h9 => List.mem_cons_of_mem _ (List.mem_append_right _ (List.mem_append_left _ h9))
  have i_X12_find : ∀ w ∈ pw_X12_find, w ∈ pw_X12_wrongIn := fun w h9 => List.mem_cons_of_mem _ (List.mem_append_right _ (List.mem_append_right _ (List.mem_append_left _ h9)))
  have i_X12_isTenth : ∀ w ∈ pw_X12_isTenth, w ∈ pw_X12_wrongIn := fun w h9 => List.mem_cons_of_mem _ (List.mem_append_right _ (List.mem_append_right _ (List.mem_append_right _ (List.mem_append_left _ h9))))
  have i_X12_fits : ∀ w ∈ pw_X12_fits, w ∈ pw_X12_wrongIn := fun w h9 => List.mem_cons_of_mem _ (List.mem_append_right _ (List.mem_append_right _ (List.mem_append_right _ (List.mem_append_right _ (List.mem_append_left _ h9)))))
  have iX12 : ∀ w ∈ u_ws RX12 TX12 35, w ∈ pw_X12_wrongIn := fun w h9 => List.mem_cons_of_mem _ (List.mem_append_right _ (List.mem_append_right _ (List.mem_append_right _ (List.mem_append_right _ (List.mem_append_right _ (h9))))))
  have n_m1 : (((-1) : Int32)).toInt = (-1) := by decide
  have n_0 : ((0 : Int32)).toInt = 0 := by decide
  have n_1 : ((1 : Int32)).toInt = 1 := by decide
  have n_11 : ((11 : Int32)).toInt = 11 := by decide
  have n_13 : ((13 : Int32)).toInt = 13 := by decide
  have n_15 : ((15 : Int32)).toInt = 15 := by decide
  have n_2 : ((2 : Int32)).toInt = 2 := by decide
  have n_3 : ((3 : Int32)).toInt = 3 := by decide
  have n_4 : ((4 : Int32)).toInt = 4 := by decide
  have n_6 : ((6 : Int32)).toInt = 6 := by decide
  have n_7 : ((7 : Int32)).toInt = 7 := by decide
  have n_8 : ((8 : Int32)).toInt = 8 := by decide
  have hl := lv_entry ([.ref h, .int p1, .int p2, .int p3]) (n := 8) (Nat.le_of_ble_eq_true rfl)
  rw [lg_entry_eq]
  generalize (lg_sl ([.ref h, .int p1, .int p2, .int p3]) ++ List.replicate (8 - (lg_sl ([.ref h, .int p1, .int p2, .int p3])).length) Slot.unset).toArray = ls at hl ⊢
  have hl : lv_has ls 8 [(0, .ref h), (1, .int p1), (2, .int p2), (3, .int p3)] := hl
  have b_p1 := ti_b p1
  have b_p2 := ti_b p2
  have b_p3 := ti_b p3
  refine zz_cap (fun Z hZ1 hZ2 => ?_)
  refine lv_aload_n hx hb dX12_wrongIn_0 rfl (lv_at hl 0 rfl) ?_
  refine va_get (D := D) (ci := 9) (v := .ref h_readKind) (C := RX12) (T := TX12) (N := 35) hx hb hts iX12 hown hK hP 0 rfl rfl 19 (by decide) (hw 0 (.fieldLink RX12 42 "NumberFormatsModel" "readKind" "[I") rfl) (fun _ h9 => h9) rfl dX12_wrongIn_1 ?_
  refine lv_iload_n hx hb dX12_wrongIn_4 rfl (lv_at hl 2 rfl) ?_
  refine lv_iload_n hx hb dX12_wrongIn_5 rfl (lv_at hl 3 rfl) ?_
  have hPc := hP.sub (ws' := [(h_readKind, .inl (cI, 260, .inl h_readKindF))]) [1] rfl
  refine va_calli (va_runS (As := [.ref h_readKind, .int p2, .int p3]) (rest := []) ⟨hx, hb, hml, hown, hts⟩ (c_X12_sortOf l D cI cD cJ s.heap.size h_readKind h_readKindF p2 p3 (by omega) (by omega) (by omega)) (va_cwS 3 hts (goodIn_app (goodIn_r _ [2, 3, 4] rfl (by decide +kernel)) (goodIn_sub i_X12_sortOf k_X12_sortOf)) rfl rfl rfl (by decide +kernel) ⟨Nat.le_of_ble_eq_true rfl, Nat.le_of_ble_eq_true rfl⟩) ⟨fun a U g mk q => by obtain ⟨q0, qP, qK⟩ := q; exact ⟨q0, qP, va_K.moved (u := U) (U := U.calling g mk a) (Vm.Alike.refl U.vm) qK⟩, fun U hU hW => ⟨rfl, by rw [hU]; exact hPc, va_K.moved hW.alike hK⟩⟩ rfl rfl hl.1 rfl (lv_room (Nat.le_of_ble_eq_true rfl)) dX12_wrongIn_6 ⟨Nat.le_of_ble_eq_true rfl, Nat.le_of_ble_eq_true rfl⟩) hS (fun q _ h => h.elim) (fun q h => h.elim) (fun x_1 u t H1 locs ht hvm w_2 hB hz1 hk1 hS => ?_)
  have hP : va_P D vwCl [(h, .inr (9, [.int h_code, .int h_taped, .ref h_tape, .int h_size, .ref h_text, .double h_value, .int h_out, .ref h_output, .int h_illAt, .ref h_format, .int h_sections, .int h_items, .ref h_kind, .ref h_what, .ref h_of, .ref h_relation, .ref h_bound, .int h_reads, .int h_readSections, .ref h_readKind, .ref h_readWhat, .ref h_readOf, .ref h_place, .ref h_readRelation, .ref h_readBound, .int h_stop, .ref h_meant, .ref h_row, .ref h_exact, .ref h_error, .ref h_bestError, .long h_m, .int h_e, .ref h_digits, .int h_whole])), (h_readKind, .inl (cI, 260, .inl h_readKindF)), (h_readWhat, .inl (cI, 260, .inl h_readWhatF)), (h_place, .inl (cI, 260, .inl h_placeF))] H1 := hP.kept (fun k9 q9 h9 => hk1 q9.1 (vx_lt hP h9) (fun h => h))
  generalize H1 = H at hP hS ⊢
  have b_x_1 := ti_b x_1
  refine lv_istore (lv' := [(4, .int x_1), (0, .ref h), (1, .int p1), (2, .int p2), (3, .int p3)]) hx hb dX12_wrongIn_9 hl (by decide) rfl (fun ls hl => ?_)
  refine lv_iload_n hx hb dX12_wrongIn_11 rfl (lv_at hl 2 rfl) ?_
  refine lv_iconst (v := 3) hx hb dX12_wrongIn_12 (by decide) ?_
  have K_34 : ∀ (H : Heap) (locs : List Loc) (ls : Array Slot), va_P D vwCl [(h, .inr (9, [.int h_code, .int h_taped, .ref h_tape, .int h_size, .ref h_text, .double h_value, .int h_out, .ref h_output, .int h_illAt, .ref h_format, .int h_sections, .int h_items, .ref h_kind, .ref h_what, .ref h_of, .ref h_relation, .ref h_bound, .int h_reads, .int h_readSections, .ref h_readKind, .ref h_readWhat, .ref h_readOf, .ref h_place, .ref h_readRelation, .ref h_readBound, .int h_stop, .ref h_meant, .ref h_row, .ref h_exact, .ref h_error, .ref h_bestError, .long h_m, .int h_e, .ref h_digits, .int h_whole])), (h_readKind, .inl (cI, 260, .inl h_readKindF)), (h_readWhat, .inl (cI, 260, .inl h_readWhatF)), (h_place, .inl (cI, 260, .inl h_placeF))] H → va_S (fun _ => False) s.heap H locs → lv_has ls 8 [(4, .int x_1), (0, .ref h), (1, .int p1), (2, .int p2), (3, .int p3)] → Z 0 0 H locs (F0 m 34 ls []) := by
    intro  H locs ls  hP hS hl
    refine hZ2 ?_
    refine lv_iload_n hx hb dX12_wrongIn_34 rfl (lv_at hl 3 rfl) ?_
    refine lv_istore (lv' := [(5, .int p2), (4, .int x_1), (0, .ref h), (1, .int p1), (2, .int p2), (3, .int p3)]) hx hb dX12_wrongIn_35 hl (by decide) rfl (fun ls hl => ?_)
    have L_37 : ∀ (N : Nat) (x_3 : Int32) (H : Heap) (locs : List Loc) (ls : Array Slot), (p2.toInt ≤ (x_3 : Int32).toInt) → ((2147483647 - (x_3 : Int32).toInt).toNat < N) → va_P D vwCl [(h, .inr (9, [.int h_code, .int h_taped, .ref h_tape, .int h_size, .ref h_text, .double h_value, .int h_out, .ref h_output, .int h_illAt, .ref h_format, .int h_sections, .int h_items, .ref h_kind, .ref h_what, .ref h_of, .ref h_relation, .ref h_bound, .int h_reads, .int h_readSections, .ref h_readKind, .ref h_readWhat, .ref h_readOf, .ref h_place, .ref h_readRelation, .ref h_readBound, .int h_stop, .ref h_meant, .ref h_row, .ref h_exact, .ref h_error, .ref h_bestError, .long h_m, .int h_e, .ref h_digits, .int h_whole])), (h_readKind, .inl (cI, 260, .inl h_readKindF)), (h_readWhat, .inl (cI, 260, .inl h_readWhatF)), (h_place, .inl (cI, 260, .inl h_placeF))] H → va_S (fun _ => False) s.heap H locs → lv_has ls 8 [(5, .int x_3), (4, .int x_1), (0, .ref h), (1, .int p1), (2, .int p2), (3, .int p3)] → Z 0 0 H locs (F0 m 37 ls []) := by
      intro N
      induction N with
      | zero => intro _ _ _ _ _ hmu; exact absurd hmu (Nat.not_lt_zero _)
      | succ N ih_37 =>
        intro x_3 H locs ls g37_0 hmu hP hS hl
        refine hZ2 ?_
        refine lv_iload hx hb dX12_wrongIn_37 (lv_at hl 0 rfl) ?_
        refine lv_iload_n hx hb dX12_wrongIn_39 rfl (lv_at hl 5 rfl) ?_
        refine lv_icmp_ge (tgt := 296) hx hb dX12_wrongIn_40 (by decide) (fun c_4 => ?_) (fun c_4 => ?_)
        · have ic_4 : (p3 : Int32).toInt ≤ (x_3 : Int32).toInt := (fa_le p3 x_3).mp c_4
          refine lv_iconst (v := (-1)) hx hb dX12_wrongIn_296 (by decide) ?_
          exact W.iret (v := (-1)) hx hb hr (fun t ht hW => ⟨⟨(-1), (), rfl, trivial, trivial⟩, hS.F ht⟩) hS.2.2 dX12_wrongIn_297
        · have ic_4 : ¬ ((p3 : Int32).toInt ≤ (x_3 : Int32).toInt) := fun h9 => c_4 ((fa_le p3 x_3).mpr h9)
          refine lv_aload_n hx hb dX12_wrongIn_43 rfl (lv_at hl 2 rfl) ?_
          refine va_get (D := D) (ci := 9) (v := .ref h_readKind) (C := RX12) (T := TX12) (N := 35) hx hb hts iX12 hown hK hP 0 rfl rfl 19 (by decide) (hw 0 (.fieldLink RX12 42 "NumberFormatsModel" "readKind" "[I") rfl) (fun _ h9 => h9) rfl dX12_wrongIn_44 ?_
          refine lv_iload hx hb dX12_wrongIn_47 (lv_at hl 0 rfl) ?_
          have h_49 : vp_in x_3 260 := by rw [vp_in_iff]; omega
          refine va_iald hx hb hK hP 1 0 rfl rfl h_49 dX12_wrongIn_49 ?_
          refine lv_topi (fun x_5 ex_5 => ?_)
          refine lv_istore (lv' := [(6, .int x_5), (5, .int x_3), (4, .int x_1), (0, .ref h), (1, .int p1), (2, .int p2), (3, .int p3)]) hx hb dX12_wrongIn_50 hl (by decide) rfl (fun ls hl => ?_)
          refine lv_iload hx hb dX12_wrongIn_52 (lv_at hl 0 rfl) ?_
          refine lv_bipush (v := 15) hx hb dX12_wrongIn_54 (by decide) ?_
          have K_82 : ∀ (z_6 : Int32) (H : Heap) (locs : List Loc) (ls : Array Slot), ((z_6 : Int32).toInt = 0 ∨ (z_6 : Int32).toInt = 1) → va_P D vwCl [(h, .inr (9, [.int h_code, .int h_taped, .ref h_tape, .int h_size, .ref h_text, .double h_value, .int h_out, .ref h_output, .int h_illAt, .ref h_format, .int h_sections, .int h_items, .ref h_kind, .ref h_what, .ref h_of, .ref h_relation, .ref h_bound, .int h_reads, .int h_readSections, .ref h_readKind, .ref h_readWhat, .ref h_readOf, .ref h_place, .ref h_readRelation, .ref h_readBound, .int h_stop, .ref h_meant, .ref h_row, .ref h_exact, .ref h_error, .ref h_bestError, .long h_m, .int h_e, .ref h_digits, .int h_whole])), (h_readKind, .inl (cI, 260, .inl h_readKindF)), (h_readWhat, .inl (cI, 260, .inl h_readWhatF)), (h_place, .inl (cI, 260, .inl h_placeF))] H → va_S (fun _ => False) s.heap H locs → lv_has ls 8 [(6, .int x_5), (5, .int x_3), (4, .int x_1), (0, .ref h), (1, .int p1), (2, .int p2), (3, .int p3)] → Z 0 0 H locs (F0 m 82 ls [.int z_6]) := by
            intro z_6 H locs ls g82_0 hP hS hl
            refine hZ2 ?_
            refine lv_istore (lv' := [(7, .int z_6), (6, .int x_5), (5, .int x_3), (4, .int x_1), (0, .ref h), (1, .int p1), (2, .int p2), (3, .int p3)]) hx hb dX12_wrongIn_82 hl (by decide) rfl (fun ls hl => ?_)
            refine lv_iload hx hb dX12_wrongIn_84 (lv_at hl 3 rfl) ?_
            refine lv_iconst (v := 1) hx hb dX12_wrongIn_86 (by decide) ?_
            have K_172 : ∀ (x_7 : Int32) (H : Heap) (locs : List Loc) (ls : Array Slot), va_P D vwCl [(h, .inr (9, [.int h_code, .int h_taped, .ref h_tape, .int h_size, .ref h_text, .double h_value, .int h_out, .ref h_output, .int h_illAt, .ref h_format, .int h_sections, .int h_items, .ref h_kind, .ref h_what, .ref h_of, .ref h_relation, .ref h_bound, .int h_reads, .int h_readSections, .ref h_readKind, .ref h_readWhat, .ref h_readOf, .ref h_place, .ref h_readRelation, .ref h_readBound, .int h_stop, .ref h_meant, .ref h_row, .ref h_exact, .ref h_error, .ref h_bestError, .long h_m, .int h_e, .ref h_digits, .int h_whole])), (h_readKind, .inl (cI, 260, .inl h_readKindF)), (h_readWhat, .inl (cI, 260, .inl h_readWhatF)), (h_place, .inl (cI, 260, .inl h_placeF))] H → va_S (fun _ => False) s.heap H locs → lv_has ls 8 [(7, .int x_7), (6, .int x_5), (5, .int x_3), (4, .int x_1), (0, .ref h), (1, .int p1), (2, .int p2), (3, .int p3)] → Z 0 0 H locs (F0 m 172 ls []) := by
              intro x_7 H locs ls  hP hS hl
              refine hZ2 ?_
              refine lv_iload hx hb dX12_wrongIn_172 (lv_at hl 3 rfl) ?_
              refine lv_iconst (v := 3) hx hb dX12_wrongIn_174 (by decide) ?_
              have K_210 : ∀ (x_8 : Int32) (H : Heap) (locs : List Loc) (ls : Array Slot), va_P D vwCl [(h, .inr (9, [.int h_code, .int h_taped, .ref h_tape, .int h_size, .ref h_text, .double h_value, .int h_out, .ref h_output, .int h_illAt, .ref h_format, .int h_sections, .int h_items, .ref h_kind, .ref h_what, .ref h_of, .ref h_relation, .ref h_bound, .int h_reads, .int h_readSections, .ref h_readKind, .ref h_readWhat, .ref h_readOf, .ref h_place, .ref h_readRelation, .ref h_readBound, .int h_stop, .ref h_meant, .ref h_row, .ref h_exact, .ref h_error, .ref h_bestError, .long h_m, .int h_e, .ref h_digits, .int h_whole])), (h_readKind, .inl (cI, 260, .inl h_readKindF)), (h_readWhat, .inl (cI, 260, .inl h_readWhatF)), (h_place, .inl (cI, 260, .inl h_placeF))] H → va_S (fun _ => False) s.heap H locs → lv_has ls 8 [(7, .int x_8), (6, .int x_5), (5, .int x_3), (4, .int x_1), (0, .ref h), (1, .int p1), (2, .int p2), (3, .int p3)] → Z 0 0 H locs (F0 m 210 ls []) := by
                intro x_8 H locs ls  hP hS hl
                refine hZ2 ?_
                refine lv_iload hx hb dX12_wrongIn_210 (lv_at hl 3 rfl) ?_
                refine lv_iconst (v := 2) hx hb dX12_wrongIn_212 (by decide) ?_
                have K_235 : ∀ (x_9 : Int32) (H : Heap) (locs : List Loc) (ls : Array Slot), va_P D vwCl [(h, .inr (9, [.int h_code, .int h_taped, .ref h_tape, .int h_size, .ref h_text, .double h_value, .int h_out, .ref h_output, .int h_illAt, .ref h_format, .int h_sections, .int h_items, .ref h_kind, .ref h_what, .ref h_of, .ref h_relation, .ref h_bound, .int h_reads, .int h_readSections, .ref h_readKind, .ref h_readWhat, .ref h_readOf, .ref h_place, .ref h_readRelation, .ref h_readBound, .int h_stop, .ref h_meant, .ref h_row, .ref h_exact, .ref h_error, .ref h_bestError, .long h_m, .int h_e, .ref h_digits, .int h_whole])), (h_readKind, .inl (cI, 260, .inl h_readKindF)), (h_readWhat, .inl (cI, 260, .inl h_readWhatF)), (h_place, .inl (cI, 260, .inl h_placeF))] H → va_S (fun _ => False) s.heap H locs → lv_has ls 8 [(7, .int x_9), (6, .int x_5), (5, .int x_3), (4, .int x_1), (0, .ref h), (1, .int p1), (2, .int p2), (3, .int p3)] → Z 0 0 H locs (F0 m 235 ls []) := by
                  intro x_9 H locs ls  hP hS hl
                  refine hZ2 ?_
                  refine lv_iload hx hb dX12_wrongIn_235 (lv_at hl 3 rfl) ?_
                  refine lv_bipush (v := 8) hx hb dX12_wrongIn_237 (by decide) ?_
                  have K_277 : ∀ (x_10 : Int32) (H : Heap) (locs : List Loc) (ls : Array Slot), va_P D vwCl [(h, .inr (9, [.int h_code, .int h_taped, .ref h_tape, .int h_size, .ref h_text, .double h_value, .int h_out, .ref h_output, .int h_illAt, .ref h_format, .int h_sections, .int h_items, .ref h_kind, .ref h_what, .ref h_of, .ref h_relation, .ref h_bound, .int h_reads, .int h_readSections, .ref h_readKind, .ref h_readWhat, .ref h_readOf, .ref h_place, .ref h_readRelation, .ref h_readBound, .int h_stop, .ref h_meant, .ref h_row, .ref h_exact, .ref h_error, .ref h_bestError, .long h_m, .int h_e, .ref h_digits, .int h_whole])), (h_readKind, .inl (cI, 260, .inl h_readKindF)), (h_readWhat, .inl (cI, 260, .inl h_readWhatF)), (h_place, .inl (cI, 260, .inl h_placeF))] H → va_S (fun _ => False) s.heap H locs → lv_has ls 8 [(7, .int x_10), (5, .int x_3), (4, .int x_1), (0, .ref h), (1, .int p1), (2, .int p2), (3, .int p3)] → Z 0 0 H locs (F0 m 277 ls []) := by
                    intro x_10 H locs ls  hP hS hl
                    refine hZ2 ?_
                    refine lv_iload hx hb dX12_wrongIn_277 (lv_at hl 0 rfl) ?_
                    refine lv_if_ne (tgt := 290) hx hb dX12_wrongIn_279 (by decide) (fun c_11 => ?_) (fun c_11 => ?_)
                    · have ic_11 : ¬ ((x_10 : Int32).toInt = (0 : Int32).toInt) := fun h9 => c_11 ((fa_eq x_10 0).mpr h9)
                      obtain ⟨x_12, ex_12⟩ : ∃ y : Int32, y = x_3 + 1 := ⟨_, rfl⟩
                      have b_x_3 := ti_b x_3
                      have tx_12 := ti_add ex_12
                      refine lv_iinc (v := x_12) (lv' := [(5, .int x_12), (7, .int x_10), (4, .int x_1), (0, .ref h), (1, .int p1), (2, .int p2), (3, .int p3)]) hx hb dX12_wrongIn_290 hl (k := 1) rfl (by rw [ex_12]; rfl) (by decide) rfl (fun ls hl => ?_)
                      refine lv_goto (tgt := 37) hx hb dX12_wrongIn_293 (by decide) ?_
                      exact hZ1 (ih_37 x_12 _ _ _ (by omega) (by omega) hP hS (lv_sub hl [0, 2, 3, 4, 5, 6] rfl))
                    · have ic_11 : (x_10 : Int32).toInt = (0 : Int32).toInt := (fa_eq x_10 0).mp c_11
                      refine lv_aload_n hx hb dX12_wrongIn_282 rfl (lv_at hl 3 rfl) ?_
                      refine va_get (D := D) (ci := 9) (v := .ref h_place) (C := RX12) (T := TX12) (N := 35) hx hb hts iX12 hown hK hP 0 rfl rfl 22 (by decide) (hw 4 (.fieldLink RX12 51 "NumberFormatsModel" "place" "[I") rfl) (fun _ h9 => h9) rfl dX12_wrongIn_283 ?_
                      refine lv_iload hx hb dX12_wrongIn_286 (lv_at hl 1 rfl) ?_
                      have h_288 : vp_in x_3 260 := by rw [vp_in_iff]; omega
                      refine va_iald hx hb hK hP 3 0 rfl rfl h_288 dX12_wrongIn_288 ?_
                      refine lv_topi (fun x_13 ex_13 => ?_)
                      exact W.iret (v := x_13) hx hb hr (fun t ht hW => ⟨⟨x_13, (), rfl, trivial, trivial⟩, hS.F ht⟩) hS.2.2 dX12_wrongIn_289
                  refine lv_icmp_ne (tgt := 277) hx hb dX12_wrongIn_239 (by decide) (fun c_14 => ?_) (fun c_14 => ?_)
                  · have ic_14 : ¬ ((x_1 : Int32).toInt = (8 : Int32).toInt) := fun h9 => c_14 ((fa_eq x_1 8).mpr h9)
                    exact hZ1 (K_277 x_9 _ _ _ hP hS (lv_sub hl [0, 2, 3, 4, 5, 6, 7] rfl))
                  · have ic_14 : (x_1 : Int32).toInt = (8 : Int32).toInt := (fa_eq x_1 8).mp c_14
                    refine lv_iload hx hb dX12_wrongIn_242 (lv_at hl 0 rfl) ?_
                    have K_275 : ∀ (z_15 : Int32) (H : Heap) (locs : List Loc) (ls : Array Slot), ((z_15 : Int32).toInt = 0 ∨ (z_15 : Int32).toInt = 1) → va_P D vwCl [(h, .inr (9, [.int h_code, .int h_taped, .ref h_tape, .int h_size, .ref h_text, .double h_value, .int h_out, .ref h_output, .int h_illAt, .ref h_format, .int h_sections, .int h_items, .ref h_kind, .ref h_what, .ref h_of, .ref h_relation, .ref h_bound, .int h_reads, .int h_readSections, .ref h_readKind, .ref h_readWhat, .ref h_readOf, .ref h_place, .ref h_readRelation, .ref h_readBound, .int h_stop, .ref h_meant, .ref h_row, .ref h_exact, .ref h_error, .ref h_bestError, .long h_m, .int h_e, .ref h_digits, .int h_whole])), (h_readKind, .inl (cI, 260, .inl h_readKindF)), (h_readWhat, .inl (cI, 260, .inl h_readWhatF)), (h_place, .inl (cI, 260, .inl h_placeF))] H → va_S (fun _ => False) s.heap H locs → lv_has ls 8 [(5, .int x_3), (4, .int x_1), (0, .ref h), (1, .int p1), (2, .int p2), (3, .int p3)] → Z 0 0 H locs (F0 m 275 ls [.int z_15]) := by
                      intro z_15 H locs ls g275_0 hP hS hl
                      refine hZ2 ?_
                      refine lv_istore (lv' := [(7, .int z_15), (5, .int x_3), (4, .int x_1), (0, .ref h), (1, .int p1), (2, .int p2), (3, .int p3)]) hx hb dX12_wrongIn_275 hl (by decide) rfl (fun ls hl => ?_)
                      exact hZ1 (K_277 z_15 _ _ _ hP hS hl)
                    have K_274 : ∀ (H : Heap) (locs : List Loc) (ls : Array Slot), va_P D vwCl [(h, .inr (9, [.int h_code, .int h_taped, .ref h_tape, .int h_size, .ref h_text, .double h_value, .int h_out, .ref h_output, .int h_illAt, .ref h_format, .int h_sections, .int h_items, .ref h_kind, .ref h_what, .ref h_of, .ref h_relation, .ref h_bound, .int h_reads, .int h_readSections, .ref h_readKind, .ref h_readWhat, .ref h_readOf, .ref h_place, .ref h_readRelation, .ref h_readBound, .int h_stop, .ref h_meant, .ref h_row, .ref h_exact, .ref h_error, .ref h_bestError, .long h_m, .int h_e, .ref h_digits, .int h_whole])), (h_readKind, .inl (cI, 260, .inl h_readKindF)), (h_readWhat, .inl (cI, 260, .inl h_readWhatF)), (h_place, .inl (cI, 260, .inl h_placeF))] H → va_S (fun _ => False) s.heap H locs → lv_has ls 8 [(5, .int x_3), (4, .int x_1), (0, .ref h), (1, .int p1), (2, .int p2), (3, .int p3)] → Z 0 0 H locs (F0 m 274 ls []) := by
                      intro  H locs ls  hP hS hl
                      refine hZ2 ?_
                      refine lv_iconst (v := 0) hx hb dX12_wrongIn_274 (by decide) ?_
                      exact hZ1 (K_275 0 _ _ _ (by omega) hP hS hl)
                    refine lv_if_eq (tgt := 274) hx hb dX12_wrongIn_244 (by decide) (fun c_16 => ?_) (fun c_16 => ?_)
                    · have ic_16 : (x_9 : Int32).toInt = (0 : Int32).toInt := (fa_eq x_9 0).mp c_16
                      exact hZ1 (K_274  _ _ _ hP hS (lv_sub hl [2, 3, 4, 5, 6, 7] rfl))
                    · have ic_16 : ¬ ((x_9 : Int32).toInt = (0 : Int32).toInt) := fun h9 => c_16 ((fa_eq x_9 0).mpr h9)
                      refine lv_iload hx hb dX12_wrongIn_247 (lv_at hl 1 rfl) ?_
                      refine lv_bipush (v := 8) hx hb dX12_wrongIn_249 (by decide) ?_
                      have K_270 : ∀ (H : Heap) (locs : List Loc) (ls : Array Slot), va_P D vwCl [(h, .inr (9, [.int h_code, .int h_taped, .ref h_tape, .int h_size, .ref h_text, .double h_value, .int h_out, .ref h_output, .int h_illAt, .ref h_format, .int h_sections, .int h_items, .ref h_kind, .ref h_what, .ref h_of, .ref h_relation, .ref h_bound, .int h_reads, .int h_readSections, .ref h_readKind, .ref h_readWhat, .ref h_readOf, .ref h_place, .ref h_readRelation, .ref h_readBound, .int h_stop, .ref h_meant, .ref h_row, .ref h_exact, .ref h_error, .ref h_bestError, .long h_m, .int h_e, .ref h_digits, .int h_whole])), (h_readKind, .inl (cI, 260, .inl h_readKindF)), (h_readWhat, .inl (cI, 260, .inl h_readWhatF)), (h_place, .inl (cI, 260, .inl h_placeF))] H → va_S (fun _ => False) s.heap H locs → lv_has ls 8 [(5, .int x_3), (4, .int x_1), (0, .ref h), (1, .int p1), (2, .int p2), (3, .int p3)] → Z 0 0 H locs (F0 m 270 ls []) := by
                        intro  H locs ls  hP hS hl
                        refine hZ2 ?_
                        refine lv_iconst (v := 1) hx hb dX12_wrongIn_270 (by decide) ?_
                        refine lv_goto (tgt := 275) hx hb dX12_wrongIn_271 (by decide) ?_
                        exact hZ1 (K_275 1 _ _ _ (by omega) hP hS hl)
                      refine lv_icmp_ne (tgt := 270) hx hb dX12_wrongIn_251 (by decide) (fun c_17 => ?_) (fun c_17 => ?_)
                      · have ic_17 : ¬ ((x_5 : Int32).toInt = (8 : Int32).toInt) := fun h9 => c_17 ((fa_eq x_5 8).mpr h9)
                        exact hZ1 (K_270  _ _ _ hP hS (lv_sub hl [2, 3, 4, 5, 6, 7] rfl))
                      · have ic_17 : (x_5 : Int32).toInt = (8 : Int32).toInt := (fa_eq x_5 8).mp c_17
                        refine lv_iload hx hb dX12_wrongIn_254 (lv_at hl 2 rfl) ?_
                        refine lv_aload_n hx hb dX12_wrongIn_256 rfl (lv_at hl 4 rfl) ?_
                        refine va_get (D := D) (ci := 9) (v := .ref h_readKind) (C := RX12) (T := TX12) (N := 35) hx hb hts iX12 hown hK hP 0 rfl rfl 19 (by decide) (hw 0 (.fieldLink RX12 42 "NumberFormatsModel" "readKind" "[I") rfl) (fun _ h9 => h9) rfl dX12_wrongIn_257 ?_
                        refine lv_iload_n hx hb dX12_wrongIn_260 rfl (lv_at hl 6 rfl) ?_
                        refine lv_iload_n hx hb dX12_wrongIn_261 rfl (lv_at hl 7 rfl) ?_
                        refine lv_bipush (v := 8) hx hb dX12_wrongIn_262 (by decide) ?_
                        have hPc := hP.sub (ws' := [(h_readKind, .inl (cI, 260, .inl h_readKindF))]) [1] rfl
                        refine va_calli (va_runS (As := [.ref h_readKind, .int p2, .int p3, .int 8]) (rest := [.int x_3]) ⟨hx, hb, hml, hown, hts⟩ (c_X12_find l D cI cD cJ H.size h_readKind h_readKindF p2 p3 8 (by omega) (by omega) (by omega)) (va_cwS 4 hts (goodIn_app (goodIn_r _ [6, 7, 4] rfl (by decide +kernel)) (goodIn_sub i_X12_find k_X12_find)) rfl rfl rfl (by decide +kernel) ⟨Nat.le_of_ble_eq_true rfl, Nat.le_of_ble_eq_true rfl⟩) ⟨fun a U g mk q => by obtain ⟨q0, qP, qK⟩ := q; exact ⟨q0, qP, va_K.moved (u := U) (U := U.calling g mk a) (Vm.Alike.refl U.vm) qK⟩, fun U hU hW => ⟨rfl, by rw [hU]; exact hPc, va_K.moved hW.alike hK⟩⟩ rfl rfl hl.1 rfl (lv_room (Nat.le_of_ble_eq_true rfl)) dX12_wrongIn_264 ⟨Nat.le_of_ble_eq_true rfl, Nat.le_of_ble_eq_true rfl⟩) hS (fun q _ h => h.elim) (fun q h => h.elim) (fun x_18 u t H1 locs ht hvm w_19 hB hz1 hk1 hS => ?_)
                        have hP : va_P D vwCl [(h, .inr (9, [.int h_code, .int h_taped, .ref h_tape, .int h_size, .ref h_text, .double h_value, .int h_out, .ref h_output, .int h_illAt, .ref h_format, .int h_sections, .int h_items, .ref h_kind, .ref h_what, .ref h_of, .ref h_relation, .ref h_bound, .int h_reads, .int h_readSections, .ref h_readKind, .ref h_readWhat, .ref h_readOf, .ref h_place, .ref h_readRelation, .ref h_readBound, .int h_stop, .ref h_meant, .ref h_row, .ref h_exact, .ref h_error, .ref h_bestError, .long h_m, .int h_e, .ref h_digits, .int h_whole])), (h_readKind, .inl (cI, 260, .inl h_readKindF)), (h_readWhat, .inl (cI, 260, .inl h_readWhatF)), (h_place, .inl (cI, 260, .inl h_placeF))] H1 := hP.kept (fun k9 q9 h9 => hk1 q9.1 (vx_lt hP h9) (fun h => h))
                        generalize H1 = H at hP hS ⊢
                        try dsimp only at w_19
                        have b_x_18 := ti_b x_18
                        refine lv_icmp_ne (tgt := 274) hx hb dX12_wrongIn_267 (by decide) (fun c_20 => ?_) (fun c_20 => ?_)
                        · have ic_20 : ¬ ((x_3 : Int32).toInt = (x_18 : Int32).toInt) := fun h9 => c_20 ((fa_eq x_3 x_18).mpr h9)
                          exact hZ1 (K_274  _ _ _ hP hS (lv_sub hl [2, 3, 4, 5, 6, 7] rfl))
                        · have ic_20 : (x_3 : Int32).toInt = (x_18 : Int32).toInt := (fa_eq x_3 x_18).mp c_20
                          exact hZ1 (K_270  _ _ _ hP hS (lv_sub hl [2, 3, 4, 5, 6, 7] rfl))
                refine lv_icmp_ne (tgt := 235) hx hb dX12_wrongIn_213 (by decide) (fun c_21 => ?_) (fun c_21 => ?_)
                · have ic_21 : ¬ ((x_1 : Int32).toInt = (2 : Int32).toInt) := fun h9 => c_21 ((fa_eq x_1 2).mpr h9)
                  exact hZ1 (K_235 x_8 _ _ _ hP hS hl)
                · have ic_21 : (x_1 : Int32).toInt = (2 : Int32).toInt := (fa_eq x_1 2).mp c_21
                  refine lv_iload hx hb dX12_wrongIn_216 (lv_at hl 0 rfl) ?_
                  have K_233 : ∀ (z_22 : Int32) (H : Heap) (locs : List Loc) (ls : Array Slot), ((z_22 : Int32).toInt = 0 ∨ (z_22 : Int32).toInt = 1) → va_P D vwCl [(h, .inr (9, [.int h_code, .int h_taped, .ref h_tape, .int h_size, .ref h_text, .double h_value, .int h_out, .ref h_output, .int h_illAt, .ref h_format, .int h_sections, .int h_items, .ref h_kind, .ref h_what, .ref h_of, .ref h_relation, .ref h_bound, .int h_reads, .int h_readSections, .ref h_readKind, .ref h_readWhat, .ref h_readOf, .ref h_place, .ref h_readRelation, .ref h_readBound, .int h_stop, .ref h_meant, .ref h_row, .ref h_exact, .ref h_error, .ref h_bestError, .long h_m, .int h_e, .ref h_digits, .int h_whole])), (h_readKind, .inl (cI, 260, .inl h_readKindF)), (h_readWhat, .inl (cI, 260, .inl h_readWhatF)), (h_place, .inl (cI, 260, .inl h_placeF))] H → va_S (fun _ => False) s.heap H locs → lv_has ls 8 [(6, .int x_5), (5, .int x_3), (4, .int x_1), (0, .ref h), (1, .int p1), (2, .int p2), (3, .int p3)] → Z 0 0 H locs (F0 m 233 ls [.int z_22]) := by
                    intro z_22 H locs ls g233_0 hP hS hl
                    refine hZ2 ?_
                    refine lv_istore (lv' := [(7, .int z_22), (6, .int x_5), (5, .int x_3), (4, .int x_1), (0, .ref h), (1, .int p1), (2, .int p2), (3, .int p3)]) hx hb dX12_wrongIn_233 hl (by decide) rfl (fun ls hl => ?_)
                    exact hZ1 (K_235 z_22 _ _ _ hP hS hl)
                  have K_232 : ∀ (H : Heap) (locs : List Loc) (ls : Array Slot), va_P D vwCl [(h, .inr (9, [.int h_code, .int h_taped, .ref h_tape, .int h_size, .ref h_text, .double h_value, .int h_out, .ref h_output, .int h_illAt, .ref h_format, .int h_sections, .int h_items, .ref h_kind, .ref h_what, .ref h_of, .ref h_relation, .ref h_bound, .int h_reads, .int h_readSections, .ref h_readKind, .ref h_readWhat, .ref h_readOf, .ref h_place, .ref h_readRelation, .ref h_readBound, .int h_stop, .ref h_meant, .ref h_row, .ref h_exact, .ref h_error, .ref h_bestError, .long h_m, .int h_e, .ref h_digits, .int h_whole])), (h_readKind, .inl (cI, 260, .inl h_readKindF)), (h_readWhat, .inl (cI, 260, .inl h_readWhatF)), (h_place, .inl (cI, 260, .inl h_placeF))] H → va_S (fun _ => False) s.heap H locs → lv_has ls 8 [(6, .int x_5), (5, .int x_3), (4, .int x_1), (0, .ref h), (1, .int p1), (2, .int p2), (3, .int p3)] → Z 0 0 H locs (F0 m 232 ls []) := by
                    intro  H locs ls  hP hS hl
                    refine hZ2 ?_
                    refine lv_iconst (v := 0) hx hb dX12_wrongIn_232 (by decide) ?_
                    exact hZ1 (K_233 0 _ _ _ (by omega) hP hS hl)
                  refine lv_if_eq (tgt := 232) hx hb dX12_wrongIn_218 (by decide) (fun c_23 => ?_) (fun c_23 => ?_)
                  · have ic_23 : (x_8 : Int32).toInt = (0 : Int32).toInt := (fa_eq x_8 0).mp c_23
                    exact hZ1 (K_232  _ _ _ hP hS (lv_sub hl [1, 2, 3, 4, 5, 6, 7] rfl))
                  · have ic_23 : ¬ ((x_8 : Int32).toInt = (0 : Int32).toInt) := fun h9 => c_23 ((fa_eq x_8 0).mpr h9)
                    refine lv_iload hx hb dX12_wrongIn_221 (lv_at hl 1 rfl) ?_
                    refine lv_bipush (v := 8) hx hb dX12_wrongIn_223 (by decide) ?_
                    refine lv_icmp_eq (tgt := 232) hx hb dX12_wrongIn_225 (by decide) (fun c_24 => ?_) (fun c_24 => ?_)
                    · have ic_24 : (x_5 : Int32).toInt = (8 : Int32).toInt := (fa_eq x_5 8).mp c_24
                      exact hZ1 (K_232  _ _ _ hP hS (lv_sub hl [1, 2, 3, 4, 5, 6, 7] rfl))
                    · have ic_24 : ¬ ((x_5 : Int32).toInt = (8 : Int32).toInt) := fun h9 => c_24 ((fa_eq x_5 8).mpr h9)
                      refine lv_iconst (v := 1) hx hb dX12_wrongIn_228 (by decide) ?_
                      refine lv_goto (tgt := 233) hx hb dX12_wrongIn_229 (by decide) ?_
                      exact hZ1 (K_233 1 _ _ _ (by omega) hP hS (lv_sub hl [1, 2, 3, 4, 5, 6, 7] rfl))
              refine lv_icmp_ne (tgt := 210) hx hb dX12_wrongIn_175 (by decide) (fun c_25 => ?_) (fun c_25 => ?_)
              · have ic_25 : ¬ ((x_1 : Int32).toInt = (3 : Int32).toInt) := fun h9 => c_25 ((fa_eq x_1 3).mpr h9)
                exact hZ1 (K_210 x_7 _ _ _ hP hS hl)
              · have ic_25 : (x_1 : Int32).toInt = (3 : Int32).toInt := (fa_eq x_1 3).mp c_25
                refine lv_iload hx hb dX12_wrongIn_178 (lv_at hl 0 rfl) ?_
                have K_208 : ∀ (z_26 : Int32) (H : Heap) (locs : List Loc) (ls : Array Slot), ((z_26 : Int32).toInt = 0 ∨ (z_26 : Int32).toInt = 1) → va_P D vwCl [(h, .inr (9, [.int h_code, .int h_taped, .ref h_tape, .int h_size, .ref h_text, .double h_value, .int h_out, .ref h_output, .int h_illAt, .ref h_format, .int h_sections, .int h_items, .ref h_kind, .ref h_what, .ref h_of, .ref h_relation, .ref h_bound, .int h_reads, .int h_readSections, .ref h_readKind, .ref h_readWhat, .ref h_readOf, .ref h_place, .ref h_readRelation, .ref h_readBound, .int h_stop, .ref h_meant, .ref h_row, .ref h_exact, .ref h_error, .ref h_bestError, .long h_m, .int h_e, .ref h_digits, .int h_whole])), (h_readKind, .inl (cI, 260, .inl h_readKindF)), (h_readWhat, .inl (cI, 260, .inl h_readWhatF)), (h_place, .inl (cI, 260, .inl h_placeF))] H → va_S (fun _ => False) s.heap H locs → lv_has ls 8 [(6, .int x_5), (5, .int x_3), (4, .int x_1), (0, .ref h), (1, .int p1), (2, .int p2), (3, .int p3)] → Z 0 0 H locs (F0 m 208 ls [.int z_26]) := by
                  intro z_26 H locs ls g208_0 hP hS hl
                  refine hZ2 ?_
                  refine lv_istore (lv' := [(7, .int z_26), (6, .int x_5), (5, .int x_3), (4, .int x_1), (0, .ref h), (1, .int p1), (2, .int p2), (3, .int p3)]) hx hb dX12_wrongIn_208 hl (by decide) rfl (fun ls hl => ?_)
                  exact hZ1 (K_210 z_26 _ _ _ hP hS hl)
                have K_207 : ∀ (H : Heap) (locs : List Loc) (ls : Array Slot), va_P D vwCl [(h, .inr (9, [.int h_code, .int h_taped, .ref h_tape, .int h_size, .ref h_text, .double h_value, .int h_out, .ref h_output, .int h_illAt, .ref h_format, .int h_sections, .int h_items, .ref h_kind, .ref h_what, .ref h_of, .ref h_relation, .ref h_bound, .int h_reads, .int h_readSections, .ref h_readKind, .ref h_readWhat, .ref h_readOf, .ref h_place, .ref h_readRelation, .ref h_readBound, .int h_stop, .ref h_meant, .ref h_row, .ref h_exact, .ref h_error, .ref h_bestError, .long h_m, .int h_e, .ref h_digits, .int h_whole])), (h_readKind, .inl (cI, 260, .inl h_readKindF)), (h_readWhat, .inl (cI, 260, .inl h_readWhatF)), (h_place, .inl (cI, 260, .inl h_placeF))] H → va_S (fun _ => False) s.heap H locs → lv_has ls 8 [(6, .int x_5), (5, .int x_3), (4, .int x_1), (0, .ref h), (1, .int p1), (2, .int p2), (3, .int p3)] → Z 0 0 H locs (F0 m 207 ls []) := by
                  intro  H locs ls  hP hS hl
                  refine hZ2 ?_
                  refine lv_iconst (v := 0) hx hb dX12_wrongIn_207 (by decide) ?_
                  exact hZ1 (K_208 0 _ _ _ (by omega) hP hS hl)
                refine lv_if_eq (tgt := 207) hx hb dX12_wrongIn_180 (by decide) (fun c_27 => ?_) (fun c_27 => ?_)
                · have ic_27 : (x_7 : Int32).toInt = (0 : Int32).toInt := (fa_eq x_7 0).mp c_27
                  exact hZ1 (K_207  _ _ _ hP hS (lv_sub hl [1, 2, 3, 4, 5, 6, 7] rfl))
                · have ic_27 : ¬ ((x_7 : Int32).toInt = (0 : Int32).toInt) := fun h9 => c_27 ((fa_eq x_7 0).mpr h9)
                  refine lv_iload hx hb dX12_wrongIn_183 (lv_at hl 1 rfl) ?_
                  refine lv_iconst (v := 4) hx hb dX12_wrongIn_185 (by decide) ?_
                  refine lv_icmp_eq (tgt := 207) hx hb dX12_wrongIn_186 (by decide) (fun c_28 => ?_) (fun c_28 => ?_)
                  · have ic_28 : (x_5 : Int32).toInt = (4 : Int32).toInt := (fa_eq x_5 4).mp c_28
                    exact hZ1 (K_207  _ _ _ hP hS (lv_sub hl [1, 2, 3, 4, 5, 6, 7] rfl))
                  · have ic_28 : ¬ ((x_5 : Int32).toInt = (4 : Int32).toInt) := fun h9 => c_28 ((fa_eq x_5 4).mpr h9)
                    refine lv_iload hx hb dX12_wrongIn_189 (lv_at hl 1 rfl) ?_
                    refine lv_bipush (v := 6) hx hb dX12_wrongIn_191 (by decide) ?_
                    refine lv_icmp_eq (tgt := 207) hx hb dX12_wrongIn_193 (by decide) (fun c_29 => ?_) (fun c_29 => ?_)
                    · have ic_29 : (x_5 : Int32).toInt = (6 : Int32).toInt := (fa_eq x_5 6).mp c_29
                      exact hZ1 (K_207  _ _ _ hP hS (lv_sub hl [1, 2, 3, 4, 5, 6, 7] rfl))
                    · have ic_29 : ¬ ((x_5 : Int32).toInt = (6 : Int32).toInt) := fun h9 => c_29 ((fa_eq x_5 6).mpr h9)
                      refine lv_iload hx hb dX12_wrongIn_196 (lv_at hl 1 rfl) ?_
                      refine lv_bipush (v := 8) hx hb dX12_wrongIn_198 (by decide) ?_
                      refine lv_icmp_eq (tgt := 207) hx hb dX12_wrongIn_200 (by decide) (fun c_30 => ?_) (fun c_30 => ?_)
                      · have ic_30 : (x_5 : Int32).toInt = (8 : Int32).toInt := (fa_eq x_5 8).mp c_30
                        exact hZ1 (K_207  _ _ _ hP hS (lv_sub hl [1, 2, 3, 4, 5, 6, 7] rfl))
                      · have ic_30 : ¬ ((x_5 : Int32).toInt = (8 : Int32).toInt) := fun h9 => c_30 ((fa_eq x_5 8).mpr h9)
                        refine lv_iconst (v := 1) hx hb dX12_wrongIn_203 (by decide) ?_
                        refine lv_goto (tgt := 208) hx hb dX12_wrongIn_204 (by decide) ?_
                        exact hZ1 (K_208 1 _ _ _ (by omega) hP hS (lv_sub hl [1, 2, 3, 4, 5, 6, 7] rfl))
            refine lv_icmp_ne (tgt := 116) hx hb dX12_wrongIn_87 (by decide) (fun c_31 => ?_) (fun c_31 => ?_)
            · have ic_31 : ¬ ((x_1 : Int32).toInt = (1 : Int32).toInt) := fun h9 => c_31 ((fa_eq x_1 1).mpr h9)
              refine lv_iload hx hb dX12_wrongIn_116 (lv_at hl 0 rfl) ?_
              have K_170 : ∀ (z_32 : Int32) (H : Heap) (locs : List Loc) (ls : Array Slot), ((z_32 : Int32).toInt = 0 ∨ (z_32 : Int32).toInt = 1) → va_P D vwCl [(h, .inr (9, [.int h_code, .int h_taped, .ref h_tape, .int h_size, .ref h_text, .double h_value, .int h_out, .ref h_output, .int h_illAt, .ref h_format, .int h_sections, .int h_items, .ref h_kind, .ref h_what, .ref h_of, .ref h_relation, .ref h_bound, .int h_reads, .int h_readSections, .ref h_readKind, .ref h_readWhat, .ref h_readOf, .ref h_place, .ref h_readRelation, .ref h_readBound, .int h_stop, .ref h_meant, .ref h_row, .ref h_exact, .ref h_error, .ref h_bestError, .long h_m, .int h_e, .ref h_digits, .int h_whole])), (h_readKind, .inl (cI, 260, .inl h_readKindF)), (h_readWhat, .inl (cI, 260, .inl h_readWhatF)), (h_place, .inl (cI, 260, .inl h_placeF))] H → va_S (fun _ => False) s.heap H locs → lv_has ls 8 [(6, .int x_5), (5, .int x_3), (4, .int x_1), (0, .ref h), (1, .int p1), (2, .int p2), (3, .int p3)] → Z 0 0 H locs (F0 m 170 ls [.int z_32]) := by
                intro z_32 H locs ls g170_0 hP hS hl
                refine hZ2 ?_
                refine lv_istore (lv' := [(7, .int z_32), (6, .int x_5), (5, .int x_3), (4, .int x_1), (0, .ref h), (1, .int p1), (2, .int p2), (3, .int p3)]) hx hb dX12_wrongIn_170 hl (by decide) rfl (fun ls hl => ?_)
                exact hZ1 (K_172 z_32 _ _ _ hP hS hl)
              have K_169 : ∀ (H : Heap) (locs : List Loc) (ls : Array Slot), va_P D vwCl [(h, .inr (9, [.int h_code, .int h_taped, .ref h_tape, .int h_size, .ref h_text, .double h_value, .int h_out, .ref h_output, .int h_illAt, .ref h_format, .int h_sections, .int h_items, .ref h_kind, .ref h_what, .ref h_of, .ref h_relation, .ref h_bound, .int h_reads, .int h_readSections, .ref h_readKind, .ref h_readWhat, .ref h_readOf, .ref h_place, .ref h_readRelation, .ref h_readBound, .int h_stop, .ref h_meant, .ref h_row, .ref h_exact, .ref h_error, .ref h_bestError, .long h_m, .int h_e, .ref h_digits, .int h_whole])), (h_readKind, .inl (cI, 260, .inl h_readKindF)), (h_readWhat, .inl (cI, 260, .inl h_readWhatF)), (h_place, .inl (cI, 260, .inl h_placeF))] H → va_S (fun _ => False) s.heap H locs → lv_has ls 8 [(6, .int x_5), (5, .int x_3), (4, .int x_1), (0, .ref h), (1, .int p1), (2, .int p2), (3, .int p3)] → Z 0 0 H locs (F0 m 169 ls []) := by
                intro  H locs ls  hP hS hl
                refine hZ2 ?_
                refine lv_iconst (v := 0) hx hb dX12_wrongIn_169 (by decide) ?_
                exact hZ1 (K_170 0 _ _ _ (by omega) hP hS hl)
              refine lv_if_eq (tgt := 169) hx hb dX12_wrongIn_118 (by decide) (fun c_33 => ?_) (fun c_33 => ?_)
              · have ic_33 : (z_6 : Int32).toInt = (0 : Int32).toInt := (fa_eq z_6 0).mp c_33
                exact hZ1 (K_169  _ _ _ hP hS (lv_sub hl [1, 2, 3, 4, 5, 6, 7] rfl))
              · have ic_33 : ¬ ((z_6 : Int32).toInt = (0 : Int32).toInt) := fun h9 => c_33 ((fa_eq z_6 0).mpr h9)
                refine lv_iload hx hb dX12_wrongIn_121 (lv_at hl 1 rfl) ?_
                refine lv_bipush (v := 7) hx hb dX12_wrongIn_123 (by decide) ?_
                refine lv_icmp_eq (tgt := 169) hx hb dX12_wrongIn_125 (by decide) (fun c_34 => ?_) (fun c_34 => ?_)
                · have ic_34 : (x_5 : Int32).toInt = (7 : Int32).toInt := (fa_eq x_5 7).mp c_34
                  exact hZ1 (K_169  _ _ _ hP hS (lv_sub hl [1, 2, 3, 4, 5, 6, 7] rfl))
                · have ic_34 : ¬ ((x_5 : Int32).toInt = (7 : Int32).toInt) := fun h9 => c_34 ((fa_eq x_5 7).mpr h9)
                  refine lv_iload hx hb dX12_wrongIn_128 (lv_at hl 1 rfl) ?_
                  refine lv_bipush (v := 13) hx hb dX12_wrongIn_130 (by decide) ?_
                  refine lv_icmp_eq (tgt := 169) hx hb dX12_wrongIn_132 (by decide) (fun c_35 => ?_) (fun c_35 => ?_)
                  · have ic_35 : (x_5 : Int32).toInt = (13 : Int32).toInt := (fa_eq x_5 13).mp c_35
                    exact hZ1 (K_169  _ _ _ hP hS (lv_sub hl [1, 2, 3, 4, 5, 6, 7] rfl))
                  · have ic_35 : ¬ ((x_5 : Int32).toInt = (13 : Int32).toInt) := fun h9 => c_35 ((fa_eq x_5 13).mpr h9)
                    refine lv_iload hx hb dX12_wrongIn_135 (lv_at hl 1 rfl) ?_
                    refine lv_iconst (v := 1) hx hb dX12_wrongIn_137 (by decide) ?_
                    have K_165 : ∀ (H : Heap) (locs : List Loc) (ls : Array Slot), va_P D vwCl [(h, .inr (9, [.int h_code, .int h_taped, .ref h_tape, .int h_size, .ref h_text, .double h_value, .int h_out, .ref h_output, .int h_illAt, .ref h_format, .int h_sections, .int h_items, .ref h_kind, .ref h_what, .ref h_of, .ref h_relation, .ref h_bound, .int h_reads, .int h_readSections, .ref h_readKind, .ref h_readWhat, .ref h_readOf, .ref h_place, .ref h_readRelation, .ref h_readBound, .int h_stop, .ref h_meant, .ref h_row, .ref h_exact, .ref h_error, .ref h_bestError, .long h_m, .int h_e, .ref h_digits, .int h_whole])), (h_readKind, .inl (cI, 260, .inl h_readKindF)), (h_readWhat, .inl (cI, 260, .inl h_readWhatF)), (h_place, .inl (cI, 260, .inl h_placeF))] H → va_S (fun _ => False) s.heap H locs → lv_has ls 8 [(6, .int x_5), (5, .int x_3), (4, .int x_1), (0, .ref h), (1, .int p1), (2, .int p2), (3, .int p3)] → Z 0 0 H locs (F0 m 165 ls []) := by
                      intro  H locs ls  hP hS hl
                      refine hZ2 ?_
                      refine lv_iconst (v := 1) hx hb dX12_wrongIn_165 (by decide) ?_
                      refine lv_goto (tgt := 170) hx hb dX12_wrongIn_166 (by decide) ?_
                      exact hZ1 (K_170 1 _ _ _ (by omega) hP hS hl)
                    refine lv_icmp_ne (tgt := 165) hx hb dX12_wrongIn_138 (by decide) (fun c_36 => ?_) (fun c_36 => ?_)
                    · have ic_36 : ¬ ((x_5 : Int32).toInt = (1 : Int32).toInt) := fun h9 => c_36 ((fa_eq x_5 1).mpr h9)
                      exact hZ1 (K_165  _ _ _ hP hS (lv_sub hl [1, 2, 3, 4, 5, 6, 7] rfl))
                    · have ic_36 : (x_5 : Int32).toInt = (1 : Int32).toInt := (fa_eq x_5 1).mp c_36
                      refine lv_iload hx hb dX12_wrongIn_141 (lv_at hl 3 rfl) ?_
                      refine lv_iconst (v := 3) hx hb dX12_wrongIn_143 (by decide) ?_
                      refine lv_icmp_ne (tgt := 169) hx hb dX12_wrongIn_144 (by decide) (fun c_37 => ?_) (fun c_37 => ?_)
                      · have ic_37 : ¬ ((x_1 : Int32).toInt = (3 : Int32).toInt) := fun h9 => c_37 ((fa_eq x_1 3).mpr h9)
                        exact hZ1 (K_169  _ _ _ hP hS (lv_sub hl [1, 2, 3, 4, 5, 6, 7] rfl))
                      · have ic_37 : (x_1 : Int32).toInt = (3 : Int32).toInt := (fa_eq x_1 3).mp c_37
                        refine lv_aload_n hx hb dX12_wrongIn_147 rfl (lv_at hl 4 rfl) ?_
                        refine va_get (D := D) (ci := 9) (v := .ref h_readKind) (C := RX12) (T := TX12) (N := 35) hx hb hts iX12 hown hK hP 0 rfl rfl 19 (by decide) (hw 0 (.fieldLink RX12 42 "NumberFormatsModel" "readKind" "[I") rfl) (fun _ h9 => h9) rfl dX12_wrongIn_148 ?_
                        refine lv_aload_n hx hb dX12_wrongIn_151 rfl (lv_at hl 4 rfl) ?_
                        refine va_get (D := D) (ci := 9) (v := .ref h_readWhat) (C := RX12) (T := TX12) (N := 35) hx hb hts iX12 hown hK hP 0 rfl rfl 20 (by decide) (hw 7 (.fieldLink RX12 45 "NumberFormatsModel" "readWhat" "[I") rfl) (fun _ h9 => h9) rfl dX12_wrongIn_152 ?_
                        refine lv_iload hx hb dX12_wrongIn_155 (lv_at hl 2 rfl) ?_
                        refine lv_iload_n hx hb dX12_wrongIn_157 rfl (lv_at hl 6 rfl) ?_
                        refine lv_iload_n hx hb dX12_wrongIn_158 rfl (lv_at hl 7 rfl) ?_
                        have hPc := hP.sub (ws' := [(h_readKind, .inl (cI, 260, .inl h_readKindF)), (h_readWhat, .inl (cI, 260, .inl h_readWhatF))]) [1, 2] rfl
                        refine va_calli (va_runS (As := [.ref h_readKind, .ref h_readWhat, .int x_3, .int p2, .int p3]) (rest := []) ⟨hx, hb, hml, hown, hts⟩ (c_X12_isTenth l D cI cD cJ H.size h_readKind h_readKindF h_readWhat h_readWhatF x_3 p2 p3 (by omega) (by omega) (by omega) (by omega)) (va_cwS 5 hts (goodIn_app (goodIn_r _ [9, 10, 4] rfl (by decide +kernel)) (goodIn_sub i_X12_isTenth k_X12_isTenth)) rfl rfl rfl (by decide +kernel) ⟨Nat.le_of_ble_eq_true rfl, Nat.le_of_ble_eq_true rfl⟩) ⟨fun a U g mk q => by obtain ⟨q0, qP, qK⟩ := q; exact ⟨q0, qP, va_K.moved (u := U) (U := U.calling g mk a) (Vm.Alike.refl U.vm) qK⟩, fun U hU hW => ⟨rfl, by rw [hU]; exact hPc, va_K.moved hW.alike hK⟩⟩ rfl rfl hl.1 rfl (lv_room (Nat.le_of_ble_eq_true rfl)) dX12_wrongIn_159 ⟨Nat.le_of_ble_eq_true rfl, Nat.le_of_ble_eq_true rfl⟩) hS (fun q _ h => h.elim) (fun q h => h.elim) (fun x_38 u t H1 locs ht hvm w_39 hB hz1 hk1 hS => ?_)
                        have hP : va_P D vwCl [(h, .inr (9, [.int h_code, .int h_taped, .ref h_tape, .int h_size, .ref h_text, .double h_value, .int h_out, .ref h_output, .int h_illAt, .ref h_format, .int h_sections, .int h_items, .ref h_kind, .ref h_what, .ref h_of, .ref h_relation, .ref h_bound, .int h_reads, .int h_readSections, .ref h_readKind, .ref h_readWhat, .ref h_readOf, .ref h_place, .ref h_readRelation, .ref h_readBound, .int h_stop, .ref h_meant, .ref h_row, .ref h_exact, .ref h_error, .ref h_bestError, .long h_m, .int h_e, .ref h_digits, .int h_whole])), (h_readKind, .inl (cI, 260, .inl h_readKindF)), (h_readWhat, .inl (cI, 260, .inl h_readWhatF)), (h_place, .inl (cI, 260, .inl h_placeF))] H1 := hP.kept (fun k9 q9 h9 => hk1 q9.1 (vx_lt hP h9) (fun h => h))
                        generalize H1 = H at hP hS ⊢
                        try dsimp only at w_39
                        have b_x_38 := ti_b x_38
                        refine lv_if_eq (tgt := 169) hx hb dX12_wrongIn_162 (by decide) (fun c_40 => ?_) (fun c_40 => ?_)
                        · have ic_40 : (x_38 : Int32).toInt = (0 : Int32).toInt := (fa_eq x_38 0).mp c_40
                          exact hZ1 (K_169  _ _ _ hP hS (lv_sub hl [1, 2, 3, 4, 5, 6, 7] rfl))
                        · have ic_40 : ¬ ((x_38 : Int32).toInt = (0 : Int32).toInt) := fun h9 => c_40 ((fa_eq x_38 0).mpr h9)
                          exact hZ1 (K_165  _ _ _ hP hS (lv_sub hl [1, 2, 3, 4, 5, 6, 7] rfl))
            · have ic_31 : (x_1 : Int32).toInt = (1 : Int32).toInt := (fa_eq x_1 1).mp c_31
              refine lv_iload hx hb dX12_wrongIn_90 (lv_at hl 0 rfl) ?_
              have K_111 : ∀ (z_41 : Int32) (H : Heap) (locs : List Loc) (ls : Array Slot), ((z_41 : Int32).toInt = 0 ∨ (z_41 : Int32).toInt = 1) → va_P D vwCl [(h, .inr (9, [.int h_code, .int h_taped, .ref h_tape, .int h_size, .ref h_text, .double h_value, .int h_out, .ref h_output, .int h_illAt, .ref h_format, .int h_sections, .int h_items, .ref h_kind, .ref h_what, .ref h_of, .ref h_relation, .ref h_bound, .int h_reads, .int h_readSections, .ref h_readKind, .ref h_readWhat, .ref h_readOf, .ref h_place, .ref h_readRelation, .ref h_readBound, .int h_stop, .ref h_meant, .ref h_row, .ref h_exact, .ref h_error, .ref h_bestError, .long h_m, .int h_e, .ref h_digits, .int h_whole])), (h_readKind, .inl (cI, 260, .inl h_readKindF)), (h_readWhat, .inl (cI, 260, .inl h_readWhatF)), (h_place, .inl (cI, 260, .inl h_placeF))] H → va_S (fun _ => False) s.heap H locs → lv_has ls 8 [(6, .int x_5), (5, .int x_3), (4, .int x_1), (0, .ref h), (1, .int p1), (2, .int p2), (3, .int p3)] → Z 0 0 H locs (F0 m 111 ls [.int z_41]) := by
                intro z_41 H locs ls g111_0 hP hS hl
                refine hZ2 ?_
                refine lv_istore (lv' := [(7, .int z_41), (6, .int x_5), (5, .int x_3), (4, .int x_1), (0, .ref h), (1, .int p1), (2, .int p2), (3, .int p3)]) hx hb dX12_wrongIn_111 hl (by decide) rfl (fun ls hl => ?_)
                refine lv_goto (tgt := 172) hx hb dX12_wrongIn_113 (by decide) ?_
                exact hZ1 (K_172 z_41 _ _ _ hP hS hl)
              have K_110 : ∀ (H : Heap) (locs : List Loc) (ls : Array Slot), va_P D vwCl [(h, .inr (9, [.int h_code, .int h_taped, .ref h_tape, .int h_size, .ref h_text, .double h_value, .int h_out, .ref h_output, .int h_illAt, .ref h_format, .int h_sections, .int h_items, .ref h_kind, .ref h_what, .ref h_of, .ref h_relation, .ref h_bound, .int h_reads, .int h_readSections, .ref h_readKind, .ref h_readWhat, .ref h_readOf, .ref h_place, .ref h_readRelation, .ref h_readBound, .int h_stop, .ref h_meant, .ref h_row, .ref h_exact, .ref h_error, .ref h_bestError, .long h_m, .int h_e, .ref h_digits, .int h_whole])), (h_readKind, .inl (cI, 260, .inl h_readKindF)), (h_readWhat, .inl (cI, 260, .inl h_readWhatF)), (h_place, .inl (cI, 260, .inl h_placeF))] H → va_S (fun _ => False) s.heap H locs → lv_has ls 8 [(6, .int x_5), (5, .int x_3), (4, .int x_1), (0, .ref h), (1, .int p1), (2, .int p2), (3, .int p3)] → Z 0 0 H locs (F0 m 110 ls []) := by
                intro  H locs ls  hP hS hl
                refine hZ2 ?_
                refine lv_iconst (v := 0) hx hb dX12_wrongIn_110 (by decide) ?_
                exact hZ1 (K_111 0 _ _ _ (by omega) hP hS hl)
              refine lv_if_eq (tgt := 110) hx hb dX12_wrongIn_92 (by decide) (fun c_42 => ?_) (fun c_42 => ?_)
              · have ic_42 : (z_6 : Int32).toInt = (0 : Int32).toInt := (fa_eq z_6 0).mp c_42
                exact hZ1 (K_110  _ _ _ hP hS (lv_sub hl [1, 2, 3, 4, 5, 6, 7] rfl))
              · have ic_42 : ¬ ((z_6 : Int32).toInt = (0 : Int32).toInt) := fun h9 => c_42 ((fa_eq z_6 0).mpr h9)
                refine lv_aload_n hx hb dX12_wrongIn_95 rfl (lv_at hl 4 rfl) ?_
                refine lv_iload hx hb dX12_wrongIn_96 (lv_at hl 2 rfl) ?_
                refine lv_iload_n hx hb dX12_wrongIn_98 rfl (lv_at hl 6 rfl) ?_
                refine lv_iload_n hx hb dX12_wrongIn_99 rfl (lv_at hl 7 rfl) ?_
                have hPc := hP.sub (ws' := [(h, .inr (9, [.int h_code, .int h_taped, .ref h_tape, .int h_size, .ref h_text, .double h_value, .int h_out, .ref h_output, .int h_illAt, .ref h_format, .int h_sections, .int h_items, .ref h_kind, .ref h_what, .ref h_of, .ref h_relation, .ref h_bound, .int h_reads, .int h_readSections, .ref h_readKind, .ref h_readWhat, .ref h_readOf, .ref h_place, .ref h_readRelation, .ref h_readBound, .int h_stop, .ref h_meant, .ref h_row, .ref h_exact, .ref h_error, .ref h_bestError, .long h_m, .int h_e, .ref h_digits, .int h_whole])), (h_readKind, .inl (cI, 260, .inl h_readKindF))]) [0, 1] rfl
                refine va_calli (va_runV (As := [.int x_3, .int p2, .int p3]) (rest := []) ⟨hx, hb, hml, hown, hts⟩ (c_X12_fits l D cI cD cJ H.size h h_code h_taped h_tape h_size h_text h_value h_out h_output h_illAt h_format h_sections h_items h_kind h_what h_of h_relation h_bound h_reads h_readSections h_readKind h_readWhat h_readOf h_place h_readRelation h_readBound h_stop h_meant h_row h_exact h_error h_bestError h_m h_e h_digits h_whole h_readKindF x_3 p2 p3 (by omega) (by omega) (by omega) (by omega) (by omega) (by omega) (by omega) (by assumption) (by omega) (by omega) (by omega) (by omega) (by omega) (by omega)) (cwV 3 hts (goodIn_app (goodIn_r _ [11, 12, 13, 4] rfl (by decide +kernel)) (goodIn_sub i_X12_fits k_X12_fits)) rfl rfl rfl (by decide +kernel) ⟨Nat.le_of_ble_eq_true rfl, Nat.le_of_ble_eq_true rfl⟩) ⟨fun a U g mk q => by obtain ⟨q0, qP, qK⟩ := q; exact ⟨q0, qP, va_K.moved (u := U) (U := U.calling g mk a) (Vm.Alike.refl U.vm) qK⟩, va_recv hK hPc (ci := 9) (q0 := 0) rfl rfl, fun U hU hW => ⟨rfl, by rw [hU]; exact hPc, va_K.moved hW.alike hK⟩⟩ rfl rfl hl.1 rfl (lv_room (Nat.le_of_ble_eq_true rfl)) dX12_wrongIn_100 ⟨Nat.le_of_ble_eq_true rfl, Nat.le_of_ble_eq_true rfl⟩) hS (fun q _ h => h.elim) (fun q h => h.elim) (fun x_43 u t H1 locs ht hvm w_44 hB hz1 hk1 hS => ?_)
                have hP : va_P D vwCl [(h, .inr (9, [.int h_code, .int h_taped, .ref h_tape, .int h_size, .ref h_text, .double h_value, .int h_out, .ref h_output, .int h_illAt, .ref h_format, .int h_sections, .int h_items, .ref h_kind, .ref h_what, .ref h_of, .ref h_relation, .ref h_bound, .int h_reads, .int h_readSections, .ref h_readKind, .ref h_readWhat, .ref h_readOf, .ref h_place, .ref h_readRelation, .ref h_readBound, .int h_stop, .ref h_meant, .ref h_row, .ref h_exact, .ref h_error, .ref h_bestError, .long h_m, .int h_e, .ref h_digits, .int h_whole])), (h_readKind, .inl (cI, 260, .inl h_readKindF)), (h_readWhat, .inl (cI, 260, .inl h_readWhatF)), (h_place, .inl (cI, 260, .inl h_placeF))] H1 := hP.kept (fun k9 q9 h9 => hk1 q9.1 (vx_lt hP h9) (fun h => h))
                generalize H1 = H at hP hS ⊢
                try dsimp only at w_44
                have b_x_43 := ti_b x_43
                refine lv_if_eq (tgt := 110) hx hb dX12_wrongIn_103 (by decide) (fun c_45 => ?_) (fun c_45 => ?_)
                · have ic_45 : (x_43 : Int32).toInt = (0 : Int32).toInt := (fa_eq x_43 0).mp c_45
                  exact hZ1 (K_110  _ _ _ hP hS (lv_sub hl [1, 2, 3, 4, 5, 6, 7] rfl))
                · have ic_45 : ¬ ((x_43 : Int32).toInt = (0 : Int32).toInt) := fun h9 => c_45 ((fa_eq x_43 0).mpr h9)
                  refine lv_iconst (v := 1) hx hb dX12_wrongIn_106 (by decide) ?_
                  refine lv_goto (tgt := 111) hx hb dX12_wrongIn_107 (by decide) ?_
                  exact hZ1 (K_111 1 _ _ _ (by omega) hP hS (lv_sub hl [1, 2, 3, 4, 5, 6, 7] rfl))
          have K_81 : ∀ (H : Heap) (locs : List Loc) (ls : Array Slot), va_P D vwCl [(h, .inr (9, [.int h_code, .int h_taped, .ref h_tape, .int h_size, .ref h_text, .double h_value, .int h_out, .ref h_output, .int h_illAt, .ref h_format, .int h_sections, .int h_items, .ref h_kind, .ref h_what, .ref h_of, .ref h_relation, .ref h_bound, .int h_reads, .int h_readSections, .ref h_readKind, .ref h_readWhat, .ref h_readOf, .ref h_place, .ref h_readRelation, .ref h_readBound, .int h_stop, .ref h_meant, .ref h_row, .ref h_exact, .ref h_error, .ref h_bestError, .long h_m, .int h_e, .ref h_digits, .int h_whole])), (h_readKind, .inl (cI, 260, .inl h_readKindF)), (h_readWhat, .inl (cI, 260, .inl h_readWhatF)), (h_place, .inl (cI, 260, .inl h_placeF))] H → va_S (fun _ => False) s.heap H locs → lv_has ls 8 [(6, .int x_5), (5, .int x_3), (4, .int x_1), (0, .ref h), (1, .int p1), (2, .int p2), (3, .int p3)] → Z 0 0 H locs (F0 m 81 ls []) := by
            intro  H locs ls  hP hS hl
            refine hZ2 ?_
            refine lv_iconst (v := 0) hx hb dX12_wrongIn_81 (by decide) ?_
            exact hZ1 (K_82 0 _ _ _ (by omega) hP hS hl)
          refine lv_icmp_eq (tgt := 81) hx hb dX12_wrongIn_56 (by decide) (fun c_46 => ?_) (fun c_46 => ?_)
          · have ic_46 : (x_5 : Int32).toInt = (15 : Int32).toInt := (fa_eq x_5 15).mp c_46
            exact hZ1 (K_81  _ _ _ hP hS hl)
          · have ic_46 : ¬ ((x_5 : Int32).toInt = (15 : Int32).toInt) := fun h9 => c_46 ((fa_eq x_5 15).mpr h9)
            refine lv_iload hx hb dX12_wrongIn_59 (lv_at hl 0 rfl) ?_
            refine lv_bipush (v := 11) hx hb dX12_wrongIn_61 (by decide) ?_
            have K_77 : ∀ (H : Heap) (locs : List Loc) (ls : Array Slot), va_P D vwCl [(h, .inr (9, [.int h_code, .int h_taped, .ref h_tape, .int h_size, .ref h_text, .double h_value, .int h_out, .ref h_output, .int h_illAt, .ref h_format, .int h_sections, .int h_items, .ref h_kind, .ref h_what, .ref h_of, .ref h_relation, .ref h_bound, .int h_reads, .int h_readSections, .ref h_readKind, .ref h_readWhat, .ref h_readOf, .ref h_place, .ref h_readRelation, .ref h_readBound, .int h_stop, .ref h_meant, .ref h_row, .ref h_exact, .ref h_error, .ref h_bestError, .long h_m, .int h_e, .ref h_digits, .int h_whole])), (h_readKind, .inl (cI, 260, .inl h_readKindF)), (h_readWhat, .inl (cI, 260, .inl h_readWhatF)), (h_place, .inl (cI, 260, .inl h_placeF))] H → va_S (fun _ => False) s.heap H locs → lv_has ls 8 [(6, .int x_5), (5, .int x_3), (4, .int x_1), (0, .ref h), (1, .int p1), (2, .int p2), (3, .int p3)] → Z 0 0 H locs (F0 m 77 ls []) := by
              intro  H locs ls  hP hS hl
              refine hZ2 ?_
              refine lv_iconst (v := 1) hx hb dX12_wrongIn_77 (by decide) ?_
              refine lv_goto (tgt := 82) hx hb dX12_wrongIn_78 (by decide) ?_
              exact hZ1 (K_82 1 _ _ _ (by omega) hP hS hl)
            refine lv_icmp_ne (tgt := 77) hx hb dX12_wrongIn_63 (by decide) (fun c_47 => ?_) (fun c_47 => ?_)
            · have ic_47 : ¬ ((x_5 : Int32).toInt = (11 : Int32).toInt) := fun h9 => c_47 ((fa_eq x_5 11).mpr h9)
              exact hZ1 (K_77  _ _ _ hP hS hl)
            · have ic_47 : (x_5 : Int32).toInt = (11 : Int32).toInt := (fa_eq x_5 11).mp c_47
              refine lv_iload hx hb dX12_wrongIn_66 (lv_at hl 1 rfl) ?_
              refine lv_iload_n hx hb dX12_wrongIn_68 rfl (lv_at hl 5 rfl) ?_
              refine lv_icmp_ne (tgt := 81) hx hb dX12_wrongIn_69 (by decide) (fun c_48 => ?_) (fun c_48 => ?_)
              · have ic_48 : ¬ ((x_3 : Int32).toInt = (p2 : Int32).toInt) := fun h9 => c_48 ((fa_eq x_3 p2).mpr h9)
                exact hZ1 (K_81  _ _ _ hP hS hl)
              · have ic_48 : (x_3 : Int32).toInt = (p2 : Int32).toInt := (fa_eq x_3 p2).mp c_48
                refine lv_iload_n hx hb dX12_wrongIn_72 rfl (lv_at hl 4 rfl) ?_
                refine lv_iconst (v := 2) hx hb dX12_wrongIn_73 (by decide) ?_
                refine lv_icmp_ge (tgt := 81) hx hb dX12_wrongIn_74 (by decide) (fun c_49 => ?_) (fun c_49 => ?_)
                · have ic_49 : (2 : Int32).toInt ≤ (p1 : Int32).toInt := (fa_le 2 p1).mp c_49
                  exact hZ1 (K_81  _ _ _ hP hS hl)
                · have ic_49 : ¬ ((2 : Int32).toInt ≤ (p1 : Int32).toInt) := fun h9 => c_49 ((fa_le 2 p1).mpr h9)
                  exact hZ1 (K_77  _ _ _ hP hS hl)
    exact hZ1 (L_37 (((2147483647 - (p2 : Int32).toInt).toNat) + 1) p2 _ _ _ (by omega) (by omega) hP hS hl)
  refine lv_icmp_ne (tgt := 34) hx hb dX12_wrongIn_13 (by decide) (fun c_50 => ?_) (fun c_50 => ?_)
  · have ic_50 : ¬ ((p1 : Int32).toInt = (3 : Int32).toInt) := fun h9 => c_50 ((fa_eq p1 3).mpr h9)
    exact hZ1 (K_34  _ _ _ hP hS hl)
  · have ic_50 : (p1 : Int32).toInt = (3 : Int32).toInt := (fa_eq p1 3).mp c_50
    refine lv_iload hx hb dX12_wrongIn_16 (lv_at hl 0 rfl) ?_
    refine lv_iconst (v := 2) hx hb dX12_wrongIn_18 (by decide) ?_
    refine lv_icmp_eq (tgt := 34) hx hb dX12_wrongIn_19 (by decide) (fun c_51 => ?_) (fun c_51 => ?_)
    · have ic_51 : (x_1 : Int32).toInt = (2 : Int32).toInt := (fa_eq x_1 2).mp c_51
      exact hZ1 (K_34  _ _ _ hP hS hl)
    · have ic_51 : ¬ ((x_1 : Int32).toInt = (2 : Int32).toInt) := fun h9 => c_51 ((fa_eq x_1 2).mpr h9)
      refine lv_iload hx hb dX12_wrongIn_22 (lv_at hl 0 rfl) ?_
      refine lv_if_eq (tgt := 34) hx hb dX12_wrongIn_24 (by decide) (fun c_52 => ?_) (fun c_52 => ?_)
      · have ic_52 : (x_1 : Int32).toInt = (0 : Int32).toInt := (fa_eq x_1 0).mp c_52
        exact hZ1 (K_34  _ _ _ hP hS hl)
      · have ic_52 : ¬ ((x_1 : Int32).toInt = (0 : Int32).toInt) := fun h9 => c_52 ((fa_eq x_1 0).mpr h9)
        refine lv_aload_n hx hb dX12_wrongIn_27 rfl (lv_at hl 1 rfl) ?_
        refine va_get (D := D) (ci := 9) (v := .ref h_place) (C := RX12) (T := TX12) (N := 35) hx hb hts iX12 hown hK hP 0 rfl rfl 22 (by decide) (hw 4 (.fieldLink RX12 51 "NumberFormatsModel" "place" "[I") rfl) (fun _ h9 => h9) rfl dX12_wrongIn_28 ?_
        refine lv_iload_n hx hb dX12_wrongIn_31 rfl (lv_at hl 3 rfl) ?_
        have h_32 : vp_in p2 260 := by rw [vp_in_iff]; omega
        refine va_iald hx hb hK hP 3 0 rfl rfl h_32 dX12_wrongIn_32 ?_
        refine lv_topi (fun x_53 ex_53 => ?_)
        exact W.iret (v := x_53) hx hb hr (fun t ht hW => ⟨⟨x_53, (), rfl, trivial, trivial⟩, hS.F ht⟩) hS.2.2 dX12_wrongIn_33

