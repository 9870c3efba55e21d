def ow_X12_findWhole : List Cond := [Cond.fieldLink RX12 293 "NumberFormatsModel" "whole" "I", Cond.fieldLink RX12 75 "NumberFormatsModel" "digits" "[I"]
def pw_X12_findWhole : List Cond := Cond.code yX12_findWhole cX12_findWhole 2 none :: (ow_X12_findWhole ++ (wsX120))
set_option maxRecDepth 20000 in
theorem mo_X12_findWhole : ∀ w ∈ ow_X12_findWhole, w ∈ lw_tbl := by decide +kernel
set_option maxRecDepth 20000 in
theorem mc_X12_findWhole : Cond.code yX12_findWhole cX12_findWhole 2 none ∈ lw_tbl := by decide +kernel
theorem m_X12_findWhole : ∀ w ∈ pw_X12_findWhole, w ∈ lw_tbl := List.forall_mem_cons.mpr ⟨mc_X12_findWhole, (List.forall_mem_append.mpr ⟨mo_X12_findWhole, inX12⟩)⟩
theorem ko_X12_findWhole : ∀ w ∈ ow_X12_findWhole, goodWord w = true := by decide +kernel
theorem k_X12_findWhole : pw_X12_findWhole.all goodWord = true := List.all_eq_true.mpr (List.forall_mem_cons.mpr ⟨by decide +kernel, (List.forall_mem_append.mpr ⟨ko_X12_findWhole, kX_X12⟩)⟩)
set_option maxHeartbeats 400000 in
set_option maxRecDepth 100000 in
theorem c_X12_findWhole (l : Launch) (D : va_G) (cI cD cJ : ClassId) (sz : Nat) (h : Nat) (h_code : Int32) (h_taped : Int32) (h_tape : Nat) (h_size : Int32) (h_text : Nat) (h_value : UInt64) (h_out : Int32) (h_output : Nat) (h_illAt : Int32) (h_format : Nat) (h_sections : Int32) (h_items : Int32) (h_kind : Nat) (h_what : Nat) (h_of : Nat) (h_relation : Nat) (h_bound : Nat) (h_reads : Int32) (h_readSections : Int32) (h_readKind : Nat) (h_readWhat : Nat) (h_readOf : Nat) (h_place : Nat) (h_readRelation : Nat) (h_readBound : Nat) (h_stop : Int32) (h_meant : Nat) (h_row : Nat) (h_exact : Nat) (h_error : Nat) (h_bestError : Nat) (h_m : Int64) (h_e : Int32) (h_digits : Nat) (h_whole : Int32) (h_digitsF : Nat → Int32) (iv_h_taped : 0 ≤ (h_taped : Int32).toInt ∧ (h_taped : Int32).toInt ≤ 260) (iv_h_size : 0 ≤ (h_size : Int32).toInt ∧ (h_size : Int32).toInt ≤ 255) (iv_h_value : inR h_value) (iv_h_out : 0 ≤ (h_out : Int32).toInt ∧ (h_out : Int32).toInt ≤ 1024) (iv_h_sections : 0 ≤ (h_sections : Int32).toInt ∧ (h_sections : Int32).toInt ≤ 4) (iv_h_items : 0 ≤ (h_items : Int32).toInt ∧ (h_items : Int32).toInt ≤ 255) (iv_h_reads : 0 ≤ (h_reads : Int32).toInt ∧ (h_reads : Int32).toInt ≤ 255) (iv_h_readSections : 0 ≤ (h_readSections : Int32).toInt ∧ (h_readSections : Int32).toInt ≤ 4) (iv_h_whole : 0 ≤ (h_whole : Int32).toInt ∧ (h_whole : Int32).toInt ≤ 1001) : Met l yX12_findWhole pw_X12_findWhole ({ frames := 0, cells := 0, slots := 0, locals := 0 }) (va_Pc [.ref h] (fun U => U.heap.size = sz ∧ va_P D vwCl [(h, .inr (9, [.int h_code, .int h_taped, .ref h_tape, .int h_size, .ref h_text, .double h_value, .int h_out, .ref h_output, .int h_illAt, .ref h_format, .int h_sections, .int h_items, .ref h_kind, .ref h_what, .ref h_of, .ref h_relation, .ref h_bound, .int h_reads, .int h_readSections, .ref h_readKind, .ref h_readWhat, .ref h_readOf, .ref h_place, .ref h_readRelation, .ref h_readBound, .int h_stop, .ref h_meant, .ref h_row, .ref h_exact, .ref h_error, .ref h_bestError, .long h_m, .int h_e, .ref h_digits, .int h_whole])), (h_digits, .inl (cI, 1400, .inl h_digitsF))] U.heap ∧ va_K D vwCl (ty3 cI cD cJ) U ∧ va_D (fun _ => True) [(h, .inr (9, [.int h_code, .int h_taped, .ref h_tape, .int h_size, .ref h_text, .double h_value, .int h_out, .ref h_output, .int h_illAt, .ref h_format, .int h_sections, .int h_items, .ref h_kind, .ref h_what, .ref h_of, .ref h_relation, .ref h_bound, .int h_reads, .int h_readSections, .ref h_readKind, .ref h_readWhat, .ref h_readOf, .ref h_place, .ref h_readRelation, .ref h_readBound, .int h_stop, .ref h_meant, .ref h_row, .ref h_exact, .ref h_error, .ref h_bestError, .long h_m, .int h_e, .ref h_digits, .int h_whole])), (h_digits, .inl (cI, 1400, .inl h_digitsF))])) (va_Qv (fun (h_whole2 : Int32) => (0 ≤ (h_whole2 : Int32).toInt ∧ (h_whole2 : Int32).toInt ≤ 1001)) (fun (h_whole2 : Int32) (t : State) => va_P D vwCl [(h, .inr (9, [.int h_code, .int h_taped, .ref h_tape, .int h_size, .ref h_text, .double h_value, .int h_out, .ref h_output, .int h_illAt, .ref h_format, .int h_sections, .int h_items, .ref h_kind, .ref h_what, .ref h_of, .ref h_relation, .ref h_bound, .int h_reads, .int h_readSections, .ref h_readKind, .ref h_readWhat, .ref h_readOf, .ref h_place, .ref h_readRelation, .ref h_readBound, .int h_stop, .ref h_meant, .ref h_row, .ref h_exact, .ref h_error, .ref h_bestError, .long h_m, .int h_e, .ref h_digits, .int h_whole2])), (h_digits, .inl (cI, 1400, .inl h_digitsF))] t.heap ∧ va_K D vwCl (ty3 cI cD cJ) t ∧ va_D (va_A [(h, .inr (9, [.int h_code, .int h_taped, .ref h_tape, .int h_size, .ref h_text, .double h_value, .int h_out, .ref h_output, .int h_illAt, .ref h_format, .int h_sections, .int h_items, .ref h_kind, .ref h_what, .ref h_of, .ref h_relation, .ref h_bound, .int h_reads, .int h_readSections, .ref h_readKind, .ref h_readWhat, .ref h_readOf, .ref h_place, .ref h_readRelation, .ref h_readBound, .int h_stop, .ref h_meant, .ref h_row, .ref h_exact, .ref h_error, .ref h_bestError, .long h_m, .int h_e, .ref h_digits, .int h_whole])), (h_digits, .inl (cI, 1400, .inl h_digitsF))] sz) [(h, .inr (9, [.int h_code, .int h_taped, .ref h_tape, .int h_size, .ref h_text, .double h_value, .int h_out, .ref h_output, .int h_illAt, .ref h_format, .int h_sections, .int h_items, .ref h_kind, .ref h_what, .ref h_of, .ref h_relation, .ref h_bound, .int h_reads, .int h_readSections, .ref h_readKind, .ref h_readWhat, .ref h_readOf, .ref h_place, .ref h_readRelation, .ref h_readBound, .int h_stop, .ref h_meant, .ref h_row, .ref h_exact, .ref h_error, .ref h_bestError, .long h_m, .int h_e, .ref h_digits, .int h_whole2])), (h_digits, .inl (cI, 1400, .inl h_digitsF))]) (va_A [(h, .inr (9, [.int h_code, .int h_taped, .ref h_tape, .int h_size, .ref h_text, .double h_value, .int h_out, .ref h_output, .int h_illAt, .ref h_format, .int h_sections, .int h_items, .ref h_kind, .ref h_what, .ref h_of, .ref h_relation, .ref h_bound, .int h_reads, .int h_readSections, .ref h_readKind, .ref h_readWhat, .ref h_readOf, .ref h_place, .ref h_readRelation, .ref h_readBound, .int h_stop, .ref h_meant, .ref h_row, .ref h_exact, .ref h_error, .ref h_bestError, .long h_m, .int h_e, .ref h_digits, .int h_whole])), (h_digits, .inl (cI, 1400, .inl h_digitsF))] sz)) 0 0 (va_A [(h, .inr (9, [.int h_code, .int h_taped, .ref h_tape, .int h_size, .ref h_text, .double h_value, .int h_out, .ref h_output, .int h_illAt, .ref h_format, .int h_sections, .int h_items, .ref h_kind, .ref h_what, .ref h_of, .ref h_relation, .ref h_bound, .int h_reads, .int h_readSections, .ref h_readKind, .ref h_readWhat, .ref h_readOf, .ref h_place, .ref h_readRelation, .ref h_readBound, .int h_stop, .ref h_meant, .ref h_row, .ref h_exact, .ref h_error, .ref h_bestError, .long h_m, .int h_e, .ref h_digits, .int h_whole])), (h_digits, .inl (cI, 1400, .inl h_digitsF))] sz) := by
  refine Met.ofW (cc := cX12_findWhole) (maxL := 2) (ret := none) (by decide +kernel) rfl ?_
  intro p e s m args below meth c s₁ B hml hv
  obtain ⟨rfl, hsz, hP, hK, hD0⟩ := hv
  have hx := B.exec
  have hb := B.bytes
  have hr := B.returns
  have hts := atoms_spec (ws := pw_X12_findWhole) B.pre
  have hown : s.vm.findClass RX12 = some m.cls := findClass_of_methodNamed B.named
  have hlocks := B.notSynchronized
  subst hsz
  have hD := hD0.self (sz := s.heap.size)
  generalize hAe : va_A [(h, .inr (9, [.int h_code, .int h_taped, .ref h_tape, .int h_size, .ref h_text, .double h_value, .int h_out, .ref h_output, .int h_illAt, .ref h_format, .int h_sections, .int h_items, .ref h_kind, .ref h_what, .ref h_of, .ref h_relation, .ref h_bound, .int h_reads, .int h_readSections, .ref h_readKind, .ref h_readWhat, .ref h_readOf, .ref h_place, .ref h_readRelation, .ref h_readBound, .int h_stop, .ref h_meant, .ref h_row, .ref h_exact, .ref h_error, .ref h_bestError, .long h_m, .int h_e, .ref h_digits, .int h_whole])), (h_digits, .inl (cI, 1400, .inl h_digitsF))] s.heap.size = A at hD ⊢
  have hA : ∀ q : Nat, s.heap.size ≤ q → A q := fun q h => by rw [← hAe]; exact Or.inr h
  have hS : va_S A s.heap s.heap [] := va_S.rf
  have hw : ∀ (k : Nat) (w : Cond), ow_X12_findWhole[k]? = some w → w.before _ s = true := fun k w h => hts w (List.mem_cons_of_mem _ (have h9 := List.mem_of_getElem? h; List.mem_append_left _ h9))
  have iX12 : ∀ w ∈ u_ws RX12 TX12 35, w ∈ pw_X12_findWhole := fun w h9 => List.mem_cons_of_mem _ (List.mem_append_right _ (h9))
  have n_0 : ((0 : Int32)).toInt = 0 := by decide
  have n_1 : ((1 : Int32)).toInt = 1 := by decide
  have n_1000 : ((1000 : Int32)).toInt = 1000 := by decide
  have hl := lv_entry ([.ref h]) (n := 2) (Nat.le_of_ble_eq_true rfl)
  rw [lg_entry_eq]
  generalize (lg_sl ([.ref h]) ++ List.replicate (2 - (lg_sl ([.ref h])).length) Slot.unset).toArray = ls at hl ⊢
  have hl : lv_has ls 2 [(0, .ref h)] := hl
  refine zz_cap (fun Z hZ1 hZ2 => ?_)
  refine lv_aload_n hx hb dX12_findWhole_0 rfl (lv_at hl 0 rfl) ?_
  refine lv_iconst (v := 0) hx hb dX12_findWhole_1 (by decide) ?_
  refine va_put (D := D) (ci := 9) (v := .int 0) (ty := .int) (C := RX12) (T := TX12) (N := 35) hx hb hts iX12 tyX12 tyX12_ok nmX12 hown hK hP hD hS 0 rfl rfl 34 (by decide) (hw 0 (.fieldLink RX12 293 "NumberFormatsModel" "whole" "I") rfl) (fun _ h9 => h9) rfl (by decide +kernel) rfl rfl (Nat.le_of_ble_eq_true rfl) dX12_findWhole_2 (fun H locs hP hD hS => ?_)
  have hP : va_P D vwCl [(h, .inr (9, [.int h_code, .int h_taped, .ref h_tape, .int h_size, .ref h_text, .double h_value, .int h_out, .ref h_output, .int h_illAt, .ref h_format, .int h_sections, .int h_items, .ref h_kind, .ref h_what, .ref h_of, .ref h_relation, .ref h_bound, .int h_reads, .int h_readSections, .ref h_readKind, .ref h_readWhat, .ref h_readOf, .ref h_place, .ref h_readRelation, .ref h_readBound, .int h_stop, .ref h_meant, .ref h_row, .ref h_exact, .ref h_error, .ref h_bestError, .long h_m, .int h_e, .ref h_digits, .int 0])), (h_digits, .inl (cI, 1400, .inl h_digitsF))] H := hP
  have hD : va_D A [(h, .inr (9, [.int h_code, .int h_taped, .ref h_tape, .int h_size, .ref h_text, .double h_value, .int h_out, .ref h_output, .int h_illAt, .ref h_format, .int h_sections, .int h_items, .ref h_kind, .ref h_what, .ref h_of, .ref h_relation, .ref h_bound, .int h_reads, .int h_readSections, .ref h_readKind, .ref h_readWhat, .ref h_readOf, .ref h_place, .ref h_readRelation, .ref h_readBound, .int h_stop, .ref h_meant, .ref h_row, .ref h_exact, .ref h_error, .ref h_bestError, .long h_m, .int h_e, .ref h_digits, .int 0])), (h_digits, .inl (cI, 1400, .inl h_digitsF))] := hD
  refine lv_iconst (v := 0) hx hb dX12_findWhole_5 (by decide) ?_
  refine lv_istore_n (lv' := [(1, .int 0), (0, .ref h)]) hx hb dX12_findWhole_6 rfl hl (by decide) rfl (fun ls hl => ?_)
  have L_7 : ∀ (N : Nat) (x_1 : Int32) (x_2 : Int32) (H : Heap) (locs : List Loc) (ls : Array Slot), (0 ≤ (x_1 : Int32).toInt) → (0 ≤ (x_2 : Int32).toInt ∧ (x_2 : Int32).toInt ≤ 1001) → ((2147483647 - (x_1 : Int32).toInt).toNat < N) → va_P D vwCl [(h, .inr (9, [.int h_code, .int h_taped, .ref h_tape, .int h_size, .ref h_text, .double h_value, .int h_out, .ref h_output, .int h_illAt, .ref h_format, .int h_sections, .int h_items, .ref h_kind, .ref h_what, .ref h_of, .ref h_relation, .ref h_bound, .int h_reads, .int h_readSections, .ref h_readKind, .ref h_readWhat, .ref h_readOf, .ref h_place, .ref h_readRelation, .ref h_readBound, .int h_stop, .ref h_meant, .ref h_row, .ref h_exact, .ref h_error, .ref h_bestError, .long h_m, .int h_e, .ref h_digits, .int x_2])), (h_digits, .inl (cI, 1400, .inl h_digitsF))] H → va_D A [(h, .inr (9, [.int h_code, .int h_taped, .ref h_tape, .int h_size, .ref h_text, .double h_value, .int h_out, .ref h_output, .int h_illAt, .ref h_format, .int h_sections, .int h_items, .ref h_kind, .ref h_what, .ref h_of, .ref h_relation, .ref h_bound, .int h_reads, .int h_readSections, .ref h_readKind, .ref h_readWhat, .ref h_readOf, .ref h_place, .ref h_readRelation, .ref h_readBound, .int h_stop, .ref h_meant, .ref h_row, .ref h_exact, .ref h_error, .ref h_bestError, .long h_m, .int h_e, .ref h_digits, .int x_2])), (h_digits, .inl (cI, 1400, .inl h_digitsF))] → va_S A s.heap H locs → lv_has ls 2 [(1, .int x_1), (0, .ref h)] → Z 0 0 H locs (F0 m 7 ls []) := by
    intro N
    induction N with
    | zero => intro _ _ _ _ _ _ _ hmu; exact absurd hmu (Nat.not_lt_zero _)
    | succ N ih_7 =>
      intro x_1 x_2 H locs ls g7_0 g7_1 hmu hP hD hS hl
      refine hZ2 ?_
      refine lv_iload_n hx hb dX12_findWhole_7 rfl (lv_at hl 0 rfl) ?_
      refine lv_sipush (v := 1000) hx hb dX12_findWhole_8 (by decide) ?_
      refine lv_icmp_gt (tgt := 47) hx hb dX12_findWhole_11 (by decide) (fun c_3 => ?_) (fun c_3 => ?_)
      · have ic_3 : (1000 : Int32).toInt < (x_1 : Int32).toInt := (fa_lt 1000 x_1).mp c_3
        have hP9 := hP.sub (ws' := [(h, .inr (9, [.int h_code, .int h_taped, .ref h_tape, .int h_size, .ref h_text, .double h_value, .int h_out, .ref h_output, .int h_illAt, .ref h_format, .int h_sections, .int h_items, .ref h_kind, .ref h_what, .ref h_of, .ref h_relation, .ref h_bound, .int h_reads, .int h_readSections, .ref h_readKind, .ref h_readWhat, .ref h_readOf, .ref h_place, .ref h_readRelation, .ref h_readBound, .int h_stop, .ref h_meant, .ref h_row, .ref h_exact, .ref h_error, .ref h_bestError, .long h_m, .int h_e, .ref h_digits, .int x_2])), (h_digits, .inl (cI, 1400, .inl h_digitsF))]) [0, 1] rfl
        have hD9 := hD.sub (ws' := [(h, .inr (9, [.int h_code, .int h_taped, .ref h_tape, .int h_size, .ref h_text, .double h_value, .int h_out, .ref h_output, .int h_illAt, .ref h_format, .int h_sections, .int h_items, .ref h_kind, .ref h_what, .ref h_of, .ref h_relation, .ref h_bound, .int h_reads, .int h_readSections, .ref h_readKind, .ref h_readWhat, .ref h_readOf, .ref h_place, .ref h_readRelation, .ref h_readBound, .int h_stop, .ref h_meant, .ref h_row, .ref h_exact, .ref h_error, .ref h_bestError, .long h_m, .int h_e, .ref h_digits, .int x_2])), (h_digits, .inl (cI, 1400, .inl h_digitsF))]) [0, 1] (by decide) rfl
        exact W.vret hx hb hr (fun t ht hW => ⟨⟨(x_2), rfl, (by (try dsimp only); first | omega | assumption), by rw [ht]; exact hP9, va_K.moved hW.alike hK, hD9⟩, hS.F ht⟩) hS.2.2 dX12_findWhole_47
      · have ic_3 : ¬ ((1000 : Int32).toInt < (x_1 : Int32).toInt) := fun h9 => c_3 ((fa_lt 1000 x_1).mpr h9)
        refine lv_aload_n hx hb dX12_findWhole_14 rfl (lv_at hl 1 rfl) ?_
        refine va_get (D := D) (ci := 9) (v := .ref h_digits) (C := RX12) (T := TX12) (N := 35) hx hb hts iX12 hown hK hP 0 rfl rfl 33 (by decide) (hw 1 (.fieldLink RX12 75 "NumberFormatsModel" "digits" "[I") rfl) (fun _ h9 => h9) rfl dX12_findWhole_15 ?_
        refine lv_iload_n hx hb dX12_findWhole_18 rfl (lv_at hl 0 rfl) ?_
        have h_19 : vp_in x_1 1400 := by rw [vp_in_iff]; omega
        refine va_iald hx hb hK hP 1 0 rfl rfl h_19 dX12_findWhole_19 ?_
        refine lv_topi (fun x_4 ex_4 => ?_)
        refine lv_if_le (tgt := 41) hx hb dX12_findWhole_20 (by decide) (fun c_5 => ?_) (fun c_5 => ?_)
        · have ic_5 : (x_4 : Int32).toInt ≤ (0 : Int32).toInt := (fa_le x_4 0).mp c_5
          obtain ⟨x_6, ex_6⟩ : ∃ y : Int32, y = x_1 + 1 := ⟨_, rfl⟩
          have b_x_1 := ti_b x_1
          have tx_6 := ti_add ex_6
          refine lv_iinc (v := x_6) (lv' := [(1, .int x_6), (0, .ref h)]) hx hb dX12_findWhole_41 hl (k := 0) rfl (by rw [ex_6]; rfl) (by decide) rfl (fun ls hl => ?_)
          refine lv_goto (tgt := 7) hx hb dX12_findWhole_44 (by decide) ?_
          exact hZ1 (ih_7 x_6 x_2 _ _ _ (by omega) (by omega) (by omega) hP hD hS hl)
        · have ic_5 : ¬ ((x_4 : Int32).toInt ≤ (0 : Int32).toInt) := fun h9 => c_5 ((fa_le x_4 0).mpr h9)
          refine lv_aload_n hx hb dX12_findWhole_23 rfl (lv_at hl 1 rfl) ?_
          refine va_get (D := D) (ci := 9) (v := .int x_2) (C := RX12) (T := TX12) (N := 35) hx hb hts iX12 hown hK hP 0 rfl rfl 34 (by decide) (hw 0 (.fieldLink RX12 293 "NumberFormatsModel" "whole" "I") rfl) (fun _ h9 => h9) rfl dX12_findWhole_24 ?_
          refine lv_if_ne (tgt := 41) hx hb dX12_findWhole_27 (by decide) (fun c_7 => ?_) (fun c_7 => ?_)
          · have ic_7 : ¬ ((x_2 : Int32).toInt = (0 : Int32).toInt) := fun h9 => c_7 ((fa_eq x_2 0).mpr h9)
            obtain ⟨x_8, ex_8⟩ : ∃ y : Int32, y = x_1 + 1 := ⟨_, rfl⟩
            have b_x_1 := ti_b x_1
            have tx_8 := ti_add ex_8
            refine lv_iinc (v := x_8) (lv' := [(1, .int x_8), (0, .ref h)]) hx hb dX12_findWhole_41 hl (k := 0) rfl (by rw [ex_8]; rfl) (by decide) rfl (fun ls hl => ?_)
            refine lv_goto (tgt := 7) hx hb dX12_findWhole_44 (by decide) ?_
            exact hZ1 (ih_7 x_8 x_2 _ _ _ (by omega) (by omega) (by omega) hP hD hS hl)
          · have ic_7 : (x_2 : Int32).toInt = (0 : Int32).toInt := (fa_eq x_2 0).mp c_7
            refine lv_aload_n hx hb dX12_findWhole_30 rfl (lv_at hl 1 rfl) ?_
            refine lv_sipush (v := 1000) hx hb dX12_findWhole_31 (by decide) ?_
            refine lv_iload_n hx hb dX12_findWhole_34 rfl (lv_at hl 0 rfl) ?_
            refine lv_isub hx hb dX12_findWhole_35 ?_
            refine lv_topi (fun x_9 ex_9 => ?_)
            have b_x_1 := ti_b x_1
            have tx_9 := ti_sub ex_9
            refine lv_iconst (v := 1) hx hb dX12_findWhole_36 (by decide) ?_
            refine lv_iadd hx hb dX12_findWhole_37 ?_
            refine lv_topi (fun x_10 ex_10 => ?_)
            have tx_10 := ti_add ex_10
            refine va_put (D := D) (ci := 9) (v := .int x_10) (ty := .int) (C := RX12) (T := TX12) (N := 35) hx hb hts iX12 tyX12 tyX12_ok nmX12 hown hK hP hD hS 0 rfl rfl 34 (by decide) (hw 0 (.fieldLink RX12 293 "NumberFormatsModel" "whole" "I") rfl) (fun _ h9 => h9) rfl (by decide +kernel) rfl rfl (Nat.le_of_ble_eq_true rfl) dX12_findWhole_38 (fun H locs hP hD hS => ?_)
            have hP : va_P D vwCl [(h, .inr (9, [.int h_code, .int h_taped, .ref h_tape, .int h_size, .ref h_text, .double h_value, .int h_out, .ref h_output, .int h_illAt, .ref h_format, .int h_sections, .int h_items, .ref h_kind, .ref h_what, .ref h_of, .ref h_relation, .ref h_bound, .int h_reads, .int h_readSections, .ref h_readKind, .ref h_readWhat, .ref h_readOf, .ref h_place, .ref h_readRelation, .ref h_readBound, .int h_stop, .ref h_meant, .ref h_row, .ref h_exact, .ref h_error, .ref h_bestError, .long h_m, .int h_e, .ref h_digits, .int x_10])), (h_digits, .inl (cI, 1400, .inl h_digitsF))] H := hP
            have hD : va_D A [(h, .inr (9, [.int h_code, .int h_taped, .ref h_tape, .int h_size, .ref h_text, .double h_value, .int h_out, .ref h_output, .int h_illAt, .ref h_format, .int h_sections, .int h_items, .ref h_kind, .ref h_what, .ref h_of, .ref h_relation, .ref h_bound, .int h_reads, .int h_readSections, .ref h_readKind, .ref h_readWhat, .ref h_readOf, .ref h_place, .ref h_readRelation, .ref h_readBound, .int h_stop, .ref h_meant, .ref h_row, .ref h_exact, .ref h_error, .ref h_bestError, .long h_m, .int h_e, .ref h_digits, .int x_10])), (h_digits, .inl (cI, 1400, .inl h_digitsF))] := hD
            obtain ⟨x_11, ex_11⟩ : ∃ y : Int32, y = x_1 + 1 := ⟨_, rfl⟩
            have b_x_1 := ti_b x_1
            have tx_11 := ti_add ex_11
            refine lv_iinc (v := x_11) (lv' := [(1, .int x_11), (0, .ref h)]) hx hb dX12_findWhole_41 hl (k := 0) rfl (by rw [ex_11]; rfl) (by decide) rfl (fun ls hl => ?_)
            refine lv_goto (tgt := 7) hx hb dX12_findWhole_44 (by decide) ?_
            exact hZ1 (ih_7 x_11 x_10 _ _ _ (by omega) (by omega) (by omega) hP hD hS hl)
  exact hZ1 (L_7 (((2147483647 - (0 : Int32).toInt).toNat) + 1) 0 0 _ _ _ (by omega) (by omega) (by omega) hP hD hS hl)

def ow_X12_round : List Cond := [Cond.fieldLink RX12 75 "NumberFormatsModel" "digits" "[I", Cond.methodLink RX12 290 yX12_findWhole, Cond.instanceMethod yX12_findWhole, Cond.selects RX12 yX12_findWhole yX12_findWhole, Cond.initialized RX12, Cond.fieldLink RX12 66 "NumberFormatsModel" "exact" "[I"]
def pw_X12_round : List Cond := Cond.code yX12_round cX12_round 5 none :: (ow_X12_round ++ (pw_X12_findWhole ++ (wsX120)))
set_option maxRecDepth 20000 in
theorem mo_X12_round : ∀ w ∈ ow_X12_round, w ∈ lw_tbl := by decide +kernel
set_option maxRecDepth 20000 in
theorem mc_X12_round : Cond.code yX12_round cX12_round 5 none ∈ lw_tbl := by decide +kernel
theorem m_X12_round : ∀ w ∈ pw_X12_round, w ∈ lw_tbl := List.forall_mem_cons.mpr ⟨mc_X12_round, (List.forall_mem_append.mpr ⟨mo_X12_round, (List.forall_mem_append.mpr ⟨m_X12_findWhole, inX12⟩)⟩)⟩
theorem ko_X12_round : ∀ w ∈ ow_X12_round, goodWord w = true := by decide +kernel
theorem k_X12_round : pw_X12_round.all goodWord = true := List.all_eq_true.mpr (List.forall_mem_cons.mpr ⟨by decide +kernel, (List.forall_mem_append.mpr ⟨ko_X12_round, (List.forall_mem_append.mpr ⟨(List.all_eq_true.mp k_X12_findWhole), kX_X12⟩)⟩)⟩)
set_option maxHeartbeats 400000 in
set_option maxRecDepth 100000 in
theorem c_X12_round (l : Launch) (D : va_G) (cI cD cJ : ClassId) (sz : Nat) (h : Nat) (h_code : Int32) (h_taped : Int32) (h_tape : Nat) (h_size : Int32) (h_text : Nat) (h_value : UInt64) (h_out : Int32) (h_output : Nat) (h_illAt : Int32) (h_format : Nat) (h_sections : Int32) (h_items : Int32) (h_kind : Nat) (h_what : Nat) (h_of : Nat) (h_relation : Nat) (h_bound : Nat) (h_reads : Int32) (h_readSections : Int32) (h_readKind : Nat) (h_readWhat : Nat) (h_readOf : Nat) (h_place : Nat) (h_readRelation : Nat) (h_readBound : Nat) (h_stop : Int32) (h_meant : Nat) (h_row : Nat) (h_exact : Nat) (h_error : Nat) (h_bestError : Nat) (h_m : Int64) (h_e : Int32) (h_digits : Nat) (h_whole : Int32) (h_exactF : Nat → Int32) (h_digitsF : Nat → Int32) (p1 : Int32) (p2 : Int32) (hh0 : -5000 ≤ p1.toInt) (hh1 : p1.toInt ≤ 5000) (hh2 : 0 ≤ p2.toInt) (hh3 : p2.toInt ≤ 256) (hh4 : RD h_exactF p1) (iv_h_taped : 0 ≤ (h_taped : Int32).toInt ∧ (h_taped : Int32).toInt ≤ 260) (iv_h_size : 0 ≤ (h_size : Int32).toInt ∧ (h_size : Int32).toInt ≤ 255) (iv_h_value : inR h_value) (iv_h_out : 0 ≤ (h_out : Int32).toInt ∧ (h_out : Int32).toInt ≤ 1024) (iv_h_sections : 0 ≤ (h_sections : Int32).toInt ∧ (h_sections : Int32).toInt ≤ 4) (iv_h_items : 0 ≤ (h_items : Int32).toInt ∧ (h_items : Int32).toInt ≤ 255) (iv_h_reads : 0 ≤ (h_reads : Int32).toInt ∧ (h_reads : Int32).toInt ≤ 255) (iv_h_readSections : 0 ≤ (h_readSections : Int32).toInt ∧ (h_readSections : Int32).toInt ≤ 4) (iv_h_whole : 0 ≤ (h_whole : Int32).toInt ∧ (h_whole : Int32).toInt ≤ 1001) : Met l yX12_round pw_X12_round ({ frames := 1, cells := 0, slots := 0, locals := 21 }) (va_Pc [.ref h, .int p1, .int p2] (fun U => U.heap.size = sz ∧ va_P D vwCl [(h, .inr (9, [.int h_code, .int h_taped, .ref h_tape, .int h_size, .ref h_text, .double h_value, .int h_out, .ref h_output, .int h_illAt, .ref h_format, .int h_sections, .int h_items, .ref h_kind, .ref h_what, .ref h_of, .ref h_relation, .ref h_bound, .int h_reads, .int h_readSections, .ref h_readKind, .ref h_readWhat, .ref h_readOf, .ref h_place, .ref h_readRelation, .ref h_readBound, .int h_stop, .ref h_meant, .ref h_row, .ref h_exact, .ref h_error, .ref h_bestError, .long h_m, .int h_e, .ref h_digits, .int h_whole])), (h_exact, .inl (cI, 1420, .inl h_exactF)), (h_digits, .inl (cI, 1400, .inl h_digitsF))] U.heap ∧ va_K D vwCl (ty3 cI cD cJ) U ∧ va_D (fun _ => True) [(h, .inr (9, [.int h_code, .int h_taped, .ref h_tape, .int h_size, .ref h_text, .double h_value, .int h_out, .ref h_output, .int h_illAt, .ref h_format, .int h_sections, .int h_items, .ref h_kind, .ref h_what, .ref h_of, .ref h_relation, .ref h_bound, .int h_reads, .int h_readSections, .ref h_readKind, .ref h_readWhat, .ref h_readOf, .ref h_place, .ref h_readRelation, .ref h_readBound, .int h_stop, .ref h_meant, .ref h_row, .ref h_exact, .ref h_error, .ref h_bestError, .long h_m, .int h_e, .ref h_digits, .int h_whole])), (h_exact, .inl (cI, 1420, .inl h_exactF)), (h_digits, .inl (cI, 1400, .inl h_digitsF))])) (va_Qv (fun (u : Int32 × (Nat → Int32)) => match u with | (h_whole2, h_digitsF2) => (0 ≤ (h_whole2 : Int32).toInt ∧ (h_whole2 : Int32).toInt ≤ 1001)) (fun (u : Int32 × (Nat → Int32)) (t : State) => match u with | (h_whole2, h_digitsF2) => va_P D vwCl [(h, .inr (9, [.int h_code, .int h_taped, .ref h_tape, .int h_size, .ref h_text, .double h_value, .int h_out, .ref h_output, .int h_illAt, .ref h_format, .int h_sections, .int h_items, .ref h_kind, .ref h_what, .ref h_of, .ref h_relation, .ref h_bound, .int h_reads, .int h_readSections, .ref h_readKind, .ref h_readWhat, .ref h_readOf, .ref h_place, .ref h_readRelation, .ref h_readBound, .int h_stop, .ref h_meant, .ref h_row, .ref h_exact, .ref h_error, .ref h_bestError, .long h_m, .int h_e, .ref h_digits, .int h_whole2])), (h_exact, .inl (cI, 1420, .inl h_exactF)), (h_digits, .inl (cI, 1400, .inl h_digitsF2))] t.heap ∧ va_K D vwCl (ty3 cI cD cJ) t ∧ va_D (va_A [(h, .inr (9, [.int h_code, .int h_taped, .ref h_tape, .int h_size, .ref h_text, .double h_value, .int h_out, .ref h_output, .int h_illAt, .ref h_format, .int h_sections, .int h_items, .ref h_kind, .ref h_what, .ref h_of, .ref h_relation, .ref h_bound, .int h_reads, .int h_readSections, .ref h_readKind, .ref h_readWhat, .ref h_readOf, .ref h_place, .ref h_readRelation, .ref h_readBound, .int h_stop, .ref h_meant, .ref h_row, .ref h_exact, .ref h_error, .ref h_bestError, .long h_m, .int h_e, .ref h_digits, .int h_whole])), (h_exact, .inl (cI, 1420, .inl h_exactF)), (h_digits, .inl (cI, 1400, .inl h_digitsF))] sz) [(h, .inr (9, [.int h_code, .int h_taped, .ref h_tape, .int h_size, .ref h_text, .double h_value, .int h_out, .ref h_output, .int h_illAt, .ref h_format, .int h_sections, .int h_items, .ref h_kind, .ref h_what, .ref h_of, .ref h_relation, .ref h_bound, .int h_reads, .int h_readSections, .ref h_readKind, .ref h_readWhat, .ref h_readOf, .ref h_place, .ref h_readRelation, .ref h_readBound, .int h_stop, .ref h_meant, .ref h_row, .ref h_exact, .ref h_error, .ref h_bestError, .long h_m, .int h_e, .ref h_digits, .int h_whole2])), (h_exact, .inl (cI, 1420, .inl h_exactF)), (h_digits, .inl (cI, 1400, .inl h_digitsF2))]) (va_A [(h, .inr (9, [.int h_code, .int h_taped, .ref h_tape, .int h_size, .ref h_text, .double h_value, .int h_out, .ref h_output, .int h_illAt, .ref h_format, .int h_sections, .int h_items, .ref h_kind, .ref h_what, .ref h_of, .ref h_relation, .ref h_bound, .int h_reads, .int h_readSections, .ref h_readKind, .ref h_readWhat, .ref h_readOf, .ref h_place, .ref h_readRelation, .ref h_readBound, .int h_stop, .ref h_meant, .ref h_row, .ref h_exact, .ref h_error, .ref h_bestError, .long h_m, .int h_e, .ref h_digits, .int h_whole])), (h_exact, .inl (cI, 1420, .inl h_exactF)), (h_digits, .inl (cI, 1400, .inl h_digitsF))] sz)) 0 0 (va_A [(h, .inr (9, [.int h_code, .int h_taped, .ref h_tape, .int h_size, .ref h_text, .double h_value, .int h_out, .ref h_output, .int h_illAt, .ref h_format, .int h_sections, .int h_items, .ref h_kind, .ref h_what, .ref h_of, .ref h_relation, .ref h_bound, .int h_reads, .int h_readSections, .ref h_readKind, .ref h_readWhat, .ref h_readOf, .ref h_place, .ref h_readRelation, .ref h_readBound, .int h_stop, .ref h_meant, .ref h_row, .ref h_exact, .ref h_error, .ref h_bestError, .long h_m, .int h_e, .ref h_digits, .int h_whole])), (h_exact, .inl (cI, 1420, .inl h_exactF)), (h_digits, .inl (cI, 1400, .inl h_digitsF))] sz) := by
  refine Met.ofW (cc := cX12_round) (maxL := 5) (ret := none) (by decide +kernel) rfl ?_
  intro p e s m args below meth c s₁ B hml hv
  obtain ⟨rfl, hsz, hP, hK, hD0⟩ := hv
  have hx := B.exec
  have hb := B.bytes
  have hr := B.returns
  have hts := atoms_spec (ws := pw_X12_round) B.pre
  have hown : s.vm.findClass RX12 = some m.cls := findClass_of_methodNamed B.named
  have hlocks := B.notSynchronized
  subst hsz
  have hD := hD0.self (sz := s.heap.size)
  generalize hAe : va_A [(h, .inr (9, [.int h_code, .int h_taped, .ref h_tape, .int h_size, .ref h_text, .double h_value, .int h_out, .ref h_output, .int h_illAt, .ref h_format, .int h_sections, .int h_items, .ref h_kind, .ref h_what, .ref h_of, .ref h_relation, .ref h_bound, .int h_reads, .int h_readSections, .ref h_readKind, .ref h_readWhat, .ref h_readOf, .ref h_place, .ref h_readRelation, .ref h_readBound, .int h_stop, .ref h_meant, .ref h_row, .ref h_exact, .ref h_error, .ref h_bestError, .long h_m, .int h_e, .ref h_digits, .int h_whole])), (h_exact, .inl (cI, 1420, .inl h_exactF)), (h_digits, .inl (cI, 1400, .inl h_digitsF))] s.heap.size = A at hD ⊢
  have hA : ∀ q : Nat, s.heap.size ≤ q → A q := fun q h => by rw [← hAe]; exact Or.inr h
  have hS : va_S A s.heap s.heap [] := va_S.rf
  have hw : ∀ (k : Nat) (w : Cond), ow_X12_round[k]? = some w → w.before _ s = true := fun k w h => hts w (List.mem_cons_of_mem _ (have h9 := List.mem_of_getElem? h; List.mem_append_left _ h9))
  have i_X12_findWhole : ∀ w ∈ pw_X12_findWhole, w ∈ pw_X12_round := fun w h9 => List.mem_cons_of_mem _ (List.mem_append_right _ (List.mem_append_left _ h9))
  have iX12 : ∀ w ∈ u_ws RX12 TX12 35, w ∈ pw_X12_round := fun w h9 => List.mem_cons_of_mem _ (List.mem_append_right _ (List.mem_append_right _ (h9)))
  have n_m1 : (((-1) : Int32)).toInt = (-1) := by decide
  have n_0 : ((0 : Int32)).toInt = 0 := by decide
  have n_1 : ((1 : Int32)).toInt = 1 := by decide
  have n_1000 : ((1000 : Int32)).toInt = 1000 := by decide
  have n_1400 : ((1400 : Int32)).toInt = 1400 := by decide
  have n_1420 : ((1420 : Int32)).toInt = 1420 := by decide
  have n_319 : ((319 : Int32)).toInt = 319 := by decide
  have n_4 : ((4 : Int32)).toInt = 4 := by decide
  have n_9 : ((9 : Int32)).toInt = 9 := by decide
  have hl := lv_entry ([.ref h, .int p1, .int p2]) (n := 5) (Nat.le_of_ble_eq_true rfl)
  rw [lg_entry_eq]
  generalize (lg_sl ([.ref h, .int p1, .int p2]) ++ List.replicate (5 - (lg_sl ([.ref h, .int p1, .int p2])).length) Slot.unset).toArray = ls at hl ⊢
  have hl : lv_has ls 5 [(0, .ref h), (1, .int p1), (2, .int p2)] := hl
  have b_p1 := ti_b p1
  have b_p2 := ti_b p2
  refine zz_cap (fun Z hZ1 hZ2 => ?_)
  refine lv_iconst (v := 0) hx hb dX12_round_0 (by decide) ?_
  refine lv_istore_n (lv' := [(3, .int 0), (0, .ref h), (1, .int p1), (2, .int p2)]) hx hb dX12_round_1 rfl hl (by decide) rfl (fun ls hl => ?_)
  have L_2 : ∀ (N : Nat) (x_1 : Int32) (f_2 : Nat → Int32) (H : Heap) (locs : List Loc) (ls : Array Slot), (RD0 f_2 x_1) → (0 ≤ (x_1 : Int32).toInt) → ((2147483647 - (x_1 : Int32).toInt).toNat < N) → va_P D vwCl [(h, .inr (9, [.int h_code, .int h_taped, .ref h_tape, .int h_size, .ref h_text, .double h_value, .int h_out, .ref h_output, .int h_illAt, .ref h_format, .int h_sections, .int h_items, .ref h_kind, .ref h_what, .ref h_of, .ref h_relation, .ref h_bound, .int h_reads, .int h_readSections, .ref h_readKind, .ref h_readWhat, .ref h_readOf, .ref h_place, .ref h_readRelation, .ref h_readBound, .int h_stop, .ref h_meant, .ref h_row, .ref h_exact, .ref h_error, .ref h_bestError, .long h_m, .int h_e, .ref h_digits, .int h_whole])), (h_exact, .inl (cI, 1420, .inl h_exactF)), (h_digits, .inl (cI, 1400, .inl f_2))] H → va_D A [(h, .inr (9, [.int h_code, .int h_taped, .ref h_tape, .int h_size, .ref h_text, .double h_value, .int h_out, .ref h_output, .int h_illAt, .ref h_format, .int h_sections, .int h_items, .ref h_kind, .ref h_what, .ref h_of, .ref h_relation, .ref h_bound, .int h_reads, .int h_readSections, .ref h_readKind, .ref h_readWhat, .ref h_readOf, .ref h_place, .ref h_readRelation, .ref h_readBound, .int h_stop, .ref h_meant, .ref h_row, .ref h_exact, .ref h_error, .ref h_bestError, .long h_m, .int h_e, .ref h_digits, .int h_whole])), (h_exact, .inl (cI, 1420, .inl h_exactF)), (h_digits, .inl (cI, 1400, .inl f_2))] → va_S A s.heap H locs → lv_has ls 5 [(3, .int x_1), (0, .ref h), (1, .int p1), (2, .int p2)] → Z 0 0 H locs (F0 m 2 ls []) := by
    intro N
    induction N with
    | zero => intro _ _ _ _ _ _ _ hmu; exact absurd hmu (Nat.not_lt_zero _)
    | succ N ih_2 =>
      intro x_1 f_2 H locs ls g2_0 g2_1 hmu hP hD hS hl
      refine hZ2 ?_
      refine lv_iload_n hx hb dX12_round_2 rfl (lv_at hl 0 rfl) ?_
      refine lv_sipush (v := 1400) hx hb dX12_round_3 (by decide) ?_
      refine lv_icmp_ge (tgt := 22) hx hb dX12_round_6 (by decide) (fun c_3 => ?_) (fun c_3 => ?_)
      · have ic_3 : (1400 : Int32).toInt ≤ (x_1 : Int32).toInt := (fa_le 1400 x_1).mp c_3
        refine lv_iconst (v := 0) hx hb dX12_round_22 (by decide) ?_
        refine lv_istore_n (lv' := [(3, .int 0), (0, .ref h), (1, .int p1), (2, .int p2)]) hx hb dX12_round_23 rfl hl (by decide) rfl (fun ls hl => ?_)
        have L_24 : ∀ (N : Nat) (x_4 : Int32) (f_5 : Nat → Int32) (H : Heap) (locs : List Loc) (ls : Array Slot), (RDz f_5) → (0 ≤ (x_4 : Int32).toInt) → ((2147483647 - (x_4 : Int32).toInt).toNat < N) → va_P D vwCl [(h, .inr (9, [.int h_code, .int h_taped, .ref h_tape, .int h_size, .ref h_text, .double h_value, .int h_out, .ref h_output, .int h_illAt, .ref h_format, .int h_sections, .int h_items, .ref h_kind, .ref h_what, .ref h_of, .ref h_relation, .ref h_bound, .int h_reads, .int h_readSections, .ref h_readKind, .ref h_readWhat, .ref h_readOf, .ref h_place, .ref h_readRelation, .ref h_readBound, .int h_stop, .ref h_meant, .ref h_row, .ref h_exact, .ref h_error, .ref h_bestError, .long h_m, .int h_e, .ref h_digits, .int h_whole])), (h_exact, .inl (cI, 1420, .inl h_exactF)), (h_digits, .inl (cI, 1400, .inl f_5))] H → va_D A [(h, .inr (9, [.int h_code, .int h_taped, .ref h_tape, .int h_size, .ref h_text, .double h_value, .int h_out, .ref h_output, .int h_illAt, .ref h_format, .int h_sections, .int h_items, .ref h_kind, .ref h_what, .ref h_of, .ref h_relation, .ref h_bound, .int h_reads, .int h_readSections, .ref h_readKind, .ref h_readWhat, .ref h_readOf, .ref h_place, .ref h_readRelation, .ref h_readBound, .int h_stop, .ref h_meant, .ref h_row, .ref h_exact, .ref h_error, .ref h_bestError, .long h_m, .int h_e, .ref h_digits, .int h_whole])), (h_exact, .inl (cI, 1420, .inl h_exactF)), (h_digits, .inl (cI, 1400, .inl f_5))] → va_S A s.heap H locs → lv_has ls 5 [(3, .int x_4), (0, .ref h), (1, .int p1), (2, .int p2)] → Z 0 0 H locs (F0 m 24 ls []) := by
          intro N
          induction N with
          | zero => intro _ _ _ _ _ _ _ hmu; exact absurd hmu (Nat.not_lt_zero _)
          | succ N ih_24 =>
            intro x_4 f_5 H locs ls g24_0 g24_1 hmu hP hD hS hl
            refine hZ2 ?_
            refine lv_iload_n hx hb dX12_round_24 rfl (lv_at hl 0 rfl) ?_
            refine lv_sipush (v := 1420) hx hb dX12_round_25 (by decide) ?_
            refine lv_icmp_ge (tgt := 89) hx hb dX12_round_28 (by decide) (fun c_6 => ?_) (fun c_6 => ?_)
            · have ic_6 : (1420 : Int32).toInt ≤ (x_4 : Int32).toInt := (fa_le 1420 x_4).mp c_6
              refine lv_sipush (v := 1000) hx hb dX12_round_89 (by decide) ?_
              refine lv_iload_n hx hb dX12_round_92 rfl (lv_at hl 3 rfl) ?_
              refine lv_iadd hx hb dX12_round_93 ?_
              refine lv_topi (fun x_7 ex_7 => ?_)
              have b_p2 := ti_b p2
              have tx_7 := ti_add ex_7
              refine lv_istore_n (lv' := [(3, .int x_7), (0, .ref h), (1, .int p1), (2, .int p2)]) hx hb dX12_round_94 rfl hl (by decide) rfl (fun ls hl => ?_)
              refine lv_aload_n hx hb dX12_round_95 rfl (lv_at hl 1 rfl) ?_
              refine va_get (D := D) (ci := 9) (v := .ref h_digits) (C := RX12) (T := TX12) (N := 35) hx hb hts iX12 hown hK hP 0 rfl rfl 33 (by decide) (hw 0 (.fieldLink RX12 75 "NumberFormatsModel" "digits" "[I") rfl) (fun _ h9 => h9) rfl dX12_round_96 ?_
              refine lv_iload_n hx hb dX12_round_99 rfl (lv_at hl 0 rfl) ?_
              refine lv_iconst (v := 1) hx hb dX12_round_100 (by decide) ?_
              refine lv_iadd hx hb dX12_round_101 ?_
              refine lv_topi (fun x_8 ex_8 => ?_)
              have tx_8 := ti_add ex_8
              have h_102 : vp_in x_8 1400 := by rw [vp_in_iff]; omega
              refine va_iald hx hb hK hP 2 0 rfl rfl h_102 dX12_round_102 ?_
              refine lv_topi (fun x_9 ex_9 => ?_)
              refine lv_iconst (v := 4) hx hb dX12_round_103 (by decide) ?_
              have K_112 : ∀ (z_10 : Int32) (H : Heap) (locs : List Loc) (ls : Array Slot), ((z_10 : Int32).toInt = 0 ∨ (z_10 : Int32).toInt = 1) → va_P D vwCl [(h, .inr (9, [.int h_code, .int h_taped, .ref h_tape, .int h_size, .ref h_text, .double h_value, .int h_out, .ref h_output, .int h_illAt, .ref h_format, .int h_sections, .int h_items, .ref h_kind, .ref h_what, .ref h_of, .ref h_relation, .ref h_bound, .int h_reads, .int h_readSections, .ref h_readKind, .ref h_readWhat, .ref h_readOf, .ref h_place, .ref h_readRelation, .ref h_readBound, .int h_stop, .ref h_meant, .ref h_row, .ref h_exact, .ref h_error, .ref h_bestError, .long h_m, .int h_e, .ref h_digits, .int h_whole])), (h_exact, .inl (cI, 1420, .inl h_exactF)), (h_digits, .inl (cI, 1400, .inl f_5))] H → va_D A [(h, .inr (9, [.int h_code, .int h_taped, .ref h_tape, .int h_size, .ref h_text, .double h_value, .int h_out, .ref h_output, .int h_illAt, .ref h_format, .int h_sections, .int h_items, .ref h_kind, .ref h_what, .ref h_of, .ref h_relation, .ref h_bound, .int h_reads, .int h_readSections, .ref h_readKind, .ref h_readWhat, .ref h_readOf, .ref h_place, .ref h_readRelation, .ref h_readBound, .int h_stop, .ref h_meant, .ref h_row, .ref h_exact, .ref h_error, .ref h_bestError, .long h_m, .int h_e, .ref h_digits, .int h_whole])), (h_exact, .inl (cI, 1420, .inl h_exactF)), (h_digits, .inl (cI, 1400, .inl f_5))] → va_S A s.heap H locs → lv_has ls 5 [(3, .int x_7), (0, .ref h)] → Z 0 0 H locs (F0 m 112 ls [.int z_10]) := by
                intro z_10 H locs ls g112_0 hP hD hS hl
                refine hZ2 ?_
                refine lv_istore (lv' := [(4, .int z_10), (3, .int x_7), (0, .ref h)]) hx hb dX12_round_112 hl (by decide) rfl (fun ls hl => ?_)
                refine lv_aload_n hx hb dX12_round_114 rfl (lv_at hl 2 rfl) ?_
                refine va_get (D := D) (ci := 9) (v := .ref h_digits) (C := RX12) (T := TX12) (N := 35) hx hb hts iX12 hown hK hP 0 rfl rfl 33 (by decide) (hw 0 (.fieldLink RX12 75 "NumberFormatsModel" "digits" "[I") rfl) (fun _ h9 => h9) rfl dX12_round_115 ?_
                refine lv_iload_n hx hb dX12_round_118 rfl (lv_at hl 1 rfl) ?_
                refine lv_iconst (v := 1) hx hb dX12_round_119 (by decide) ?_
                refine lv_iadd hx hb dX12_round_120 ?_
                refine lv_topi (fun x_11 ex_11 => ?_)
                have tx_11 := ti_add ex_11
                refine lv_iconst (v := 0) hx hb dX12_round_121 (by decide) ?_
                have h_122 : vp_in x_11 1400 := by rw [vp_in_iff]; omega
                refine va_iast hx hb hK hP hD hS 2 0 rfl rfl h_122 dX12_round_122 (fun H locs hP hD hS => ?_)
                obtain ⟨f_12, ef_12⟩ : ∃ y : Nat → Int32, y = upd f_5 (x_11 : Int32).toNatClampNeg 0 := ⟨_, rfl⟩
                rw [← ef_12] at hP hD
                have hP : va_P D vwCl [(h, .inr (9, [.int h_code, .int h_taped, .ref h_tape, .int h_size, .ref h_text, .double h_value, .int h_out, .ref h_output, .int h_illAt, .ref h_format, .int h_sections, .int h_items, .ref h_kind, .ref h_what, .ref h_of, .ref h_relation, .ref h_bound, .int h_reads, .int h_readSections, .ref h_readKind, .ref h_readWhat, .ref h_readOf, .ref h_place, .ref h_readRelation, .ref h_readBound, .int h_stop, .ref h_meant, .ref h_row, .ref h_exact, .ref h_error, .ref h_bestError, .long h_m, .int h_e, .ref h_digits, .int h_whole])), (h_exact, .inl (cI, 1420, .inl h_exactF)), (h_digits, .inl (cI, 1400, .inl f_12))] H := hP
                have hD : va_D A [(h, .inr (9, [.int h_code, .int h_taped, .ref h_tape, .int h_size, .ref h_text, .double h_value, .int h_out, .ref h_output, .int h_illAt, .ref h_format, .int h_sections, .int h_items, .ref h_kind, .ref h_what, .ref h_of, .ref h_relation, .ref h_bound, .int h_reads, .int h_readSections, .ref h_readKind, .ref h_readWhat, .ref h_readOf, .ref h_place, .ref h_readRelation, .ref h_readBound, .int h_stop, .ref h_meant, .ref h_row, .ref h_exact, .ref h_error, .ref h_bestError, .long h_m, .int h_e, .ref h_digits, .int h_whole])), (h_exact, .inl (cI, 1420, .inl h_exactF)), (h_digits, .inl (cI, 1400, .inl f_12))] := hD
                have L_123 : ∀ (N : Nat) (x_13 : Int32) (f_14 : Nat → Int32) (H : Heap) (locs : List Loc) (ls : Array Slot), (RDz f_14) → (99 ≤ (x_13 : Int32).toInt) → ((x_13 : Int32).toInt ≤ 1300) → (((x_13 : Int32).toInt + 2147483648).toNat < N) → va_P D vwCl [(h, .inr (9, [.int h_code, .int h_taped, .ref h_tape, .int h_size, .ref h_text, .double h_value, .int h_out, .ref h_output, .int h_illAt, .ref h_format, .int h_sections, .int h_items, .ref h_kind, .ref h_what, .ref h_of, .ref h_relation, .ref h_bound, .int h_reads, .int h_readSections, .ref h_readKind, .ref h_readWhat, .ref h_readOf, .ref h_place, .ref h_readRelation, .ref h_readBound, .int h_stop, .ref h_meant, .ref h_row, .ref h_exact, .ref h_error, .ref h_bestError, .long h_m, .int h_e, .ref h_digits, .int h_whole])), (h_exact, .inl (cI, 1420, .inl h_exactF)), (h_digits, .inl (cI, 1400, .inl f_14))] H → va_D A [(h, .inr (9, [.int h_code, .int h_taped, .ref h_tape, .int h_size, .ref h_text, .double h_value, .int h_out, .ref h_output, .int h_illAt, .ref h_format, .int h_sections, .int h_items, .ref h_kind, .ref h_what, .ref h_of, .ref h_relation, .ref h_bound, .int h_reads, .int h_readSections, .ref h_readKind, .ref h_readWhat, .ref h_readOf, .ref h_place, .ref h_readRelation, .ref h_readBound, .int h_stop, .ref h_meant, .ref h_row, .ref h_exact, .ref h_error, .ref h_bestError, .long h_m, .int h_e, .ref h_digits, .int h_whole])), (h_exact, .inl (cI, 1420, .inl h_exactF)), (h_digits, .inl (cI, 1400, .inl f_14))] → va_S A s.heap H locs → lv_has ls 5 [(4, .int z_10), (3, .int x_13), (0, .ref h)] → Z 0 0 H locs (F0 m 123 ls []) := by
                  intro N
                  induction N with
                  | zero => intro _ _ _ _ _ _ _ _ hmu; exact absurd hmu (Nat.not_lt_zero _)
                  | succ N ih_123 =>
                    intro x_13 f_14 H locs ls g123_0 g123_1 g123_2 hmu hP hD hS hl
                    refine hZ2 ?_
                    refine lv_iload hx hb dX12_round_123 (lv_at hl 0 rfl) ?_
                    have K_152 : ∀ (H : Heap) (locs : List Loc) (ls : Array Slot), va_P D vwCl [(h, .inr (9, [.int h_code, .int h_taped, .ref h_tape, .int h_size, .ref h_text, .double h_value, .int h_out, .ref h_output, .int h_illAt, .ref h_format, .int h_sections, .int h_items, .ref h_kind, .ref h_what, .ref h_of, .ref h_relation, .ref h_bound, .int h_reads, .int h_readSections, .ref h_readKind, .ref h_readWhat, .ref h_readOf, .ref h_place, .ref h_readRelation, .ref h_readBound, .int h_stop, .ref h_meant, .ref h_row, .ref h_exact, .ref h_error, .ref h_bestError, .long h_m, .int h_e, .ref h_digits, .int h_whole])), (h_exact, .inl (cI, 1420, .inl h_exactF)), (h_digits, .inl (cI, 1400, .inl f_14))] H → va_D A [(h, .inr (9, [.int h_code, .int h_taped, .ref h_tape, .int h_size, .ref h_text, .double h_value, .int h_out, .ref h_output, .int h_illAt, .ref h_format, .int h_sections, .int h_items, .ref h_kind, .ref h_what, .ref h_of, .ref h_relation, .ref h_bound, .int h_reads, .int h_readSections, .ref h_readKind, .ref h_readWhat, .ref h_readOf, .ref h_place, .ref h_readRelation, .ref h_readBound, .int h_stop, .ref h_meant, .ref h_row, .ref h_exact, .ref h_error, .ref h_bestError, .long h_m, .int h_e, .ref h_digits, .int h_whole])), (h_exact, .inl (cI, 1420, .inl h_exactF)), (h_digits, .inl (cI, 1400, .inl f_14))] → va_S A s.heap H locs → lv_has ls 5 [(4, .int z_10), (3, .int x_13), (0, .ref h)] → Z 0 0 H locs (F0 m 152 ls []) := by
                      intro  H locs ls  hP hD hS hl
                      refine hZ2 ?_
                      refine lv_aload_n hx hb dX12_round_152 rfl (lv_at hl 2 rfl) ?_
                      refine va_get (D := D) (ci := 9) (v := .ref h_digits) (C := RX12) (T := TX12) (N := 35) hx hb hts iX12 hown hK hP 0 rfl rfl 33 (by decide) (hw 0 (.fieldLink RX12 75 "NumberFormatsModel" "digits" "[I") rfl) (fun _ h9 => h9) rfl dX12_round_153 ?_
                      refine lv_iload_n hx hb dX12_round_156 rfl (lv_at hl 1 rfl) ?_
                      refine lv_dup2_11 hx hb dX12_round_157 rfl rfl ?_
                      have h_158 : vp_in x_13 1400 := by rw [vp_in_iff]; omega
                      refine va_iald hx hb hK hP 2 0 rfl rfl h_158 dX12_round_158 ?_
                      refine lv_topi (fun x_15 ex_15 => ?_)
                      refine lv_iload hx hb dX12_round_159 (lv_at hl 0 rfl) ?_
                      have K_169 : ∀ (z_16 : Int32) (H : Heap) (locs : List Loc) (ls : Array Slot), ((z_16 : Int32).toInt = 0 ∨ (z_16 : Int32).toInt = 1) → va_P D vwCl [(h, .inr (9, [.int h_code, .int h_taped, .ref h_tape, .int h_size, .ref h_text, .double h_value, .int h_out, .ref h_output, .int h_illAt, .ref h_format, .int h_sections, .int h_items, .ref h_kind, .ref h_what, .ref h_of, .ref h_relation, .ref h_bound, .int h_reads, .int h_readSections, .ref h_readKind, .ref h_readWhat, .ref h_readOf, .ref h_place, .ref h_readRelation, .ref h_readBound, .int h_stop, .ref h_meant, .ref h_row, .ref h_exact, .ref h_error, .ref h_bestError, .long h_m, .int h_e, .ref h_digits, .int h_whole])), (h_exact, .inl (cI, 1420, .inl h_exactF)), (h_digits, .inl (cI, 1400, .inl f_14))] H → va_D A [(h, .inr (9, [.int h_code, .int h_taped, .ref h_tape, .int h_size, .ref h_text, .double h_value, .int h_out, .ref h_output, .int h_illAt, .ref h_format, .int h_sections, .int h_items, .ref h_kind, .ref h_what, .ref h_of, .ref h_relation, .ref h_bound, .int h_reads, .int h_readSections, .ref h_readKind, .ref h_readWhat, .ref h_readOf, .ref h_place, .ref h_readRelation, .ref h_readBound, .int h_stop, .ref h_meant, .ref h_row, .ref h_exact, .ref h_error, .ref h_bestError, .long h_m, .int h_e, .ref h_digits, .int h_whole])), (h_exact, .inl (cI, 1420, .inl h_exactF)), (h_digits, .inl (cI, 1400, .inl f_14))] → va_S A s.heap H locs → lv_has ls 5 [(0, .ref h)] → Z 0 0 H locs (F0 m 169 ls [.int z_16, .int x_15, .int x_13, .ref h_digits]) := by
                        intro z_16 H locs ls g169_0 hP hD hS hl
                        refine hZ2 ?_
                        refine lv_iadd hx hb dX12_round_169 ?_
                        refine lv_topi (fun x_17 ex_17 => ?_)
                        have b_x_15 := ti_b x_15
                        have b_z_16 := ti_b z_16
                        have tx_17 := ti_add ex_17
                        have h_170 : vp_in x_13 1400 := by rw [vp_in_iff]; omega
                        refine va_iast hx hb hK hP hD hS 2 0 rfl rfl h_170 dX12_round_170 (fun H locs hP hD hS => ?_)
                        obtain ⟨f_18, ef_18⟩ : ∃ y : Nat → Int32, y = upd f_14 (x_13 : Int32).toNatClampNeg x_17 := ⟨_, rfl⟩
                        rw [← ef_18] at hP hD
                        have hP : va_P D vwCl [(h, .inr (9, [.int h_code, .int h_taped, .ref h_tape, .int h_size, .ref h_text, .double h_value, .int h_out, .ref h_output, .int h_illAt, .ref h_format, .int h_sections, .int h_items, .ref h_kind, .ref h_what, .ref h_of, .ref h_relation, .ref h_bound, .int h_reads, .int h_readSections, .ref h_readKind, .ref h_readWhat, .ref h_readOf, .ref h_place, .ref h_readRelation, .ref h_readBound, .int h_stop, .ref h_meant, .ref h_row, .ref h_exact, .ref h_error, .ref h_bestError, .long h_m, .int h_e, .ref h_digits, .int h_whole])), (h_exact, .inl (cI, 1420, .inl h_exactF)), (h_digits, .inl (cI, 1400, .inl f_18))] H := hP
                        have hD : va_D A [(h, .inr (9, [.int h_code, .int h_taped, .ref h_tape, .int h_size, .ref h_text, .double h_value, .int h_out, .ref h_output, .int h_illAt, .ref h_format, .int h_sections, .int h_items, .ref h_kind, .ref h_what, .ref h_of, .ref h_relation, .ref h_bound, .int h_reads, .int h_readSections, .ref h_readKind, .ref h_readWhat, .ref h_readOf, .ref h_place, .ref h_readRelation, .ref h_readBound, .int h_stop, .ref h_meant, .ref h_row, .ref h_exact, .ref h_error, .ref h_bestError, .long h_m, .int h_e, .ref h_digits, .int h_whole])), (h_exact, .inl (cI, 1420, .inl h_exactF)), (h_digits, .inl (cI, 1400, .inl f_18))] := hD
                        refine lv_aload_n hx hb dX12_round_171 rfl (lv_at hl 0 rfl) ?_
                        have hPc := hP.sub (ws' := [(h, .inr (9, [.int h_code, .int h_taped, .ref h_tape, .int h_size, .ref h_text, .double h_value, .int h_out, .ref h_output, .int h_illAt, .ref h_format, .int h_sections, .int h_items, .ref h_kind, .ref h_what, .ref h_of, .ref h_relation, .ref h_bound, .int h_reads, .int h_readSections, .ref h_readKind, .ref h_readWhat, .ref h_readOf, .ref h_place, .ref h_readRelation, .ref h_readBound, .int h_stop, .ref h_meant, .ref h_row, .ref h_exact, .ref h_error, .ref h_bestError, .long h_m, .int h_e, .ref h_digits, .int h_whole])), (h_digits, .inl (cI, 1400, .inl f_18))]) [0, 2] rfl
                        have hDc := hD.sub (ws' := [(h, .inr (9, [.int h_code, .int h_taped, .ref h_tape, .int h_size, .ref h_text, .double h_value, .int h_out, .ref h_output, .int h_illAt, .ref h_format, .int h_sections, .int h_items, .ref h_kind, .ref h_what, .ref h_of, .ref h_relation, .ref h_bound, .int h_reads, .int h_readSections, .ref h_readKind, .ref h_readWhat, .ref h_readOf, .ref h_place, .ref h_readRelation, .ref h_readBound, .int h_stop, .ref h_meant, .ref h_row, .ref h_exact, .ref h_error, .ref h_bestError, .long h_m, .int h_e, .ref h_digits, .int h_whole])), (h_digits, .inl (cI, 1400, .inl f_18))]) [0, 2] (by decide) rfl
                        have hFc := va_free (wc := [(h, .inr (9, [.int h_code, .int h_taped, .ref h_tape, .int h_size, .ref h_text, .double h_value, .int h_out, .ref h_output, .int h_illAt, .ref h_format, .int h_sections, .int h_items, .ref h_kind, .ref h_what, .ref h_of, .ref h_relation, .ref h_bound, .int h_reads, .int h_readSections, .ref h_readKind, .ref h_readWhat, .ref h_readOf, .ref h_place, .ref h_readRelation, .ref h_readBound, .int h_stop, .ref h_meant, .ref h_row, .ref h_exact, .ref h_error, .ref h_bestError, .long h_m, .int h_e, .ref h_digits, .int h_whole])), (h_digits, .inl (cI, 1400, .inl f_18))]) hD hS hA [0, 2] rfl
                        refine va_callv (va_runV (As := []) (rest := []) ⟨hx, hb, hml, hown, hts⟩ (c_X12_findWhole l D cI cD cJ H.size h h_code h_taped h_tape h_size h_text h_value h_out h_output h_illAt h_format h_sections h_items h_kind h_what h_of h_relation h_bound h_reads h_readSections h_readKind h_readWhat h_readOf h_place h_readRelation h_readBound h_stop h_meant h_row h_exact h_error h_bestError h_m h_e h_digits h_whole f_18 (by omega) (by omega) (by assumption) (by omega) (by omega) (by omega) (by omega) (by omega) (by omega)) (cwV 0 hts (goodIn_app (goodIn_r _ [2, 3, 4, 5] rfl (by decide +kernel)) (goodIn_sub i_X12_findWhole k_X12_findWhole)) rfl rfl rfl (by decide +kernel) ⟨Nat.le_of_ble_eq_true rfl, Nat.le_of_ble_eq_true rfl⟩) ⟨fun a U g mk q => by obtain ⟨q0, q1, qP, qK, qD⟩ := q; exact ⟨q0, q1, qP, va_K.moved (u := U) (U := U.calling g mk a) (Vm.Alike.refl U.vm) qK, qD⟩, va_recv hK hPc (ci := 9) (q0 := 0) rfl rfl, fun U hU hW => ⟨rfl, by rw [hU], by rw [hU]; exact hPc, va_K.moved hW.alike hK, hDc.weaken (fun _ _ _ _ => trivial)⟩⟩ rfl rfl hl.1 rfl (lv_room (Nat.le_of_ble_eq_true rfl)) dX12_round_172 ⟨Nat.le_of_ble_eq_true rfl, Nat.le_of_ble_eq_true rfl⟩) hS (fun q _ h => hFc q h) hFc (fun u t H1 locs ht hvm w_19 hB hz1 hk1 hS => ?_)
                        generalize u = u_20 at w_19 hB
                        obtain ⟨hP1, hK1, hD1⟩ := hB
                        rw [ht] at hP1
                        try dsimp only at w_19
                        obtain ⟨hP, hD⟩ := va_join (wr := [(h_exact, .inl (cI, 1420, .inl h_exactF))]) (w1 := [(h, .inr (9, [.int h_code, .int h_taped, .ref h_tape, .int h_size, .ref h_text, .double h_value, .int h_out, .ref h_output, .int h_illAt, .ref h_format, .int h_sections, .int h_items, .ref h_kind, .ref h_what, .ref h_of, .ref h_relation, .ref h_bound, .int h_reads, .int h_readSections, .ref h_readKind, .ref h_readWhat, .ref h_readOf, .ref h_place, .ref h_readRelation, .ref h_readBound, .int h_stop, .ref h_meant, .ref h_row, .ref h_exact, .ref h_error, .ref h_bestError, .long h_m, .int h_e, .ref h_digits, .int u_20])), (h_digits, .inl (cI, 1400, .inl f_18))]) hP hD [0, 2] [1] rfl rfl (by decide) (by decide) hk1 hFc hP1 hD1
                        generalize H1 = H at hP hS ⊢
                        have hP : va_P D vwCl [(h_exact, .inl (cI, 1420, .inl h_exactF)), (h, .inr (9, [.int h_code, .int h_taped, .ref h_tape, .int h_size, .ref h_text, .double h_value, .int h_out, .ref h_output, .int h_illAt, .ref h_format, .int h_sections, .int h_items, .ref h_kind, .ref h_what, .ref h_of, .ref h_relation, .ref h_bound, .int h_reads, .int h_readSections, .ref h_readKind, .ref h_readWhat, .ref h_readOf, .ref h_place, .ref h_readRelation, .ref h_readBound, .int h_stop, .ref h_meant, .ref h_row, .ref h_exact, .ref h_error, .ref h_bestError, .long h_m, .int h_e, .ref h_digits, .int u_20])), (h_digits, .inl (cI, 1400, .inl f_18))] H := hP
                        have hD : va_D A [(h_exact, .inl (cI, 1420, .inl h_exactF)), (h, .inr (9, [.int h_code, .int h_taped, .ref h_tape, .int h_size, .ref h_text, .double h_value, .int h_out, .ref h_output, .int h_illAt, .ref h_format, .int h_sections, .int h_items, .ref h_kind, .ref h_what, .ref h_of, .ref h_relation, .ref h_bound, .int h_reads, .int h_readSections, .ref h_readKind, .ref h_readWhat, .ref h_readOf, .ref h_place, .ref h_readRelation, .ref h_readBound, .int h_stop, .ref h_meant, .ref h_row, .ref h_exact, .ref h_error, .ref h_bestError, .long h_m, .int h_e, .ref h_digits, .int u_20])), (h_digits, .inl (cI, 1400, .inl f_18))] := hD
                        have hP9 := hP.sub (ws' := [(h, .inr (9, [.int h_code, .int h_taped, .ref h_tape, .int h_size, .ref h_text, .double h_value, .int h_out, .ref h_output, .int h_illAt, .ref h_format, .int h_sections, .int h_items, .ref h_kind, .ref h_what, .ref h_of, .ref h_relation, .ref h_bound, .int h_reads, .int h_readSections, .ref h_readKind, .ref h_readWhat, .ref h_readOf, .ref h_place, .ref h_readRelation, .ref h_readBound, .int h_stop, .ref h_meant, .ref h_row, .ref h_exact, .ref h_error, .ref h_bestError, .long h_m, .int h_e, .ref h_digits, .int u_20])), (h_exact, .inl (cI, 1420, .inl h_exactF)), (h_digits, .inl (cI, 1400, .inl f_18))]) [1, 0, 2] rfl
                        have hD9 := hD.sub (ws' := [(h, .inr (9, [.int h_code, .int h_taped, .ref h_tape, .int h_size, .ref h_text, .double h_value, .int h_out, .ref h_output, .int h_illAt, .ref h_format, .int h_sections, .int h_items, .ref h_kind, .ref h_what, .ref h_of, .ref h_relation, .ref h_bound, .int h_reads, .int h_readSections, .ref h_readKind, .ref h_readWhat, .ref h_readOf, .ref h_place, .ref h_readRelation, .ref h_readBound, .int h_stop, .ref h_meant, .ref h_row, .ref h_exact, .ref h_error, .ref h_bestError, .long h_m, .int h_e, .ref h_digits, .int u_20])), (h_exact, .inl (cI, 1420, .inl h_exactF)), (h_digits, .inl (cI, 1400, .inl f_18))]) [1, 0, 2] (by decide) rfl
                        exact W.vret hx hb hr (fun t ht hW => ⟨⟨(u_20, f_18), rfl, (by (try dsimp only); first | omega | assumption), by rw [ht]; exact hP9, va_K.moved hW.alike hK, hD9⟩, hS.F ht⟩) hS.2.2 dX12_round_175
                      refine lv_if_eq (tgt := 168) hx hb dX12_round_161 (by decide) (fun c_21 => ?_) (fun c_21 => ?_)
                      · have ic_21 : (z_10 : Int32).toInt = (0 : Int32).toInt := (fa_eq z_10 0).mp c_21
                        refine lv_iconst (v := 0) hx hb dX12_round_168 (by decide) ?_
                        exact hZ1 (K_169 0 _ _ _ (by omega) hP hD hS (lv_sub hl [2] rfl))
                      · have ic_21 : ¬ ((z_10 : Int32).toInt = (0 : Int32).toInt) := fun h9 => c_21 ((fa_eq z_10 0).mpr h9)
                        refine lv_iconst (v := 1) hx hb dX12_round_164 (by decide) ?_
                        refine lv_goto (tgt := 169) hx hb dX12_round_165 (by decide) ?_
                        exact hZ1 (K_169 1 _ _ _ (by omega) hP hD hS (lv_sub hl [2] rfl))
                    refine lv_if_eq (tgt := 152) hx hb dX12_round_125 (by decide) (fun c_22 => ?_) (fun c_22 => ?_)
                    · have ic_22 : (z_10 : Int32).toInt = (0 : Int32).toInt := (fa_eq z_10 0).mp c_22
                      exact hZ1 (K_152  _ _ _ hP hD hS hl)
                    · have ic_22 : ¬ ((z_10 : Int32).toInt = (0 : Int32).toInt) := fun h9 => c_22 ((fa_eq z_10 0).mpr h9)
                      refine lv_aload_n hx hb dX12_round_128 rfl (lv_at hl 2 rfl) ?_
                      refine va_get (D := D) (ci := 9) (v := .ref h_digits) (C := RX12) (T := TX12) (N := 35) hx hb hts iX12 hown hK hP 0 rfl rfl 33 (by decide) (hw 0 (.fieldLink RX12 75 "NumberFormatsModel" "digits" "[I") rfl) (fun _ h9 => h9) rfl dX12_round_129 ?_
                      refine lv_iload_n hx hb dX12_round_132 rfl (lv_at hl 1 rfl) ?_
                      have h_133 : vp_in x_13 1400 := by rw [vp_in_iff]; omega
                      refine va_iald hx hb hK hP 2 0 rfl rfl h_133 dX12_round_133 ?_
                      refine lv_topi (fun x_23 ex_23 => ?_)
                      refine lv_bipush (v := 9) hx hb dX12_round_134 (by decide) ?_
                      refine lv_icmp_ne (tgt := 152) hx hb dX12_round_136 (by decide) (fun c_24 => ?_) (fun c_24 => ?_)
                      · have ic_24 : ¬ ((x_23 : Int32).toInt = (9 : Int32).toInt) := fun h9 => c_24 ((fa_eq x_23 9).mpr h9)
                        exact hZ1 (K_152  _ _ _ hP hD hS hl)
                      · have ic_24 : (x_23 : Int32).toInt = (9 : Int32).toInt := (fa_eq x_23 9).mp c_24
                        have hq8 := RDz_ne g123_0 (by omega) ex_23 (by omega)
                        refine lv_aload_n hx hb dX12_round_139 rfl (lv_at hl 2 rfl) ?_
                        refine va_get (D := D) (ci := 9) (v := .ref h_digits) (C := RX12) (T := TX12) (N := 35) hx hb hts iX12 hown hK hP 0 rfl rfl 33 (by decide) (hw 0 (.fieldLink RX12 75 "NumberFormatsModel" "digits" "[I") rfl) (fun _ h9 => h9) rfl dX12_round_140 ?_
                        refine lv_iload_n hx hb dX12_round_143 rfl (lv_at hl 1 rfl) ?_
                        refine lv_iconst (v := 0) hx hb dX12_round_144 (by decide) ?_
                        have h_145 : vp_in x_13 1400 := by rw [vp_in_iff]; omega
                        refine va_iast hx hb hK hP hD hS 2 0 rfl rfl h_145 dX12_round_145 (fun H locs hP hD hS => ?_)
                        obtain ⟨f_25, ef_25⟩ : ∃ y : Nat → Int32, y = upd f_14 (x_13 : Int32).toNatClampNeg 0 := ⟨_, rfl⟩
                        rw [← ef_25] at hP hD
                        have hP : va_P D vwCl [(h, .inr (9, [.int h_code, .int h_taped, .ref h_tape, .int h_size, .ref h_text, .double h_value, .int h_out, .ref h_output, .int h_illAt, .ref h_format, .int h_sections, .int h_items, .ref h_kind, .ref h_what, .ref h_of, .ref h_relation, .ref h_bound, .int h_reads, .int h_readSections, .ref h_readKind, .ref h_readWhat, .ref h_readOf, .ref h_place, .ref h_readRelation, .ref h_readBound, .int h_stop, .ref h_meant, .ref h_row, .ref h_exact, .ref h_error, .ref h_bestError, .long h_m, .int h_e, .ref h_digits, .int h_whole])), (h_exact, .inl (cI, 1420, .inl h_exactF)), (h_digits, .inl (cI, 1400, .inl f_25))] H := hP
                        have hD : va_D A [(h, .inr (9, [.int h_code, .int h_taped, .ref h_tape, .int h_size, .ref h_text, .double h_value, .int h_out, .ref h_output, .int h_illAt, .ref h_format, .int h_sections, .int h_items, .ref h_kind, .ref h_what, .ref h_of, .ref h_relation, .ref h_bound, .int h_reads, .int h_readSections, .ref h_readKind, .ref h_readWhat, .ref h_readOf, .ref h_place, .ref h_readRelation, .ref h_readBound, .int h_stop, .ref h_meant, .ref h_row, .ref h_exact, .ref h_error, .ref h_bestError, .long h_m, .int h_e, .ref h_digits, .int h_whole])), (h_exact, .inl (cI, 1420, .inl h_exactF)), (h_digits, .inl (cI, 1400, .inl f_25))] := hD
                        obtain ⟨x_26, ex_26⟩ : ∃ y : Int32, y = x_13 + (-1) := ⟨_, rfl⟩
                        have b_x_13 := ti_b x_13
                        have tx_26 := ti_add ex_26
                        refine lv_iinc (v := x_26) (lv' := [(3, .int x_26), (4, .int z_10), (0, .ref h)]) hx hb dX12_round_146 hl (k := 1) rfl (by rw [ex_26]; rfl) (by decide) rfl (fun ls hl => ?_)
                        refine lv_goto (tgt := 123) hx hb dX12_round_149 (by decide) ?_
                        exact hZ1 (ih_123 x_26 f_25 _ _ _ (RDz_set g123_0 (by omega) ef_25) (by omega) (by omega) (by omega) hP hD hS (lv_sub hl [1, 0, 2] rfl))
                exact hZ1 (L_123 ((((x_7 : Int32).toInt + 2147483648).toNat) + 1) x_7 f_12 _ _ _ (RDz_set g24_0 (by omega) ef_12) (by omega) (by omega) (by omega) hP hD hS hl)
              refine lv_icmp_le (tgt := 111) hx hb dX12_round_104 (by decide) (fun c_27 => ?_) (fun c_27 => ?_)
              · have ic_27 : (x_9 : Int32).toInt ≤ (4 : Int32).toInt := (fa_le x_9 4).mp c_27
                refine lv_iconst (v := 0) hx hb dX12_round_111 (by decide) ?_
                exact hZ1 (K_112 0 _ _ _ (by omega) hP hD hS (lv_sub hl [0, 1] rfl))
              · have ic_27 : ¬ ((x_9 : Int32).toInt ≤ (4 : Int32).toInt) := fun h9 => c_27 ((fa_le x_9 4).mpr h9)
                refine lv_iconst (v := 1) hx hb dX12_round_107 (by decide) ?_
                refine lv_goto (tgt := 112) hx hb dX12_round_108 (by decide) ?_
                exact hZ1 (K_112 1 _ _ _ (by omega) hP hD hS (lv_sub hl [0, 1] rfl))
            · have ic_6 : ¬ ((1420 : Int32).toInt ≤ (x_4 : Int32).toInt) := fun h9 => c_6 ((fa_le 1420 x_4).mpr h9)
              refine lv_sipush (v := 319) hx hb dX12_round_31 (by decide) ?_
              refine lv_iload_n hx hb dX12_round_34 rfl (lv_at hl 0 rfl) ?_
              refine lv_isub hx hb dX12_round_35 ?_
              refine lv_topi (fun x_28 ex_28 => ?_)
              have b_x_4 := ti_b x_4
              have tx_28 := ti_sub ex_28
              refine lv_iload_n hx hb dX12_round_36 rfl (lv_at hl 2 rfl) ?_
              refine lv_iadd hx hb dX12_round_37 ?_
              refine lv_topi (fun x_29 ex_29 => ?_)
              have b_p1 := ti_b p1
              have tx_29 := ti_add ex_29
              refine lv_istore (lv' := [(4, .int x_29), (3, .int x_4), (0, .ref h), (1, .int p1), (2, .int p2)]) hx hb dX12_round_38 hl (by decide) rfl (fun ls hl => ?_)
              refine lv_aload_n hx hb dX12_round_40 rfl (lv_at hl 2 rfl) ?_
              refine va_get (D := D) (ci := 9) (v := .ref h_exact) (C := RX12) (T := TX12) (N := 35) hx hb hts iX12 hown hK hP 0 rfl rfl 28 (by decide) (hw 5 (.fieldLink RX12 66 "NumberFormatsModel" "exact" "[I") rfl) (fun _ h9 => h9) rfl dX12_round_41 ?_
              refine lv_iload_n hx hb dX12_round_44 rfl (lv_at hl 1 rfl) ?_
              have h_45 : vp_in x_4 1420 := by rw [vp_in_iff]; omega
              refine va_iald hx hb hK hP 1 0 rfl rfl h_45 dX12_round_45 ?_
              refine lv_topi (fun x_30 ex_30 => ?_)
              refine lv_if_le (tgt := 83) hx hb dX12_round_46 (by decide) (fun c_31 => ?_) (fun c_31 => ?_)
              · have ic_31 : (x_30 : Int32).toInt ≤ (0 : Int32).toInt := (fa_le x_30 0).mp c_31
                obtain ⟨x_32, ex_32⟩ : ∃ y : Int32, y = x_4 + 1 := ⟨_, rfl⟩
                have b_x_4 := ti_b x_4
                have tx_32 := ti_add ex_32
                refine lv_iinc (v := x_32) (lv' := [(3, .int x_32), (4, .int x_29), (0, .ref h), (1, .int p1), (2, .int p2)]) hx hb dX12_round_83 hl (k := 1) rfl (by rw [ex_32]; rfl) (by decide) rfl (fun ls hl => ?_)
                refine lv_goto (tgt := 24) hx hb dX12_round_86 (by decide) ?_
                exact hZ1 (ih_24 x_32 f_5 _ _ _ (by first | exact RDz_set g24_0 (by omega) missing_e82 | exact g24_0) (by omega) (by omega) hP hD hS (lv_sub hl [0, 2, 3, 4] rfl))
              · have ic_31 : ¬ ((x_30 : Int32).toInt ≤ (0 : Int32).toInt) := fun h9 => c_31 ((fa_le x_30 0).mpr h9)
                refine lv_iload hx hb dX12_round_49 (lv_at hl 0 rfl) ?_
                refine lv_iload_n hx hb dX12_round_51 rfl (lv_at hl 4 rfl) ?_
                refine lv_ineg hx hb dX12_round_52 ?_
                refine lv_topi (fun x_33 ex_33 => ?_)
                have b_p2 := ti_b p2
                have tx_33 := ti_neg ex_33
                refine lv_iconst (v := 1) hx hb dX12_round_53 (by decide) ?_
                refine lv_isub hx hb dX12_round_54 ?_
                refine lv_topi (fun x_34 ex_34 => ?_)
                have b_x_33 := ti_b x_33
                have tx_34 := ti_sub ex_34
                refine lv_icmp_lt (tgt := 83) hx hb dX12_round_55 (by decide) (fun c_35 => ?_) (fun c_35 => ?_)
                · have ic_35 : (x_29 : Int32).toInt < (x_34 : Int32).toInt := (fa_lt x_29 x_34).mp c_35
                  obtain ⟨x_36, ex_36⟩ : ∃ y : Int32, y = x_4 + 1 := ⟨_, rfl⟩
                  have b_x_4 := ti_b x_4
                  have tx_36 := ti_add ex_36
                  refine lv_iinc (v := x_36) (lv' := [(3, .int x_36), (4, .int x_29), (0, .ref h), (1, .int p1), (2, .int p2)]) hx hb dX12_round_83 hl (k := 1) rfl (by rw [ex_36]; rfl) (by decide) rfl (fun ls hl => ?_)
                  refine lv_goto (tgt := 24) hx hb dX12_round_86 (by decide) ?_
                  exact hZ1 (ih_24 x_36 f_5 _ _ _ (by first | exact RDz_set g24_0 (by omega) missing_e82 | exact g24_0) (by omega) (by omega) hP hD hS (lv_sub hl [0, 2, 3, 4] rfl))
                · have ic_35 : ¬ ((x_29 : Int32).toInt < (x_34 : Int32).toInt) := fun h9 => c_35 ((fa_lt x_29 x_34).mpr h9)
                  refine lv_iload hx hb dX12_round_58 (lv_at hl 0 rfl) ?_
                  refine lv_sipush (v := 1000) hx hb dX12_round_60 (by decide) ?_
                  refine lv_icmp_gt (tgt := 83) hx hb dX12_round_63 (by decide) (fun c_37 => ?_) (fun c_37 => ?_)
                  · have ic_37 : (1000 : Int32).toInt < (x_29 : Int32).toInt := (fa_lt 1000 x_29).mp c_37
                    obtain ⟨x_38, ex_38⟩ : ∃ y : Int32, y = x_4 + 1 := ⟨_, rfl⟩
                    have b_x_4 := ti_b x_4
                    have tx_38 := ti_add ex_38
                    refine lv_iinc (v := x_38) (lv' := [(3, .int x_38), (4, .int x_29), (0, .ref h), (1, .int p1), (2, .int p2)]) hx hb dX12_round_83 hl (k := 1) rfl (by rw [ex_38]; rfl) (by decide) rfl (fun ls hl => ?_)
                    refine lv_goto (tgt := 24) hx hb dX12_round_86 (by decide) ?_
                    exact hZ1 (ih_24 x_38 f_5 _ _ _ (by first | exact RDz_set g24_0 (by omega) missing_e82 | exact g24_0) (by omega) (by omega) hP hD hS (lv_sub hl [0, 2, 3, 4] rfl))
                  · have ic_37 : ¬ ((1000 : Int32).toInt < (x_29 : Int32).toInt) := fun h9 => c_37 ((fa_lt 1000 x_29).mpr h9)
                    have hq9 := RD_pos hh4 (by omega) (by omega) ex_30 (by omega)
                    refine lv_aload_n hx hb dX12_round_66 rfl (lv_at hl 2 rfl) ?_
                    refine va_get (D := D) (ci := 9) (v := .ref h_digits) (C := RX12) (T := TX12) (N := 35) hx hb hts iX12 hown hK hP 0 rfl rfl 33 (by decide) (hw 0 (.fieldLink RX12 75 "NumberFormatsModel" "digits" "[I") rfl) (fun _ h9 => h9) rfl dX12_round_67 ?_
                    refine lv_sipush (v := 1000) hx hb dX12_round_70 (by decide) ?_
                    refine lv_iload hx hb dX12_round_73 (lv_at hl 0 rfl) ?_
                    refine lv_isub hx hb dX12_round_75 ?_
                    refine lv_topi (fun x_39 ex_39 => ?_)
                    have tx_39 := ti_sub ex_39
                    refine lv_aload_n hx hb dX12_round_76 rfl (lv_at hl 2 rfl) ?_
                    refine va_get (D := D) (ci := 9) (v := .ref h_exact) (C := RX12) (T := TX12) (N := 35) hx hb hts iX12 hown hK hP 0 rfl rfl 28 (by decide) (hw 5 (.fieldLink RX12 66 "NumberFormatsModel" "exact" "[I") rfl) (fun _ h9 => h9) rfl dX12_round_77 ?_
                    refine lv_iload_n hx hb dX12_round_80 rfl (lv_at hl 1 rfl) ?_
                    have h_81 : vp_in x_4 1420 := by rw [vp_in_iff]; omega
                    refine va_iald hx hb hK hP 1 0 rfl rfl h_81 dX12_round_81 ?_
                    refine lv_topi (fun x_40 ex_40 => ?_)
                    have h_82 : vp_in x_39 1400 := by rw [vp_in_iff]; omega
                    refine va_iast hx hb hK hP hD hS 2 0 rfl rfl h_82 dX12_round_82 (fun H locs hP hD hS => ?_)
                    obtain ⟨f_41, ef_41⟩ : ∃ y : Nat → Int32, y = upd f_5 (x_39 : Int32).toNatClampNeg x_40 := ⟨_, rfl⟩
                    rw [← ef_41] at hP hD
                    have hP : va_P D vwCl [(h, .inr (9, [.int h_code, .int h_taped, .ref h_tape, .int h_size, .ref h_text, .double h_value, .int h_out, .ref h_output, .int h_illAt, .ref h_format, .int h_sections, .int h_items, .ref h_kind, .ref h_what, .ref h_of, .ref h_relation, .ref h_bound, .int h_reads, .int h_readSections, .ref h_readKind, .ref h_readWhat, .ref h_readOf, .ref h_place, .ref h_readRelation, .ref h_readBound, .int h_stop, .ref h_meant, .ref h_row, .ref h_exact, .ref h_error, .ref h_bestError, .long h_m, .int h_e, .ref h_digits, .int h_whole])), (h_exact, .inl (cI, 1420, .inl h_exactF)), (h_digits, .inl (cI, 1400, .inl f_41))] H := hP
                    have hD : va_D A [(h, .inr (9, [.int h_code, .int h_taped, .ref h_tape, .int h_size, .ref h_text, .double h_value, .int h_out, .ref h_output, .int h_illAt, .ref h_format, .int h_sections, .int h_items, .ref h_kind, .ref h_what, .ref h_of, .ref h_relation, .ref h_bound, .int h_reads, .int h_readSections, .ref h_readKind, .ref h_readWhat, .ref h_readOf, .ref h_place, .ref h_readRelation, .ref h_readBound, .int h_stop, .ref h_meant, .ref h_row, .ref h_exact, .ref h_error, .ref h_bestError, .long h_m, .int h_e, .ref h_digits, .int h_whole])), (h_exact, .inl (cI, 1420, .inl h_exactF)), (h_digits, .inl (cI, 1400, .inl f_41))] := hD
                    obtain ⟨x_42, ex_42⟩ : ∃ y : Int32, y = x_4 + 1 := ⟨_, rfl⟩
                    have b_x_4 := ti_b x_4
                    have tx_42 := ti_add ex_42
                    refine lv_iinc (v := x_42) (lv' := [(3, .int x_42), (4, .int x_29), (0, .ref h), (1, .int p1), (2, .int p2)]) hx hb dX12_round_83 hl (k := 1) rfl (by rw [ex_42]; rfl) (by decide) rfl (fun ls hl => ?_)
                    refine lv_goto (tgt := 24) hx hb dX12_round_86 (by decide) ?_
                    exact hZ1 (ih_24 x_42 f_41 _ _ _ (by first | exact RDz_set g24_0 (by omega) ef_41 | exact g24_0) (by omega) (by omega) hP hD hS (lv_sub hl [0, 2, 3, 4] rfl))
        exact hZ1 (L_24 (((2147483647 - (0 : Int32).toInt).toNat) + 1) 0 f_2 _ _ _ (RDz_of g2_0 (by omega)) (by omega) (by omega) hP hD hS hl)
      · have ic_3 : ¬ ((1400 : Int32).toInt ≤ (x_1 : Int32).toInt) := fun h9 => c_3 ((fa_le 1400 x_1).mpr h9)
        refine lv_aload_n hx hb dX12_round_9 rfl (lv_at hl 1 rfl) ?_
        refine va_get (D := D) (ci := 9) (v := .ref h_digits) (C := RX12) (T := TX12) (N := 35) hx hb hts iX12 hown hK hP 0 rfl rfl 33 (by decide) (hw 0 (.fieldLink RX12 75 "NumberFormatsModel" "digits" "[I") rfl) (fun _ h9 => h9) rfl dX12_round_10 ?_
        refine lv_iload_n hx hb dX12_round_13 rfl (lv_at hl 0 rfl) ?_
        refine lv_iconst (v := 0) hx hb dX12_round_14 (by decide) ?_
        have h_15 : vp_in x_1 1400 := by rw [vp_in_iff]; omega
        refine va_iast hx hb hK hP hD hS 2 0 rfl rfl h_15 dX12_round_15 (fun H locs hP hD hS => ?_)
        obtain ⟨f_43, ef_43⟩ : ∃ y : Nat → Int32, y = upd f_2 (x_1 : Int32).toNatClampNeg 0 := ⟨_, rfl⟩
        rw [← ef_43] at hP hD
        have hP : va_P D vwCl [(h, .inr (9, [.int h_code, .int h_taped, .ref h_tape, .int h_size, .ref h_text, .double h_value, .int h_out, .ref h_output, .int h_illAt, .ref h_format, .int h_sections, .int h_items, .ref h_kind, .ref h_what, .ref h_of, .ref h_relation, .ref h_bound, .int h_reads, .int h_readSections, .ref h_readKind, .ref h_readWhat, .ref h_readOf, .ref h_place, .ref h_readRelation, .ref h_readBound, .int h_stop, .ref h_meant, .ref h_row, .ref h_exact, .ref h_error, .ref h_bestError, .long h_m, .int h_e, .ref h_digits, .int h_whole])), (h_exact, .inl (cI, 1420, .inl h_exactF)), (h_digits, .inl (cI, 1400, .inl f_43))] H := hP
        have hD : va_D A [(h, .inr (9, [.int h_code, .int h_taped, .ref h_tape, .int h_size, .ref h_text, .double h_value, .int h_out, .ref h_output, .int h_illAt, .ref h_format, .int h_sections, .int h_items, .ref h_kind, .ref h_what, .ref h_of, .ref h_relation, .ref h_bound, .int h_reads, .int h_readSections, .ref h_readKind, .ref h_readWhat, .ref h_readOf, .ref h_place, .ref h_readRelation, .ref h_readBound, .int h_stop, .ref h_meant, .ref h_row, .ref h_exact, .ref h_error, .ref h_bestError, .long h_m, .int h_e, .ref h_digits, .int h_whole])), (h_exact, .inl (cI, 1420, .inl h_exactF)), (h_digits, .inl (cI, 1400, .inl f_43))] := hD
        obtain ⟨x_44, ex_44⟩ : ∃ y : Int32, y = x_1 + 1 := ⟨_, rfl⟩
        have b_x_1 := ti_b x_1
        have tx_44 := ti_add ex_44
        refine lv_iinc (v := x_44) (lv' := [(3, .int x_44), (0, .ref h), (1, .int p1), (2, .int p2)]) hx hb dX12_round_16 hl (k := 0) rfl (by rw [ex_44]; rfl) (by decide) rfl (fun ls hl => ?_)
        refine lv_goto (tgt := 2) hx hb dX12_round_19 (by decide) ?_
        exact hZ1 (ih_2 x_44 f_43 _ _ _ (RD0_step g2_0 (by omega) ef_43 ex_44) (by omega) (by omega) hP hD hS hl)
  exact hZ1 (L_2 (((2147483647 - (0 : Int32).toInt).toNat) + 1) 0 h_digitsF _ _ _ RD0_0 (by omega) (by omega) hP hD hS hl)

def ow_X12_takeDigits : List Cond := [Cond.methodLink RX12 290 yX12_findWhole, Cond.instanceMethod yX12_findWhole, Cond.selects RX12 yX12_findWhole yX12_findWhole, Cond.initialized RX12, Cond.fieldLink RX12 75 "NumberFormatsModel" "digits" "[I", Cond.constantLong RX12 114 (10)]
def pw_X12_takeDigits : List Cond := Cond.code yX12_takeDigits cX12_takeDigits 6 none :: (ow_X12_takeDigits ++ (pw_X12_findWhole ++ (wsX120)))
set_option maxRecDepth 20000 in
theorem mo_X12_takeDigits : ∀ w ∈ ow_X12_takeDigits, w ∈ lw_tbl := by decide +kernel
set_option maxRecDepth 20000 in
theorem mc_X12_takeDigits : Cond.code yX12_takeDigits cX12_takeDigits 6 none ∈ lw_tbl := by decide +kernel
theorem m_X12_takeDigits : ∀ w ∈ pw_X12_takeDigits, w ∈ lw_tbl := List.forall_mem_cons.mpr ⟨mc_X12_takeDigits, (List.forall_mem_append.mpr ⟨mo_X12_takeDigits, (List.forall_mem_append.mpr ⟨m_X12_findWhole, inX12⟩)⟩)⟩
theorem ko_X12_takeDigits : ∀ w ∈ ow_X12_takeDigits, goodWord w = true := by decide +kernel
theorem k_X12_takeDigits : pw_X12_takeDigits.all goodWord = true := List.all_eq_true.mpr (List.forall_mem_cons.mpr ⟨by decide +kernel, (List.forall_mem_append.mpr ⟨ko_X12_takeDigits, (List.forall_mem_append.mpr ⟨(List.all_eq_true.mp k_X12_findWhole), kX_X12⟩)⟩)⟩)
set_option maxHeartbeats 400000 in
set_option maxRecDepth 100000 in
theorem c_X12_takeDigits (l : Launch) (D : va_G) (cI cD cJ : ClassId) (sz : Nat) (h : Nat) (h_code : Int32) (h_taped : Int32) (h_tape : Nat) (h_size : Int32) (h_text : Nat) (h_value : UInt64) (h_out : Int32) (h_output : Nat) (h_illAt : Int32) (h_format : Nat) (h_sections : Int32) (h_items : Int32) (h_kind : Nat) (h_what : Nat) (h_of : Nat) (h_relation : Nat) (h_bound : Nat) (h_reads : Int32) (h_readSections : Int32) (h_readKind : Nat) (h_readWhat : Nat) (h_readOf : Nat) (h_place : Nat) (h_readRelation : Nat) (h_readBound : Nat) (h_stop : Int32) (h_meant : Nat) (h_row : Nat) (h_exact : Nat) (h_error : Nat) (h_bestError : Nat) (h_m : Int64) (h_e : Int32) (h_digits : Nat) (h_whole : Int32) (h_digitsF : Nat → Int32) (p1 : Int64) (iv_h_taped : 0 ≤ (h_taped : Int32).toInt ∧ (h_taped : Int32).toInt ≤ 260) (iv_h_size : 0 ≤ (h_size : Int32).toInt ∧ (h_size : Int32).toInt ≤ 255) (iv_h_value : inR h_value) (iv_h_out : 0 ≤ (h_out : Int32).toInt ∧ (h_out : Int32).toInt ≤ 1024) (iv_h_sections : 0 ≤ (h_sections : Int32).toInt ∧ (h_sections : Int32).toInt ≤ 4) (iv_h_items : 0 ≤ (h_items : Int32).toInt ∧ (h_items : Int32).toInt ≤ 255) (iv_h_reads : 0 ≤ (h_reads : Int32).toInt ∧ (h_reads : Int32).toInt ≤ 255) (iv_h_readSections : 0 ≤ (h_readSections : Int32).toInt ∧ (h_readSections : Int32).toInt ≤ 4) (iv_h_whole : 0 ≤ (h_whole : Int32).toInt ∧ (h_whole : Int32).toInt ≤ 1001) : Met l yX12_takeDigits pw_X12_takeDigits ({ frames := 1, cells := 0, slots := 0, locals := 21 }) (va_Pc [.ref h, .long p1] (fun U => U.heap.size = sz ∧ va_P D vwCl [(h, .inr (9, [.int h_code, .int h_taped, .ref h_tape, .int h_size, .ref h_text, .double h_value, .int h_out, .ref h_output, .int h_illAt, .ref h_format, .int h_sections, .int h_items, .ref h_kind, .ref h_what, .ref h_of, .ref h_relation, .ref h_bound, .int h_reads, .int h_readSections, .ref h_readKind, .ref h_readWhat, .ref h_readOf, .ref h_place, .ref h_readRelation, .ref h_readBound, .int h_stop, .ref h_meant, .ref h_row, .ref h_exact, .ref h_error, .ref h_bestError, .long h_m, .int h_e, .ref h_digits, .int h_whole])), (h_digits, .inl (cI, 1400, .inl h_digitsF))] U.heap ∧ va_K D vwCl (ty3 cI cD cJ) U ∧ va_D (fun _ => True) [(h, .inr (9, [.int h_code, .int h_taped, .ref h_tape, .int h_size, .ref h_text, .double h_value, .int h_out, .ref h_output, .int h_illAt, .ref h_format, .int h_sections, .int h_items, .ref h_kind, .ref h_what, .ref h_of, .ref h_relation, .ref h_bound, .int h_reads, .int h_readSections, .ref h_readKind, .ref h_readWhat, .ref h_readOf, .ref h_place, .ref h_readRelation, .ref h_readBound, .int h_stop, .ref h_meant, .ref h_row, .ref h_exact, .ref h_error, .ref h_bestError, .long h_m, .int h_e, .ref h_digits, .int h_whole])), (h_digits, .inl (cI, 1400, .inl h_digitsF))])) (va_Qv (fun (u : Int32 × (Nat → Int32)) => match u with | (h_whole2, h_digitsF2) => (0 ≤ (h_whole2 : Int32).toInt ∧ (h_whole2 : Int32).toInt ≤ 1001)) (fun (u : Int32 × (Nat → Int32)) (t : State) => match u with | (h_whole2, h_digitsF2) => va_P D vwCl [(h, .inr (9, [.int h_code, .int h_taped, .ref h_tape, .int h_size, .ref h_text, .double h_value, .int h_out, .ref h_output, .int h_illAt, .ref h_format, .int h_sections, .int h_items, .ref h_kind, .ref h_what, .ref h_of, .ref h_relation, .ref h_bound, .int h_reads, .int h_readSections, .ref h_readKind, .ref h_readWhat, .ref h_readOf, .ref h_place, .ref h_readRelation, .ref h_readBound, .int h_stop, .ref h_meant, .ref h_row, .ref h_exact, .ref h_error, .ref h_bestError, .long h_m, .int h_e, .ref h_digits, .int h_whole2])), (h_digits, .inl (cI, 1400, .inl h_digitsF2))] t.heap ∧ va_K D vwCl (ty3 cI cD cJ) t ∧ va_D (va_A [(h, .inr (9, [.int h_code, .int h_taped, .ref h_tape, .int h_size, .ref h_text, .double h_value, .int h_out, .ref h_output, .int h_illAt, .ref h_format, .int h_sections, .int h_items, .ref h_kind, .ref h_what, .ref h_of, .ref h_relation, .ref h_bound, .int h_reads, .int h_readSections, .ref h_readKind, .ref h_readWhat, .ref h_readOf, .ref h_place, .ref h_readRelation, .ref h_readBound, .int h_stop, .ref h_meant, .ref h_row, .ref h_exact, .ref h_error, .ref h_bestError, .long h_m, .int h_e, .ref h_digits, .int h_whole])), (h_digits, .inl (cI, 1400, .inl h_digitsF))] sz) [(h, .inr (9, [.int h_code, .int h_taped, .ref h_tape, .int h_size, .ref h_text, .double h_value, .int h_out, .ref h_output, .int h_illAt, .ref h_format, .int h_sections, .int h_items, .ref h_kind, .ref h_what, .ref h_of, .ref h_relation, .ref h_bound, .int h_reads, .int h_readSections, .ref h_readKind, .ref h_readWhat, .ref h_readOf, .ref h_place, .ref h_readRelation, .ref h_readBound, .int h_stop, .ref h_meant, .ref h_row, .ref h_exact, .ref h_error, .ref h_bestError, .long h_m, .int h_e, .ref h_digits, .int h_whole2])), (h_digits, .inl (cI, 1400, .inl h_digitsF2))]) (va_A [(h, .inr (9, [.int h_code, .int h_taped, .ref h_tape, .int h_size, .ref h_text, .double h_value, .int h_out, .ref h_output, .int h_illAt, .ref h_format, .int h_sections, .int h_items, .ref h_kind, .ref h_what, .ref h_of, .ref h_relation, .ref h_bound, .int h_reads, .int h_readSections, .ref h_readKind, .ref h_readWhat, .ref h_readOf, .ref h_place, .ref h_readRelation, .ref h_readBound, .int h_stop, .ref h_meant, .ref h_row, .ref h_exact, .ref h_error, .ref h_bestError, .long h_m, .int h_e, .ref h_digits, .int h_whole])), (h_digits, .inl (cI, 1400, .inl h_digitsF))] sz)) 0 0 (va_A [(h, .inr (9, [.int h_code, .int h_taped, .ref h_tape, .int h_size, .ref h_text, .double h_value, .int h_out, .ref h_output, .int h_illAt, .ref h_format, .int h_sections, .int h_items, .ref h_kind, .ref h_what, .ref h_of, .ref h_relation, .ref h_bound, .int h_reads, .int h_readSections, .ref h_readKind, .ref h_readWhat, .ref h_readOf, .ref h_place, .ref h_readRelation, .ref h_readBound, .int h_stop, .ref h_meant, .ref h_row, .ref h_exact, .ref h_error, .ref h_bestError, .long h_m, .int h_e, .ref h_digits, .int h_whole])), (h_digits, .inl (cI, 1400, .inl h_digitsF))] sz) := by
  refine Met.ofW (cc := cX12_takeDigits) (maxL := 6) (ret := none) (by decide +kernel) rfl ?_
  intro p e s m args below meth c s₁ B hml hv
  obtain ⟨rfl, hsz, hP, hK, hD0⟩ := hv
  have hx := B.exec
  have hb := B.bytes
  have hr := B.returns
  have hts := atoms_spec (ws := pw_X12_takeDigits) B.pre
  have hown : s.vm.findClass RX12 = some m.cls := findClass_of_methodNamed B.named
  have hlocks := B.notSynchronized
  subst hsz
  have hD := hD0.self (sz := s.heap.size)
  generalize hAe : va_A [(h, .inr (9, [.int h_code, .int h_taped, .ref h_tape, .int h_size, .ref h_text, .double h_value, .int h_out, .ref h_output, .int h_illAt, .ref h_format, .int h_sections, .int h_items, .ref h_kind, .ref h_what, .ref h_of, .ref h_relation, .ref h_bound, .int h_reads, .int h_readSections, .ref h_readKind, .ref h_readWhat, .ref h_readOf, .ref h_place, .ref h_readRelation, .ref h_readBound, .int h_stop, .ref h_meant, .ref h_row, .ref h_exact, .ref h_error, .ref h_bestError, .long h_m, .int h_e, .ref h_digits, .int h_whole])), (h_digits, .inl (cI, 1400, .inl h_digitsF))] s.heap.size = A at hD ⊢
  have hA : ∀ q : Nat, s.heap.size ≤ q → A q := fun q h => by rw [← hAe]; exact Or.inr h
  have hS : va_S A s.heap s.heap [] := va_S.rf
  have hw : ∀ (k : Nat) (w : Cond), ow_X12_takeDigits[k]? = some w → w.before _ s = true := fun k w h => hts w (List.mem_cons_of_mem _ (have h9 := List.mem_of_getElem? h; List.mem_append_left _ h9))
  have i_X12_findWhole : ∀ w ∈ pw_X12_findWhole, w ∈ pw_X12_takeDigits := fun w h9 => List.mem_cons_of_mem _ (List.mem_append_right _ (List.mem_append_left _ h9))
  have iX12 : ∀ w ∈ u_ws RX12 TX12 35, w ∈ pw_X12_takeDigits := fun w h9 => List.mem_cons_of_mem _ (List.mem_append_right _ (List.mem_append_right _ (h9)))
  have n_m1 : (((-1) : Int32)).toInt = (-1) := by decide
  have n_0 : ((0 : Int32)).toInt = 0 := by decide
  have n_1 : ((1 : Int32)).toInt = 1 := by decide
  have n_1000 : ((1000 : Int32)).toInt = 1000 := by decide
  have n_1400 : ((1400 : Int32)).toInt = 1400 := by decide
  have nl_0 : ((0 : Int64)).toInt = 0 := by decide
  have nl_10 : ((10 : Int64)).toInt = 10 := by decide
  have hl := lv_entry ([.ref h, .long p1]) (n := 6) (Nat.le_of_ble_eq_true rfl)
  rw [lg_entry_eq]
  generalize (lg_sl ([.ref h, .long p1]) ++ List.replicate (6 - (lg_sl ([.ref h, .long p1])).length) Slot.unset).toArray = ls at hl ⊢
  have hl : lv_has ls 6 [(0, .ref h), (1, .long p1)] := hl
  refine zz_cap (fun Z hZ1 hZ2 => ?_)
  refine lv_iconst (v := 0) hx hb dX12_takeDigits_0 (by decide) ?_
  refine lv_istore_n (lv' := [(3, .int 0), (0, .ref h), (1, .long p1)]) hx hb dX12_takeDigits_1 rfl hl (by decide) rfl (fun ls hl => ?_)
  have L_2 : ∀ (N : Nat) (x_1 : Int32) (f_2 : Nat → Int32) (H : Heap) (locs : List Loc) (ls : Array Slot), (0 ≤ (x_1 : Int32).toInt) → ((2147483647 - (x_1 : Int32).toInt).toNat < N) → va_P D vwCl [(h, .inr (9, [.int h_code, .int h_taped, .ref h_tape, .int h_size, .ref h_text, .double h_value, .int h_out, .ref h_output, .int h_illAt, .ref h_format, .int h_sections, .int h_items, .ref h_kind, .ref h_what, .ref h_of, .ref h_relation, .ref h_bound, .int h_reads, .int h_readSections, .ref h_readKind, .ref h_readWhat, .ref h_readOf, .ref h_place, .ref h_readRelation, .ref h_readBound, .int h_stop, .ref h_meant, .ref h_row, .ref h_exact, .ref h_error, .ref h_bestError, .long h_m, .int h_e, .ref h_digits, .int h_whole])), (h_digits, .inl (cI, 1400, .inl f_2))] H → va_D A [(h, .inr (9, [.int h_code, .int h_taped, .ref h_tape, .int h_size, .ref h_text, .double h_value, .int h_out, .ref h_output, .int h_illAt, .ref h_format, .int h_sections, .int h_items, .ref h_kind, .ref h_what, .ref h_of, .ref h_relation, .ref h_bound, .int h_reads, .int h_readSections, .ref h_readKind, .ref h_readWhat, .ref h_readOf, .ref h_place, .ref h_readRelation, .ref h_readBound, .int h_stop, .ref h_meant, .ref h_row, .ref h_exact, .ref h_error, .ref h_bestError, .long h_m, .int h_e, .ref h_digits, .int h_whole])), (h_digits, .inl (cI, 1400, .inl f_2))] → va_S A s.heap H locs → lv_has ls 6 [(3, .int x_1), (0, .ref h), (1, .long p1)] → Z 0 0 H locs (F0 m 2 ls []) := by
    intro N
    induction N with
    | zero => intro _ _ _ _ _ _ hmu; exact absurd hmu (Nat.not_lt_zero _)
    | succ N ih_2 =>
      intro x_1 f_2 H locs ls g2_0 hmu hP hD hS hl
      refine hZ2 ?_
      refine lv_iload_n hx hb dX12_takeDigits_2 rfl (lv_at hl 0 rfl) ?_
      refine lv_sipush (v := 1400) hx hb dX12_takeDigits_3 (by decide) ?_
      refine lv_icmp_ge (tgt := 22) hx hb dX12_takeDigits_6 (by decide) (fun c_3 => ?_) (fun c_3 => ?_)
      · have ic_3 : (1400 : Int32).toInt ≤ (x_1 : Int32).toInt := (fa_le 1400 x_1).mp c_3
        refine lv_lload_n hx hb dX12_takeDigits_22 rfl (lv_at hl 2 rfl) ?_
        refine lv_lstore_n (lv' := [(3, .long p1), (0, .ref h), (1, .long p1)]) hx hb dX12_takeDigits_23 rfl hl (by decide) rfl (fun ls hl => ?_)
        refine lv_sipush (v := 1000) hx hb dX12_takeDigits_24 (by decide) ?_
        refine lv_istore (lv' := [(5, .int 1000), (3, .long p1), (0, .ref h), (1, .long p1)]) hx hb dX12_takeDigits_27 hl (by decide) rfl (fun ls hl => ?_)
        have L_29 : ∀ (N : Nat) (x_4 : Int32) (y_5 : Int64) (f_6 : Nat → Int32) (H : Heap) (locs : List Loc) (ls : Array Slot), (TDg y_5 x_4) → ((y_5 : Int64).toInt.toNat < N) → va_P D vwCl [(h, .inr (9, [.int h_code, .int h_taped, .ref h_tape, .int h_size, .ref h_text, .double h_value, .int h_out, .ref h_output, .int h_illAt, .ref h_format, .int h_sections, .int h_items, .ref h_kind, .ref h_what, .ref h_of, .ref h_relation, .ref h_bound, .int h_reads, .int h_readSections, .ref h_readKind, .ref h_readWhat, .ref h_readOf, .ref h_place, .ref h_readRelation, .ref h_readBound, .int h_stop, .ref h_meant, .ref h_row, .ref h_exact, .ref h_error, .ref h_bestError, .long h_m, .int h_e, .ref h_digits, .int h_whole])), (h_digits, .inl (cI, 1400, .inl f_6))] H → va_D A [(h, .inr (9, [.int h_code, .int h_taped, .ref h_tape, .int h_size, .ref h_text, .double h_value, .int h_out, .ref h_output, .int h_illAt, .ref h_format, .int h_sections, .int h_items, .ref h_kind, .ref h_what, .ref h_of, .ref h_relation, .ref h_bound, .int h_reads, .int h_readSections, .ref h_readKind, .ref h_readWhat, .ref h_readOf, .ref h_place, .ref h_readRelation, .ref h_readBound, .int h_stop, .ref h_meant, .ref h_row, .ref h_exact, .ref h_error, .ref h_bestError, .long h_m, .int h_e, .ref h_digits, .int h_whole])), (h_digits, .inl (cI, 1400, .inl f_6))] → va_S A s.heap H locs → lv_has ls 6 [(5, .int x_4), (3, .long y_5), (0, .ref h)] → Z 0 0 H locs (F0 m 29 ls []) := by
          intro N
          induction N with
          | zero => intro _ _ _ _ _ _ _ hmu; exact absurd hmu (Nat.not_lt_zero _)
          | succ N ih_29 =>
            intro x_4 y_5 f_6 H locs ls g29_0 hmu hP hD hS hl
            refine hZ2 ?_
            have hq9 := TDg_lin g29_0
            refine lv_lload_n hx hb dX12_takeDigits_29 rfl (lv_at hl 1 rfl) ?_
            refine lv_lconst (v := 0) hx hb dX12_takeDigits_30 (by decide) ?_
            refine W.lcmp hx hb dX12_takeDigits_31 ?_
            refine lv_topi (fun x_7 ex_7 => ?_)
            have tx_7 := ti_lcmp ex_7
            refine lv_if_le (tgt := 60) hx hb dX12_takeDigits_32 (by decide) (fun c_8 => ?_) (fun c_8 => ?_)
            · have ic_8 : (x_7 : Int32).toInt ≤ (0 : Int32).toInt := (fa_le x_7 0).mp c_8
              refine lv_aload_n hx hb dX12_takeDigits_60 rfl (lv_at hl 2 rfl) ?_
              have hPc := hP.sub (ws' := [(h, .inr (9, [.int h_code, .int h_taped, .ref h_tape, .int h_size, .ref h_text, .double h_value, .int h_out, .ref h_output, .int h_illAt, .ref h_format, .int h_sections, .int h_items, .ref h_kind, .ref h_what, .ref h_of, .ref h_relation, .ref h_bound, .int h_reads, .int h_readSections, .ref h_readKind, .ref h_readWhat, .ref h_readOf, .ref h_place, .ref h_readRelation, .ref h_readBound, .int h_stop, .ref h_meant, .ref h_row, .ref h_exact, .ref h_error, .ref h_bestError, .long h_m, .int h_e, .ref h_digits, .int h_whole])), (h_digits, .inl (cI, 1400, .inl f_6))]) [0, 1] rfl
              have hDc := hD.sub (ws' := [(h, .inr (9, [.int h_code, .int h_taped, .ref h_tape, .int h_size, .ref h_text, .double h_value, .int h_out, .ref h_output, .int h_illAt, .ref h_format, .int h_sections, .int h_items, .ref h_kind, .ref h_what, .ref h_of, .ref h_relation, .ref h_bound, .int h_reads, .int h_readSections, .ref h_readKind, .ref h_readWhat, .ref h_readOf, .ref h_place, .ref h_readRelation, .ref h_readBound, .int h_stop, .ref h_meant, .ref h_row, .ref h_exact, .ref h_error, .ref h_bestError, .long h_m, .int h_e, .ref h_digits, .int h_whole])), (h_digits, .inl (cI, 1400, .inl f_6))]) [0, 1] (by decide) rfl
              have hFc := va_free (wc := [(h, .inr (9, [.int h_code, .int h_taped, .ref h_tape, .int h_size, .ref h_text, .double h_value, .int h_out, .ref h_output, .int h_illAt, .ref h_format, .int h_sections, .int h_items, .ref h_kind, .ref h_what, .ref h_of, .ref h_relation, .ref h_bound, .int h_reads, .int h_readSections, .ref h_readKind, .ref h_readWhat, .ref h_readOf, .ref h_place, .ref h_readRelation, .ref h_readBound, .int h_stop, .ref h_meant, .ref h_row, .ref h_exact, .ref h_error, .ref h_bestError, .long h_m, .int h_e, .ref h_digits, .int h_whole])), (h_digits, .inl (cI, 1400, .inl f_6))]) hD hS hA [0, 1] rfl
              refine va_callv (va_runV (As := []) (rest := []) ⟨hx, hb, hml, hown, hts⟩ (c_X12_findWhole l D cI cD cJ H.size h h_code h_taped h_tape h_size h_text h_value h_out h_output h_illAt h_format h_sections h_items h_kind h_what h_of h_relation h_bound h_reads h_readSections h_readKind h_readWhat h_readOf h_place h_readRelation h_readBound h_stop h_meant h_row h_exact h_error h_bestError h_m h_e h_digits h_whole f_6 (by omega) (by omega) (by assumption) (by omega) (by omega) (by omega) (by omega) (by omega) (by omega)) (cwV 0 hts (goodIn_app (goodIn_r _ [1, 2, 3, 4] rfl (by decide +kernel)) (goodIn_sub i_X12_findWhole k_X12_findWhole)) rfl rfl rfl (by decide +kernel) ⟨Nat.le_of_ble_eq_true rfl, Nat.le_of_ble_eq_true rfl⟩) ⟨fun a U g mk q => by obtain ⟨q0, q1, qP, qK, qD⟩ := q; exact ⟨q0, q1, qP, va_K.moved (u := U) (U := U.calling g mk a) (Vm.Alike.refl U.vm) qK, qD⟩, va_recv hK hPc (ci := 9) (q0 := 0) rfl rfl, fun U hU hW => ⟨rfl, by rw [hU], by rw [hU]; exact hPc, va_K.moved hW.alike hK, hDc.weaken (fun _ _ _ _ => trivial)⟩⟩ rfl rfl hl.1 rfl (lv_room (Nat.le_of_ble_eq_true rfl)) dX12_takeDigits_61 ⟨Nat.le_of_ble_eq_true rfl, Nat.le_of_ble_eq_true rfl⟩) hS (fun q _ h => hFc q h) hFc (fun u t H1 locs ht hvm w_9 hB hz1 hk1 hS => ?_)
              generalize u = u_10 at w_9 hB
              obtain ⟨hP1, hK1, hD1⟩ := hB
              rw [ht] at hP1
              try dsimp only at w_9
              obtain ⟨hP, hD⟩ := va_join (wr := []) (w1 := [(h, .inr (9, [.int h_code, .int h_taped, .ref h_tape, .int h_size, .ref h_text, .double h_value, .int h_out, .ref h_output, .int h_illAt, .ref h_format, .int h_sections, .int h_items, .ref h_kind, .ref h_what, .ref h_of, .ref h_relation, .ref h_bound, .int h_reads, .int h_readSections, .ref h_readKind, .ref h_readWhat, .ref h_readOf, .ref h_place, .ref h_readRelation, .ref h_readBound, .int h_stop, .ref h_meant, .ref h_row, .ref h_exact, .ref h_error, .ref h_bestError, .long h_m, .int h_e, .ref h_digits, .int u_10])), (h_digits, .inl (cI, 1400, .inl f_6))]) hP hD [0, 1] [] rfl rfl (by decide) (by decide) hk1 hFc hP1 hD1
              generalize H1 = H at hP hS ⊢
              have hP : va_P D vwCl [(h, .inr (9, [.int h_code, .int h_taped, .ref h_tape, .int h_size, .ref h_text, .double h_value, .int h_out, .ref h_output, .int h_illAt, .ref h_format, .int h_sections, .int h_items, .ref h_kind, .ref h_what, .ref h_of, .ref h_relation, .ref h_bound, .int h_reads, .int h_readSections, .ref h_readKind, .ref h_readWhat, .ref h_readOf, .ref h_place, .ref h_readRelation, .ref h_readBound, .int h_stop, .ref h_meant, .ref h_row, .ref h_exact, .ref h_error, .ref h_bestError, .long h_m, .int h_e, .ref h_digits, .int u_10])), (h_digits, .inl (cI, 1400, .inl f_6))] H := hP
              have hD : va_D A [(h, .inr (9, [.int h_code, .int h_taped, .ref h_tape, .int h_size, .ref h_text, .double h_value, .int h_out, .ref h_output, .int h_illAt, .ref h_format, .int h_sections, .int h_items, .ref h_kind, .ref h_what, .ref h_of, .ref h_relation, .ref h_bound, .int h_reads, .int h_readSections, .ref h_readKind, .ref h_readWhat, .ref h_readOf, .ref h_place, .ref h_readRelation, .ref h_readBound, .int h_stop, .ref h_meant, .ref h_row, .ref h_exact, .ref h_error, .ref h_bestError, .long h_m, .int h_e, .ref h_digits, .int u_10])), (h_digits, .inl (cI, 1400, .inl f_6))] := hD
              have hP9 := hP.sub (ws' := [(h, .inr (9, [.int h_code, .int h_taped, .ref h_tape, .int h_size, .ref h_text, .double h_value, .int h_out, .ref h_output, .int h_illAt, .ref h_format, .int h_sections, .int h_items, .ref h_kind, .ref h_what, .ref h_of, .ref h_relation, .ref h_bound, .int h_reads, .int h_readSections, .ref h_readKind, .ref h_readWhat, .ref h_readOf, .ref h_place, .ref h_readRelation, .ref h_readBound, .int h_stop, .ref h_meant, .ref h_row, .ref h_exact, .ref h_error, .ref h_bestError, .long h_m, .int h_e, .ref h_digits, .int u_10])), (h_digits, .inl (cI, 1400, .inl f_6))]) [0, 1] rfl
              have hD9 := hD.sub (ws' := [(h, .inr (9, [.int h_code, .int h_taped, .ref h_tape, .int h_size, .ref h_text, .double h_value, .int h_out, .ref h_output, .int h_illAt, .ref h_format, .int h_sections, .int h_items, .ref h_kind, .ref h_what, .ref h_of, .ref h_relation, .ref h_bound, .int h_reads, .int h_readSections, .ref h_readKind, .ref h_readWhat, .ref h_readOf, .ref h_place, .ref h_readRelation, .ref h_readBound, .int h_stop, .ref h_meant, .ref h_row, .ref h_exact, .ref h_error, .ref h_bestError, .long h_m, .int h_e, .ref h_digits, .int u_10])), (h_digits, .inl (cI, 1400, .inl f_6))]) [0, 1] (by decide) rfl
              exact W.vret hx hb hr (fun t ht hW => ⟨⟨(u_10, f_6), rfl, (by (try dsimp only); first | omega | assumption), by rw [ht]; exact hP9, va_K.moved hW.alike hK, hD9⟩, hS.F ht⟩) hS.2.2 dX12_takeDigits_64
            · have ic_8 : ¬ ((x_7 : Int32).toInt ≤ (0 : Int32).toInt) := fun h9 => c_8 ((fa_le x_7 0).mpr h9)
              refine lv_aload_n hx hb dX12_takeDigits_35 rfl (lv_at hl 2 rfl) ?_
              refine va_get (D := D) (ci := 9) (v := .ref h_digits) (C := RX12) (T := TX12) (N := 35) hx hb hts iX12 hown hK hP 0 rfl rfl 33 (by decide) (hw 4 (.fieldLink RX12 75 "NumberFormatsModel" "digits" "[I") rfl) (fun _ h9 => h9) rfl dX12_takeDigits_36 ?_
              refine lv_iload hx hb dX12_takeDigits_39 (lv_at hl 0 rfl) ?_
              refine lv_lload_n hx hb dX12_takeDigits_41 rfl (lv_at hl 1 rfl) ?_
              refine lv_ldc2 (v := 10) hx hb hown (hw 5 (.constantLong RX12 114 (10)) rfl) dX12_takeDigits_42 ?_
              refine lv_lrem hx hb dX12_takeDigits_45 (by decide) ?_
              refine lv_topl (fun y_11 ey_11 => ?_)
              have ty_11 := tl_rem ey_11 (by decide)
              rw [nl_10] at ty_11
              try (have uy_11 := tl_remE ey_11 (by decide) (by omega); rw [nl_10] at uy_11)
              refine lv_l2i hx hb dX12_takeDigits_46 rfl ?_
              refine lv_topi (fun x_12 ex_12 => ?_)
              have tx_12 := ti_l2i ex_12
              have h_47 : vp_in x_4 1400 := by rw [vp_in_iff]; omega
              refine va_iast hx hb hK hP hD hS 1 0 rfl rfl h_47 dX12_takeDigits_47 (fun H locs hP hD hS => ?_)
              obtain ⟨f_13, ef_13⟩ : ∃ y : Nat → Int32, y = upd f_6 (x_4 : Int32).toNatClampNeg x_12 := ⟨_, rfl⟩
              rw [← ef_13] at hP hD
              have hP : va_P D vwCl [(h, .inr (9, [.int h_code, .int h_taped, .ref h_tape, .int h_size, .ref h_text, .double h_value, .int h_out, .ref h_output, .int h_illAt, .ref h_format, .int h_sections, .int h_items, .ref h_kind, .ref h_what, .ref h_of, .ref h_relation, .ref h_bound, .int h_reads, .int h_readSections, .ref h_readKind, .ref h_readWhat, .ref h_readOf, .ref h_place, .ref h_readRelation, .ref h_readBound, .int h_stop, .ref h_meant, .ref h_row, .ref h_exact, .ref h_error, .ref h_bestError, .long h_m, .int h_e, .ref h_digits, .int h_whole])), (h_digits, .inl (cI, 1400, .inl f_13))] H := hP
              have hD : va_D A [(h, .inr (9, [.int h_code, .int h_taped, .ref h_tape, .int h_size, .ref h_text, .double h_value, .int h_out, .ref h_output, .int h_illAt, .ref h_format, .int h_sections, .int h_items, .ref h_kind, .ref h_what, .ref h_of, .ref h_relation, .ref h_bound, .int h_reads, .int h_readSections, .ref h_readKind, .ref h_readWhat, .ref h_readOf, .ref h_place, .ref h_readRelation, .ref h_readBound, .int h_stop, .ref h_meant, .ref h_row, .ref h_exact, .ref h_error, .ref h_bestError, .long h_m, .int h_e, .ref h_digits, .int h_whole])), (h_digits, .inl (cI, 1400, .inl f_13))] := hD
              refine lv_lload_n hx hb dX12_takeDigits_48 rfl (lv_at hl 1 rfl) ?_
              refine lv_ldc2 (v := 10) hx hb hown (hw 5 (.constantLong RX12 114 (10)) rfl) dX12_takeDigits_49 ?_
              refine lv_ldiv hx hb dX12_takeDigits_52 (by decide) ?_
              refine lv_topl (fun y_14 ey_14 => ?_)
              have ty_14 := tl_div ey_14 (by decide)
              rw [nl_10] at ty_14
              try (have uy_14 := tl_divE ey_14 (by decide) (by omega); rw [nl_10] at uy_14)
              refine lv_lstore_n (lv' := [(3, .long y_14), (5, .int x_4), (0, .ref h)]) hx hb dX12_takeDigits_53 rfl hl (by decide) rfl (fun ls hl => ?_)
              obtain ⟨x_15, ex_15⟩ : ∃ y : Int32, y = x_4 + (-1) := ⟨_, rfl⟩
              have b_x_4 := ti_b x_4
              have tx_15 := ti_add ex_15
              refine lv_iinc (v := x_15) (lv' := [(5, .int x_15), (3, .long y_14), (0, .ref h)]) hx hb dX12_takeDigits_54 hl (k := 1) rfl (by rw [ex_15]; rfl) (by decide) rfl (fun ls hl => ?_)
              refine lv_goto (tgt := 29) hx hb dX12_takeDigits_57 (by decide) ?_
              exact hZ1 (ih_29 x_15 y_14 f_13 _ _ _ (TDg_step g29_0 (by omega) ey_14 ex_15) (by omega) hP hD hS hl)
        exact hZ1 (L_29 (((p1 : Int64).toInt.toNat) + 1) 1000 p1 f_2 _ _ _ TDg_0 (by omega) hP hD hS (lv_sub hl [0, 1, 2] rfl))
      · have ic_3 : ¬ ((1400 : Int32).toInt ≤ (x_1 : Int32).toInt) := fun h9 => c_3 ((fa_le 1400 x_1).mpr h9)
        refine lv_aload_n hx hb dX12_takeDigits_9 rfl (lv_at hl 1 rfl) ?_
        refine va_get (D := D) (ci := 9) (v := .ref h_digits) (C := RX12) (T := TX12) (N := 35) hx hb hts iX12 hown hK hP 0 rfl rfl 33 (by decide) (hw 4 (.fieldLink RX12 75 "NumberFormatsModel" "digits" "[I") rfl) (fun _ h9 => h9) rfl dX12_takeDigits_10 ?_
        refine lv_iload_n hx hb dX12_takeDigits_13 rfl (lv_at hl 0 rfl) ?_
        refine lv_iconst (v := 0) hx hb dX12_takeDigits_14 (by decide) ?_
        have h_15 : vp_in x_1 1400 := by rw [vp_in_iff]; omega
        refine va_iast hx hb hK hP hD hS 1 0 rfl rfl h_15 dX12_takeDigits_15 (fun H locs hP hD hS => ?_)
        obtain ⟨f_16, ef_16⟩ : ∃ y : Nat → Int32, y = upd f_2 (x_1 : Int32).toNatClampNeg 0 := ⟨_, rfl⟩
        rw [← ef_16] at hP hD
        have hP : va_P D vwCl [(h, .inr (9, [.int h_code, .int h_taped, .ref h_tape, .int h_size, .ref h_text, .double h_value, .int h_out, .ref h_output, .int h_illAt, .ref h_format, .int h_sections, .int h_items, .ref h_kind, .ref h_what, .ref h_of, .ref h_relation, .ref h_bound, .int h_reads, .int h_readSections, .ref h_readKind, .ref h_readWhat, .ref h_readOf, .ref h_place, .ref h_readRelation, .ref h_readBound, .int h_stop, .ref h_meant, .ref h_row, .ref h_exact, .ref h_error, .ref h_bestError, .long h_m, .int h_e, .ref h_digits, .int h_whole])), (h_digits, .inl (cI, 1400, .inl f_16))] H := hP
        have hD : va_D A [(h, .inr (9, [.int h_code, .int h_taped, .ref h_tape, .int h_size, .ref h_text, .double h_value, .int h_out, .ref h_output, .int h_illAt, .ref h_format, .int h_sections, .int h_items, .ref h_kind, .ref h_what, .ref h_of, .ref h_relation, .ref h_bound, .int h_reads, .int h_readSections, .ref h_readKind, .ref h_readWhat, .ref h_readOf, .ref h_place, .ref h_readRelation, .ref h_readBound, .int h_stop, .ref h_meant, .ref h_row, .ref h_exact, .ref h_error, .ref h_bestError, .long h_m, .int h_e, .ref h_digits, .int h_whole])), (h_digits, .inl (cI, 1400, .inl f_16))] := hD
        obtain ⟨x_17, ex_17⟩ : ∃ y : Int32, y = x_1 + 1 := ⟨_, rfl⟩
        have b_x_1 := ti_b x_1
        have tx_17 := ti_add ex_17
        refine lv_iinc (v := x_17) (lv' := [(3, .int x_17), (0, .ref h), (1, .long p1)]) hx hb dX12_takeDigits_16 hl (k := 0) rfl (by rw [ex_17]; rfl) (by decide) rfl (fun ls hl => ?_)
        refine lv_goto (tgt := 2) hx hb dX12_takeDigits_19 (by decide) ?_
        exact hZ1 (ih_2 x_17 f_16 _ _ _ (by omega) (by omega) hP hD hS hl)
  exact hZ1 (L_2 (((2147483647 - (0 : Int32).toInt).toNat) + 1) 0 h_digitsF _ _ _ (by omega) (by omega) hP hD hS hl)

def ow_X12_isNothing : List Cond := [Cond.fieldLink RX12 75 "NumberFormatsModel" "digits" "[I"]
def pw_X12_isNothing : List Cond := Cond.code yX12_isNothing cX12_isNothing 3 (some .boolean) :: (ow_X12_isNothing ++ (wsX120))
set_option maxRecDepth 20000 in
theorem mo_X12_isNothing : ∀ w ∈ ow_X12_isNothing, w ∈ lw_tbl := by decide +kernel
set_option maxRecDepth 20000 in
theorem mc_X12_isNothing : Cond.code yX12_isNothing cX12_isNothing 3 (some .boolean) ∈ lw_tbl := by decide +kernel
theorem m_X12_isNothing : ∀ w ∈ pw_X12_isNothing, w ∈ lw_tbl := List.forall_mem_cons.mpr ⟨mc_X12_isNothing, (List.forall_mem_append.mpr ⟨mo_X12_isNothing, inX12⟩)⟩
theorem ko_X12_isNothing : ∀ w ∈ ow_X12_isNothing, goodWord w = true := by decide +kernel
theorem k_X12_isNothing : pw_X12_isNothing.all goodWord = true := List.all_eq_true.mpr (List.forall_mem_cons.mpr ⟨by decide +kernel, (List.forall_mem_append.mpr ⟨ko_X12_isNothing, kX_X12⟩)⟩)
set_option maxHeartbeats 400000 in
set_option maxRecDepth 100000 in
theorem c_X12_isNothing (l : Launch) (D : va_G) (cI cD cJ : ClassId) (sz : Nat) (h : Nat) (h_code : Int32) (h_taped : Int32) (h_tape : Nat) (h_size : Int32) (h_text : Nat) (h_value : UInt64) (h_out : Int32) (h_output : Nat) (h_illAt : Int32) (h_format : Nat) (h_sections : Int32) (h_items : Int32) (h_kind : Nat) (h_what : Nat) (h_of : Nat) (h_relation : Nat) (h_bound : Nat) (h_reads : Int32) (h_readSections : Int32) (h_readKind : Nat) (h_readWhat : Nat) (h_readOf : Nat) (h_place : Nat) (h_readRelation : Nat) (h_readBound : Nat) (h_stop : Int32) (h_meant : Nat) (h_row : Nat) (h_exact : Nat) (h_error : Nat) (h_bestError : Nat) (h_m : Int64) (h_e : Int32) (h_digits : Nat) (h_whole : Int32) (h_digitsF : Nat → Int32) (iv_h_taped : 0 ≤ (h_taped : Int32).toInt ∧ (h_taped : Int32).toInt ≤ 260) (iv_h_size : 0 ≤ (h_size : Int32).toInt ∧ (h_size : Int32).toInt ≤ 255) (iv_h_value : inR h_value) (iv_h_out : 0 ≤ (h_out : Int32).toInt ∧ (h_out : Int32).toInt ≤ 1024) (iv_h_sections : 0 ≤ (h_sections : Int32).toInt ∧ (h_sections : Int32).toInt ≤ 4) (iv_h_items : 0 ≤ (h_items : Int32).toInt ∧ (h_items : Int32).toInt ≤ 255) (iv_h_reads : 0 ≤ (h_reads : Int32).toInt ∧ (h_reads : Int32).toInt ≤ 255) (iv_h_readSections : 0 ≤ (h_readSections : Int32).toInt ∧ (h_readSections : Int32).toInt ≤ 4) (iv_h_whole : 0 ≤ (h_whole : Int32).toInt ∧ (h_whole : Int32).toInt ≤ 1001) : Met l yX12_isNothing pw_X12_isNothing ({ frames := 0, cells := 0, slots := 0, locals := 0 }) (va_Pc [.ref h] (fun U => va_P D vwCl [(h, .inr (9, [.int h_code, .int h_taped, .ref h_tape, .int h_size, .ref h_text, .double h_value, .int h_out, .ref h_output, .int h_illAt, .ref h_format, .int h_sections, .int h_items, .ref h_kind, .ref h_what, .ref h_of, .ref h_relation, .ref h_bound, .int h_reads, .int h_readSections, .ref h_readKind, .ref h_readWhat, .ref h_readOf, .ref h_place, .ref h_readRelation, .ref h_readBound, .int h_stop, .ref h_meant, .ref h_row, .ref h_exact, .ref h_error, .ref h_bestError, .long h_m, .int h_e, .ref h_digits, .int h_whole])), (h_digits, .inl (cI, 1400, .inl h_digitsF))] U.heap ∧ va_K D vwCl (ty3 cI cD cJ) U)) (va_Qi (fun (r : Int32) (u : Unit) => (r.toInt = 0 ∨ r.toInt = 1)) (fun _ _ => True) (fun _ => False)) 0 0 (fun _ => False) := by
  refine Met.ofW (cc := cX12_isNothing) (maxL := 3) (ret := (some .boolean)) (by decide +kernel) rfl ?_
  intro p e s m args below meth c s₁ B hml hv
  obtain ⟨rfl, hP, hK⟩ := hv
  have hx := B.exec
  have hb := B.bytes
  have hr := B.returns
  have hts := atoms_spec (ws := pw_X12_isNothing) B.pre
  have hown : s.vm.findClass RX12 = some m.cls := findClass_of_methodNamed B.named
  have hlocks := B.notSynchronized
  have hS : va_S (fun _ => False) s.heap s.heap [] := va_S.rf
  have hw : ∀ (k : Nat) (w : Cond), ow_X12_isNothing[k]? = some w → w.before _ s = true := fun k w h => hts w (List.mem_cons_of_mem _ (have h9 := List.mem_of_getElem? h; List.mem_append_left _ h9))
  have iX12 : ∀ w ∈ u_ws RX12 TX12 35, w ∈ pw_X12_isNothing := fun w h9 => List.mem_cons_of_mem _ (List.mem_append_right _ (h9))
  have n_0 : ((0 : Int32)).toInt = 0 := by decide
  have n_1 : ((1 : Int32)).toInt = 1 := by decide
  have n_1400 : ((1400 : Int32)).toInt = 1400 := by decide
  have hl := lv_entry ([.ref h]) (n := 3) (Nat.le_of_ble_eq_true rfl)
  rw [lg_entry_eq]
  generalize (lg_sl ([.ref h]) ++ List.replicate (3 - (lg_sl ([.ref h])).length) Slot.unset).toArray = ls at hl ⊢
  have hl : lv_has ls 3 [(0, .ref h)] := hl
  refine zz_cap (fun Z hZ1 hZ2 => ?_)
  refine lv_iconst (v := 1) hx hb dX12_isNothing_0 (by decide) ?_
  refine lv_istore_n (lv' := [(1, .int 1), (0, .ref h)]) hx hb dX12_isNothing_1 rfl hl (by decide) rfl (fun ls hl => ?_)
  refine lv_iconst (v := 0) hx hb dX12_isNothing_2 (by decide) ?_
  refine lv_istore_n (lv' := [(2, .int 0), (1, .int 1), (0, .ref h)]) hx hb dX12_isNothing_3 rfl hl (by decide) rfl (fun ls hl => ?_)
  have L_4 : ∀ (N : Nat) (x_1 : Int32) (x_2 : Int32) (H : Heap) (locs : List Loc) (ls : Array Slot), (0 ≤ (x_1 : Int32).toInt) → ((x_2 : Int32).toInt = 0 ∨ (x_2 : Int32).toInt = 1) → ((2147483647 - (x_1 : Int32).toInt).toNat < N) → va_P D vwCl [(h, .inr (9, [.int h_code, .int h_taped, .ref h_tape, .int h_size, .ref h_text, .double h_value, .int h_out, .ref h_output, .int h_illAt, .ref h_format, .int h_sections, .int h_items, .ref h_kind, .ref h_what, .ref h_of, .ref h_relation, .ref h_bound, .int h_reads, .int h_readSections, .ref h_readKind, .ref h_readWhat, .ref h_readOf, .ref h_place, .ref h_readRelation, .ref h_readBound, .int h_stop, .ref h_meant, .ref h_row, .ref h_exact, .ref h_error, .ref h_bestError, .long h_m, .int h_e, .ref h_digits, .int h_whole])), (h_digits, .inl (cI, 1400, .inl h_digitsF))] H → va_S (fun _ => False) s.heap H locs → lv_has ls 3 [(2, .int x_1), (1, .int x_2), (0, .ref h)] → Z 0 0 H locs (F0 m 4 ls []) := by
    intro N
    induction N with
    | zero => intro _ _ _ _ _ _ _ hmu; exact absurd hmu (Nat.not_lt_zero _)
    | succ N ih_4 =>
      intro x_1 x_2 H locs ls g4_0 g4_1 hmu hP hS hl
      refine hZ2 ?_
      refine lv_iload_n hx hb dX12_isNothing_4 rfl (lv_at hl 0 rfl) ?_
      refine lv_sipush (v := 1400) hx hb dX12_isNothing_5 (by decide) ?_
      refine lv_icmp_ge (tgt := 36) hx hb dX12_isNothing_8 (by decide) (fun c_3 => ?_) (fun c_3 => ?_)
      · have ic_3 : (1400 : Int32).toInt ≤ (x_1 : Int32).toInt := (fa_le 1400 x_1).mp c_3
        refine lv_iload_n hx hb dX12_isNothing_36 rfl (lv_at hl 1 rfl) ?_
        exact W.zret (v := x_2) hx hb hr (nz01 (by omega)) (fun t ht hW => ⟨⟨x_2, (), rfl, (by (try dsimp only); first | omega | assumption), trivial⟩, hS.F ht⟩) hS.2.2 dX12_isNothing_37
      · have ic_3 : ¬ ((1400 : Int32).toInt ≤ (x_1 : Int32).toInt) := fun h9 => c_3 ((fa_le 1400 x_1).mpr h9)
        refine lv_iload_n hx hb dX12_isNothing_11 rfl (lv_at hl 1 rfl) ?_
        have K_29 : ∀ (z_4 : Int32) (H : Heap) (locs : List Loc) (ls : Array Slot), ((z_4 : Int32).toInt = 0 ∨ (z_4 : Int32).toInt = 1) → va_P D vwCl [(h, .inr (9, [.int h_code, .int h_taped, .ref h_tape, .int h_size, .ref h_text, .double h_value, .int h_out, .ref h_output, .int h_illAt, .ref h_format, .int h_sections, .int h_items, .ref h_kind, .ref h_what, .ref h_of, .ref h_relation, .ref h_bound, .int h_reads, .int h_readSections, .ref h_readKind, .ref h_readWhat, .ref h_readOf, .ref h_place, .ref h_readRelation, .ref h_readBound, .int h_stop, .ref h_meant, .ref h_row, .ref h_exact, .ref h_error, .ref h_bestError, .long h_m, .int h_e, .ref h_digits, .int h_whole])), (h_digits, .inl (cI, 1400, .inl h_digitsF))] H → va_S (fun _ => False) s.heap H locs → lv_has ls 3 [(2, .int x_1), (0, .ref h)] → Z 0 0 H locs (F0 m 29 ls [.int z_4]) := by
          intro z_4 H locs ls g29_0 hP hS hl
          refine hZ2 ?_
          refine lv_istore_n (lv' := [(1, .int z_4), (2, .int x_1), (0, .ref h)]) hx hb dX12_isNothing_29 rfl hl (by decide) rfl (fun ls hl => ?_)
          obtain ⟨x_5, ex_5⟩ : ∃ y : Int32, y = x_1 + 1 := ⟨_, rfl⟩
          have b_x_1 := ti_b x_1
          have tx_5 := ti_add ex_5
          refine lv_iinc (v := x_5) (lv' := [(2, .int x_5), (1, .int z_4), (0, .ref h)]) hx hb dX12_isNothing_30 hl (k := 1) rfl (by rw [ex_5]; rfl) (by decide) rfl (fun ls hl => ?_)
          refine lv_goto (tgt := 4) hx hb dX12_isNothing_33 (by decide) ?_
          exact hZ1 (ih_4 x_5 z_4 _ _ _ (by omega) (by omega) (by omega) hP hS hl)
        have K_28 : ∀ (H : Heap) (locs : List Loc) (ls : Array Slot), va_P D vwCl [(h, .inr (9, [.int h_code, .int h_taped, .ref h_tape, .int h_size, .ref h_text, .double h_value, .int h_out, .ref h_output, .int h_illAt, .ref h_format, .int h_sections, .int h_items, .ref h_kind, .ref h_what, .ref h_of, .ref h_relation, .ref h_bound, .int h_reads, .int h_readSections, .ref h_readKind, .ref h_readWhat, .ref h_readOf, .ref h_place, .ref h_readRelation, .ref h_readBound, .int h_stop, .ref h_meant, .ref h_row, .ref h_exact, .ref h_error, .ref h_bestError, .long h_m, .int h_e, .ref h_digits, .int h_whole])), (h_digits, .inl (cI, 1400, .inl h_digitsF))] H → va_S (fun _ => False) s.heap H locs → lv_has ls 3 [(2, .int x_1), (0, .ref h)] → Z 0 0 H locs (F0 m 28 ls []) := by
          intro  H locs ls  hP hS hl
          refine hZ2 ?_
          refine lv_iconst (v := 0) hx hb dX12_isNothing_28 (by decide) ?_
          exact hZ1 (K_29 0 _ _ _ (by omega) hP hS hl)
        refine lv_if_eq (tgt := 28) hx hb dX12_isNothing_12 (by decide) (fun c_6 => ?_) (fun c_6 => ?_)
        · have ic_6 : (x_2 : Int32).toInt = (0 : Int32).toInt := (fa_eq x_2 0).mp c_6
          exact hZ1 (K_28  _ _ _ hP hS (lv_sub hl [0, 2] rfl))
        · have ic_6 : ¬ ((x_2 : Int32).toInt = (0 : Int32).toInt) := fun h9 => c_6 ((fa_eq x_2 0).mpr h9)
          refine lv_aload_n hx hb dX12_isNothing_15 rfl (lv_at hl 2 rfl) ?_
          refine va_get (D := D) (ci := 9) (v := .ref h_digits) (C := RX12) (T := TX12) (N := 35) hx hb hts iX12 hown hK hP 0 rfl rfl 33 (by decide) (hw 0 (.fieldLink RX12 75 "NumberFormatsModel" "digits" "[I") rfl) (fun _ h9 => h9) rfl dX12_isNothing_16 ?_
          refine lv_iload_n hx hb dX12_isNothing_19 rfl (lv_at hl 0 rfl) ?_
          have h_20 : vp_in x_1 1400 := by rw [vp_in_iff]; omega
          refine va_iald hx hb hK hP 1 0 rfl rfl h_20 dX12_isNothing_20 ?_
          refine lv_topi (fun x_7 ex_7 => ?_)
          refine lv_if_ne (tgt := 28) hx hb dX12_isNothing_21 (by decide) (fun c_8 => ?_) (fun c_8 => ?_)
          · have ic_8 : ¬ ((x_7 : Int32).toInt = (0 : Int32).toInt) := fun h9 => c_8 ((fa_eq x_7 0).mpr h9)
            exact hZ1 (K_28  _ _ _ hP hS (lv_sub hl [0, 2] rfl))
          · have ic_8 : (x_7 : Int32).toInt = (0 : Int32).toInt := (fa_eq x_7 0).mp c_8
            refine lv_iconst (v := 1) hx hb dX12_isNothing_24 (by decide) ?_
            refine lv_goto (tgt := 29) hx hb dX12_isNothing_25 (by decide) ?_
            exact hZ1 (K_29 1 _ _ _ (by omega) hP hS (lv_sub hl [0, 2] rfl))
  exact hZ1 (L_4 (((2147483647 - (0 : Int32).toInt).toNat) + 1) 0 1 _ _ _ (by omega) (by omega) (by omega) hP hS hl)

def ow_X12_writeDigit : List Cond := [Cond.fieldLink RX12 75 "NumberFormatsModel" "digits" "[I", Cond.methodLink RX12 278 yX12_write, Cond.instanceMethod yX12_write, Cond.selects RX12 yX12_write yX12_write, Cond.initialized RX12]
def pw_X12_writeDigit : List Cond := Cond.code yX12_writeDigit cX12_writeDigit 3 none :: (ow_X12_writeDigit ++ (pw_X12_write ++ (wsX120)))
set_option maxRecDepth 20000 in
theorem mo_X12_writeDigit : ∀ w ∈ ow_X12_writeDigit, w ∈ lw_tbl := by decide +kernel
set_option maxRecDepth 20000 in
theorem mc_X12_writeDigit : Cond.code yX12_writeDigit cX12_writeDigit 3 none ∈ lw_tbl := by decide +kernel
theorem m_X12_writeDigit : ∀ w ∈ pw_X12_writeDigit, w ∈ lw_tbl := List.forall_mem_cons.mpr ⟨mc_X12_writeDigit, (List.forall_mem_append.mpr ⟨mo_X12_writeDigit, (List.forall_mem_append.mpr ⟨m_X12_write, inX12⟩)⟩)⟩
theorem ko_X12_writeDigit : ∀ w ∈ ow_X12_writeDigit, goodWord w = true := by decide +kernel
theorem k_X12_writeDigit : pw_X12_writeDigit.all goodWord = true := List.all_eq_true.mpr (List.forall_mem_cons.mpr ⟨by decide +kernel, (List.forall_mem_append.mpr ⟨ko_X12_writeDigit, (List.forall_mem_append.mpr ⟨(List.all_eq_true.mp k_X12_write), kX_X12⟩)⟩)⟩)
set_option maxHeartbeats 400000 in
set_option maxRecDepth 100000 in
theorem c_X12_writeDigit (l : Launch) (D : va_G) (cI cD cJ : ClassId) (sz : Nat) (h : Nat) (h_code : Int32) (h_taped : Int32) (h_tape : Nat) (h_size : Int32) (h_text : Nat) (h_value : UInt64) (h_out : Int32) (h_output : Nat) (h_illAt : Int32) (h_format : Nat) (h_sections : Int32) (h_items : Int32) (h_kind : Nat) (h_what : Nat) (h_of : Nat) (h_relation : Nat) (h_bound : Nat) (h_reads : Int32) (h_readSections : Int32) (h_readKind : Nat) (h_readWhat : Nat) (h_readOf : Nat) (h_place : Nat) (h_readRelation : Nat) (h_readBound : Nat) (h_stop : Int32) (h_meant : Nat) (h_row : Nat) (h_exact : Nat) (h_error : Nat) (h_bestError : Nat) (h_m : Int64) (h_e : Int32) (h_digits : Nat) (h_whole : Int32) (h_outputF : Nat → Int32) (h_digitsF : Nat → Int32) (p1 : Int32) (p2 : Int32) (hb_p2 : p2.toInt = 0 ∨ p2.toInt = 1) (hh0 : -390 ≤ p1.toInt) (hh1 : p1.toInt ≤ 1000) (iv_h_taped : 0 ≤ (h_taped : Int32).toInt ∧ (h_taped : Int32).toInt ≤ 260) (iv_h_size : 0 ≤ (h_size : Int32).toInt ∧ (h_size : Int32).toInt ≤ 255) (iv_h_value : inR h_value) (iv_h_out : 0 ≤ (h_out : Int32).toInt ∧ (h_out : Int32).toInt ≤ 1024) (iv_h_sections : 0 ≤ (h_sections : Int32).toInt ∧ (h_sections : Int32).toInt ≤ 4) (iv_h_items : 0 ≤ (h_items : Int32).toInt ∧ (h_items : Int32).toInt ≤ 255) (iv_h_reads : 0 ≤ (h_reads : Int32).toInt ∧ (h_reads : Int32).toInt ≤ 255) (iv_h_readSections : 0 ≤ (h_readSections : Int32).toInt ∧ (h_readSections : Int32).toInt ≤ 4) (iv_h_whole : 0 ≤ (h_whole : Int32).toInt ∧ (h_whole : Int32).toInt ≤ 1001) : Met l yX12_writeDigit pw_X12_writeDigit ({ frames := 1, cells := 0, slots := 0, locals := 21 }) (va_Pc [.ref h, .int p1, .int p2] (fun U => U.heap.size = sz ∧ va_P D vwCl [(h, .inr (9, [.int h_code, .int h_taped, .ref h_tape, .int h_size, .ref h_text, .double h_value, .int h_out, .ref h_output, .int h_illAt, .ref h_format, .int h_sections, .int h_items, .ref h_kind, .ref h_what, .ref h_of, .ref h_relation, .ref h_bound, .int h_reads, .int h_readSections, .ref h_readKind, .ref h_readWhat, .ref h_readOf, .ref h_place, .ref h_readRelation, .ref h_readBound, .int h_stop, .ref h_meant, .ref h_row, .ref h_exact, .ref h_error, .ref h_bestError, .long h_m, .int h_e, .ref h_digits, .int h_whole])), (h_output, .inl (cI, 1024, .inl h_outputF)), (h_digits, .inl (cI, 1400, .inl h_digitsF))] U.heap ∧ va_K D vwCl (ty3 cI cD cJ) U ∧ va_D (fun _ => True) [(h, .inr (9, [.int h_code, .int h_taped, .ref h_tape, .int h_size, .ref h_text, .double h_value, .int h_out, .ref h_output, .int h_illAt, .ref h_format, .int h_sections, .int h_items, .ref h_kind, .ref h_what, .ref h_of, .ref h_relation, .ref h_bound, .int h_reads, .int h_readSections, .ref h_readKind, .ref h_readWhat, .ref h_readOf, .ref h_place, .ref h_readRelation, .ref h_readBound, .int h_stop, .ref h_meant, .ref h_row, .ref h_exact, .ref h_error, .ref h_bestError, .long h_m, .int h_e, .ref h_digits, .int h_whole])), (h_output, .inl (cI, 1024, .inl h_outputF)), (h_digits, .inl (cI, 1400, .inl h_digitsF))])) (va_Qv (fun (u : Int32 × (Nat → Int32)) => match u with | (h_out2, h_outputF2) => (0 ≤ (h_out2 : Int32).toInt ∧ (h_out2 : Int32).toInt ≤ 1024)) (fun (u : Int32 × (Nat → Int32)) (t : State) => match u with | (h_out2, h_outputF2) => va_P D vwCl [(h, .inr (9, [.int h_code, .int h_taped, .ref h_tape, .int h_size, .ref h_text, .double h_value, .int h_out2, .ref h_output, .int h_illAt, .ref h_format, .int h_sections, .int h_items, .ref h_kind, .ref h_what, .ref h_of, .ref h_relation, .ref h_bound, .int h_reads, .int h_readSections, .ref h_readKind, .ref h_readWhat, .ref h_readOf, .ref h_place, .ref h_readRelation, .ref h_readBound, .int h_stop, .ref h_meant, .ref h_row, .ref h_exact, .ref h_error, .ref h_bestError, .long h_m, .int h_e, .ref h_digits, .int h_whole])), (h_output, .inl (cI, 1024, .inl h_outputF2)), (h_digits, .inl (cI, 1400, .inl h_digitsF))] t.heap ∧ va_K D vwCl (ty3 cI cD cJ) t ∧ va_D (va_A [(h, .inr (9, [.int h_code, .int h_taped, .ref h_tape, .int h_size, .ref h_text, .double h_value, .int h_out, .ref h_output, .int h_illAt, .ref h_format, .int h_sections, .int h_items, .ref h_kind, .ref h_what, .ref h_of, .ref h_relation, .ref h_bound, .int h_reads, .int h_readSections, .ref h_readKind, .ref h_readWhat, .ref h_readOf, .ref h_place, .ref h_readRelation, .ref h_readBound, .int h_stop, .ref h_meant, .ref h_row, .ref h_exact, .ref h_error, .ref h_bestError, .long h_m, .int h_e, .ref h_digits, .int h_whole])), (h_output, .inl (cI, 1024, .inl h_outputF)), (h_digits, .inl (cI, 1400, .inl h_digitsF))] sz) [(h, .inr (9, [.int h_code, .int h_taped, .ref h_tape, .int h_size, .ref h_text, .double h_value, .int h_out2, .ref h_output, .int h_illAt, .ref h_format, .int h_sections, .int h_items, .ref h_kind, .ref h_what, .ref h_of, .ref h_relation, .ref h_bound, .int h_reads, .int h_readSections, .ref h_readKind, .ref h_readWhat, .ref h_readOf, .ref h_place, .ref h_readRelation, .ref h_readBound, .int h_stop, .ref h_meant, .ref h_row, .ref h_exact, .ref h_error, .ref h_bestError, .long h_m, .int h_e, .ref h_digits, .int h_whole])), (h_output, .inl (cI, 1024, .inl h_outputF2)), (h_digits, .inl (cI, 1400, .inl h_digitsF))]) (va_A [(h, .inr (9, [.int h_code, .int h_taped, .ref h_tape, .int h_size, .ref h_text, .double h_value, .int h_out, .ref h_output, .int h_illAt, .ref h_format, .int h_sections, .int h_items, .ref h_kind, .ref h_what, .ref h_of, .ref h_relation, .ref h_bound, .int h_reads, .int h_readSections, .ref h_readKind, .ref h_readWhat, .ref h_readOf, .ref h_place, .ref h_readRelation, .ref h_readBound, .int h_stop, .ref h_meant, .ref h_row, .ref h_exact, .ref h_error, .ref h_bestError, .long h_m, .int h_e, .ref h_digits, .int h_whole])), (h_output, .inl (cI, 1024, .inl h_outputF)), (h_digits, .inl (cI, 1400, .inl h_digitsF))] sz)) 0 0 (va_A [(h, .inr (9, [.int h_code, .int h_taped, .ref h_tape, .int h_size, .ref h_text, .double h_value, .int h_out, .ref h_output, .int h_illAt, .ref h_format, .int h_sections, .int h_items, .ref h_kind, .ref h_what, .ref h_of, .ref h_relation, .ref h_bound, .int h_reads, .int h_readSections, .ref h_readKind, .ref h_readWhat, .ref h_readOf, .ref h_place, .ref h_readRelation, .ref h_readBound, .int h_stop, .ref h_meant, .ref h_row, .ref h_exact, .ref h_error, .ref h_bestError, .long h_m, .int h_e, .ref h_digits, .int h_whole])), (h_output, .inl (cI, 1024, .inl h_outputF)), (h_digits, .inl (cI, 1400, .inl h_digitsF))] sz) := by
  refine Met.ofW (cc := cX12_writeDigit) (maxL := 3) (ret := none) (by decide +kernel) rfl ?_
  intro p e s m args below meth c s₁ B hml hv
  obtain ⟨rfl, hsz, hP, hK, hD0⟩ := hv
  have hx := B.exec
  have hb := B.bytes
  have hr := B.returns
  have hts := atoms_spec (ws := pw_X12_writeDigit) B.pre
  have hown : s.vm.findClass RX12 = some m.cls := findClass_of_methodNamed B.named
  have hlocks := B.notSynchronized
  subst hsz
  have hD := hD0.self (sz := s.heap.size)
  generalize hAe : va_A [(h, .inr (9, [.int h_code, .int h_taped, .ref h_tape, .int h_size, .ref h_text, .double h_value, .int h_out, .ref h_output, .int h_illAt, .ref h_format, .int h_sections, .int h_items, .ref h_kind, .ref h_what, .ref h_of, .ref h_relation, .ref h_bound, .int h_reads, .int h_readSections, .ref h_readKind, .ref h_readWhat, .ref h_readOf, .ref h_place, .ref h_readRelation, .ref h_readBound, .int h_stop, .ref h_meant, .ref h_row, .ref h_exact, .ref h_error, .ref h_bestError, .long h_m, .int h_e, .ref h_digits, .int h_whole])), (h_output, .inl (cI, 1024, .inl h_outputF)), (h_digits, .inl (cI, 1400, .inl h_digitsF))] s.heap.size = A at hD ⊢
  have hA : ∀ q : Nat, s.heap.size ≤ q → A q := fun q h => by rw [← hAe]; exact Or.inr h
  have hS : va_S A s.heap s.heap [] := va_S.rf
  have hw : ∀ (k : Nat) (w : Cond), ow_X12_writeDigit[k]? = some w → w.before _ s = true := fun k w h => hts w (List.mem_cons_of_mem _ (have h9 := List.mem_of_getElem? h; List.mem_append_left _ h9))
  have i_X12_write : ∀ w ∈ pw_X12_write, w ∈ pw_X12_writeDigit := fun w h9 => List.mem_cons_of_mem _ (List.mem_append_right _ (List.mem_append_left _ h9))
  have iX12 : ∀ w ∈ u_ws RX12 TX12 35, w ∈ pw_X12_writeDigit := fun w h9 => List.mem_cons_of_mem _ (List.mem_append_right _ (List.mem_append_right _ (h9)))
  have n_0 : ((0 : Int32)).toInt = 0 := by decide
  have n_1000 : ((1000 : Int32)).toInt = 1000 := by decide
  have n_3 : ((3 : Int32)).toInt = 3 := by decide
  have n_44 : ((44 : Int32)).toInt = 44 := by decide
  have n_48 : ((48 : Int32)).toInt = 48 := by decide
  have hl := lv_entry ([.ref h, .int p1, .int p2]) (n := 3) (Nat.le_of_ble_eq_true rfl)
  rw [lg_entry_eq]
  generalize (lg_sl ([.ref h, .int p1, .int p2]) ++ List.replicate (3 - (lg_sl ([.ref h, .int p1, .int p2])).length) Slot.unset).toArray = ls at hl ⊢
  have hl : lv_has ls 3 [(0, .ref h), (1, .int p1), (2, .int p2)] := hl
  have b_p1 := ti_b p1
  have b_p2 := ti_b p2
  refine lv_aload_n hx hb dX12_writeDigit_0 rfl (lv_at hl 0 rfl) ?_
  refine lv_bipush (v := 48) hx hb dX12_writeDigit_1 (by decide) ?_
  refine lv_aload_n hx hb dX12_writeDigit_3 rfl (lv_at hl 0 rfl) ?_
  refine va_get (D := D) (ci := 9) (v := .ref h_digits) (C := RX12) (T := TX12) (N := 35) hx hb hts iX12 hown hK hP 0 rfl rfl 33 (by decide) (hw 0 (.fieldLink RX12 75 "NumberFormatsModel" "digits" "[I") rfl) (fun _ h9 => h9) rfl dX12_writeDigit_4 ?_
  refine lv_sipush (v := 1000) hx hb dX12_writeDigit_7 (by decide) ?_
  refine lv_iload_n hx hb dX12_writeDigit_10 rfl (lv_at hl 1 rfl) ?_
  refine lv_isub hx hb dX12_writeDigit_11 ?_
  refine lv_topi (fun x_1 ex_1 => ?_)
  have b_p1 := ti_b p1
  have tx_1 := ti_sub ex_1
  have h_12 : vp_in x_1 1400 := by rw [vp_in_iff]; omega
  refine va_iald hx hb hK hP 2 0 rfl rfl h_12 dX12_writeDigit_12 ?_
  refine lv_topi (fun x_2 ex_2 => ?_)
  refine lv_iadd hx hb dX12_writeDigit_13 ?_
  refine lv_topi (fun x_3 ex_3 => ?_)
  have b_x_2 := ti_b x_2
  have tx_3 := ti_add ex_3
  have hPc := hP.sub (ws' := [(h, .inr (9, [.int h_code, .int h_taped, .ref h_tape, .int h_size, .ref h_text, .double h_value, .int h_out, .ref h_output, .int h_illAt, .ref h_format, .int h_sections, .int h_items, .ref h_kind, .ref h_what, .ref h_of, .ref h_relation, .ref h_bound, .int h_reads, .int h_readSections, .ref h_readKind, .ref h_readWhat, .ref h_readOf, .ref h_place, .ref h_readRelation, .ref h_readBound, .int h_stop, .ref h_meant, .ref h_row, .ref h_exact, .ref h_error, .ref h_bestError, .long h_m, .int h_e, .ref h_digits, .int h_whole])), (h_output, .inl (cI, 1024, .inl h_outputF))]) [0, 1] rfl
  have hDc := hD.sub (ws' := [(h, .inr (9, [.int h_code, .int h_taped, .ref h_tape, .int h_size, .ref h_text, .double h_value, .int h_out, .ref h_output, .int h_illAt, .ref h_format, .int h_sections, .int h_items, .ref h_kind, .ref h_what, .ref h_of, .ref h_relation, .ref h_bound, .int h_reads, .int h_readSections, .ref h_readKind, .ref h_readWhat, .ref h_readOf, .ref h_place, .ref h_readRelation, .ref h_readBound, .int h_stop, .ref h_meant, .ref h_row, .ref h_exact, .ref h_error, .ref h_bestError, .long h_m, .int h_e, .ref h_digits, .int h_whole])), (h_output, .inl (cI, 1024, .inl h_outputF))]) [0, 1] (by decide) rfl
  have hFc := va_free (wc := [(h, .inr (9, [.int h_code, .int h_taped, .ref h_tape, .int h_size, .ref h_text, .double h_value, .int h_out, .ref h_output, .int h_illAt, .ref h_format, .int h_sections, .int h_items, .ref h_kind, .ref h_what, .ref h_of, .ref h_relation, .ref h_bound, .int h_reads, .int h_readSections, .ref h_readKind, .ref h_readWhat, .ref h_readOf, .ref h_place, .ref h_readRelation, .ref h_readBound, .int h_stop, .ref h_meant, .ref h_row, .ref h_exact, .ref h_error, .ref h_bestError, .long h_m, .int h_e, .ref h_digits, .int h_whole])), (h_output, .inl (cI, 1024, .inl h_outputF))]) hD hS hA [0, 1] rfl
  refine va_callv (va_runV (As := [.int x_3]) (rest := []) ⟨hx, hb, hml, hown, hts⟩ (c_X12_write l D cI cD cJ s.heap.size h h_code h_taped h_tape h_size h_text h_value h_out h_output h_illAt h_format h_sections h_items h_kind h_what h_of h_relation h_bound h_reads h_readSections h_readKind h_readWhat h_readOf h_place h_readRelation h_readBound h_stop h_meant h_row h_exact h_error h_bestError h_m h_e h_digits h_whole h_outputF x_3 (by omega) (by omega) (by assumption) (by omega) (by omega) (by omega) (by omega) (by omega) (by omega)) (cwV 1 hts (goodIn_app (goodIn_r _ [2, 3, 4, 5] rfl (by decide +kernel)) (goodIn_sub i_X12_write k_X12_write)) rfl rfl rfl (by decide +kernel) ⟨Nat.le_of_ble_eq_true rfl, Nat.le_of_ble_eq_true rfl⟩) ⟨fun a U g mk q => by obtain ⟨q0, q1, qP, qK, qD⟩ := q; exact ⟨q0, q1, qP, va_K.moved (u := U) (U := U.calling g mk a) (Vm.Alike.refl U.vm) qK, qD⟩, va_recv hK hPc (ci := 9) (q0 := 0) rfl rfl, fun U hU hW => ⟨rfl, by rw [hU], by rw [hU]; exact hPc, va_K.moved hW.alike hK, hDc.weaken (fun _ _ _ _ => trivial)⟩⟩ rfl rfl hl.1 rfl (lv_room (Nat.le_of_ble_eq_true rfl)) dX12_writeDigit_14 ⟨Nat.le_of_ble_eq_true rfl, Nat.le_of_ble_eq_true rfl⟩) hS (fun q _ h => hFc q h) hFc (fun u t H1 locs ht hvm w_4 hB hz1 hk1 hS => ?_)
  obtain ⟨u_5, u_6⟩ := u
  obtain ⟨hP1, hK1, hD1⟩ := hB
  rw [ht] at hP1
  try dsimp only at w_4
  obtain ⟨hP, hD⟩ := va_join (wr := [(h_digits, .inl (cI, 1400, .inl h_digitsF))]) (w1 := [(h, .inr (9, [.int h_code, .int h_taped, .ref h_tape, .int h_size, .ref h_text, .double h_value, .int u_5, .ref h_output, .int h_illAt, .ref h_format, .int h_sections, .int h_items, .ref h_kind, .ref h_what, .ref h_of, .ref h_relation, .ref h_bound, .int h_reads, .int h_readSections, .ref h_readKind, .ref h_readWhat, .ref h_readOf, .ref h_place, .ref h_readRelation, .ref h_readBound, .int h_stop, .ref h_meant, .ref h_row, .ref h_exact, .ref h_error, .ref h_bestError, .long h_m, .int h_e, .ref h_digits, .int h_whole])), (h_output, .inl (cI, 1024, .inl u_6))]) hP hD [0, 1] [2] rfl rfl (by decide) (by decide) hk1 hFc hP1 hD1
  generalize H1 = H at hP hS ⊢
  have hP : va_P D vwCl [(h_digits, .inl (cI, 1400, .inl h_digitsF)), (h, .inr (9, [.int h_code, .int h_taped, .ref h_tape, .int h_size, .ref h_text, .double h_value, .int u_5, .ref h_output, .int h_illAt, .ref h_format, .int h_sections, .int h_items, .ref h_kind, .ref h_what, .ref h_of, .ref h_relation, .ref h_bound, .int h_reads, .int h_readSections, .ref h_readKind, .ref h_readWhat, .ref h_readOf, .ref h_place, .ref h_readRelation, .ref h_readBound, .int h_stop, .ref h_meant, .ref h_row, .ref h_exact, .ref h_error, .ref h_bestError, .long h_m, .int h_e, .ref h_digits, .int h_whole])), (h_output, .inl (cI, 1024, .inl u_6))] H := hP
  have hD : va_D A [(h_digits, .inl (cI, 1400, .inl h_digitsF)), (h, .inr (9, [.int h_code, .int h_taped, .ref h_tape, .int h_size, .ref h_text, .double h_value, .int u_5, .ref h_output, .int h_illAt, .ref h_format, .int h_sections, .int h_items, .ref h_kind, .ref h_what, .ref h_of, .ref h_relation, .ref h_bound, .int h_reads, .int h_readSections, .ref h_readKind, .ref h_readWhat, .ref h_readOf, .ref h_place, .ref h_readRelation, .ref h_readBound, .int h_stop, .ref h_meant, .ref h_row, .ref h_exact, .ref h_error, .ref h_bestError, .long h_m, .int h_e, .ref h_digits, .int h_whole])), (h_output, .inl (cI, 1024, .inl u_6))] := hD
  refine lv_iload_n hx hb dX12_writeDigit_17 rfl (lv_at hl 2 rfl) ?_
  refine lv_if_eq (tgt := 37) hx hb dX12_writeDigit_18 (by decide) (fun c_7 => ?_) (fun c_7 => ?_)
  · have ic_7 : (p2 : Int32).toInt = (0 : Int32).toInt := (fa_eq p2 0).mp c_7
    have hP9 := hP.sub (ws' := [(h, .inr (9, [.int h_code, .int h_taped, .ref h_tape, .int h_size, .ref h_text, .double h_value, .int u_5, .ref h_output, .int h_illAt, .ref h_format, .int h_sections, .int h_items, .ref h_kind, .ref h_what, .ref h_of, .ref h_relation, .ref h_bound, .int h_reads, .int h_readSections, .ref h_readKind, .ref h_readWhat, .ref h_readOf, .ref h_place, .ref h_readRelation, .ref h_readBound, .int h_stop, .ref h_meant, .ref h_row, .ref h_exact, .ref h_error, .ref h_bestError, .long h_m, .int h_e, .ref h_digits, .int h_whole])), (h_output, .inl (cI, 1024, .inl u_6)), (h_digits, .inl (cI, 1400, .inl h_digitsF))]) [1, 2, 0] rfl
    have hD9 := hD.sub (ws' := [(h, .inr (9, [.int h_code, .int h_taped, .ref h_tape, .int h_size, .ref h_text, .double h_value, .int u_5, .ref h_output, .int h_illAt, .ref h_format, .int h_sections, .int h_items, .ref h_kind, .ref h_what, .ref h_of, .ref h_relation, .ref h_bound, .int h_reads, .int h_readSections, .ref h_readKind, .ref h_readWhat, .ref h_readOf, .ref h_place, .ref h_readRelation, .ref h_readBound, .int h_stop, .ref h_meant, .ref h_row, .ref h_exact, .ref h_error, .ref h_bestError, .long h_m, .int h_e, .ref h_digits, .int h_whole])), (h_output, .inl (cI, 1024, .inl u_6)), (h_digits, .inl (cI, 1400, .inl h_digitsF))]) [1, 2, 0] (by decide) rfl
    exact W.vret hx hb hr (fun t ht hW => ⟨⟨(u_5, u_6), rfl, (by (try dsimp only); first | omega | assumption), by rw [ht]; exact hP9, va_K.moved hW.alike hK, hD9⟩, hS.F ht⟩) hS.2.2 dX12_writeDigit_37
  · have ic_7 : ¬ ((p2 : Int32).toInt = (0 : Int32).toInt) := fun h9 => c_7 ((fa_eq p2 0).mpr h9)
    refine lv_iload_n hx hb dX12_writeDigit_21 rfl (lv_at hl 1 rfl) ?_
    refine lv_if_le (tgt := 37) hx hb dX12_writeDigit_22 (by decide) (fun c_8 => ?_) (fun c_8 => ?_)
    · have ic_8 : (p1 : Int32).toInt ≤ (0 : Int32).toInt := (fa_le p1 0).mp c_8
      have hP9 := hP.sub (ws' := [(h, .inr (9, [.int h_code, .int h_taped, .ref h_tape, .int h_size, .ref h_text, .double h_value, .int u_5, .ref h_output, .int h_illAt, .ref h_format, .int h_sections, .int h_items, .ref h_kind, .ref h_what, .ref h_of, .ref h_relation, .ref h_bound, .int h_reads, .int h_readSections, .ref h_readKind, .ref h_readWhat, .ref h_readOf, .ref h_place, .ref h_readRelation, .ref h_readBound, .int h_stop, .ref h_meant, .ref h_row, .ref h_exact, .ref h_error, .ref h_bestError, .long h_m, .int h_e, .ref h_digits, .int h_whole])), (h_output, .inl (cI, 1024, .inl u_6)), (h_digits, .inl (cI, 1400, .inl h_digitsF))]) [1, 2, 0] rfl
      have hD9 := hD.sub (ws' := [(h, .inr (9, [.int h_code, .int h_taped, .ref h_tape, .int h_size, .ref h_text, .double h_value, .int u_5, .ref h_output, .int h_illAt, .ref h_format, .int h_sections, .int h_items, .ref h_kind, .ref h_what, .ref h_of, .ref h_relation, .ref h_bound, .int h_reads, .int h_readSections, .ref h_readKind, .ref h_readWhat, .ref h_readOf, .ref h_place, .ref h_readRelation, .ref h_readBound, .int h_stop, .ref h_meant, .ref h_row, .ref h_exact, .ref h_error, .ref h_bestError, .long h_m, .int h_e, .ref h_digits, .int h_whole])), (h_output, .inl (cI, 1024, .inl u_6)), (h_digits, .inl (cI, 1400, .inl h_digitsF))]) [1, 2, 0] (by decide) rfl
      exact W.vret hx hb hr (fun t ht hW => ⟨⟨(u_5, u_6), rfl, (by (try dsimp only); first | omega | assumption), by rw [ht]; exact hP9, va_K.moved hW.alike hK, hD9⟩, hS.F ht⟩) hS.2.2 dX12_writeDigit_37
    · have ic_8 : ¬ ((p1 : Int32).toInt ≤ (0 : Int32).toInt) := fun h9 => c_8 ((fa_le p1 0).mpr h9)
      refine lv_iload_n hx hb dX12_writeDigit_25 rfl (lv_at hl 1 rfl) ?_
      refine lv_iconst (v := 3) hx hb dX12_writeDigit_26 (by decide) ?_
      refine lv_irem hx hb dX12_writeDigit_27 (by decide) ?_
      refine lv_topi (fun x_9 ex_9 => ?_)
      have tx_9 := ti_rem ex_9 (by decide)
      rw [n_3] at tx_9
      try (have ux_9 := ti_remE ex_9 (by decide) (by omega); rw [n_3] at ux_9)
      refine lv_if_ne (tgt := 37) hx hb dX12_writeDigit_28 (by decide) (fun c_10 => ?_) (fun c_10 => ?_)
      · have ic_10 : ¬ ((x_9 : Int32).toInt = (0 : Int32).toInt) := fun h9 => c_10 ((fa_eq x_9 0).mpr h9)
        have hP9 := hP.sub (ws' := [(h, .inr (9, [.int h_code, .int h_taped, .ref h_tape, .int h_size, .ref h_text, .double h_value, .int u_5, .ref h_output, .int h_illAt, .ref h_format, .int h_sections, .int h_items, .ref h_kind, .ref h_what, .ref h_of, .ref h_relation, .ref h_bound, .int h_reads, .int h_readSections, .ref h_readKind, .ref h_readWhat, .ref h_readOf, .ref h_place, .ref h_readRelation, .ref h_readBound, .int h_stop, .ref h_meant, .ref h_row, .ref h_exact, .ref h_error, .ref h_bestError, .long h_m, .int h_e, .ref h_digits, .int h_whole])), (h_output, .inl (cI, 1024, .inl u_6)), (h_digits, .inl (cI, 1400, .inl h_digitsF))]) [1, 2, 0] rfl
        have hD9 := hD.sub (ws' := [(h, .inr (9, [.int h_code, .int h_taped, .ref h_tape, .int h_size, .ref h_text, .double h_value, .int u_5, .ref h_output, .int h_illAt, .ref h_format, .int h_sections, .int h_items, .ref h_kind, .ref h_what, .ref h_of, .ref h_relation, .ref h_bound, .int h_reads, .int h_readSections, .ref h_readKind, .ref h_readWhat, .ref h_readOf, .ref h_place, .ref h_readRelation, .ref h_readBound, .int h_stop, .ref h_meant, .ref h_row, .ref h_exact, .ref h_error, .ref h_bestError, .long h_m, .int h_e, .ref h_digits, .int h_whole])), (h_output, .inl (cI, 1024, .inl u_6)), (h_digits, .inl (cI, 1400, .inl h_digitsF))]) [1, 2, 0] (by decide) rfl
        exact W.vret hx hb hr (fun t ht hW => ⟨⟨(u_5, u_6), rfl, (by (try dsimp only); first | omega | assumption), by rw [ht]; exact hP9, va_K.moved hW.alike hK, hD9⟩, hS.F ht⟩) hS.2.2 dX12_writeDigit_37
      · have ic_10 : (x_9 : Int32).toInt = (0 : Int32).toInt := (fa_eq x_9 0).mp c_10
        refine lv_aload_n hx hb dX12_writeDigit_31 rfl (lv_at hl 0 rfl) ?_
        refine lv_bipush (v := 44) hx hb dX12_writeDigit_32 (by decide) ?_
        have hPc := hP.sub (ws' := [(h, .inr (9, [.int h_code, .int h_taped, .ref h_tape, .int h_size, .ref h_text, .double h_value, .int u_5, .ref h_output, .int h_illAt, .ref h_format, .int h_sections, .int h_items, .ref h_kind, .ref h_what, .ref h_of, .ref h_relation, .ref h_bound, .int h_reads, .int h_readSections, .ref h_readKind, .ref h_readWhat, .ref h_readOf, .ref h_place, .ref h_readRelation, .ref h_readBound, .int h_stop, .ref h_meant, .ref h_row, .ref h_exact, .ref h_error, .ref h_bestError, .long h_m, .int h_e, .ref h_digits, .int h_whole])), (h_output, .inl (cI, 1024, .inl u_6))]) [1, 2] rfl
        have hDc := hD.sub (ws' := [(h, .inr (9, [.int h_code, .int h_taped, .ref h_tape, .int h_size, .ref h_text, .double h_value, .int u_5, .ref h_output, .int h_illAt, .ref h_format, .int h_sections, .int h_items, .ref h_kind, .ref h_what, .ref h_of, .ref h_relation, .ref h_bound, .int h_reads, .int h_readSections, .ref h_readKind, .ref h_readWhat, .ref h_readOf, .ref h_place, .ref h_readRelation, .ref h_readBound, .int h_stop, .ref h_meant, .ref h_row, .ref h_exact, .ref h_error, .ref h_bestError, .long h_m, .int h_e, .ref h_digits, .int h_whole])), (h_output, .inl (cI, 1024, .inl u_6))]) [1, 2] (by decide) rfl
        have hFc := va_free (wc := [(h, .inr (9, [.int h_code, .int h_taped, .ref h_tape, .int h_size, .ref h_text, .double h_value, .int u_5, .ref h_output, .int h_illAt, .ref h_format, .int h_sections, .int h_items, .ref h_kind, .ref h_what, .ref h_of, .ref h_relation, .ref h_bound, .int h_reads, .int h_readSections, .ref h_readKind, .ref h_readWhat, .ref h_readOf, .ref h_place, .ref h_readRelation, .ref h_readBound, .int h_stop, .ref h_meant, .ref h_row, .ref h_exact, .ref h_error, .ref h_bestError, .long h_m, .int h_e, .ref h_digits, .int h_whole])), (h_output, .inl (cI, 1024, .inl u_6))]) hD hS hA [1, 2] rfl
        refine va_callv (va_runV (As := [.int 44]) (rest := []) ⟨hx, hb, hml, hown, hts⟩ (c_X12_write l D cI cD cJ H.size h h_code h_taped h_tape h_size h_text h_value u_5 h_output h_illAt h_format h_sections h_items h_kind h_what h_of h_relation h_bound h_reads h_readSections h_readKind h_readWhat h_readOf h_place h_readRelation h_readBound h_stop h_meant h_row h_exact h_error h_bestError h_m h_e h_digits h_whole u_6 44 (by omega) (by omega) (by assumption) (by omega) (by omega) (by omega) (by omega) (by omega) (by omega)) (cwV 1 hts (goodIn_app (goodIn_r _ [2, 3, 4, 5] rfl (by decide +kernel)) (goodIn_sub i_X12_write k_X12_write)) rfl rfl rfl (by decide +kernel) ⟨Nat.le_of_ble_eq_true rfl, Nat.le_of_ble_eq_true rfl⟩) ⟨fun a U g mk q => by obtain ⟨q0, q1, qP, qK, qD⟩ := q; exact ⟨q0, q1, qP, va_K.moved (u := U) (U := U.calling g mk a) (Vm.Alike.refl U.vm) qK, qD⟩, va_recv hK hPc (ci := 9) (q0 := 0) rfl rfl, fun U hU hW => ⟨rfl, by rw [hU], by rw [hU]; exact hPc, va_K.moved hW.alike hK, hDc.weaken (fun _ _ _ _ => trivial)⟩⟩ rfl rfl hl.1 rfl (lv_room (Nat.le_of_ble_eq_true rfl)) dX12_writeDigit_34 ⟨Nat.le_of_ble_eq_true rfl, Nat.le_of_ble_eq_true rfl⟩) hS (fun q _ h => hFc q h) hFc (fun u t H1 locs ht hvm w_11 hB hz1 hk1 hS => ?_)
        obtain ⟨u_12, u_13⟩ := u
        obtain ⟨hP1, hK1, hD1⟩ := hB
        rw [ht] at hP1
        try dsimp only at w_11
        obtain ⟨hP, hD⟩ := va_join (wr := [(h_digits, .inl (cI, 1400, .inl h_digitsF))]) (w1 := [(h, .inr (9, [.int h_code, .int h_taped, .ref h_tape, .int h_size, .ref h_text, .double h_value, .int u_12, .ref h_output, .int h_illAt, .ref h_format, .int h_sections, .int h_items, .ref h_kind, .ref h_what, .ref h_of, .ref h_relation, .ref h_bound, .int h_reads, .int h_readSections, .ref h_readKind, .ref h_readWhat, .ref h_readOf, .ref h_place, .ref h_readRelation, .ref h_readBound, .int h_stop, .ref h_meant, .ref h_row, .ref h_exact, .ref h_error, .ref h_bestError, .long h_m, .int h_e, .ref h_digits, .int h_whole])), (h_output, .inl (cI, 1024, .inl u_13))]) hP hD [1, 2] [0] rfl rfl (by decide) (by decide) hk1 hFc hP1 hD1
        generalize H1 = H at hP hS ⊢
        have hP : va_P D vwCl [(h_digits, .inl (cI, 1400, .inl h_digitsF)), (h, .inr (9, [.int h_code, .int h_taped, .ref h_tape, .int h_size, .ref h_text, .double h_value, .int u_12, .ref h_output, .int h_illAt, .ref h_format, .int h_sections, .int h_items, .ref h_kind, .ref h_what, .ref h_of, .ref h_relation, .ref h_bound, .int h_reads, .int h_readSections, .ref h_readKind, .ref h_readWhat, .ref h_readOf, .ref h_place, .ref h_readRelation, .ref h_readBound, .int h_stop, .ref h_meant, .ref h_row, .ref h_exact, .ref h_error, .ref h_bestError, .long h_m, .int h_e, .ref h_digits, .int h_whole])), (h_output, .inl (cI, 1024, .inl u_13))] H := hP
        have hD : va_D A [(h_digits, .inl (cI, 1400, .inl h_digitsF)), (h, .inr (9, [.int h_code, .int h_taped, .ref h_tape, .int h_size, .ref h_text, .double h_value, .int u_12, .ref h_output, .int h_illAt, .ref h_format, .int h_sections, .int h_items, .ref h_kind, .ref h_what, .ref h_of, .ref h_relation, .ref h_bound, .int h_reads, .int h_readSections, .ref h_readKind, .ref h_readWhat, .ref h_readOf, .ref h_place, .ref h_readRelation, .ref h_readBound, .int h_stop, .ref h_meant, .ref h_row, .ref h_exact, .ref h_error, .ref h_bestError, .long h_m, .int h_e, .ref h_digits, .int h_whole])), (h_output, .inl (cI, 1024, .inl u_13))] := hD
        have hP9 := hP.sub (ws' := [(h, .inr (9, [.int h_code, .int h_taped, .ref h_tape, .int h_size, .ref h_text, .double h_value, .int u_12, .ref h_output, .int h_illAt, .ref h_format, .int h_sections, .int h_items, .ref h_kind, .ref h_what, .ref h_of, .ref h_relation, .ref h_bound, .int h_reads, .int h_readSections, .ref h_readKind, .ref h_readWhat, .ref h_readOf, .ref h_place, .ref h_readRelation, .ref h_readBound, .int h_stop, .ref h_meant, .ref h_row, .ref h_exact, .ref h_error, .ref h_bestError, .long h_m, .int h_e, .ref h_digits, .int h_whole])), (h_output, .inl (cI, 1024, .inl u_13)), (h_digits, .inl (cI, 1400, .inl h_digitsF))]) [1, 2, 0] rfl
        have hD9 := hD.sub (ws' := [(h, .inr (9, [.int h_code, .int h_taped, .ref h_tape, .int h_size, .ref h_text, .double h_value, .int u_12, .ref h_output, .int h_illAt, .ref h_format, .int h_sections, .int h_items, .ref h_kind, .ref h_what, .ref h_of, .ref h_relation, .ref h_bound, .int h_reads, .int h_readSections, .ref h_readKind, .ref h_readWhat, .ref h_readOf, .ref h_place, .ref h_readRelation, .ref h_readBound, .int h_stop, .ref h_meant, .ref h_row, .ref h_exact, .ref h_error, .ref h_bestError, .long h_m, .int h_e, .ref h_digits, .int h_whole])), (h_output, .inl (cI, 1024, .inl u_13)), (h_digits, .inl (cI, 1400, .inl h_digitsF))]) [1, 2, 0] (by decide) rfl
        exact W.vret hx hb hr (fun t ht hW => ⟨⟨(u_12, u_13), rfl, (by (try dsimp only); first | omega | assumption), by rw [ht]; exact hP9, va_K.moved hW.alike hK, hD9⟩, hS.F ht⟩) hS.2.2 dX12_writeDigit_37

def ow_X12_writeWhole : List Cond := [Cond.fieldLink RX12 293 "NumberFormatsModel" "whole" "I", Cond.fieldLink RX12 29 "NumberFormatsModel" "what" "[I", Cond.methodLink RX12 296 yX12_writeDigit, Cond.instanceMethod yX12_writeDigit, Cond.selects RX12 yX12_writeDigit yX12_writeDigit, Cond.initialized RX12, Cond.methodLink RX12 278 yX12_write, Cond.instanceMethod yX12_write, Cond.selects RX12 yX12_write yX12_write]
def pw_X12_writeWhole : List Cond := Cond.code yX12_writeWhole cX12_writeWhole 7 none :: (ow_X12_writeWhole ++ (pw_X12_writeDigit ++ (pw_X12_write ++ (wsX120))))
set_option maxRecDepth 20000 in
theorem mo_X12_writeWhole : ∀ w ∈ ow_X12_writeWhole, w ∈ lw_tbl := by decide +kernel
set_option maxRecDepth 20000 in
theorem mc_X12_writeWhole : Cond.code yX12_writeWhole cX12_writeWhole 7 none ∈ lw_tbl := by decide +kernel
theorem m_X12_writeWhole : ∀ w ∈ pw_X12_writeWhole, w ∈ lw_tbl := List.forall_mem_cons.mpr ⟨mc_X12_writeWhole, (List.forall_mem_append.mpr ⟨mo_X12_writeWhole, (List.forall_mem_append.mpr ⟨m_X12_writeDigit, (List.forall_mem_append.mpr ⟨m_X12_write, inX12⟩)⟩)⟩)⟩
theorem ko_X12_writeWhole : ∀ w ∈ ow_X12_writeWhole, goodWord w = true := by decide +kernel
theorem k_X12_writeWhole : pw_X12_writeWhole.all goodWord = true := List.all_eq_true.mpr (List.forall_mem_cons.mpr ⟨by decide +kernel, (List.forall_mem_append.mpr ⟨ko_X12_writeWhole, (List.forall_mem_append.mpr ⟨(List.all_eq_true.mp k_X12_writeDigit), (List.forall_mem_append.mpr ⟨(List.all_eq_true.mp k_X12_write), kX_X12⟩)⟩)⟩)⟩)
set_option maxHeartbeats 400000 in
set_option maxRecDepth 100000 in
theorem c_X12_writeWhole (l : Launch) (D : va_G) (cI cD cJ : ClassId) (sz : Nat) (h : Nat) (h_code : Int32) (h_taped : Int32) (h_tape : Nat) (h_size : Int32) (h_text : Nat) (h_value : UInt64) (h_out : Int32) (h_output : Nat) (h_illAt : Int32) (h_format : Nat) (h_sections : Int32) (h_items : Int32) (h_kind : Nat) (h_what : Nat) (h_of : Nat) (h_relation : Nat) (h_bound : Nat) (h_reads : Int32) (h_readSections : Int32) (h_readKind : Nat) (h_readWhat : Nat) (h_readOf : Nat) (h_place : Nat) (h_readRelation : Nat) (h_readBound : Nat) (h_stop : Int32) (h_meant : Nat) (h_row : Nat) (h_exact : Nat) (h_error : Nat) (h_bestError : Nat) (h_m : Int64) (h_e : Int32) (h_digits : Nat) (h_whole : Int32) (h_outputF : Nat → Int32) (h_whatF : Nat → Int32) (h_digitsF : Nat → Int32) (p1 : Int32) (p2 : Int32) (p3 : Int32) (p4 : Int32) (p5 : Int32) (hb_p3 : p3.toInt = 0 ∨ p3.toInt = 1) (hb_p4 : p4.toInt = 0 ∨ p4.toInt = 1) (hb_p5 : p5.toInt = 0 ∨ p5.toInt = 1) (hh0 : 0 ≤ p1.toInt) (hh1 : p1.toInt ≤ 258) (hh2 : -300 ≤ p2.toInt) (hh3 : p2.toInt ≤ 300) (iv_h_taped : 0 ≤ (h_taped : Int32).toInt ∧ (h_taped : Int32).toInt ≤ 260) (iv_h_size : 0 ≤ (h_size : Int32).toInt ∧ (h_size : Int32).toInt ≤ 255) (iv_h_value : inR h_value) (iv_h_out : 0 ≤ (h_out : Int32).toInt ∧ (h_out : Int32).toInt ≤ 1024) (iv_h_sections : 0 ≤ (h_sections : Int32).toInt ∧ (h_sections : Int32).toInt ≤ 4) (iv_h_items : 0 ≤ (h_items : Int32).toInt ∧ (h_items : Int32).toInt ≤ 255) (iv_h_reads : 0 ≤ (h_reads : Int32).toInt ∧ (h_reads : Int32).toInt ≤ 255) (iv_h_readSections : 0 ≤ (h_readSections : Int32).toInt ∧ (h_readSections : Int32).toInt ≤ 4) (iv_h_whole : 0 ≤ (h_whole : Int32).toInt ∧ (h_whole : Int32).toInt ≤ 1001) (iv_h_whatF : ∀ k9 : Nat, k9 < 260 → -100000 ≤ (h_whatF k9).toInt ∧ (h_whatF k9).toInt ≤ 100000) : Met l yX12_writeWhole pw_X12_writeWhole ({ frames := 2, cells := 0, slots := 0, locals := 43 }) (va_Pc [.ref h, .int p1, .int p2, .int p3, .int p4, .int p5] (fun U => U.heap.size = sz ∧ va_P D vwCl [(h, .inr (9, [.int h_code, .int h_taped, .ref h_tape, .int h_size, .ref h_text, .double h_value, .int h_out, .ref h_output, .int h_illAt, .ref h_format, .int h_sections, .int h_items, .ref h_kind, .ref h_what, .ref h_of, .ref h_relation, .ref h_bound, .int h_reads, .int h_readSections, .ref h_readKind, .ref h_readWhat, .ref h_readOf, .ref h_place, .ref h_readRelation, .ref h_readBound, .int h_stop, .ref h_meant, .ref h_row, .ref h_exact, .ref h_error, .ref h_bestError, .long h_m, .int h_e, .ref h_digits, .int h_whole])), (h_output, .inl (cI, 1024, .inl h_outputF)), (h_what, .inl (cI, 260, .inl h_whatF)), (h_digits, .inl (cI, 1400, .inl h_digitsF))] U.heap ∧ va_K D vwCl (ty3 cI cD cJ) U ∧ va_D (fun _ => True) [(h, .inr (9, [.int h_code, .int h_taped, .ref h_tape, .int h_size, .ref h_text, .double h_value, .int h_out, .ref h_output, .int h_illAt, .ref h_format, .int h_sections, .int h_items, .ref h_kind, .ref h_what, .ref h_of, .ref h_relation, .ref h_bound, .int h_reads, .int h_readSections, .ref h_readKind, .ref h_readWhat, .ref h_readOf, .ref h_place, .ref h_readRelation, .ref h_readBound, .int h_stop, .ref h_meant, .ref h_row, .ref h_exact, .ref h_error, .ref h_bestError, .long h_m, .int h_e, .ref h_digits, .int h_whole])), (h_output, .inl (cI, 1024, .inl h_outputF)), (h_what, .inl (cI, 260, .inl h_whatF)), (h_digits, .inl (cI, 1400, .inl h_digitsF))])) (va_Qv (fun (u : Int32 × (Nat → Int32)) => match u with | (h_out2, h_outputF2) => (0 ≤ (h_out2 : Int32).toInt ∧ (h_out2 : Int32).toInt ≤ 1024)) (fun (u : Int32 × (Nat → Int32)) (t : State) => match u with | (h_out2, h_outputF2) => va_P D vwCl [(h, .inr (9, [.int h_code, .int h_taped, .ref h_tape, .int h_size, .ref h_text, .double h_value, .int h_out2, .ref h_output, .int h_illAt, .ref h_format, .int h_sections, .int h_items, .ref h_kind, .ref h_what, .ref h_of, .ref h_relation, .ref h_bound, .int h_reads, .int h_readSections, .ref h_readKind, .ref h_readWhat, .ref h_readOf, .ref h_place, .ref h_readRelation, .ref h_readBound, .int h_stop, .ref h_meant, .ref h_row, .ref h_exact, .ref h_error, .ref h_bestError, .long h_m, .int h_e, .ref h_digits, .int h_whole])), (h_output, .inl (cI, 1024, .inl h_outputF2)), (h_what, .inl (cI, 260, .inl h_whatF)), (h_digits, .inl (cI, 1400, .inl h_digitsF))] t.heap ∧ va_K D vwCl (ty3 cI cD cJ) t ∧ va_D (va_A [(h, .inr (9, [.int h_code, .int h_taped, .ref h_tape, .int h_size, .ref h_text, .double h_value, .int h_out, .ref h_output, .int h_illAt, .ref h_format, .int h_sections, .int h_items, .ref h_kind, .ref h_what, .ref h_of, .ref h_relation, .ref h_bound, .int h_reads, .int h_readSections, .ref h_readKind, .ref h_readWhat, .ref h_readOf, .ref h_place, .ref h_readRelation, .ref h_readBound, .int h_stop, .ref h_meant, .ref h_row, .ref h_exact, .ref h_error, .ref h_bestError, .long h_m, .int h_e, .ref h_digits, .int h_whole])), (h_output, .inl (cI, 1024, .inl h_outputF)), (h_what, .inl (cI, 260, .inl h_whatF)), (h_digits, .inl (cI, 1400, .inl h_digitsF))] sz) [(h, .inr (9, [.int h_code, .int h_taped, .ref h_tape, .int h_size, .ref h_text, .double h_value, .int h_out2, .ref h_output, .int h_illAt, .ref h_format, .int h_sections, .int h_items, .ref h_kind, .ref h_what, .ref h_of, .ref h_relation, .ref h_bound, .int h_reads, .int h_readSections, .ref h_readKind, .ref h_readWhat, .ref h_readOf, .ref h_place, .ref h_readRelation, .ref h_readBound, .int h_stop, .ref h_meant, .ref h_row, .ref h_exact, .ref h_error, .ref h_bestError, .long h_m, .int h_e, .ref h_digits, .int h_whole])), (h_output, .inl (cI, 1024, .inl h_outputF2)), (h_what, .inl (cI, 260, .inl h_whatF)), (h_digits, .inl (cI, 1400, .inl h_digitsF))]) (va_A [(h, .inr (9, [.int h_code, .int h_taped, .ref h_tape, .int h_size, .ref h_text, .double h_value, .int h_out, .ref h_output, .int h_illAt, .ref h_format, .int h_sections, .int h_items, .ref h_kind, .ref h_what, .ref h_of, .ref h_relation, .ref h_bound, .int h_reads, .int h_readSections, .ref h_readKind, .ref h_readWhat, .ref h_readOf, .ref h_place, .ref h_readRelation, .ref h_readBound, .int h_stop, .ref h_meant, .ref h_row, .ref h_exact, .ref h_error, .ref h_bestError, .long h_m, .int h_e, .ref h_digits, .int h_whole])), (h_output, .inl (cI, 1024, .inl h_outputF)), (h_what, .inl (cI, 260, .inl h_whatF)), (h_digits, .inl (cI, 1400, .inl h_digitsF))] sz)) 0 0 (va_A [(h, .inr (9, [.int h_code, .int h_taped, .ref h_tape, .int h_size, .ref h_text, .double h_value, .int h_out, .ref h_output, .int h_illAt, .ref h_format, .int h_sections, .int h_items, .ref h_kind, .ref h_what, .ref h_of, .ref h_relation, .ref h_bound, .int h_reads, .int h_readSections, .ref h_readKind, .ref h_readWhat, .ref h_readOf, .ref h_place, .ref h_readRelation, .ref h_readBound, .int h_stop, .ref h_meant, .ref h_row, .ref h_exact, .ref h_error, .ref h_bestError, .long h_m, .int h_e, .ref h_digits, .int h_whole])), (h_output, .inl (cI, 1024, .inl h_outputF)), (h_what, .inl (cI, 260, .inl h_whatF)), (h_digits, .inl (cI, 1400, .inl h_digitsF))] sz) := by
  refine Met.ofW (cc := cX12_writeWhole) (maxL := 7) (ret := none) (by decide +kernel) rfl ?_
  intro p e s m args below meth c s₁ B hml hv
  obtain ⟨rfl, hsz, hP, hK, hD0⟩ := hv
  have hx := B.exec
  have hb := B.bytes
  have hr := B.returns
  have hts := atoms_spec (ws := pw_X12_writeWhole) B.pre
  have hown : s.vm.findClass RX12 = some m.cls := findClass_of_methodNamed B.named
  have hlocks := B.notSynchronized
  subst hsz
  have hD := hD0.self (sz := s.heap.size)
  generalize hAe : va_A [(h, .inr (9, [.int h_code, .int h_taped, .ref h_tape, .int h_size, .ref h_text, .double h_value, .int h_out, .ref h_output, .int h_illAt, .ref h_format, .int h_sections, .int h_items, .ref h_kind, .ref h_what, .ref h_of, .ref h_relation, .ref h_bound, .int h_reads, .int h_readSections, .ref h_readKind, .ref h_readWhat, .ref h_readOf, .ref h_place, .ref h_readRelation, .ref h_readBound, .int h_stop, .ref h_meant, .ref h_row, .ref h_exact, .ref h_error, .ref h_bestError, .long h_m, .int h_e, .ref h_digits, .int h_whole])), (h_output, .inl (cI, 1024, .inl h_outputF)), (h_what, .inl (cI, 260, .inl h_whatF)), (h_digits, .inl (cI, 1400, .inl h_digitsF))] s.heap.size = A at hD ⊢
  have hA : ∀ q : Nat, s.heap.size ≤ q → A q := fun q h => by rw [← hAe]; exact Or.inr h
  have hS : va_S A s.heap s.heap [] := va_S.rf
  have hw : ∀ (k : Nat) (w : Cond), ow_X12_writeWhole[k]? = some w → w.before _ s = true := fun k w h => hts w (List.mem_cons_of_mem _ (have h9 := List.mem_of_getElem? h; List.mem_append_left _ h9))
  have i_X12_writeDigit : ∀ w ∈ pw_X12_writeDigit, w ∈ pw_X12_writeWhole := fun w h9 => List.mem_cons_of_mem _ (List.mem_append_right _ (List.mem_append_left _ h9))
  have i_X12_write : ∀ w ∈ pw_X12_write, w ∈ pw_X12_writeWhole := fun w h9 => List.mem_cons_of_mem _ (List.mem_append_right _ (List.mem_append_right _ (List.mem_append_left _ h9)))
  have iX12 : ∀ w ∈ u_ws RX12 TX12 35, w ∈ pw_X12_writeWhole := fun w h9 => List.mem_cons_of_mem _ (List.mem_append_right _ (List.mem_append_right _ (List.mem_append_right _ (h9))))
  have n_m1 : (((-1) : Int32)).toInt = (-1) := by decide
  have n_0 : ((0 : Int32)).toInt = 0 := by decide
  have n_1 : ((1 : Int32)).toInt = 1 := by decide
  have n_3 : ((3 : Int32)).toInt = 3 := by decide
  have n_32 : ((32 : Int32)).toInt = 32 := by decide
  have n_48 : ((48 : Int32)).toInt = 48 := by decide
  have n_63 : ((63 : Int32)).toInt = 63 := by decide
  have hl := lv_entry ([.ref h, .int p1, .int p2, .int p3, .int p4, .int p5]) (n := 7) (Nat.le_of_ble_eq_true rfl)
  rw [lg_entry_eq]
  generalize (lg_sl ([.ref h, .int p1, .int p2, .int p3, .int p4, .int p5]) ++ List.replicate (7 - (lg_sl ([.ref h, .int p1, .int p2, .int p3, .int p4, .int p5])).length) Slot.unset).toArray = ls at hl ⊢
  have hl : lv_has ls 7 [(0, .ref h), (1, .int p1), (2, .int p2), (3, .int p3), (4, .int p4), (5, .int p5)] := hl
  have b_p1 := ti_b p1
  have b_p2 := ti_b p2
  have b_p3 := ti_b p3
  have b_p4 := ti_b p4
  have b_p5 := ti_b p5
  refine zz_cap (fun Z hZ1 hZ2 => ?_)
  refine lv_iload_n hx hb dX12_writeWhole_0 rfl (lv_at hl 2 rfl) ?_
  refine lv_aload_n hx hb dX12_writeWhole_1 rfl (lv_at hl 0 rfl) ?_
  refine va_get (D := D) (ci := 9) (v := .int h_whole) (C := RX12) (T := TX12) (N := 35) hx hb hts iX12 hown hK hP 0 rfl rfl 34 (by decide) (hw 0 (.fieldLink RX12 293 "NumberFormatsModel" "whole" "I") rfl) (fun _ h9 => h9) rfl dX12_writeWhole_2 ?_
  refine lv_icmp_ge (tgt := 45) hx hb dX12_writeWhole_5 (by decide) (fun c_1 => ?_) (fun c_1 => ?_)
  · have ic_1 : (h_whole : Int32).toInt ≤ (p2 : Int32).toInt := (fa_le h_whole p2).mp c_1
    refine lv_aload_n hx hb dX12_writeWhole_45 rfl (lv_at hl 0 rfl) ?_
    refine va_get (D := D) (ci := 9) (v := .ref h_what) (C := RX12) (T := TX12) (N := 35) hx hb hts iX12 hown hK hP 0 rfl rfl 13 (by decide) (hw 1 (.fieldLink RX12 29 "NumberFormatsModel" "what" "[I") rfl) (fun _ h9 => h9) rfl dX12_writeWhole_46 ?_
    refine lv_iload_n hx hb dX12_writeWhole_49 rfl (lv_at hl 1 rfl) ?_
    have h_50 : vp_in p1 260 := by rw [vp_in_iff]; omega
    refine va_iald hx hb hK hP 2 0 rfl rfl h_50 dX12_writeWhole_50 ?_
    refine lv_topi (fun x_2 ex_2 => ?_)
    have iv_x_2 := (‹∀ k9 : Nat, k9 < 260 → -100000 ≤ (h_whatF k9).toInt ∧ (h_whatF k9).toInt ≤ 100000›) _ (Nat.lt_of_not_le (fun h9 => h_50 (Or.inr h9)))
    rw [← ex_2] at iv_x_2
    refine lv_bipush (v := 48) hx hb dX12_writeWhole_51 (by decide) ?_
    have K_61 : ∀ (H : Heap) (locs : List Loc) (ls : Array Slot), va_P D vwCl [(h, .inr (9, [.int h_code, .int h_taped, .ref h_tape, .int h_size, .ref h_text, .double h_value, .int h_out, .ref h_output, .int h_illAt, .ref h_format, .int h_sections, .int h_items, .ref h_kind, .ref h_what, .ref h_of, .ref h_relation, .ref h_bound, .int h_reads, .int h_readSections, .ref h_readKind, .ref h_readWhat, .ref h_readOf, .ref h_place, .ref h_readRelation, .ref h_readBound, .int h_stop, .ref h_meant, .ref h_row, .ref h_exact, .ref h_error, .ref h_bestError, .long h_m, .int h_e, .ref h_digits, .int h_whole])), (h_output, .inl (cI, 1024, .inl h_outputF)), (h_what, .inl (cI, 260, .inl h_whatF)), (h_digits, .inl (cI, 1400, .inl h_digitsF))] H → va_D A [(h, .inr (9, [.int h_code, .int h_taped, .ref h_tape, .int h_size, .ref h_text, .double h_value, .int h_out, .ref h_output, .int h_illAt, .ref h_format, .int h_sections, .int h_items, .ref h_kind, .ref h_what, .ref h_of, .ref h_relation, .ref h_bound, .int h_reads, .int h_readSections, .ref h_readKind, .ref h_readWhat, .ref h_readOf, .ref h_place, .ref h_readRelation, .ref h_readBound, .int h_stop, .ref h_meant, .ref h_row, .ref h_exact, .ref h_error, .ref h_bestError, .long h_m, .int h_e, .ref h_digits, .int h_whole])), (h_output, .inl (cI, 1024, .inl h_outputF)), (h_what, .inl (cI, 260, .inl h_whatF)), (h_digits, .inl (cI, 1400, .inl h_digitsF))] → va_S A s.heap H locs → lv_has ls 7 [(0, .ref h), (2, .int p2), (5, .int p5)] → Z 0 0 H locs (F0 m 61 ls []) := by
      intro  H locs ls  hP hD hS hl
      refine hZ2 ?_
      refine lv_aload_n hx hb dX12_writeWhole_61 rfl (lv_at hl 0 rfl) ?_
      refine lv_iload_n hx hb dX12_writeWhole_62 rfl (lv_at hl 1 rfl) ?_
      refine lv_iload hx hb dX12_writeWhole_63 (lv_at hl 2 rfl) ?_
      have hPc := hP.sub (ws' := [(h, .inr (9, [.int h_code, .int h_taped, .ref h_tape, .int h_size, .ref h_text, .double h_value, .int h_out, .ref h_output, .int h_illAt, .ref h_format, .int h_sections, .int h_items, .ref h_kind, .ref h_what, .ref h_of, .ref h_relation, .ref h_bound, .int h_reads, .int h_readSections, .ref h_readKind, .ref h_readWhat, .ref h_readOf, .ref h_place, .ref h_readRelation, .ref h_readBound, .int h_stop, .ref h_meant, .ref h_row, .ref h_exact, .ref h_error, .ref h_bestError, .long h_m, .int h_e, .ref h_digits, .int h_whole])), (h_output, .inl (cI, 1024, .inl h_outputF)), (h_digits, .inl (cI, 1400, .inl h_digitsF))]) [0, 1, 3] rfl
      have hDc := hD.sub (ws' := [(h, .inr (9, [.int h_code, .int h_taped, .ref h_tape, .int h_size, .ref h_text, .double h_value, .int h_out, .ref h_output, .int h_illAt, .ref h_format, .int h_sections, .int h_items, .ref h_kind, .ref h_what, .ref h_of, .ref h_relation, .ref h_bound, .int h_reads, .int h_readSections, .ref h_readKind, .ref h_readWhat, .ref h_readOf, .ref h_place, .ref h_readRelation, .ref h_readBound, .int h_stop, .ref h_meant, .ref h_row, .ref h_exact, .ref h_error, .ref h_bestError, .long h_m, .int h_e, .ref h_digits, .int h_whole])), (h_output, .inl (cI, 1024, .inl h_outputF)), (h_digits, .inl (cI, 1400, .inl h_digitsF))]) [0, 1, 3] (by decide) rfl
      have hFc := va_free (wc := [(h, .inr (9, [.int h_code, .int h_taped, .ref h_tape, .int h_size, .ref h_text, .double h_value, .int h_out, .ref h_output, .int h_illAt, .ref h_format, .int h_sections, .int h_items, .ref h_kind, .ref h_what, .ref h_of, .ref h_relation, .ref h_bound, .int h_reads, .int h_readSections, .ref h_readKind, .ref h_readWhat, .ref h_readOf, .ref h_place, .ref h_readRelation, .ref h_readBound, .int h_stop, .ref h_meant, .ref h_row, .ref h_exact, .ref h_error, .ref h_bestError, .long h_m, .int h_e, .ref h_digits, .int h_whole])), (h_output, .inl (cI, 1024, .inl h_outputF)), (h_digits, .inl (cI, 1400, .inl h_digitsF))]) hD hS hA [0, 1, 3] rfl
      refine va_callv (va_runV (As := [.int p2, .int p5]) (rest := []) ⟨hx, hb, hml, hown, hts⟩ (c_X12_writeDigit l D cI cD cJ H.size h h_code h_taped h_tape h_size h_text h_value h_out h_output h_illAt h_format h_sections h_items h_kind h_what h_of h_relation h_bound h_reads h_readSections h_readKind h_readWhat h_readOf h_place h_readRelation h_readBound h_stop h_meant h_row h_exact h_error h_bestError h_m h_e h_digits h_whole h_outputF h_digitsF p2 p5 (by omega) (by omega) (by omega) (by omega) (by omega) (by assumption) (by omega) (by omega) (by omega) (by omega) (by omega) (by omega)) (cwV 2 hts (goodIn_app (goodIn_r _ [3, 4, 5, 6] rfl (by decide +kernel)) (goodIn_sub i_X12_writeDigit k_X12_writeDigit)) rfl rfl rfl (by decide +kernel) ⟨Nat.le_of_ble_eq_true rfl, Nat.le_of_ble_eq_true rfl⟩) ⟨fun a U g mk q => by obtain ⟨q0, q1, qP, qK, qD⟩ := q; exact ⟨q0, q1, qP, va_K.moved (u := U) (U := U.calling g mk a) (Vm.Alike.refl U.vm) qK, qD⟩, va_recv hK hPc (ci := 9) (q0 := 0) rfl rfl, fun U hU hW => ⟨rfl, by rw [hU], by rw [hU]; exact hPc, va_K.moved hW.alike hK, hDc.weaken (fun _ _ _ _ => trivial)⟩⟩ rfl rfl hl.1 rfl (lv_room (Nat.le_of_ble_eq_true rfl)) dX12_writeWhole_65 ⟨Nat.le_of_ble_eq_true rfl, Nat.le_of_ble_eq_true rfl⟩) hS (fun q _ h => hFc q h) hFc (fun u t H1 locs ht hvm w_3 hB hz1 hk1 hS => ?_)
      obtain ⟨u_4, u_5⟩ := u
      obtain ⟨hP1, hK1, hD1⟩ := hB
      rw [ht] at hP1
      try dsimp only at w_3
      obtain ⟨hP, hD⟩ := va_join (wr := [(h_what, .inl (cI, 260, .inl h_whatF))]) (w1 := [(h, .inr (9, [.int h_code, .int h_taped, .ref h_tape, .int h_size, .ref h_text, .double h_value, .int u_4, .ref h_output, .int h_illAt, .ref h_format, .int h_sections, .int h_items, .ref h_kind, .ref h_what, .ref h_of, .ref h_relation, .ref h_bound, .int h_reads, .int h_readSections, .ref h_readKind, .ref h_readWhat, .ref h_readOf, .ref h_place, .ref h_readRelation, .ref h_readBound, .int h_stop, .ref h_meant, .ref h_row, .ref h_exact, .ref h_error, .ref h_bestError, .long h_m, .int h_e, .ref h_digits, .int h_whole])), (h_output, .inl (cI, 1024, .inl u_5)), (h_digits, .inl (cI, 1400, .inl h_digitsF))]) hP hD [0, 1, 3] [2] rfl rfl (by decide) (by decide) hk1 hFc hP1 hD1
      generalize H1 = H at hP hS ⊢
      have hP : va_P D vwCl [(h_what, .inl (cI, 260, .inl h_whatF)), (h, .inr (9, [.int h_code, .int h_taped, .ref h_tape, .int h_size, .ref h_text, .double h_value, .int u_4, .ref h_output, .int h_illAt, .ref h_format, .int h_sections, .int h_items, .ref h_kind, .ref h_what, .ref h_of, .ref h_relation, .ref h_bound, .int h_reads, .int h_readSections, .ref h_readKind, .ref h_readWhat, .ref h_readOf, .ref h_place, .ref h_readRelation, .ref h_readBound, .int h_stop, .ref h_meant, .ref h_row, .ref h_exact, .ref h_error, .ref h_bestError, .long h_m, .int h_e, .ref h_digits, .int h_whole])), (h_output, .inl (cI, 1024, .inl u_5)), (h_digits, .inl (cI, 1400, .inl h_digitsF))] H := hP
      have hD : va_D A [(h_what, .inl (cI, 260, .inl h_whatF)), (h, .inr (9, [.int h_code, .int h_taped, .ref h_tape, .int h_size, .ref h_text, .double h_value, .int u_4, .ref h_output, .int h_illAt, .ref h_format, .int h_sections, .int h_items, .ref h_kind, .ref h_what, .ref h_of, .ref h_relation, .ref h_bound, .int h_reads, .int h_readSections, .ref h_readKind, .ref h_readWhat, .ref h_readOf, .ref h_place, .ref h_readRelation, .ref h_readBound, .int h_stop, .ref h_meant, .ref h_row, .ref h_exact, .ref h_error, .ref h_bestError, .long h_m, .int h_e, .ref h_digits, .int h_whole])), (h_output, .inl (cI, 1024, .inl u_5)), (h_digits, .inl (cI, 1400, .inl h_digitsF))] := hD
      refine lv_goto (tgt := 109) hx hb dX12_writeWhole_68 (by decide) ?_
      have hP9 := hP.sub (ws' := [(h, .inr (9, [.int h_code, .int h_taped, .ref h_tape, .int h_size, .ref h_text, .double h_value, .int u_4, .ref h_output, .int h_illAt, .ref h_format, .int h_sections, .int h_items, .ref h_kind, .ref h_what, .ref h_of, .ref h_relation, .ref h_bound, .int h_reads, .int h_readSections, .ref h_readKind, .ref h_readWhat, .ref h_readOf, .ref h_place, .ref h_readRelation, .ref h_readBound, .int h_stop, .ref h_meant, .ref h_row, .ref h_exact, .ref h_error, .ref h_bestError, .long h_m, .int h_e, .ref h_digits, .int h_whole])), (h_output, .inl (cI, 1024, .inl u_5)), (h_what, .inl (cI, 260, .inl h_whatF)), (h_digits, .inl (cI, 1400, .inl h_digitsF))]) [1, 2, 0, 3] rfl
      have hD9 := hD.sub (ws' := [(h, .inr (9, [.int h_code, .int h_taped, .ref h_tape, .int h_size, .ref h_text, .double h_value, .int u_4, .ref h_output, .int h_illAt, .ref h_format, .int h_sections, .int h_items, .ref h_kind, .ref h_what, .ref h_of, .ref h_relation, .ref h_bound, .int h_reads, .int h_readSections, .ref h_readKind, .ref h_readWhat, .ref h_readOf, .ref h_place, .ref h_readRelation, .ref h_readBound, .int h_stop, .ref h_meant, .ref h_row, .ref h_exact, .ref h_error, .ref h_bestError, .long h_m, .int h_e, .ref h_digits, .int h_whole])), (h_output, .inl (cI, 1024, .inl u_5)), (h_what, .inl (cI, 260, .inl h_whatF)), (h_digits, .inl (cI, 1400, .inl h_digitsF))]) [1, 2, 0, 3] (by decide) rfl
      exact W.vret hx hb hr (fun t ht hW => ⟨⟨(u_4, u_5), rfl, (by (try dsimp only); first | omega | assumption), by rw [ht]; exact hP9, va_K.moved hW.alike hK, hD9⟩, hS.F ht⟩) hS.2.2 dX12_writeWhole_109
    refine lv_icmp_eq (tgt := 61) hx hb dX12_writeWhole_53 (by decide) (fun c_6 => ?_) (fun c_6 => ?_)
    · have ic_6 : (x_2 : Int32).toInt = (48 : Int32).toInt := (fa_eq x_2 48).mp c_6
      exact hZ1 (K_61  _ _ _ hP hD hS (lv_sub hl [0, 2, 5] rfl))
    · have ic_6 : ¬ ((x_2 : Int32).toInt = (48 : Int32).toInt) := fun h9 => c_6 ((fa_eq x_2 48).mpr h9)
      refine lv_iload hx hb dX12_writeWhole_56 (lv_at hl 4 rfl) ?_
      refine lv_if_eq (tgt := 71) hx hb dX12_writeWhole_58 (by decide) (fun c_7 => ?_) (fun c_7 => ?_)
      · have ic_7 : (p4 : Int32).toInt = (0 : Int32).toInt := (fa_eq p4 0).mp c_7
        refine lv_aload_n hx hb dX12_writeWhole_71 rfl (lv_at hl 0 rfl) ?_
        refine va_get (D := D) (ci := 9) (v := .ref h_what) (C := RX12) (T := TX12) (N := 35) hx hb hts iX12 hown hK hP 0 rfl rfl 13 (by decide) (hw 1 (.fieldLink RX12 29 "NumberFormatsModel" "what" "[I") rfl) (fun _ h9 => h9) rfl dX12_writeWhole_72 ?_
        refine lv_iload_n hx hb dX12_writeWhole_75 rfl (lv_at hl 1 rfl) ?_
        have h_76 : vp_in p1 260 := by rw [vp_in_iff]; omega
        refine va_iald hx hb hK hP 2 0 rfl rfl h_76 dX12_writeWhole_76 ?_
        refine lv_topi (fun x_8 ex_8 => ?_)
        have iv_x_8 := (‹∀ k9 : Nat, k9 < 260 → -100000 ≤ (h_whatF k9).toInt ∧ (h_whatF k9).toInt ≤ 100000›) _ (Nat.lt_of_not_le (fun h9 => h_76 (Or.inr h9)))
        rw [← ex_8] at iv_x_8
        refine lv_bipush (v := 63) hx hb dX12_writeWhole_77 (by decide) ?_
        refine lv_icmp_ne (tgt := 109) hx hb dX12_writeWhole_79 (by decide) (fun c_9 => ?_) (fun c_9 => ?_)
        · have ic_9 : ¬ ((x_8 : Int32).toInt = (63 : Int32).toInt) := fun h9 => c_9 ((fa_eq x_8 63).mpr h9)
          have hP9 := hP.sub (ws' := [(h, .inr (9, [.int h_code, .int h_taped, .ref h_tape, .int h_size, .ref h_text, .double h_value, .int h_out, .ref h_output, .int h_illAt, .ref h_format, .int h_sections, .int h_items, .ref h_kind, .ref h_what, .ref h_of, .ref h_relation, .ref h_bound, .int h_reads, .int h_readSections, .ref h_readKind, .ref h_readWhat, .ref h_readOf, .ref h_place, .ref h_readRelation, .ref h_readBound, .int h_stop, .ref h_meant, .ref h_row, .ref h_exact, .ref h_error, .ref h_bestError, .long h_m, .int h_e, .ref h_digits, .int h_whole])), (h_output, .inl (cI, 1024, .inl h_outputF)), (h_what, .inl (cI, 260, .inl h_whatF)), (h_digits, .inl (cI, 1400, .inl h_digitsF))]) [0, 1, 2, 3] rfl
          have hD9 := hD.sub (ws' := [(h, .inr (9, [.int h_code, .int h_taped, .ref h_tape, .int h_size, .ref h_text, .double h_value, .int h_out, .ref h_output, .int h_illAt, .ref h_format, .int h_sections, .int h_items, .ref h_kind, .ref h_what, .ref h_of, .ref h_relation, .ref h_bound, .int h_reads, .int h_readSections, .ref h_readKind, .ref h_readWhat, .ref h_readOf, .ref h_place, .ref h_readRelation, .ref h_readBound, .int h_stop, .ref h_meant, .ref h_row, .ref h_exact, .ref h_error, .ref h_bestError, .long h_m, .int h_e, .ref h_digits, .int h_whole])), (h_output, .inl (cI, 1024, .inl h_outputF)), (h_what, .inl (cI, 260, .inl h_whatF)), (h_digits, .inl (cI, 1400, .inl h_digitsF))]) [0, 1, 2, 3] (by decide) rfl
          exact W.vret hx hb hr (fun t ht hW => ⟨⟨(h_out, h_outputF), rfl, (by (try dsimp only); first | omega | assumption), by rw [ht]; exact hP9, va_K.moved hW.alike hK, hD9⟩, hS.F ht⟩) hS.2.2 dX12_writeWhole_109
        · have ic_9 : (x_8 : Int32).toInt = (63 : Int32).toInt := (fa_eq x_8 63).mp c_9
          refine lv_aload_n hx hb dX12_writeWhole_82 rfl (lv_at hl 0 rfl) ?_
          refine lv_bipush (v := 32) hx hb dX12_writeWhole_83 (by decide) ?_
          have hPc := hP.sub (ws' := [(h, .inr (9, [.int h_code, .int h_taped, .ref h_tape, .int h_size, .ref h_text, .double h_value, .int h_out, .ref h_output, .int h_illAt, .ref h_format, .int h_sections, .int h_items, .ref h_kind, .ref h_what, .ref h_of, .ref h_relation, .ref h_bound, .int h_reads, .int h_readSections, .ref h_readKind, .ref h_readWhat, .ref h_readOf, .ref h_place, .ref h_readRelation, .ref h_readBound, .int h_stop, .ref h_meant, .ref h_row, .ref h_exact, .ref h_error, .ref h_bestError, .long h_m, .int h_e, .ref h_digits, .int h_whole])), (h_output, .inl (cI, 1024, .inl h_outputF))]) [0, 1] rfl
          have hDc := hD.sub (ws' := [(h, .inr (9, [.int h_code, .int h_taped, .ref h_tape, .int h_size, .ref h_text, .double h_value, .int h_out, .ref h_output, .int h_illAt, .ref h_format, .int h_sections, .int h_items, .ref h_kind, .ref h_what, .ref h_of, .ref h_relation, .ref h_bound, .int h_reads, .int h_readSections, .ref h_readKind, .ref h_readWhat, .ref h_readOf, .ref h_place, .ref h_readRelation, .ref h_readBound, .int h_stop, .ref h_meant, .ref h_row, .ref h_exact, .ref h_error, .ref h_bestError, .long h_m, .int h_e, .ref h_digits, .int h_whole])), (h_output, .inl (cI, 1024, .inl h_outputF))]) [0, 1] (by decide) rfl
          have hFc := va_free (wc := [(h, .inr (9, [.int h_code, .int h_taped, .ref h_tape, .int h_size, .ref h_text, .double h_value, .int h_out, .ref h_output, .int h_illAt, .ref h_format, .int h_sections, .int h_items, .ref h_kind, .ref h_what, .ref h_of, .ref h_relation, .ref h_bound, .int h_reads, .int h_readSections, .ref h_readKind, .ref h_readWhat, .ref h_readOf, .ref h_place, .ref h_readRelation, .ref h_readBound, .int h_stop, .ref h_meant, .ref h_row, .ref h_exact, .ref h_error, .ref h_bestError, .long h_m, .int h_e, .ref h_digits, .int h_whole])), (h_output, .inl (cI, 1024, .inl h_outputF))]) hD hS hA [0, 1] rfl
          refine va_callv (va_runV (As := [.int 32]) (rest := []) ⟨hx, hb, hml, hown, hts⟩ (c_X12_write l D cI cD cJ s.heap.size h h_code h_taped h_tape h_size h_text h_value h_out h_output h_illAt h_format h_sections h_items h_kind h_what h_of h_relation h_bound h_reads h_readSections h_readKind h_readWhat h_readOf h_place h_readRelation h_readBound h_stop h_meant h_row h_exact h_error h_bestError h_m h_e h_digits h_whole h_outputF 32 (by omega) (by omega) (by assumption) (by omega) (by omega) (by omega) (by omega) (by omega) (by omega)) (cwV 1 hts (goodIn_app (goodIn_r _ [7, 8, 9, 6] rfl (by decide +kernel)) (goodIn_sub i_X12_write k_X12_write)) rfl rfl rfl (by decide +kernel) ⟨Nat.le_of_ble_eq_true rfl, Nat.le_of_ble_eq_true rfl⟩) ⟨fun a U g mk q => by obtain ⟨q0, q1, qP, qK, qD⟩ := q; exact ⟨q0, q1, qP, va_K.moved (u := U) (U := U.calling g mk a) (Vm.Alike.refl U.vm) qK, qD⟩, va_recv hK hPc (ci := 9) (q0 := 0) rfl rfl, fun U hU hW => ⟨rfl, by rw [hU], by rw [hU]; exact hPc, va_K.moved hW.alike hK, hDc.weaken (fun _ _ _ _ => trivial)⟩⟩ rfl rfl hl.1 rfl (lv_room (Nat.le_of_ble_eq_true rfl)) dX12_writeWhole_85 ⟨Nat.le_of_ble_eq_true rfl, Nat.le_of_ble_eq_true rfl⟩) hS (fun q _ h => hFc q h) hFc (fun u t H1 locs ht hvm w_10 hB hz1 hk1 hS => ?_)
          obtain ⟨u_11, u_12⟩ := u
          obtain ⟨hP1, hK1, hD1⟩ := hB
          rw [ht] at hP1
          try dsimp only at w_10
          obtain ⟨hP, hD⟩ := va_join (wr := [(h_what, .inl (cI, 260, .inl h_whatF)), (h_digits, .inl (cI, 1400, .inl h_digitsF))]) (w1 := [(h, .inr (9, [.int h_code, .int h_taped, .ref h_tape, .int h_size, .ref h_text, .double h_value, .int u_11, .ref h_output, .int h_illAt, .ref h_format, .int h_sections, .int h_items, .ref h_kind, .ref h_what, .ref h_of, .ref h_relation, .ref h_bound, .int h_reads, .int h_readSections, .ref h_readKind, .ref h_readWhat, .ref h_readOf, .ref h_place, .ref h_readRelation, .ref h_readBound, .int h_stop, .ref h_meant, .ref h_row, .ref h_exact, .ref h_error, .ref h_bestError, .long h_m, .int h_e, .ref h_digits, .int h_whole])), (h_output, .inl (cI, 1024, .inl u_12))]) hP hD [0, 1] [2, 3] rfl rfl (by decide) (by decide) hk1 hFc hP1 hD1
          generalize H1 = H at hP hS ⊢
          have hP : va_P D vwCl [(h_what, .inl (cI, 260, .inl h_whatF)), (h_digits, .inl (cI, 1400, .inl h_digitsF)), (h, .inr (9, [.int h_code, .int h_taped, .ref h_tape, .int h_size, .ref h_text, .double h_value, .int u_11, .ref h_output, .int h_illAt, .ref h_format, .int h_sections, .int h_items, .ref h_kind, .ref h_what, .ref h_of, .ref h_relation, .ref h_bound, .int h_reads, .int h_readSections, .ref h_readKind, .ref h_readWhat, .ref h_readOf, .ref h_place, .ref h_readRelation, .ref h_readBound, .int h_stop, .ref h_meant, .ref h_row, .ref h_exact, .ref h_error, .ref h_bestError, .long h_m, .int h_e, .ref h_digits, .int h_whole])), (h_output, .inl (cI, 1024, .inl u_12))] H := hP
          have hD : va_D A [(h_what, .inl (cI, 260, .inl h_whatF)), (h_digits, .inl (cI, 1400, .inl h_digitsF)), (h, .inr (9, [.int h_code, .int h_taped, .ref h_tape, .int h_size, .ref h_text, .double h_value, .int u_11, .ref h_output, .int h_illAt, .ref h_format, .int h_sections, .int h_items, .ref h_kind, .ref h_what, .ref h_of, .ref h_relation, .ref h_bound, .int h_reads, .int h_readSections, .ref h_readKind, .ref h_readWhat, .ref h_readOf, .ref h_place, .ref h_readRelation, .ref h_readBound, .int h_stop, .ref h_meant, .ref h_row, .ref h_exact, .ref h_error, .ref h_bestError, .long h_m, .int h_e, .ref h_digits, .int h_whole])), (h_output, .inl (cI, 1024, .inl u_12))] := hD
          refine lv_iload hx hb dX12_writeWhole_88 (lv_at hl 5 rfl) ?_
          refine lv_if_eq (tgt := 109) hx hb dX12_writeWhole_90 (by decide) (fun c_13 => ?_) (fun c_13 => ?_)
          · have ic_13 : (p5 : Int32).toInt = (0 : Int32).toInt := (fa_eq p5 0).mp c_13
            have hP9 := hP.sub (ws' := [(h, .inr (9, [.int h_code, .int h_taped, .ref h_tape, .int h_size, .ref h_text, .double h_value, .int u_11, .ref h_output, .int h_illAt, .ref h_format, .int h_sections, .int h_items, .ref h_kind, .ref h_what, .ref h_of, .ref h_relation, .ref h_bound, .int h_reads, .int h_readSections, .ref h_readKind, .ref h_readWhat, .ref h_readOf, .ref h_place, .ref h_readRelation, .ref h_readBound, .int h_stop, .ref h_meant, .ref h_row, .ref h_exact, .ref h_error, .ref h_bestError, .long h_m, .int h_e, .ref h_digits, .int h_whole])), (h_output, .inl (cI, 1024, .inl u_12)), (h_what, .inl (cI, 260, .inl h_whatF)), (h_digits, .inl (cI, 1400, .inl h_digitsF))]) [2, 3, 0, 1] rfl
            have hD9 := hD.sub (ws' := [(h, .inr (9, [.int h_code, .int h_taped, .ref h_tape, .int h_size, .ref h_text, .double h_value, .int u_11, .ref h_output, .int h_illAt, .ref h_format, .int h_sections, .int h_items, .ref h_kind, .ref h_what, .ref h_of, .ref h_relation, .ref h_bound, .int h_reads, .int h_readSections, .ref h_readKind, .ref h_readWhat, .ref h_readOf, .ref h_place, .ref h_readRelation, .ref h_readBound, .int h_stop, .ref h_meant, .ref h_row, .ref h_exact, .ref h_error, .ref h_bestError, .long h_m, .int h_e, .ref h_digits, .int h_whole])), (h_output, .inl (cI, 1024, .inl u_12)), (h_what, .inl (cI, 260, .inl h_whatF)), (h_digits, .inl (cI, 1400, .inl h_digitsF))]) [2, 3, 0, 1] (by decide) rfl
            exact W.vret hx hb hr (fun t ht hW => ⟨⟨(u_11, u_12), rfl, (by (try dsimp only); first | omega | assumption), by rw [ht]; exact hP9, va_K.moved hW.alike hK, hD9⟩, hS.F ht⟩) hS.2.2 dX12_writeWhole_109
          · have ic_13 : ¬ ((p5 : Int32).toInt = (0 : Int32).toInt) := fun h9 => c_13 ((fa_eq p5 0).mpr h9)
            refine lv_iload_n hx hb dX12_writeWhole_93 rfl (lv_at hl 2 rfl) ?_
            refine lv_if_le (tgt := 109) hx hb dX12_writeWhole_94 (by decide) (fun c_14 => ?_) (fun c_14 => ?_)
            · have ic_14 : (p2 : Int32).toInt ≤ (0 : Int32).toInt := (fa_le p2 0).mp c_14
              have hP9 := hP.sub (ws' := [(h, .inr (9, [.int h_code, .int h_taped, .ref h_tape, .int h_size, .ref h_text, .double h_value, .int u_11, .ref h_output, .int h_illAt, .ref h_format, .int h_sections, .int h_items, .ref h_kind, .ref h_what, .ref h_of, .ref h_relation, .ref h_bound, .int h_reads, .int h_readSections, .ref h_readKind, .ref h_readWhat, .ref h_readOf, .ref h_place, .ref h_readRelation, .ref h_readBound, .int h_stop, .ref h_meant, .ref h_row, .ref h_exact, .ref h_error, .ref h_bestError, .long h_m, .int h_e, .ref h_digits, .int h_whole])), (h_output, .inl (cI, 1024, .inl u_12)), (h_what, .inl (cI, 260, .inl h_whatF)), (h_digits, .inl (cI, 1400, .inl h_digitsF))]) [2, 3, 0, 1] rfl
              have hD9 := hD.sub (ws' := [(h, .inr (9, [.int h_code, .int h_taped, .ref h_tape, .int h_size, .ref h_text, .double h_value, .int u_11, .ref h_output, .int h_illAt, .ref h_format, .int h_sections, .int h_items, .ref h_kind, .ref h_what, .ref h_of, .ref h_relation, .ref h_bound, .int h_reads, .int h_readSections, .ref h_readKind, .ref h_readWhat, .ref h_readOf, .ref h_place, .ref h_readRelation, .ref h_readBound, .int h_stop, .ref h_meant, .ref h_row, .ref h_exact, .ref h_error, .ref h_bestError, .long h_m, .int h_e, .ref h_digits, .int h_whole])), (h_output, .inl (cI, 1024, .inl u_12)), (h_what, .inl (cI, 260, .inl h_whatF)), (h_digits, .inl (cI, 1400, .inl h_digitsF))]) [2, 3, 0, 1] (by decide) rfl
              exact W.vret hx hb hr (fun t ht hW => ⟨⟨(u_11, u_12), rfl, (by (try dsimp only); first | omega | assumption), by rw [ht]; exact hP9, va_K.moved hW.alike hK, hD9⟩, hS.F ht⟩) hS.2.2 dX12_writeWhole_109
            · have ic_14 : ¬ ((p2 : Int32).toInt ≤ (0 : Int32).toInt) := fun h9 => c_14 ((fa_le p2 0).mpr h9)
              refine lv_iload_n hx hb dX12_writeWhole_97 rfl (lv_at hl 2 rfl) ?_
              refine lv_iconst (v := 3) hx hb dX12_writeWhole_98 (by decide) ?_
              refine lv_irem hx hb dX12_writeWhole_99 (by decide) ?_
              refine lv_topi (fun x_15 ex_15 => ?_)
              have tx_15 := ti_rem ex_15 (by decide)
              rw [n_3] at tx_15
              try (have ux_15 := ti_remE ex_15 (by decide) (by omega); rw [n_3] at ux_15)
              refine lv_if_ne (tgt := 109) hx hb dX12_writeWhole_100 (by decide) (fun c_16 => ?_) (fun c_16 => ?_)
              · have ic_16 : ¬ ((x_15 : Int32).toInt = (0 : Int32).toInt) := fun h9 => c_16 ((fa_eq x_15 0).mpr h9)
                have hP9 := hP.sub (ws' := [(h, .inr (9, [.int h_code, .int h_taped, .ref h_tape, .int h_size, .ref h_text, .double h_value, .int u_11, .ref h_output, .int h_illAt, .ref h_format, .int h_sections, .int h_items, .ref h_kind, .ref h_what, .ref h_of, .ref h_relation, .ref h_bound, .int h_reads, .int h_readSections, .ref h_readKind, .ref h_readWhat, .ref h_readOf, .ref h_place, .ref h_readRelation, .ref h_readBound, .int h_stop, .ref h_meant, .ref h_row, .ref h_exact, .ref h_error, .ref h_bestError, .long h_m, .int h_e, .ref h_digits, .int h_whole])), (h_output, .inl (cI, 1024, .inl u_12)), (h_what, .inl (cI, 260, .inl h_whatF)), (h_digits, .inl (cI, 1400, .inl h_digitsF))]) [2, 3, 0, 1] rfl
                have hD9 := hD.sub (ws' := [(h, .inr (9, [.int h_code, .int h_taped, .ref h_tape, .int h_size, .ref h_text, .double h_value, .int u_11, .ref h_output, .int h_illAt, .ref h_format, .int h_sections, .int h_items, .ref h_kind, .ref h_what, .ref h_of, .ref h_relation, .ref h_bound, .int h_reads, .int h_readSections, .ref h_readKind, .ref h_readWhat, .ref h_readOf, .ref h_place, .ref h_readRelation, .ref h_readBound, .int h_stop, .ref h_meant, .ref h_row, .ref h_exact, .ref h_error, .ref h_bestError, .long h_m, .int h_e, .ref h_digits, .int h_whole])), (h_output, .inl (cI, 1024, .inl u_12)), (h_what, .inl (cI, 260, .inl h_whatF)), (h_digits, .inl (cI, 1400, .inl h_digitsF))]) [2, 3, 0, 1] (by decide) rfl
                exact W.vret hx hb hr (fun t ht hW => ⟨⟨(u_11, u_12), rfl, (by (try dsimp only); first | omega | assumption), by rw [ht]; exact hP9, va_K.moved hW.alike hK, hD9⟩, hS.F ht⟩) hS.2.2 dX12_writeWhole_109
              · have ic_16 : (x_15 : Int32).toInt = (0 : Int32).toInt := (fa_eq x_15 0).mp c_16
                refine lv_aload_n hx hb dX12_writeWhole_103 rfl (lv_at hl 0 rfl) ?_
                refine lv_bipush (v := 32) hx hb dX12_writeWhole_104 (by decide) ?_
                have hPc := hP.sub (ws' := [(h, .inr (9, [.int h_code, .int h_taped, .ref h_tape, .int h_size, .ref h_text, .double h_value, .int u_11, .ref h_output, .int h_illAt, .ref h_format, .int h_sections, .int h_items, .ref h_kind, .ref h_what, .ref h_of, .ref h_relation, .ref h_bound, .int h_reads, .int h_readSections, .ref h_readKind, .ref h_readWhat, .ref h_readOf, .ref h_place, .ref h_readRelation, .ref h_readBound, .int h_stop, .ref h_meant, .ref h_row, .ref h_exact, .ref h_error, .ref h_bestError, .long h_m, .int h_e, .ref h_digits, .int h_whole])), (h_output, .inl (cI, 1024, .inl u_12))]) [2, 3] rfl
                have hDc := hD.sub (ws' := [(h, .inr (9, [.int h_code, .int h_taped, .ref h_tape, .int h_size, .ref h_text, .double h_value, .int u_11, .ref h_output, .int h_illAt, .ref h_format, .int h_sections, .int h_items, .ref h_kind, .ref h_what, .ref h_of, .ref h_relation, .ref h_bound, .int h_reads, .int h_readSections, .ref h_readKind, .ref h_readWhat, .ref h_readOf, .ref h_place, .ref h_readRelation, .ref h_readBound, .int h_stop, .ref h_meant, .ref h_row, .ref h_exact, .ref h_error, .ref h_bestError, .long h_m, .int h_e, .ref h_digits, .int h_whole])), (h_output, .inl (cI, 1024, .inl u_12))]) [2, 3] (by decide) rfl
                have hFc := va_free (wc := [(h, .inr (9, [.int h_code, .int h_taped, .ref h_tape, .int h_size, .ref h_text, .double h_value, .int u_11, .ref h_output, .int h_illAt, .ref h_format, .int h_sections, .int h_items, .ref h_kind, .ref h_what, .ref h_of, .ref h_relation, .ref h_bound, .int h_reads, .int h_readSections, .ref h_readKind, .ref h_readWhat, .ref h_readOf, .ref h_place, .ref h_readRelation, .ref h_readBound, .int h_stop, .ref h_meant, .ref h_row, .ref h_exact, .ref h_error, .ref h_bestError, .long h_m, .int h_e, .ref h_digits, .int h_whole])), (h_output, .inl (cI, 1024, .inl u_12))]) hD hS hA [2, 3] rfl
                refine va_callv (va_runV (As := [.int 32]) (rest := []) ⟨hx, hb, hml, hown, hts⟩ (c_X12_write l D cI cD cJ H.size h h_code h_taped h_tape h_size h_text h_value u_11 h_output h_illAt h_format h_sections h_items h_kind h_what h_of h_relation h_bound h_reads h_readSections h_readKind h_readWhat h_readOf h_place h_readRelation h_readBound h_stop h_meant h_row h_exact h_error h_bestError h_m h_e h_digits h_whole u_12 32 (by omega) (by omega) (by assumption) (by omega) (by omega) (by omega) (by omega) (by omega) (by omega)) (cwV 1 hts (goodIn_app (goodIn_r _ [7, 8, 9, 6] rfl (by decide +kernel)) (goodIn_sub i_X12_write k_X12_write)) rfl rfl rfl (by decide +kernel) ⟨Nat.le_of_ble_eq_true rfl, Nat.le_of_ble_eq_true rfl⟩) ⟨fun a U g mk q => by obtain ⟨q0, q1, qP, qK, qD⟩ := q; exact ⟨q0, q1, qP, va_K.moved (u := U) (U := U.calling g mk a) (Vm.Alike.refl U.vm) qK, qD⟩, va_recv hK hPc (ci := 9) (q0 := 0) rfl rfl, fun U hU hW => ⟨rfl, by rw [hU], by rw [hU]; exact hPc, va_K.moved hW.alike hK, hDc.weaken (fun _ _ _ _ => trivial)⟩⟩ rfl rfl hl.1 rfl (lv_room (Nat.le_of_ble_eq_true rfl)) dX12_writeWhole_106 ⟨Nat.le_of_ble_eq_true rfl, Nat.le_of_ble_eq_true rfl⟩) hS (fun q _ h => hFc q h) hFc (fun u t H1 locs ht hvm w_17 hB hz1 hk1 hS => ?_)
                obtain ⟨u_18, u_19⟩ := u
                obtain ⟨hP1, hK1, hD1⟩ := hB
                rw [ht] at hP1
                try dsimp only at w_17
                obtain ⟨hP, hD⟩ := va_join (wr := [(h_what, .inl (cI, 260, .inl h_whatF)), (h_digits, .inl (cI, 1400, .inl h_digitsF))]) (w1 := [(h, .inr (9, [.int h_code, .int h_taped, .ref h_tape, .int h_size, .ref h_text, .double h_value, .int u_18, .ref h_output, .int h_illAt, .ref h_format, .int h_sections, .int h_items, .ref h_kind, .ref h_what, .ref h_of, .ref h_relation, .ref h_bound, .int h_reads, .int h_readSections, .ref h_readKind, .ref h_readWhat, .ref h_readOf, .ref h_place, .ref h_readRelation, .ref h_readBound, .int h_stop, .ref h_meant, .ref h_row, .ref h_exact, .ref h_error, .ref h_bestError, .long h_m, .int h_e, .ref h_digits, .int h_whole])), (h_output, .inl (cI, 1024, .inl u_19))]) hP hD [2, 3] [0, 1] rfl rfl (by decide) (by decide) hk1 hFc hP1 hD1
                generalize H1 = H at hP hS ⊢
                have hP : va_P D vwCl [(h_what, .inl (cI, 260, .inl h_whatF)), (h_digits, .inl (cI, 1400, .inl h_digitsF)), (h, .inr (9, [.int h_code, .int h_taped, .ref h_tape, .int h_size, .ref h_text, .double h_value, .int u_18, .ref h_output, .int h_illAt, .ref h_format, .int h_sections, .int h_items, .ref h_kind, .ref h_what, .ref h_of, .ref h_relation, .ref h_bound, .int h_reads, .int h_readSections, .ref h_readKind, .ref h_readWhat, .ref h_readOf, .ref h_place, .ref h_readRelation, .ref h_readBound, .int h_stop, .ref h_meant, .ref h_row, .ref h_exact, .ref h_error, .ref h_bestError, .long h_m, .int h_e, .ref h_digits, .int h_whole])), (h_output, .inl (cI, 1024, .inl u_19))] H := hP
                have hD : va_D A [(h_what, .inl (cI, 260, .inl h_whatF)), (h_digits, .inl (cI, 1400, .inl h_digitsF)), (h, .inr (9, [.int h_code, .int h_taped, .ref h_tape, .int h_size, .ref h_text, .double h_value, .int u_18, .ref h_output, .int h_illAt, .ref h_format, .int h_sections, .int h_items, .ref h_kind, .ref h_what, .ref h_of, .ref h_relation, .ref h_bound, .int h_reads, .int h_readSections, .ref h_readKind, .ref h_readWhat, .ref h_readOf, .ref h_place, .ref h_readRelation, .ref h_readBound, .int h_stop, .ref h_meant, .ref h_row, .ref h_exact, .ref h_error, .ref h_bestError, .long h_m, .int h_e, .ref h_digits, .int h_whole])), (h_output, .inl (cI, 1024, .inl u_19))] := hD
                have hP9 := hP.sub (ws' := [(h, .inr (9, [.int h_code, .int h_taped, .ref h_tape, .int h_size, .ref h_text, .double h_value, .int u_18, .ref h_output, .int h_illAt, .ref h_format, .int h_sections, .int h_items, .ref h_kind, .ref h_what, .ref h_of, .ref h_relation, .ref h_bound, .int h_reads, .int h_readSections, .ref h_readKind, .ref h_readWhat, .ref h_readOf, .ref h_place, .ref h_readRelation, .ref h_readBound, .int h_stop, .ref h_meant, .ref h_row, .ref h_exact, .ref h_error, .ref h_bestError, .long h_m, .int h_e, .ref h_digits, .int h_whole])), (h_output, .inl (cI, 1024, .inl u_19)), (h_what, .inl (cI, 260, .inl h_whatF)), (h_digits, .inl (cI, 1400, .inl h_digitsF))]) [2, 3, 0, 1] rfl
                have hD9 := hD.sub (ws' := [(h, .inr (9, [.int h_code, .int h_taped, .ref h_tape, .int h_size, .ref h_text, .double h_value, .int u_18, .ref h_output, .int h_illAt, .ref h_format, .int h_sections, .int h_items, .ref h_kind, .ref h_what, .ref h_of, .ref h_relation, .ref h_bound, .int h_reads, .int h_readSections, .ref h_readKind, .ref h_readWhat, .ref h_readOf, .ref h_place, .ref h_readRelation, .ref h_readBound, .int h_stop, .ref h_meant, .ref h_row, .ref h_exact, .ref h_error, .ref h_bestError, .long h_m, .int h_e, .ref h_digits, .int h_whole])), (h_output, .inl (cI, 1024, .inl u_19)), (h_what, .inl (cI, 260, .inl h_whatF)), (h_digits, .inl (cI, 1400, .inl h_digitsF))]) [2, 3, 0, 1] (by decide) rfl
                exact W.vret hx hb hr (fun t ht hW => ⟨⟨(u_18, u_19), rfl, (by (try dsimp only); first | omega | assumption), by rw [ht]; exact hP9, va_K.moved hW.alike hK, hD9⟩, hS.F ht⟩) hS.2.2 dX12_writeWhole_109
      · have ic_7 : ¬ ((p4 : Int32).toInt = (0 : Int32).toInt) := fun h9 => c_7 ((fa_eq p4 0).mpr h9)
        exact hZ1 (K_61  _ _ _ hP hD hS (lv_sub hl [0, 2, 5] rfl))
  · have ic_1 : ¬ ((h_whole : Int32).toInt ≤ (p2 : Int32).toInt) := fun h9 => c_1 ((fa_le h_whole p2).mpr h9)
    refine lv_iload_n hx hb dX12_writeWhole_8 rfl (lv_at hl 3 rfl) ?_
    have K_22 : ∀ (z_20 : Int32) (H : Heap) (locs : List Loc) (ls : Array Slot), ((z_20 : Int32).toInt ≤ 1000) → va_P D vwCl [(h, .inr (9, [.int h_code, .int h_taped, .ref h_tape, .int h_size, .ref h_text, .double h_value, .int h_out, .ref h_output, .int h_illAt, .ref h_format, .int h_sections, .int h_items, .ref h_kind, .ref h_what, .ref h_of, .ref h_relation, .ref h_bound, .int h_reads, .int h_readSections, .ref h_readKind, .ref h_readWhat, .ref h_readOf, .ref h_place, .ref h_readRelation, .ref h_readBound, .int h_stop, .ref h_meant, .ref h_row, .ref h_exact, .ref h_error, .ref h_bestError, .long h_m, .int h_e, .ref h_digits, .int h_whole])), (h_output, .inl (cI, 1024, .inl h_outputF)), (h_what, .inl (cI, 260, .inl h_whatF)), (h_digits, .inl (cI, 1400, .inl h_digitsF))] H → va_D A [(h, .inr (9, [.int h_code, .int h_taped, .ref h_tape, .int h_size, .ref h_text, .double h_value, .int h_out, .ref h_output, .int h_illAt, .ref h_format, .int h_sections, .int h_items, .ref h_kind, .ref h_what, .ref h_of, .ref h_relation, .ref h_bound, .int h_reads, .int h_readSections, .ref h_readKind, .ref h_readWhat, .ref h_readOf, .ref h_place, .ref h_readRelation, .ref h_readBound, .int h_stop, .ref h_meant, .ref h_row, .ref h_exact, .ref h_error, .ref h_bestError, .long h_m, .int h_e, .ref h_digits, .int h_whole])), (h_output, .inl (cI, 1024, .inl h_outputF)), (h_what, .inl (cI, 260, .inl h_whatF)), (h_digits, .inl (cI, 1400, .inl h_digitsF))] → va_S A s.heap H locs → lv_has ls 7 [(0, .ref h), (2, .int p2), (5, .int p5)] → Z 0 0 H locs (F0 m 22 ls [.int z_20]) := by
      intro z_20 H locs ls g22_0 hP hD hS hl
      refine hZ2 ?_
      refine lv_istore (lv' := [(6, .int z_20), (0, .ref h), (2, .int p2), (5, .int p5)]) hx hb dX12_writeWhole_22 hl (by decide) rfl (fun ls hl => ?_)
      have L_24 : ∀ (N : Nat) (x_21 : Int32) (x_22 : Int32) (f_23 : Nat → Int32) (H : Heap) (locs : List Loc) (ls : Array Slot), ((x_21 : Int32).toInt ≤ 1000) → (0 ≤ (x_22 : Int32).toInt ∧ (x_22 : Int32).toInt ≤ 1024) → (((x_21 : Int32).toInt + 2147483648).toNat < N) → va_P D vwCl [(h, .inr (9, [.int h_code, .int h_taped, .ref h_tape, .int h_size, .ref h_text, .double h_value, .int x_22, .ref h_output, .int h_illAt, .ref h_format, .int h_sections, .int h_items, .ref h_kind, .ref h_what, .ref h_of, .ref h_relation, .ref h_bound, .int h_reads, .int h_readSections, .ref h_readKind, .ref h_readWhat, .ref h_readOf, .ref h_place, .ref h_readRelation, .ref h_readBound, .int h_stop, .ref h_meant, .ref h_row, .ref h_exact, .ref h_error, .ref h_bestError, .long h_m, .int h_e, .ref h_digits, .int h_whole])), (h_output, .inl (cI, 1024, .inl f_23)), (h_what, .inl (cI, 260, .inl h_whatF)), (h_digits, .inl (cI, 1400, .inl h_digitsF))] H → va_D A [(h, .inr (9, [.int h_code, .int h_taped, .ref h_tape, .int h_size, .ref h_text, .double h_value, .int x_22, .ref h_output, .int h_illAt, .ref h_format, .int h_sections, .int h_items, .ref h_kind, .ref h_what, .ref h_of, .ref h_relation, .ref h_bound, .int h_reads, .int h_readSections, .ref h_readKind, .ref h_readWhat, .ref h_readOf, .ref h_place, .ref h_readRelation, .ref h_readBound, .int h_stop, .ref h_meant, .ref h_row, .ref h_exact, .ref h_error, .ref h_bestError, .long h_m, .int h_e, .ref h_digits, .int h_whole])), (h_output, .inl (cI, 1024, .inl f_23)), (h_what, .inl (cI, 260, .inl h_whatF)), (h_digits, .inl (cI, 1400, .inl h_digitsF))] → va_S A s.heap H locs → lv_has ls 7 [(6, .int x_21), (0, .ref h), (2, .int p2), (5, .int p5)] → Z 0 0 H locs (F0 m 24 ls []) := by
        intro N
        induction N with
        | zero => intro _ _ _ _ _ _ _ _ hmu; exact absurd hmu (Nat.not_lt_zero _)
        | succ N ih_24 =>
          intro x_21 x_22 f_23 H locs ls g24_0 g24_1 hmu hP hD hS hl
          refine hZ2 ?_
          refine lv_iload hx hb dX12_writeWhole_24 (lv_at hl 0 rfl) ?_
          refine lv_iload_n hx hb dX12_writeWhole_26 rfl (lv_at hl 2 rfl) ?_
          refine lv_icmp_lt (tgt := 44) hx hb dX12_writeWhole_27 (by decide) (fun c_24 => ?_) (fun c_24 => ?_)
          · have ic_24 : (x_21 : Int32).toInt < (p2 : Int32).toInt := (fa_lt x_21 p2).mp c_24
            have hP9 := hP.sub (ws' := [(h, .inr (9, [.int h_code, .int h_taped, .ref h_tape, .int h_size, .ref h_text, .double h_value, .int x_22, .ref h_output, .int h_illAt, .ref h_format, .int h_sections, .int h_items, .ref h_kind, .ref h_what, .ref h_of, .ref h_relation, .ref h_bound, .int h_reads, .int h_readSections, .ref h_readKind, .ref h_readWhat, .ref h_readOf, .ref h_place, .ref h_readRelation, .ref h_readBound, .int h_stop, .ref h_meant, .ref h_row, .ref h_exact, .ref h_error, .ref h_bestError, .long h_m, .int h_e, .ref h_digits, .int h_whole])), (h_output, .inl (cI, 1024, .inl f_23)), (h_what, .inl (cI, 260, .inl h_whatF)), (h_digits, .inl (cI, 1400, .inl h_digitsF))]) [0, 1, 2, 3] rfl
            have hD9 := hD.sub (ws' := [(h, .inr (9, [.int h_code, .int h_taped, .ref h_tape, .int h_size, .ref h_text, .double h_value, .int x_22, .ref h_output, .int h_illAt, .ref h_format, .int h_sections, .int h_items, .ref h_kind, .ref h_what, .ref h_of, .ref h_relation, .ref h_bound, .int h_reads, .int h_readSections, .ref h_readKind, .ref h_readWhat, .ref h_readOf, .ref h_place, .ref h_readRelation, .ref h_readBound, .int h_stop, .ref h_meant, .ref h_row, .ref h_exact, .ref h_error, .ref h_bestError, .long h_m, .int h_e, .ref h_digits, .int h_whole])), (h_output, .inl (cI, 1024, .inl f_23)), (h_what, .inl (cI, 260, .inl h_whatF)), (h_digits, .inl (cI, 1400, .inl h_digitsF))]) [0, 1, 2, 3] (by decide) rfl
            exact W.vret hx hb hr (fun t ht hW => ⟨⟨(x_22, f_23), rfl, (by (try dsimp only); first | omega | assumption), by rw [ht]; exact hP9, va_K.moved hW.alike hK, hD9⟩, hS.F ht⟩) hS.2.2 dX12_writeWhole_44
          · have ic_24 : ¬ ((x_21 : Int32).toInt < (p2 : Int32).toInt) := fun h9 => c_24 ((fa_lt x_21 p2).mpr h9)
            refine lv_aload_n hx hb dX12_writeWhole_30 rfl (lv_at hl 1 rfl) ?_
            refine lv_iload hx hb dX12_writeWhole_31 (lv_at hl 0 rfl) ?_
            refine lv_iload hx hb dX12_writeWhole_33 (lv_at hl 3 rfl) ?_
            have hPc := hP.sub (ws' := [(h, .inr (9, [.int h_code, .int h_taped, .ref h_tape, .int h_size, .ref h_text, .double h_value, .int x_22, .ref h_output, .int h_illAt, .ref h_format, .int h_sections, .int h_items, .ref h_kind, .ref h_what, .ref h_of, .ref h_relation, .ref h_bound, .int h_reads, .int h_readSections, .ref h_readKind, .ref h_readWhat, .ref h_readOf, .ref h_place, .ref h_readRelation, .ref h_readBound, .int h_stop, .ref h_meant, .ref h_row, .ref h_exact, .ref h_error, .ref h_bestError, .long h_m, .int h_e, .ref h_digits, .int h_whole])), (h_output, .inl (cI, 1024, .inl f_23)), (h_digits, .inl (cI, 1400, .inl h_digitsF))]) [0, 1, 3] rfl
            have hDc := hD.sub (ws' := [(h, .inr (9, [.int h_code, .int h_taped, .ref h_tape, .int h_size, .ref h_text, .double h_value, .int x_22, .ref h_output, .int h_illAt, .ref h_format, .int h_sections, .int h_items, .ref h_kind, .ref h_what, .ref h_of, .ref h_relation, .ref h_bound, .int h_reads, .int h_readSections, .ref h_readKind, .ref h_readWhat, .ref h_readOf, .ref h_place, .ref h_readRelation, .ref h_readBound, .int h_stop, .ref h_meant, .ref h_row, .ref h_exact, .ref h_error, .ref h_bestError, .long h_m, .int h_e, .ref h_digits, .int h_whole])), (h_output, .inl (cI, 1024, .inl f_23)), (h_digits, .inl (cI, 1400, .inl h_digitsF))]) [0, 1, 3] (by decide) rfl
            have hFc := va_free (wc := [(h, .inr (9, [.int h_code, .int h_taped, .ref h_tape, .int h_size, .ref h_text, .double h_value, .int x_22, .ref h_output, .int h_illAt, .ref h_format, .int h_sections, .int h_items, .ref h_kind, .ref h_what, .ref h_of, .ref h_relation, .ref h_bound, .int h_reads, .int h_readSections, .ref h_readKind, .ref h_readWhat, .ref h_readOf, .ref h_place, .ref h_readRelation, .ref h_readBound, .int h_stop, .ref h_meant, .ref h_row, .ref h_exact, .ref h_error, .ref h_bestError, .long h_m, .int h_e, .ref h_digits, .int h_whole])), (h_output, .inl (cI, 1024, .inl f_23)), (h_digits, .inl (cI, 1400, .inl h_digitsF))]) hD hS hA [0, 1, 3] rfl
            refine va_callv (va_runV (As := [.int x_21, .int p5]) (rest := []) ⟨hx, hb, hml, hown, hts⟩ (c_X12_writeDigit l D cI cD cJ H.size h h_code h_taped h_tape h_size h_text h_value x_22 h_output h_illAt h_format h_sections h_items h_kind h_what h_of h_relation h_bound h_reads h_readSections h_readKind h_readWhat h_readOf h_place h_readRelation h_readBound h_stop h_meant h_row h_exact h_error h_bestError h_m h_e h_digits h_whole f_23 h_digitsF x_21 p5 (by omega) (by omega) (by omega) (by omega) (by omega) (by assumption) (by omega) (by omega) (by omega) (by omega) (by omega) (by omega)) (cwV 2 hts (goodIn_app (goodIn_r _ [3, 4, 5, 6] rfl (by decide +kernel)) (goodIn_sub i_X12_writeDigit k_X12_writeDigit)) rfl rfl rfl (by decide +kernel) ⟨Nat.le_of_ble_eq_true rfl, Nat.le_of_ble_eq_true rfl⟩) ⟨fun a U g mk q => by obtain ⟨q0, q1, qP, qK, qD⟩ := q; exact ⟨q0, q1, qP, va_K.moved (u := U) (U := U.calling g mk a) (Vm.Alike.refl U.vm) qK, qD⟩, va_recv hK hPc (ci := 9) (q0 := 0) rfl rfl, fun U hU hW => ⟨rfl, by rw [hU], by rw [hU]; exact hPc, va_K.moved hW.alike hK, hDc.weaken (fun _ _ _ _ => trivial)⟩⟩ rfl rfl hl.1 rfl (lv_room (Nat.le_of_ble_eq_true rfl)) dX12_writeWhole_35 ⟨Nat.le_of_ble_eq_true rfl, Nat.le_of_ble_eq_true rfl⟩) hS (fun q _ h => hFc q h) hFc (fun u t H1 locs ht hvm w_25 hB hz1 hk1 hS => ?_)
            obtain ⟨u_26, u_27⟩ := u
            obtain ⟨hP1, hK1, hD1⟩ := hB
            rw [ht] at hP1
            try dsimp only at w_25
            obtain ⟨hP, hD⟩ := va_join (wr := [(h_what, .inl (cI, 260, .inl h_whatF))]) (w1 := [(h, .inr (9, [.int h_code, .int h_taped, .ref h_tape, .int h_size, .ref h_text, .double h_value, .int u_26, .ref h_output, .int h_illAt, .ref h_format, .int h_sections, .int h_items, .ref h_kind, .ref h_what, .ref h_of, .ref h_relation, .ref h_bound, .int h_reads, .int h_readSections, .ref h_readKind, .ref h_readWhat, .ref h_readOf, .ref h_place, .ref h_readRelation, .ref h_readBound, .int h_stop, .ref h_meant, .ref h_row, .ref h_exact, .ref h_error, .ref h_bestError, .long h_m, .int h_e, .ref h_digits, .int h_whole])), (h_output, .inl (cI, 1024, .inl u_27)), (h_digits, .inl (cI, 1400, .inl h_digitsF))]) hP hD [0, 1, 3] [2] rfl rfl (by decide) (by decide) hk1 hFc hP1 hD1
            generalize H1 = H at hP hS ⊢
            have hP : va_P D vwCl [(h_what, .inl (cI, 260, .inl h_whatF)), (h, .inr (9, [.int h_code, .int h_taped, .ref h_tape, .int h_size, .ref h_text, .double h_value, .int u_26, .ref h_output, .int h_illAt, .ref h_format, .int h_sections, .int h_items, .ref h_kind, .ref h_what, .ref h_of, .ref h_relation, .ref h_bound, .int h_reads, .int h_readSections, .ref h_readKind, .ref h_readWhat, .ref h_readOf, .ref h_place, .ref h_readRelation, .ref h_readBound, .int h_stop, .ref h_meant, .ref h_row, .ref h_exact, .ref h_error, .ref h_bestError, .long h_m, .int h_e, .ref h_digits, .int h_whole])), (h_output, .inl (cI, 1024, .inl u_27)), (h_digits, .inl (cI, 1400, .inl h_digitsF))] H := hP
            have hD : va_D A [(h_what, .inl (cI, 260, .inl h_whatF)), (h, .inr (9, [.int h_code, .int h_taped, .ref h_tape, .int h_size, .ref h_text, .double h_value, .int u_26, .ref h_output, .int h_illAt, .ref h_format, .int h_sections, .int h_items, .ref h_kind, .ref h_what, .ref h_of, .ref h_relation, .ref h_bound, .int h_reads, .int h_readSections, .ref h_readKind, .ref h_readWhat, .ref h_readOf, .ref h_place, .ref h_readRelation, .ref h_readBound, .int h_stop, .ref h_meant, .ref h_row, .ref h_exact, .ref h_error, .ref h_bestError, .long h_m, .int h_e, .ref h_digits, .int h_whole])), (h_output, .inl (cI, 1024, .inl u_27)), (h_digits, .inl (cI, 1400, .inl h_digitsF))] := hD
            obtain ⟨x_28, ex_28⟩ : ∃ y : Int32, y = x_21 + (-1) := ⟨_, rfl⟩
            have b_x_21 := ti_b x_21
            have tx_28 := ti_add ex_28
            refine lv_iinc (v := x_28) (lv' := [(6, .int x_28), (0, .ref h), (2, .int p2), (5, .int p5)]) hx hb dX12_writeWhole_38 hl (k := 0) rfl (by rw [ex_28]; rfl) (by decide) rfl (fun ls hl => ?_)
            refine lv_goto (tgt := 24) hx hb dX12_writeWhole_41 (by decide) ?_
            exact hZ1 (ih_24 x_28 u_26 u_27 _ _ _ (by omega) (by omega) (by omega) (hP.sub [1, 2, 0, 3] rfl) (hD.sub [1, 2, 0, 3] (by decide) rfl) hS hl)
      exact hZ1 (L_24 ((((z_20 : Int32).toInt + 2147483648).toNat) + 1) z_20 h_out h_outputF _ _ _ (by omega) (by omega) (by omega) hP hD hS hl)
    refine lv_if_eq (tgt := 21) hx hb dX12_writeWhole_9 (by decide) (fun c_29 => ?_) (fun c_29 => ?_)
    · have ic_29 : (p3 : Int32).toInt = (0 : Int32).toInt := (fa_eq p3 0).mp c_29
      refine lv_iload_n hx hb dX12_writeWhole_21 rfl (lv_at hl 2 rfl) ?_
      exact hZ1 (K_22 p2 _ _ _ (by omega) hP hD hS (lv_sub hl [0, 2, 5] rfl))
    · have ic_29 : ¬ ((p3 : Int32).toInt = (0 : Int32).toInt) := fun h9 => c_29 ((fa_eq p3 0).mpr h9)
      refine lv_aload_n hx hb dX12_writeWhole_12 rfl (lv_at hl 0 rfl) ?_
      refine va_get (D := D) (ci := 9) (v := .int h_whole) (C := RX12) (T := TX12) (N := 35) hx hb hts iX12 hown hK hP 0 rfl rfl 34 (by decide) (hw 0 (.fieldLink RX12 293 "NumberFormatsModel" "whole" "I") rfl) (fun _ h9 => h9) rfl dX12_writeWhole_13 ?_
      refine lv_iconst (v := 1) hx hb dX12_writeWhole_16 (by decide) ?_
      refine lv_isub hx hb dX12_writeWhole_17 ?_
      refine lv_topi (fun x_30 ex_30 => ?_)
      have b_h_whole := ti_b h_whole
      have tx_30 := ti_sub ex_30
      refine lv_goto (tgt := 22) hx hb dX12_writeWhole_18 (by decide) ?_
      exact hZ1 (K_22 x_30 _ _ _ (by omega) hP hD hS (lv_sub hl [0, 2, 5] rfl))

def ow_X12_countDigits : List Cond := [Cond.fieldLink RX12 26 "NumberFormatsModel" "kind" "[I"]
def pw_X12_countDigits : List Cond := Cond.code yX12_countDigits cX12_countDigits 5 (some .int) :: (ow_X12_countDigits ++ (wsX120))
set_option maxRecDepth 20000 in
theorem mo_X12_countDigits : ∀ w ∈ ow_X12_countDigits, w ∈ lw_tbl := by decide +kernel
set_option maxRecDepth 20000 in
theorem mc_X12_countDigits : Cond.code yX12_countDigits cX12_countDigits 5 (some .int) ∈ lw_tbl := by decide +kernel
theorem m_X12_countDigits : ∀ w ∈ pw_X12_countDigits, w ∈ lw_tbl := List.forall_mem_cons.mpr ⟨mc_X12_countDigits, (List.forall_mem_append.mpr ⟨mo_X12_countDigits, inX12⟩)⟩
theorem ko_X12_countDigits : ∀ w ∈ ow_X12_countDigits, goodWord w = true := by decide +kernel
theorem k_X12_countDigits : pw_X12_countDigits.all goodWord = true := List.all_eq_true.mpr (List.forall_mem_cons.mpr ⟨by decide +kernel, (List.forall_mem_append.mpr ⟨ko_X12_countDigits, kX_X12⟩)⟩)
set_option maxHeartbeats 400000 in
set_option maxRecDepth 100000 in
theorem c_X12_countDigits (l : Launch) (D : va_G) (cI cD cJ : ClassId) (sz : Nat) (h : Nat) (h_code : Int32) (h_taped : Int32) (h_tape : Nat) (h_size : Int32) (h_text : Nat) (h_value : UInt64) (h_out : Int32) (h_output : Nat) (h_illAt : Int32) (h_format : Nat) (h_sections : Int32) (h_items : Int32) (h_kind : Nat) (h_what : Nat) (h_of : Nat) (h_relation : Nat) (h_bound : Nat) (h_reads : Int32) (h_readSections : Int32) (h_readKind : Nat) (h_readWhat : Nat) (h_readOf : Nat) (h_place : Nat) (h_readRelation : Nat) (h_readBound : Nat) (h_stop : Int32) (h_meant : Nat) (h_row : Nat) (h_exact : Nat) (h_error : Nat) (h_bestError : Nat) (h_m : Int64) (h_e : Int32) (h_digits : Nat) (h_whole : Int32) (h_kindF : Nat → Int32) (p1 : Int32) (p2 : Int32) (hh0 : 0 ≤ p1.toInt) (hh1 : p1.toInt ≤ 258) (hh2 : p2.toInt ≤ 256) (iv_h_taped : 0 ≤ (h_taped : Int32).toInt ∧ (h_taped : Int32).toInt ≤ 260) (iv_h_size : 0 ≤ (h_size : Int32).toInt ∧ (h_size : Int32).toInt ≤ 255) (iv_h_value : inR h_value) (iv_h_out : 0 ≤ (h_out : Int32).toInt ∧ (h_out : Int32).toInt ≤ 1024) (iv_h_sections : 0 ≤ (h_sections : Int32).toInt ∧ (h_sections : Int32).toInt ≤ 4) (iv_h_items : 0 ≤ (h_items : Int32).toInt ∧ (h_items : Int32).toInt ≤ 255) (iv_h_reads : 0 ≤ (h_reads : Int32).toInt ∧ (h_reads : Int32).toInt ≤ 255) (iv_h_readSections : 0 ≤ (h_readSections : Int32).toInt ∧ (h_readSections : Int32).toInt ≤ 4) (iv_h_whole : 0 ≤ (h_whole : Int32).toInt ∧ (h_whole : Int32).toInt ≤ 1001) : Met l yX12_countDigits pw_X12_countDigits ({ frames := 0, cells := 0, slots := 0, locals := 0 }) (va_Pc [.ref h, .int p1, .int p2] (fun U => va_P D vwCl [(h, .inr (9, [.int h_code, .int h_taped, .ref h_tape, .int h_size, .ref h_text, .double h_value, .int h_out, .ref h_output, .int h_illAt, .ref h_format, .int h_sections, .int h_items, .ref h_kind, .ref h_what, .ref h_of, .ref h_relation, .ref h_bound, .int h_reads, .int h_readSections, .ref h_readKind, .ref h_readWhat, .ref h_readOf, .ref h_place, .ref h_readRelation, .ref h_readBound, .int h_stop, .ref h_meant, .ref h_row, .ref h_exact, .ref h_error, .ref h_bestError, .long h_m, .int h_e, .ref h_digits, .int h_whole])), (h_kind, .inl (cI, 260, .inl h_kindF))] U.heap ∧ va_K D vwCl (ty3 cI cD cJ) U)) (va_Qi (fun (r : Int32) (u : Unit) => (0 ≤ r.toInt ∧ r.toInt ≤ 256)) (fun _ _ => True) (fun _ => False)) 0 0 (fun _ => False) := by
  refine Met.ofW (cc := cX12_countDigits) (maxL := 5) (ret := (some .int)) (by decide +kernel) rfl ?_
  intro p e s m args below meth c s₁ B hml hv
  obtain ⟨rfl, hP, hK⟩ := hv
  have hx := B.exec
  have hb := B.bytes
  have hr := B.returns
  have hts := atoms_spec (ws := pw_X12_countDigits) B.pre
  have hown : s.vm.findClass RX12 = some m.cls := findClass_of_methodNamed B.named
  have hlocks := B.notSynchronized
  have hS : va_S (fun _ => False) s.heap s.heap [] := va_S.rf
  have hw : ∀ (k : Nat) (w : Cond), ow_X12_countDigits[k]? = some w → w.before _ s = true := fun k w h => hts w (List.mem_cons_of_mem _ (have h9 := List.mem_of_getElem? h; List.mem_append_left _ h9))
  have iX12 : ∀ w ∈ u_ws RX12 TX12 35, w ∈ pw_X12_countDigits := fun w h9 => List.mem_cons_of_mem _ (List.mem_append_right _ (h9))
  have n_0 : ((0 : Int32)).toInt = 0 := by decide
  have n_1 : ((1 : Int32)).toInt = 1 := by decide
  have hl := lv_entry ([.ref h, .int p1, .int p2]) (n := 5) (Nat.le_of_ble_eq_true rfl)
  rw [lg_entry_eq]
  generalize (lg_sl ([.ref h, .int p1, .int p2]) ++ List.replicate (5 - (lg_sl ([.ref h, .int p1, .int p2])).length) Slot.unset).toArray = ls at hl ⊢
  have hl : lv_has ls 5 [(0, .ref h), (1, .int p1), (2, .int p2)] := hl
  have b_p1 := ti_b p1
  have b_p2 := ti_b p2
  refine zz_cap (fun Z hZ1 hZ2 => ?_)
  refine lv_iconst (v := 0) hx hb dX12_countDigits_0 (by decide) ?_
  refine lv_istore_n (lv' := [(3, .int 0), (0, .ref h), (1, .int p1), (2, .int p2)]) hx hb dX12_countDigits_1 rfl hl (by decide) rfl (fun ls hl => ?_)
  refine lv_iload_n hx hb dX12_countDigits_2 rfl (lv_at hl 2 rfl) ?_
  refine lv_istore (lv' := [(4, .int p1), (3, .int 0), (0, .ref h), (1, .int p1), (2, .int p2)]) hx hb dX12_countDigits_3 hl (by decide) rfl (fun ls hl => ?_)
  have L_5 : ∀ (N : Nat) (x_1 : Int32) (x_2 : Int32) (H : Heap) (locs : List Loc) (ls : Array Slot), (p1.toInt ≤ (x_1 : Int32).toInt) → (0 ≤ (x_2 : Int32).toInt) → ((x_2 : Int32).toInt ≤ (x_1 : Int32).toInt) → ((x_2 : Int32).toInt ≤ 256) → ((2147483647 - (x_1 : Int32).toInt).toNat < N) → va_P D vwCl [(h, .inr (9, [.int h_code, .int h_taped, .ref h_tape, .int h_size, .ref h_text, .double h_value, .int h_out, .ref h_output, .int h_illAt, .ref h_format, .int h_sections, .int h_items, .ref h_kind, .ref h_what, .ref h_of, .ref h_relation, .ref h_bound, .int h_reads, .int h_readSections, .ref h_readKind, .ref h_readWhat, .ref h_readOf, .ref h_place, .ref h_readRelation, .ref h_readBound, .int h_stop, .ref h_meant, .ref h_row, .ref h_exact, .ref h_error, .ref h_bestError, .long h_m, .int h_e, .ref h_digits, .int h_whole])), (h_kind, .inl (cI, 260, .inl h_kindF))] H → va_S (fun _ => False) s.heap H locs → lv_has ls 5 [(4, .int x_1), (3, .int x_2), (0, .ref h), (2, .int p2)] → Z 0 0 H locs (F0 m 5 ls []) := by
    intro N
    induction N with
    | zero => intro _ _ _ _ _ _ _ _ _ hmu; exact absurd hmu (Nat.not_lt_zero _)
    | succ N ih_5 =>
      intro x_1 x_2 H locs ls g5_0 g5_1 g5_2 g5_3 hmu hP hS hl
      refine hZ2 ?_
      refine lv_iload hx hb dX12_countDigits_5 (lv_at hl 0 rfl) ?_
      refine lv_iload_n hx hb dX12_countDigits_7 rfl (lv_at hl 3 rfl) ?_
      refine lv_icmp_ge (tgt := 36) hx hb dX12_countDigits_8 (by decide) (fun c_3 => ?_) (fun c_3 => ?_)
      · have ic_3 : (p2 : Int32).toInt ≤ (x_1 : Int32).toInt := (fa_le p2 x_1).mp c_3
        refine lv_iload_n hx hb dX12_countDigits_36 rfl (lv_at hl 1 rfl) ?_
        exact W.iret (v := x_2) hx hb hr (fun t ht hW => ⟨⟨x_2, (), rfl, (by (try dsimp only); first | omega | assumption), trivial⟩, hS.F ht⟩) hS.2.2 dX12_countDigits_37
      · have ic_3 : ¬ ((p2 : Int32).toInt ≤ (x_1 : Int32).toInt) := fun h9 => c_3 ((fa_le p2 x_1).mpr h9)
        refine lv_iload_n hx hb dX12_countDigits_11 rfl (lv_at hl 1 rfl) ?_
        refine lv_aload_n hx hb dX12_countDigits_12 rfl (lv_at hl 2 rfl) ?_
        refine va_get (D := D) (ci := 9) (v := .ref h_kind) (C := RX12) (T := TX12) (N := 35) hx hb hts iX12 hown hK hP 0 rfl rfl 12 (by decide) (hw 0 (.fieldLink RX12 26 "NumberFormatsModel" "kind" "[I") rfl) (fun _ h9 => h9) rfl dX12_countDigits_13 ?_
        refine lv_iload hx hb dX12_countDigits_16 (lv_at hl 0 rfl) ?_
        have h_18 : vp_in x_1 260 := by rw [vp_in_iff]; omega
        refine va_iald hx hb hK hP 1 0 rfl rfl h_18 dX12_countDigits_18 ?_
        refine lv_topi (fun x_4 ex_4 => ?_)
        refine lv_iconst (v := 1) hx hb dX12_countDigits_19 (by decide) ?_
        have K_28 : ∀ (z_5 : Int32) (H : Heap) (locs : List Loc) (ls : Array Slot), ((z_5 : Int32).toInt = 0 ∨ (z_5 : Int32).toInt = 1) → va_P D vwCl [(h, .inr (9, [.int h_code, .int h_taped, .ref h_tape, .int h_size, .ref h_text, .double h_value, .int h_out, .ref h_output, .int h_illAt, .ref h_format, .int h_sections, .int h_items, .ref h_kind, .ref h_what, .ref h_of, .ref h_relation, .ref h_bound, .int h_reads, .int h_readSections, .ref h_readKind, .ref h_readWhat, .ref h_readOf, .ref h_place, .ref h_readRelation, .ref h_readBound, .int h_stop, .ref h_meant, .ref h_row, .ref h_exact, .ref h_error, .ref h_bestError, .long h_m, .int h_e, .ref h_digits, .int h_whole])), (h_kind, .inl (cI, 260, .inl h_kindF))] H → va_S (fun _ => False) s.heap H locs → lv_has ls 5 [(4, .int x_1), (0, .ref h), (2, .int p2)] → Z 0 0 H locs (F0 m 28 ls [.int z_5, .int x_2]) := by
          intro z_5 H locs ls g28_0 hP hS hl
          refine hZ2 ?_
          refine lv_iadd hx hb dX12_countDigits_28 ?_
          refine lv_topi (fun x_6 ex_6 => ?_)
          have b_x_2 := ti_b x_2
          have b_z_5 := ti_b z_5
          have tx_6 := ti_add ex_6
          refine lv_istore_n (lv' := [(3, .int x_6), (4, .int x_1), (0, .ref h), (2, .int p2)]) hx hb dX12_countDigits_29 rfl hl (by decide) rfl (fun ls hl => ?_)
          obtain ⟨x_7, ex_7⟩ : ∃ y : Int32, y = x_1 + 1 := ⟨_, rfl⟩
          have b_x_1 := ti_b x_1
          have tx_7 := ti_add ex_7
          refine lv_iinc (v := x_7) (lv' := [(4, .int x_7), (3, .int x_6), (0, .ref h), (2, .int p2)]) hx hb dX12_countDigits_30 hl (k := 1) rfl (by rw [ex_7]; rfl) (by decide) rfl (fun ls hl => ?_)
          refine lv_goto (tgt := 5) hx hb dX12_countDigits_33 (by decide) ?_
          exact hZ1 (ih_5 x_7 x_6 _ _ _ (by omega) (by omega) (by omega) (by omega) (by omega) hP hS hl)
        refine lv_icmp_ne (tgt := 27) hx hb dX12_countDigits_20 (by decide) (fun c_8 => ?_) (fun c_8 => ?_)
        · have ic_8 : ¬ ((x_4 : Int32).toInt = (1 : Int32).toInt) := fun h9 => c_8 ((fa_eq x_4 1).mpr h9)
          refine lv_iconst (v := 0) hx hb dX12_countDigits_27 (by decide) ?_
          exact hZ1 (K_28 0 _ _ _ (by omega) hP hS (lv_sub hl [0, 2, 3] rfl))
        · have ic_8 : (x_4 : Int32).toInt = (1 : Int32).toInt := (fa_eq x_4 1).mp c_8
          refine lv_iconst (v := 1) hx hb dX12_countDigits_23 (by decide) ?_
          refine lv_goto (tgt := 28) hx hb dX12_countDigits_24 (by decide) ?_
          exact hZ1 (K_28 1 _ _ _ (by omega) hP hS (lv_sub hl [0, 2, 3] rfl))
  exact hZ1 (L_5 (((2147483647 - (p1 : Int32).toInt).toNat) + 1) p1 0 _ _ _ (by omega) (by omega) (by omega) (by omega) (by omega) hP hS (lv_sub hl [0, 1, 2, 4] rfl))

