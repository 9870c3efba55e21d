def ow_X12_put : List Cond := [Cond.fieldLink RX12 7 "NumberFormatsModel" "tape" "[I", Cond.fieldLink RX12 81 "NumberFormatsModel" "taped" "I"]
def pw_X12_put : List Cond := Cond.code yX12_put cX12_put 3 none :: (ow_X12_put ++ (wsX120))
set_option maxRecDepth 20000 in
theorem mo_X12_put : ∀ w ∈ ow_X12_put, w ∈ lw_tbl := by decide +kernel
set_option maxRecDepth 20000 in
theorem mc_X12_put : Cond.code yX12_put cX12_put 3 none ∈ lw_tbl := by decide +kernel
theorem m_X12_put : ∀ w ∈ pw_X12_put, w ∈ lw_tbl := List.forall_mem_cons.mpr ⟨mc_X12_put, (List.forall_mem_append.mpr ⟨mo_X12_put, inX12⟩)⟩
theorem ko_X12_put : ∀ w ∈ ow_X12_put, goodWord w = true := by decide +kernel
theorem k_X12_put : pw_X12_put.all goodWord = true := List.all_eq_true.mpr (List.forall_mem_cons.mpr ⟨by decide +kernel, (List.forall_mem_append.mpr ⟨ko_X12_put, kX_X12⟩)⟩)
set_option maxHeartbeats 400000 in
set_option maxRecDepth 100000 in
theorem c_X12_put (l : Launch) (D : va_G) (cI cD cJ : ClassId) (sz : Nat) (h : Nat) (h_code : Int32) (h_taped : Int32) (h_tape : Nat) (h_size : Int32) (h_text : Nat) (h_value : UInt64) (h_out : Int32) (h_output : Nat) (h_illAt : Int32) (h_format : Nat) (h_sections : Int32) (h_items : Int32) (h_kind : Nat) (h_what : Nat) (h_of : Nat) (h_relation : Nat) (h_bound : Nat) (h_reads : Int32) (h_readSections : Int32) (h_readKind : Nat) (h_readWhat : Nat) (h_readOf : Nat) (h_place : Nat) (h_readRelation : Nat) (h_readBound : Nat) (h_stop : Int32) (h_meant : Nat) (h_row : Nat) (h_exact : Nat) (h_error : Nat) (h_bestError : Nat) (h_m : Int64) (h_e : Int32) (h_digits : Nat) (h_whole : Int32) (h_tapeF : Nat → Int32) (p1 : Int32) (hh0 : h_taped.toInt ≤ 256) (iv_h_taped : 0 ≤ (h_taped : Int32).toInt ∧ (h_taped : Int32).toInt ≤ 260) (iv_h_size : 0 ≤ (h_size : Int32).toInt ∧ (h_size : Int32).toInt ≤ 255) (iv_h_value : inR h_value) (iv_h_out : 0 ≤ (h_out : Int32).toInt ∧ (h_out : Int32).toInt ≤ 1024) (iv_h_sections : 0 ≤ (h_sections : Int32).toInt ∧ (h_sections : Int32).toInt ≤ 4) (iv_h_items : 0 ≤ (h_items : Int32).toInt ∧ (h_items : Int32).toInt ≤ 255) (iv_h_reads : 0 ≤ (h_reads : Int32).toInt ∧ (h_reads : Int32).toInt ≤ 255) (iv_h_readSections : 0 ≤ (h_readSections : Int32).toInt ∧ (h_readSections : Int32).toInt ≤ 4) (iv_h_whole : 0 ≤ (h_whole : Int32).toInt ∧ (h_whole : Int32).toInt ≤ 1001) (iv_h_tapeF : ∀ k9 : Nat, k9 < 260 → 0 ≤ (h_tapeF k9).toInt ∧ (h_tapeF k9).toInt ≤ 255) : Met l yX12_put pw_X12_put ({ frames := 0, cells := 0, slots := 0, locals := 0 }) (va_Pc [.ref h, .int p1] (fun U => U.heap.size = sz ∧ va_P D vwCl [(h, .inr (9, [.int h_code, .int h_taped, .ref h_tape, .int h_size, .ref h_text, .double h_value, .int h_out, .ref h_output, .int h_illAt, .ref h_format, .int h_sections, .int h_items, .ref h_kind, .ref h_what, .ref h_of, .ref h_relation, .ref h_bound, .int h_reads, .int h_readSections, .ref h_readKind, .ref h_readWhat, .ref h_readOf, .ref h_place, .ref h_readRelation, .ref h_readBound, .int h_stop, .ref h_meant, .ref h_row, .ref h_exact, .ref h_error, .ref h_bestError, .long h_m, .int h_e, .ref h_digits, .int h_whole])), (h_tape, .inl (cI, 260, .inl h_tapeF))] U.heap ∧ va_K D vwCl (ty3 cI cD cJ) U ∧ va_D (fun _ => True) [(h, .inr (9, [.int h_code, .int h_taped, .ref h_tape, .int h_size, .ref h_text, .double h_value, .int h_out, .ref h_output, .int h_illAt, .ref h_format, .int h_sections, .int h_items, .ref h_kind, .ref h_what, .ref h_of, .ref h_relation, .ref h_bound, .int h_reads, .int h_readSections, .ref h_readKind, .ref h_readWhat, .ref h_readOf, .ref h_place, .ref h_readRelation, .ref h_readBound, .int h_stop, .ref h_meant, .ref h_row, .ref h_exact, .ref h_error, .ref h_bestError, .long h_m, .int h_e, .ref h_digits, .int h_whole])), (h_tape, .inl (cI, 260, .inl h_tapeF))])) (va_Qv (fun (u : Int32 × (Nat → Int32)) => match u with | (h_taped2, h_tapeF2) => (h_taped2.toInt = h_taped.toInt + 4) ∧ (0 ≤ (h_taped2 : Int32).toInt ∧ (h_taped2 : Int32).toInt ≤ 260) ∧ (∀ k9 : Nat, k9 < 260 → 0 ≤ (h_tapeF2 k9).toInt ∧ (h_tapeF2 k9).toInt ≤ 255)) (fun (u : Int32 × (Nat → Int32)) (t : State) => match u with | (h_taped2, h_tapeF2) => va_P D vwCl [(h, .inr (9, [.int h_code, .int h_taped2, .ref h_tape, .int h_size, .ref h_text, .double h_value, .int h_out, .ref h_output, .int h_illAt, .ref h_format, .int h_sections, .int h_items, .ref h_kind, .ref h_what, .ref h_of, .ref h_relation, .ref h_bound, .int h_reads, .int h_readSections, .ref h_readKind, .ref h_readWhat, .ref h_readOf, .ref h_place, .ref h_readRelation, .ref h_readBound, .int h_stop, .ref h_meant, .ref h_row, .ref h_exact, .ref h_error, .ref h_bestError, .long h_m, .int h_e, .ref h_digits, .int h_whole])), (h_tape, .inl (cI, 260, .inl h_tapeF2))] t.heap ∧ va_K D vwCl (ty3 cI cD cJ) t ∧ va_D (va_A [(h, .inr (9, [.int h_code, .int h_taped, .ref h_tape, .int h_size, .ref h_text, .double h_value, .int h_out, .ref h_output, .int h_illAt, .ref h_format, .int h_sections, .int h_items, .ref h_kind, .ref h_what, .ref h_of, .ref h_relation, .ref h_bound, .int h_reads, .int h_readSections, .ref h_readKind, .ref h_readWhat, .ref h_readOf, .ref h_place, .ref h_readRelation, .ref h_readBound, .int h_stop, .ref h_meant, .ref h_row, .ref h_exact, .ref h_error, .ref h_bestError, .long h_m, .int h_e, .ref h_digits, .int h_whole])), (h_tape, .inl (cI, 260, .inl h_tapeF))] sz) [(h, .inr (9, [.int h_code, .int h_taped2, .ref h_tape, .int h_size, .ref h_text, .double h_value, .int h_out, .ref h_output, .int h_illAt, .ref h_format, .int h_sections, .int h_items, .ref h_kind, .ref h_what, .ref h_of, .ref h_relation, .ref h_bound, .int h_reads, .int h_readSections, .ref h_readKind, .ref h_readWhat, .ref h_readOf, .ref h_place, .ref h_readRelation, .ref h_readBound, .int h_stop, .ref h_meant, .ref h_row, .ref h_exact, .ref h_error, .ref h_bestError, .long h_m, .int h_e, .ref h_digits, .int h_whole])), (h_tape, .inl (cI, 260, .inl h_tapeF2))]) (va_A [(h, .inr (9, [.int h_code, .int h_taped, .ref h_tape, .int h_size, .ref h_text, .double h_value, .int h_out, .ref h_output, .int h_illAt, .ref h_format, .int h_sections, .int h_items, .ref h_kind, .ref h_what, .ref h_of, .ref h_relation, .ref h_bound, .int h_reads, .int h_readSections, .ref h_readKind, .ref h_readWhat, .ref h_readOf, .ref h_place, .ref h_readRelation, .ref h_readBound, .int h_stop, .ref h_meant, .ref h_row, .ref h_exact, .ref h_error, .ref h_bestError, .long h_m, .int h_e, .ref h_digits, .int h_whole])), (h_tape, .inl (cI, 260, .inl h_tapeF))] sz)) 0 0 (va_A [(h, .inr (9, [.int h_code, .int h_taped, .ref h_tape, .int h_size, .ref h_text, .double h_value, .int h_out, .ref h_output, .int h_illAt, .ref h_format, .int h_sections, .int h_items, .ref h_kind, .ref h_what, .ref h_of, .ref h_relation, .ref h_bound, .int h_reads, .int h_readSections, .ref h_readKind, .ref h_readWhat, .ref h_readOf, .ref h_place, .ref h_readRelation, .ref h_readBound, .int h_stop, .ref h_meant, .ref h_row, .ref h_exact, .ref h_error, .ref h_bestError, .long h_m, .int h_e, .ref h_digits, .int h_whole])), (h_tape, .inl (cI, 260, .inl h_tapeF))] sz) := by
  refine Met.ofW (cc := cX12_put) (maxL := 3) (ret := none) (by decide +kernel) rfl ?_
  intro p e s m args below meth c s₁ B hml hv
  obtain ⟨rfl, hsz, hP, hK, hD0⟩ := hv
  have hx := B.exec
  have hb := B.bytes
  have hr := B.returns
  have hts := atoms_spec (ws := pw_X12_put) B.pre
  have hown : s.vm.findClass RX12 = some m.cls := findClass_of_methodNamed B.named
  have hlocks := B.notSynchronized
  subst hsz
  have hD := hD0.self (sz := s.heap.size)
  generalize hAe : va_A [(h, .inr (9, [.int h_code, .int h_taped, .ref h_tape, .int h_size, .ref h_text, .double h_value, .int h_out, .ref h_output, .int h_illAt, .ref h_format, .int h_sections, .int h_items, .ref h_kind, .ref h_what, .ref h_of, .ref h_relation, .ref h_bound, .int h_reads, .int h_readSections, .ref h_readKind, .ref h_readWhat, .ref h_readOf, .ref h_place, .ref h_readRelation, .ref h_readBound, .int h_stop, .ref h_meant, .ref h_row, .ref h_exact, .ref h_error, .ref h_bestError, .long h_m, .int h_e, .ref h_digits, .int h_whole])), (h_tape, .inl (cI, 260, .inl h_tapeF))] s.heap.size = A at hD ⊢
  have hA : ∀ q : Nat, s.heap.size ≤ q → A q := fun q h => by rw [← hAe]; exact Or.inr h
  have hS : va_S A s.heap s.heap [] := va_S.rf
  have hw : ∀ (k : Nat) (w : Cond), ow_X12_put[k]? = some w → w.before _ s = true := fun k w h => hts w (List.mem_cons_of_mem _ (have h9 := List.mem_of_getElem? h; List.mem_append_left _ h9))
  have iX12 : ∀ w ∈ u_ws RX12 TX12 35, w ∈ pw_X12_put := fun w h9 => List.mem_cons_of_mem _ (List.mem_append_right _ (h9))
  have n_m8 : (((-8) : Int32)).toInt = (-8) := by decide
  have n_0 : ((0 : Int32)).toInt = 0 := by decide
  have n_1 : ((1 : Int32)).toInt = 1 := by decide
  have n_24 : ((24 : Int32)).toInt = 24 := by decide
  have n_255 : ((255 : Int32)).toInt = 255 := by decide
  have hl := lv_entry ([.ref h, .int p1]) (n := 3) (Nat.le_of_ble_eq_true rfl)
  rw [lg_entry_eq]
  generalize (lg_sl ([.ref h, .int p1]) ++ List.replicate (3 - (lg_sl ([.ref h, .int p1])).length) Slot.unset).toArray = ls at hl ⊢
  have hl : lv_has ls 3 [(0, .ref h), (1, .int p1)] := hl
  have b_p1 := ti_b p1
  refine zz_cap (fun Z hZ1 hZ2 => ?_)
  refine lv_bipush (v := 24) hx hb dX12_put_0 (by decide) ?_
  refine lv_istore_n (lv' := [(2, .int 24), (0, .ref h), (1, .int p1)]) hx hb dX12_put_2 rfl hl (by decide) rfl (fun ls hl => ?_)
  have L_3 : ∀ (N : Nat) (x_1 : Int32) (x_2 : Int32) (f_3 : Nat → Int32) (H : Heap) (locs : List Loc) (ls : Array Slot), (8 * ((x_2 : Int32).toInt - h_taped.toInt) = 24 - (x_1 : Int32).toInt) → (-8 ≤ (x_1 : Int32).toInt) → ((x_1 : Int32).toInt ≤ 24) → (0 ≤ (x_2 : Int32).toInt ∧ (x_2 : Int32).toInt ≤ 260) → (∀ k9 : Nat, k9 < 260 → 0 ≤ (f_3 k9).toInt ∧ (f_3 k9).toInt ≤ 255) → (((x_1 : Int32).toInt + 8).toNat < N) → va_P D vwCl [(h, .inr (9, [.int h_code, .int x_2, .ref h_tape, .int h_size, .ref h_text, .double h_value, .int h_out, .ref h_output, .int h_illAt, .ref h_format, .int h_sections, .int h_items, .ref h_kind, .ref h_what, .ref h_of, .ref h_relation, .ref h_bound, .int h_reads, .int h_readSections, .ref h_readKind, .ref h_readWhat, .ref h_readOf, .ref h_place, .ref h_readRelation, .ref h_readBound, .int h_stop, .ref h_meant, .ref h_row, .ref h_exact, .ref h_error, .ref h_bestError, .long h_m, .int h_e, .ref h_digits, .int h_whole])), (h_tape, .inl (cI, 260, .inl f_3))] H → va_D A [(h, .inr (9, [.int h_code, .int x_2, .ref h_tape, .int h_size, .ref h_text, .double h_value, .int h_out, .ref h_output, .int h_illAt, .ref h_format, .int h_sections, .int h_items, .ref h_kind, .ref h_what, .ref h_of, .ref h_relation, .ref h_bound, .int h_reads, .int h_readSections, .ref h_readKind, .ref h_readWhat, .ref h_readOf, .ref h_place, .ref h_readRelation, .ref h_readBound, .int h_stop, .ref h_meant, .ref h_row, .ref h_exact, .ref h_error, .ref h_bestError, .long h_m, .int h_e, .ref h_digits, .int h_whole])), (h_tape, .inl (cI, 260, .inl f_3))] → va_S A s.heap H locs → lv_has ls 3 [(2, .int x_1), (0, .ref h), (1, .int p1)] → Z 0 0 H locs (F0 m 3 ls []) := by
    intro N
    induction N with
    | zero => intro _ _ _ _ _ _ _ _ _ _ _ hmu; exact absurd hmu (Nat.not_lt_zero _)
    | succ N ih_3 =>
      intro x_1 x_2 f_3 H locs ls g3_0 g3_1 g3_2 g3_3 g3_4 hmu hP hD hS hl
      refine hZ2 ?_
      refine lv_iload_n hx hb dX12_put_3 rfl (lv_at hl 0 rfl) ?_
      refine lv_if_lt (tgt := 39) hx hb dX12_put_4 (by decide) (fun c_4 => ?_) (fun c_4 => ?_)
      · have ic_4 : (x_1 : Int32).toInt < (0 : Int32).toInt := (fa_lt x_1 0).mp c_4
        have hP9 := hP.sub (ws' := [(h, .inr (9, [.int h_code, .int x_2, .ref h_tape, .int h_size, .ref h_text, .double h_value, .int h_out, .ref h_output, .int h_illAt, .ref h_format, .int h_sections, .int h_items, .ref h_kind, .ref h_what, .ref h_of, .ref h_relation, .ref h_bound, .int h_reads, .int h_readSections, .ref h_readKind, .ref h_readWhat, .ref h_readOf, .ref h_place, .ref h_readRelation, .ref h_readBound, .int h_stop, .ref h_meant, .ref h_row, .ref h_exact, .ref h_error, .ref h_bestError, .long h_m, .int h_e, .ref h_digits, .int h_whole])), (h_tape, .inl (cI, 260, .inl f_3))]) [0, 1] rfl
        have hD9 := hD.sub (ws' := [(h, .inr (9, [.int h_code, .int x_2, .ref h_tape, .int h_size, .ref h_text, .double h_value, .int h_out, .ref h_output, .int h_illAt, .ref h_format, .int h_sections, .int h_items, .ref h_kind, .ref h_what, .ref h_of, .ref h_relation, .ref h_bound, .int h_reads, .int h_readSections, .ref h_readKind, .ref h_readWhat, .ref h_readOf, .ref h_place, .ref h_readRelation, .ref h_readBound, .int h_stop, .ref h_meant, .ref h_row, .ref h_exact, .ref h_error, .ref h_bestError, .long h_m, .int h_e, .ref h_digits, .int h_whole])), (h_tape, .inl (cI, 260, .inl f_3))]) [0, 1] (by decide) rfl
        exact W.vret hx hb hr (fun t ht hW => ⟨⟨(x_2, f_3), rfl, (by (try dsimp only); refine ⟨?_, ?_, ?_⟩ <;> first | omega | assumption), by rw [ht]; exact hP9, va_K.moved hW.alike hK, hD9⟩, hS.F ht⟩) hS.2.2 dX12_put_39
      · have ic_4 : ¬ ((x_1 : Int32).toInt < (0 : Int32).toInt) := fun h9 => c_4 ((fa_lt x_1 0).mpr h9)
        refine lv_aload_n hx hb dX12_put_7 rfl (lv_at hl 1 rfl) ?_
        refine va_get (D := D) (ci := 9) (v := .ref h_tape) (C := RX12) (T := TX12) (N := 35) hx hb hts iX12 hown hK hP 0 rfl rfl 2 (by decide) (hw 0 (.fieldLink RX12 7 "NumberFormatsModel" "tape" "[I") rfl) (fun _ h9 => h9) rfl dX12_put_8 ?_
        refine lv_aload_n hx hb dX12_put_11 rfl (lv_at hl 1 rfl) ?_
        refine va_get (D := D) (ci := 9) (v := .int x_2) (C := RX12) (T := TX12) (N := 35) hx hb hts iX12 hown hK hP 0 rfl rfl 1 (by decide) (hw 1 (.fieldLink RX12 81 "NumberFormatsModel" "taped" "I") rfl) (fun _ h9 => h9) rfl dX12_put_12 ?_
        refine lv_iload_n hx hb dX12_put_15 rfl (lv_at hl 2 rfl) ?_
        refine lv_iload_n hx hb dX12_put_16 rfl (lv_at hl 0 rfl) ?_
        refine lv_ishr hx hb dX12_put_17 ?_
        refine lv_topi (fun x_5 ex_5 => ?_)
        refine lv_sipush (v := 255) hx hb dX12_put_18 (by decide) ?_
        refine lv_iand hx hb dX12_put_21 ?_
        refine lv_topi (fun x_6 ex_6 => ?_)
        have tx_6 := ti_and ex_6 8 (by decide +kernel) (by decide)
        have h_22 : vp_in x_2 260 := by rw [vp_in_iff]; omega
        refine va_iast hx hb hK hP hD hS 1 0 rfl rfl h_22 dX12_put_22 (fun H locs hP hD hS => ?_)
        obtain ⟨f_7, ef_7⟩ : ∃ y : Nat → Int32, y = upd f_3 (x_2 : Int32).toNatClampNeg x_6 := ⟨_, rfl⟩
        rw [← ef_7] at hP hD
        have hP : va_P D vwCl [(h, .inr (9, [.int h_code, .int x_2, .ref h_tape, .int h_size, .ref h_text, .double h_value, .int h_out, .ref h_output, .int h_illAt, .ref h_format, .int h_sections, .int h_items, .ref h_kind, .ref h_what, .ref h_of, .ref h_relation, .ref h_bound, .int h_reads, .int h_readSections, .ref h_readKind, .ref h_readWhat, .ref h_readOf, .ref h_place, .ref h_readRelation, .ref h_readBound, .int h_stop, .ref h_meant, .ref h_row, .ref h_exact, .ref h_error, .ref h_bestError, .long h_m, .int h_e, .ref h_digits, .int h_whole])), (h_tape, .inl (cI, 260, .inl f_7))] H := hP
        have hD : va_D A [(h, .inr (9, [.int h_code, .int x_2, .ref h_tape, .int h_size, .ref h_text, .double h_value, .int h_out, .ref h_output, .int h_illAt, .ref h_format, .int h_sections, .int h_items, .ref h_kind, .ref h_what, .ref h_of, .ref h_relation, .ref h_bound, .int h_reads, .int h_readSections, .ref h_readKind, .ref h_readWhat, .ref h_readOf, .ref h_place, .ref h_readRelation, .ref h_readBound, .int h_stop, .ref h_meant, .ref h_row, .ref h_exact, .ref h_error, .ref h_bestError, .long h_m, .int h_e, .ref h_digits, .int h_whole])), (h_tape, .inl (cI, 260, .inl f_7))] := hD
        have iv_f_7 : ∀ k9 : Nat, k9 < 260 → 0 ≤ (f_7 k9).toInt ∧ (f_7 k9).toInt ≤ 255 := by intro k9 h9; rw [ef_7]; unfold upd; split <;> first | omega | exact (‹∀ k9 : Nat, k9 < 260 → 0 ≤ (f_3 k9).toInt ∧ (f_3 k9).toInt ≤ 255›) k9 h9
        refine lv_aload_n hx hb dX12_put_23 rfl (lv_at hl 1 rfl) ?_
        refine lv_dup hx hb dX12_put_24 rfl ?_
        refine va_get (D := D) (ci := 9) (v := .int x_2) (C := RX12) (T := TX12) (N := 35) hx hb hts iX12 hown hK hP 0 rfl rfl 1 (by decide) (hw 1 (.fieldLink RX12 81 "NumberFormatsModel" "taped" "I") rfl) (fun _ h9 => h9) rfl dX12_put_25 ?_
        refine lv_iconst (v := 1) hx hb dX12_put_28 (by decide) ?_
        refine lv_iadd hx hb dX12_put_29 ?_
        refine lv_topi (fun x_8 ex_8 => ?_)
        have b_x_2 := ti_b x_2
        have tx_8 := ti_add ex_8
        refine va_put (D := D) (ci := 9) (v := .int x_8) (ty := .int) (C := RX12) (T := TX12) (N := 35) hx hb hts iX12 tyX12 tyX12_ok nmX12 hown hK hP hD hS 0 rfl rfl 1 (by decide) (hw 1 (.fieldLink RX12 81 "NumberFormatsModel" "taped" "I") rfl) (fun _ h9 => h9) rfl (by decide +kernel) rfl rfl (Nat.le_of_ble_eq_true rfl) dX12_put_30 (fun H locs hP hD hS => ?_)
        have hP : va_P D vwCl [(h, .inr (9, [.int h_code, .int x_8, .ref h_tape, .int h_size, .ref h_text, .double h_value, .int h_out, .ref h_output, .int h_illAt, .ref h_format, .int h_sections, .int h_items, .ref h_kind, .ref h_what, .ref h_of, .ref h_relation, .ref h_bound, .int h_reads, .int h_readSections, .ref h_readKind, .ref h_readWhat, .ref h_readOf, .ref h_place, .ref h_readRelation, .ref h_readBound, .int h_stop, .ref h_meant, .ref h_row, .ref h_exact, .ref h_error, .ref h_bestError, .long h_m, .int h_e, .ref h_digits, .int h_whole])), (h_tape, .inl (cI, 260, .inl f_7))] H := hP
        have hD : va_D A [(h, .inr (9, [.int h_code, .int x_8, .ref h_tape, .int h_size, .ref h_text, .double h_value, .int h_out, .ref h_output, .int h_illAt, .ref h_format, .int h_sections, .int h_items, .ref h_kind, .ref h_what, .ref h_of, .ref h_relation, .ref h_bound, .int h_reads, .int h_readSections, .ref h_readKind, .ref h_readWhat, .ref h_readOf, .ref h_place, .ref h_readRelation, .ref h_readBound, .int h_stop, .ref h_meant, .ref h_row, .ref h_exact, .ref h_error, .ref h_bestError, .long h_m, .int h_e, .ref h_digits, .int h_whole])), (h_tape, .inl (cI, 260, .inl f_7))] := hD
        obtain ⟨x_9, ex_9⟩ : ∃ y : Int32, y = x_1 + (-8) := ⟨_, rfl⟩
        have b_x_1 := ti_b x_1
        have tx_9 := ti_add ex_9
        refine lv_iinc (v := x_9) (lv' := [(2, .int x_9), (0, .ref h), (1, .int p1)]) hx hb dX12_put_33 hl (k := 0) rfl (by rw [ex_9]; rfl) (by decide) rfl (fun ls hl => ?_)
        refine lv_goto (tgt := 3) hx hb dX12_put_36 (by decide) ?_
        exact hZ1 (ih_3 x_9 x_8 f_7 _ _ _ (by omega) (by omega) (by omega) (by omega) (by assumption) (by omega) hP hD hS hl)
  exact hZ1 (L_3 ((((24 : Int32).toInt + 8).toNat) + 1) 24 h_taped h_tapeF _ _ _ (by omega) (by omega) (by omega) (by omega) (by assumption) (by omega) hP hD hS hl)

def ow_X12_feed : List Cond := [Cond.fieldLink RX12 78 "NumberFormatsModel" "code" "I", Cond.fieldLink RX12 81 "NumberFormatsModel" "taped" "I", Cond.methodLink RX12 84 yX12_put, Cond.instanceMethod yX12_put, Cond.selects RX12 yX12_put yX12_put, Cond.initialized RX12]
def pw_X12_feed : List Cond := Cond.code yX12_feed cX12_feed 6 (some .boolean) :: (ow_X12_feed ++ (pw_X12_put ++ (wsX120)))
set_option maxRecDepth 20000 in
theorem mo_X12_feed : ∀ w ∈ ow_X12_feed, w ∈ lw_tbl := by decide +kernel
set_option maxRecDepth 20000 in
theorem mc_X12_feed : Cond.code yX12_feed cX12_feed 6 (some .boolean) ∈ lw_tbl := by decide +kernel
theorem m_X12_feed : ∀ w ∈ pw_X12_feed, w ∈ lw_tbl := List.forall_mem_cons.mpr ⟨mc_X12_feed, (List.forall_mem_append.mpr ⟨mo_X12_feed, (List.forall_mem_append.mpr ⟨m_X12_put, inX12⟩)⟩)⟩
theorem ko_X12_feed : ∀ w ∈ ow_X12_feed, goodWord w = true := by decide +kernel
theorem k_X12_feed : pw_X12_feed.all goodWord = true := List.all_eq_true.mpr (List.forall_mem_cons.mpr ⟨by decide +kernel, (List.forall_mem_append.mpr ⟨ko_X12_feed, (List.forall_mem_append.mpr ⟨(List.all_eq_true.mp k_X12_put), kX_X12⟩)⟩)⟩)
set_option maxHeartbeats 400000 in
set_option maxRecDepth 100000 in
theorem c_X12_feed (l : Launch) (D : va_G) (cI cD cJ : ClassId) (sz : Nat) (h : Nat) (h_code : Int32) (h_taped : Int32) (h_tape : Nat) (h_size : Int32) (h_text : Nat) (h_value : UInt64) (h_out : Int32) (h_output : Nat) (h_illAt : Int32) (h_format : Nat) (h_sections : Int32) (h_items : Int32) (h_kind : Nat) (h_what : Nat) (h_of : Nat) (h_relation : Nat) (h_bound : Nat) (h_reads : Int32) (h_readSections : Int32) (h_readKind : Nat) (h_readWhat : Nat) (h_readOf : Nat) (h_place : Nat) (h_readRelation : Nat) (h_readBound : Nat) (h_stop : Int32) (h_meant : Nat) (h_row : Nat) (h_exact : Nat) (h_error : Nat) (h_bestError : Nat) (h_m : Int64) (h_e : Int32) (h_digits : Nat) (h_whole : Int32) (h_tapeF : Nat → Int32) (p1 : Int32) (p2 : Int32) (p3 : Int32) (p4 : Int32) (p5 : Int32) (hh0 : h_taped.toInt % 20 = 0) (iv_h_taped : 0 ≤ (h_taped : Int32).toInt ∧ (h_taped : Int32).toInt ≤ 260) (iv_h_size : 0 ≤ (h_size : Int32).toInt ∧ (h_size : Int32).toInt ≤ 255) (iv_h_value : inR h_value) (iv_h_out : 0 ≤ (h_out : Int32).toInt ∧ (h_out : Int32).toInt ≤ 1024) (iv_h_sections : 0 ≤ (h_sections : Int32).toInt ∧ (h_sections : Int32).toInt ≤ 4) (iv_h_items : 0 ≤ (h_items : Int32).toInt ∧ (h_items : Int32).toInt ≤ 255) (iv_h_reads : 0 ≤ (h_reads : Int32).toInt ∧ (h_reads : Int32).toInt ≤ 255) (iv_h_readSections : 0 ≤ (h_readSections : Int32).toInt ∧ (h_readSections : Int32).toInt ≤ 4) (iv_h_whole : 0 ≤ (h_whole : Int32).toInt ∧ (h_whole : Int32).toInt ≤ 1001) (iv_h_tapeF : ∀ k9 : Nat, k9 < 260 → 0 ≤ (h_tapeF k9).toInt ∧ (h_tapeF k9).toInt ≤ 255) : Met l yX12_feed pw_X12_feed ({ frames := 1, cells := 0, slots := 0, locals := 22 }) (va_Pc [.ref h, .int p1, .int p2, .int p3, .int p4, .int p5] (fun U => U.heap.size = sz ∧ va_P D vwCl [(h, .inr (9, [.int h_code, .int h_taped, .ref h_tape, .int h_size, .ref h_text, .double h_value, .int h_out, .ref h_output, .int h_illAt, .ref h_format, .int h_sections, .int h_items, .ref h_kind, .ref h_what, .ref h_of, .ref h_relation, .ref h_bound, .int h_reads, .int h_readSections, .ref h_readKind, .ref h_readWhat, .ref h_readOf, .ref h_place, .ref h_readRelation, .ref h_readBound, .int h_stop, .ref h_meant, .ref h_row, .ref h_exact, .ref h_error, .ref h_bestError, .long h_m, .int h_e, .ref h_digits, .int h_whole])), (h_tape, .inl (cI, 260, .inl h_tapeF))] U.heap ∧ va_K D vwCl (ty3 cI cD cJ) U ∧ va_D (fun _ => True) [(h, .inr (9, [.int h_code, .int h_taped, .ref h_tape, .int h_size, .ref h_text, .double h_value, .int h_out, .ref h_output, .int h_illAt, .ref h_format, .int h_sections, .int h_items, .ref h_kind, .ref h_what, .ref h_of, .ref h_relation, .ref h_bound, .int h_reads, .int h_readSections, .ref h_readKind, .ref h_readWhat, .ref h_readOf, .ref h_place, .ref h_readRelation, .ref h_readBound, .int h_stop, .ref h_meant, .ref h_row, .ref h_exact, .ref h_error, .ref h_bestError, .long h_m, .int h_e, .ref h_digits, .int h_whole])), (h_tape, .inl (cI, 260, .inl h_tapeF))])) (va_Qi (fun (r : Int32) (u : Int32 × Int32 × (Nat → Int32)) => match u with | (h_code2, h_taped2, h_tapeF2) => (r.toInt = 0 ∨ r.toInt = 1) ∧ ((r = 1 ∧ h_taped.toInt ≤ 240 ∧ h_taped2.toInt = h_taped.toInt + 20) ∨ (r = 0 ∧ h_taped.toInt = 260 ∧ h_taped2 = h_taped)) ∧ (0 ≤ (h_taped2 : Int32).toInt ∧ (h_taped2 : Int32).toInt ≤ 260) ∧ (∀ k9 : Nat, k9 < 260 → 0 ≤ (h_tapeF2 k9).toInt ∧ (h_tapeF2 k9).toInt ≤ 255)) (fun (u : Int32 × Int32 × (Nat → Int32)) (t : State) => match u with | (h_code2, h_taped2, h_tapeF2) => va_P D vwCl [(h, .inr (9, [.int h_code2, .int h_taped2, .ref h_tape, .int h_size, .ref h_text, .double h_value, .int h_out, .ref h_output, .int h_illAt, .ref h_format, .int h_sections, .int h_items, .ref h_kind, .ref h_what, .ref h_of, .ref h_relation, .ref h_bound, .int h_reads, .int h_readSections, .ref h_readKind, .ref h_readWhat, .ref h_readOf, .ref h_place, .ref h_readRelation, .ref h_readBound, .int h_stop, .ref h_meant, .ref h_row, .ref h_exact, .ref h_error, .ref h_bestError, .long h_m, .int h_e, .ref h_digits, .int h_whole])), (h_tape, .inl (cI, 260, .inl h_tapeF2))] t.heap ∧ va_K D vwCl (ty3 cI cD cJ) t ∧ va_D (va_A [(h, .inr (9, [.int h_code, .int h_taped, .ref h_tape, .int h_size, .ref h_text, .double h_value, .int h_out, .ref h_output, .int h_illAt, .ref h_format, .int h_sections, .int h_items, .ref h_kind, .ref h_what, .ref h_of, .ref h_relation, .ref h_bound, .int h_reads, .int h_readSections, .ref h_readKind, .ref h_readWhat, .ref h_readOf, .ref h_place, .ref h_readRelation, .ref h_readBound, .int h_stop, .ref h_meant, .ref h_row, .ref h_exact, .ref h_error, .ref h_bestError, .long h_m, .int h_e, .ref h_digits, .int h_whole])), (h_tape, .inl (cI, 260, .inl h_tapeF))] sz) [(h, .inr (9, [.int h_code2, .int h_taped2, .ref h_tape, .int h_size, .ref h_text, .double h_value, .int h_out, .ref h_output, .int h_illAt, .ref h_format, .int h_sections, .int h_items, .ref h_kind, .ref h_what, .ref h_of, .ref h_relation, .ref h_bound, .int h_reads, .int h_readSections, .ref h_readKind, .ref h_readWhat, .ref h_readOf, .ref h_place, .ref h_readRelation, .ref h_readBound, .int h_stop, .ref h_meant, .ref h_row, .ref h_exact, .ref h_error, .ref h_bestError, .long h_m, .int h_e, .ref h_digits, .int h_whole])), (h_tape, .inl (cI, 260, .inl h_tapeF2))]) (va_A [(h, .inr (9, [.int h_code, .int h_taped, .ref h_tape, .int h_size, .ref h_text, .double h_value, .int h_out, .ref h_output, .int h_illAt, .ref h_format, .int h_sections, .int h_items, .ref h_kind, .ref h_what, .ref h_of, .ref h_relation, .ref h_bound, .int h_reads, .int h_readSections, .ref h_readKind, .ref h_readWhat, .ref h_readOf, .ref h_place, .ref h_readRelation, .ref h_readBound, .int h_stop, .ref h_meant, .ref h_row, .ref h_exact, .ref h_error, .ref h_bestError, .long h_m, .int h_e, .ref h_digits, .int h_whole])), (h_tape, .inl (cI, 260, .inl h_tapeF))] sz)) 0 0 (va_A [(h, .inr (9, [.int h_code, .int h_taped, .ref h_tape, .int h_size, .ref h_text, .double h_value, .int h_out, .ref h_output, .int h_illAt, .ref h_format, .int h_sections, .int h_items, .ref h_kind, .ref h_what, .ref h_of, .ref h_relation, .ref h_bound, .int h_reads, .int h_readSections, .ref h_readKind, .ref h_readWhat, .ref h_readOf, .ref h_place, .ref h_readRelation, .ref h_readBound, .int h_stop, .ref h_meant, .ref h_row, .ref h_exact, .ref h_error, .ref h_bestError, .long h_m, .int h_e, .ref h_digits, .int h_whole])), (h_tape, .inl (cI, 260, .inl h_tapeF))] sz) := by
  refine Met.ofW (cc := cX12_feed) (maxL := 6) (ret := (some .boolean)) (by decide +kernel) rfl ?_
  intro p e s m args below meth c s₁ B hml hv
  obtain ⟨rfl, hsz, hP, hK, hD0⟩ := hv
  have hx := B.exec
  have hb := B.bytes
  have hr := B.returns
  have hts := atoms_spec (ws := pw_X12_feed) B.pre
  have hown : s.vm.findClass RX12 = some m.cls := findClass_of_methodNamed B.named
  have hlocks := B.notSynchronized
  subst hsz
  have hD := hD0.self (sz := s.heap.size)
  generalize hAe : va_A [(h, .inr (9, [.int h_code, .int h_taped, .ref h_tape, .int h_size, .ref h_text, .double h_value, .int h_out, .ref h_output, .int h_illAt, .ref h_format, .int h_sections, .int h_items, .ref h_kind, .ref h_what, .ref h_of, .ref h_relation, .ref h_bound, .int h_reads, .int h_readSections, .ref h_readKind, .ref h_readWhat, .ref h_readOf, .ref h_place, .ref h_readRelation, .ref h_readBound, .int h_stop, .ref h_meant, .ref h_row, .ref h_exact, .ref h_error, .ref h_bestError, .long h_m, .int h_e, .ref h_digits, .int h_whole])), (h_tape, .inl (cI, 260, .inl h_tapeF))] s.heap.size = A at hD ⊢
  have hA : ∀ q : Nat, s.heap.size ≤ q → A q := fun q h => by rw [← hAe]; exact Or.inr h
  have hS : va_S A s.heap s.heap [] := va_S.rf
  have hw : ∀ (k : Nat) (w : Cond), ow_X12_feed[k]? = some w → w.before _ s = true := fun k w h => hts w (List.mem_cons_of_mem _ (have h9 := List.mem_of_getElem? h; List.mem_append_left _ h9))
  have i_X12_put : ∀ w ∈ pw_X12_put, w ∈ pw_X12_feed := fun w h9 => List.mem_cons_of_mem _ (List.mem_append_right _ (List.mem_append_left _ h9))
  have iX12 : ∀ w ∈ u_ws RX12 TX12 35, w ∈ pw_X12_feed := fun w h9 => List.mem_cons_of_mem _ (List.mem_append_right _ (List.mem_append_right _ (h9)))
  have n_0 : ((0 : Int32)).toInt = 0 := by decide
  have n_1 : ((1 : Int32)).toInt = 1 := by decide
  have n_260 : ((260 : Int32)).toInt = 260 := by decide
  have hl := lv_entry ([.ref h, .int p1, .int p2, .int p3, .int p4, .int p5]) (n := 6) (Nat.le_of_ble_eq_true rfl)
  rw [lg_entry_eq]
  generalize (lg_sl ([.ref h, .int p1, .int p2, .int p3, .int p4, .int p5]) ++ List.replicate (6 - (lg_sl ([.ref h, .int p1, .int p2, .int p3, .int p4, .int p5])).length) Slot.unset).toArray = ls at hl ⊢
  have hl : lv_has ls 6 [(0, .ref h), (1, .int p1), (2, .int p2), (3, .int p3), (4, .int p4), (5, .int p5)] := hl
  have b_p1 := ti_b p1
  have b_p2 := ti_b p2
  have b_p3 := ti_b p3
  have b_p4 := ti_b p4
  have b_p5 := ti_b p5
  refine lv_aload_n hx hb dX12_feed_0 rfl (lv_at hl 0 rfl) ?_
  refine lv_iconst (v := 0) hx hb dX12_feed_1 (by decide) ?_
  refine va_put (D := D) (ci := 9) (v := .int 0) (ty := .int) (C := RX12) (T := TX12) (N := 35) hx hb hts iX12 tyX12 tyX12_ok nmX12 hown hK hP hD hS 0 rfl rfl 0 (by decide) (hw 0 (.fieldLink RX12 78 "NumberFormatsModel" "code" "I") rfl) (fun _ h9 => h9) rfl (by decide +kernel) rfl rfl (Nat.le_of_ble_eq_true rfl) dX12_feed_2 (fun H locs hP hD hS => ?_)
  have hP : va_P D vwCl [(h, .inr (9, [.int 0, .int h_taped, .ref h_tape, .int h_size, .ref h_text, .double h_value, .int h_out, .ref h_output, .int h_illAt, .ref h_format, .int h_sections, .int h_items, .ref h_kind, .ref h_what, .ref h_of, .ref h_relation, .ref h_bound, .int h_reads, .int h_readSections, .ref h_readKind, .ref h_readWhat, .ref h_readOf, .ref h_place, .ref h_readRelation, .ref h_readBound, .int h_stop, .ref h_meant, .ref h_row, .ref h_exact, .ref h_error, .ref h_bestError, .long h_m, .int h_e, .ref h_digits, .int h_whole])), (h_tape, .inl (cI, 260, .inl h_tapeF))] H := hP
  have hD : va_D A [(h, .inr (9, [.int 0, .int h_taped, .ref h_tape, .int h_size, .ref h_text, .double h_value, .int h_out, .ref h_output, .int h_illAt, .ref h_format, .int h_sections, .int h_items, .ref h_kind, .ref h_what, .ref h_of, .ref h_relation, .ref h_bound, .int h_reads, .int h_readSections, .ref h_readKind, .ref h_readWhat, .ref h_readOf, .ref h_place, .ref h_readRelation, .ref h_readBound, .int h_stop, .ref h_meant, .ref h_row, .ref h_exact, .ref h_error, .ref h_bestError, .long h_m, .int h_e, .ref h_digits, .int h_whole])), (h_tape, .inl (cI, 260, .inl h_tapeF))] := hD
  refine lv_aload_n hx hb dX12_feed_5 rfl (lv_at hl 0 rfl) ?_
  refine va_get (D := D) (ci := 9) (v := .int h_taped) (C := RX12) (T := TX12) (N := 35) hx hb hts iX12 hown hK hP 0 rfl rfl 1 (by decide) (hw 1 (.fieldLink RX12 81 "NumberFormatsModel" "taped" "I") rfl) (fun _ h9 => h9) rfl dX12_feed_6 ?_
  refine lv_sipush (v := 260) hx hb dX12_feed_9 (by decide) ?_
  refine lv_icmp_ne (tgt := 17) hx hb dX12_feed_12 (by decide) (fun c_1 => ?_) (fun c_1 => ?_)
  · have ic_1 : ¬ ((h_taped : Int32).toInt = (260 : Int32).toInt) := fun h9 => c_1 ((fa_eq h_taped 260).mpr h9)
    refine lv_aload_n hx hb dX12_feed_17 rfl (lv_at hl 0 rfl) ?_
    refine lv_iload_n hx hb dX12_feed_18 rfl (lv_at hl 1 rfl) ?_
    have hPc := hP.sub (ws' := [(h, .inr (9, [.int 0, .int h_taped, .ref h_tape, .int h_size, .ref h_text, .double h_value, .int h_out, .ref h_output, .int h_illAt, .ref h_format, .int h_sections, .int h_items, .ref h_kind, .ref h_what, .ref h_of, .ref h_relation, .ref h_bound, .int h_reads, .int h_readSections, .ref h_readKind, .ref h_readWhat, .ref h_readOf, .ref h_place, .ref h_readRelation, .ref h_readBound, .int h_stop, .ref h_meant, .ref h_row, .ref h_exact, .ref h_error, .ref h_bestError, .long h_m, .int h_e, .ref h_digits, .int h_whole])), (h_tape, .inl (cI, 260, .inl h_tapeF))]) [0, 1] rfl
    have hDc := hD.sub (ws' := [(h, .inr (9, [.int 0, .int h_taped, .ref h_tape, .int h_size, .ref h_text, .double h_value, .int h_out, .ref h_output, .int h_illAt, .ref h_format, .int h_sections, .int h_items, .ref h_kind, .ref h_what, .ref h_of, .ref h_relation, .ref h_bound, .int h_reads, .int h_readSections, .ref h_readKind, .ref h_readWhat, .ref h_readOf, .ref h_place, .ref h_readRelation, .ref h_readBound, .int h_stop, .ref h_meant, .ref h_row, .ref h_exact, .ref h_error, .ref h_bestError, .long h_m, .int h_e, .ref h_digits, .int h_whole])), (h_tape, .inl (cI, 260, .inl h_tapeF))]) [0, 1] (by decide) rfl
    have hFc := va_free (wc := [(h, .inr (9, [.int 0, .int h_taped, .ref h_tape, .int h_size, .ref h_text, .double h_value, .int h_out, .ref h_output, .int h_illAt, .ref h_format, .int h_sections, .int h_items, .ref h_kind, .ref h_what, .ref h_of, .ref h_relation, .ref h_bound, .int h_reads, .int h_readSections, .ref h_readKind, .ref h_readWhat, .ref h_readOf, .ref h_place, .ref h_readRelation, .ref h_readBound, .int h_stop, .ref h_meant, .ref h_row, .ref h_exact, .ref h_error, .ref h_bestError, .long h_m, .int h_e, .ref h_digits, .int h_whole])), (h_tape, .inl (cI, 260, .inl h_tapeF))]) hD hS hA [0, 1] rfl
    refine va_callv (va_runV (As := [.int p1]) (rest := []) ⟨hx, hb, hml, hown, hts⟩ (c_X12_put l D cI cD cJ H.size h 0 h_taped h_tape h_size h_text h_value h_out h_output h_illAt h_format h_sections h_items h_kind h_what h_of h_relation h_bound h_reads h_readSections h_readKind h_readWhat h_readOf h_place h_readRelation h_readBound h_stop h_meant h_row h_exact h_error h_bestError h_m h_e h_digits h_whole h_tapeF p1 (by omega) (by omega) (by omega) (by assumption) (by omega) (by omega) (by omega) (by omega) (by omega) (by omega) (by assumption)) (cwV 1 hts (goodIn_app (goodIn_r _ [3, 4, 5, 6] rfl (by decide +kernel)) (goodIn_sub i_X12_put k_X12_put)) rfl rfl rfl (by decide +kernel) ⟨Nat.le_of_ble_eq_true rfl, Nat.le_of_ble_eq_true rfl⟩) ⟨fun a U g mk q => by obtain ⟨q0, q1, qP, qK, qD⟩ := q; exact ⟨q0, q1, qP, va_K.moved (u := U) (U := U.calling g mk a) (Vm.Alike.refl U.vm) qK, qD⟩, va_recv hK hPc (ci := 9) (q0 := 0) rfl rfl, fun U hU hW => ⟨rfl, by rw [hU], by rw [hU]; exact hPc, va_K.moved hW.alike hK, hDc.weaken (fun _ _ _ _ => trivial)⟩⟩ rfl rfl hl.1 rfl (lv_room (Nat.le_of_ble_eq_true rfl)) dX12_feed_19 ⟨Nat.le_of_ble_eq_true rfl, Nat.le_of_ble_eq_true rfl⟩) hS (fun q _ h => hFc q h) hFc (fun u t H1 locs ht hvm w_2 hB hz1 hk1 hS => ?_)
    obtain ⟨u_3, u_4⟩ := u
    obtain ⟨hP1, hK1, hD1⟩ := hB
    rw [ht] at hP1
    try dsimp only at w_2
    obtain ⟨hP, hD⟩ := va_join (wr := []) (w1 := [(h, .inr (9, [.int 0, .int u_3, .ref h_tape, .int h_size, .ref h_text, .double h_value, .int h_out, .ref h_output, .int h_illAt, .ref h_format, .int h_sections, .int h_items, .ref h_kind, .ref h_what, .ref h_of, .ref h_relation, .ref h_bound, .int h_reads, .int h_readSections, .ref h_readKind, .ref h_readWhat, .ref h_readOf, .ref h_place, .ref h_readRelation, .ref h_readBound, .int h_stop, .ref h_meant, .ref h_row, .ref h_exact, .ref h_error, .ref h_bestError, .long h_m, .int h_e, .ref h_digits, .int h_whole])), (h_tape, .inl (cI, 260, .inl u_4))]) hP hD [0, 1] [] rfl rfl (by decide) (by decide) hk1 hFc hP1 hD1
    generalize H1 = H at hP hS ⊢
    have hP : va_P D vwCl [(h, .inr (9, [.int 0, .int u_3, .ref h_tape, .int h_size, .ref h_text, .double h_value, .int h_out, .ref h_output, .int h_illAt, .ref h_format, .int h_sections, .int h_items, .ref h_kind, .ref h_what, .ref h_of, .ref h_relation, .ref h_bound, .int h_reads, .int h_readSections, .ref h_readKind, .ref h_readWhat, .ref h_readOf, .ref h_place, .ref h_readRelation, .ref h_readBound, .int h_stop, .ref h_meant, .ref h_row, .ref h_exact, .ref h_error, .ref h_bestError, .long h_m, .int h_e, .ref h_digits, .int h_whole])), (h_tape, .inl (cI, 260, .inl u_4))] H := hP
    have hD : va_D A [(h, .inr (9, [.int 0, .int u_3, .ref h_tape, .int h_size, .ref h_text, .double h_value, .int h_out, .ref h_output, .int h_illAt, .ref h_format, .int h_sections, .int h_items, .ref h_kind, .ref h_what, .ref h_of, .ref h_relation, .ref h_bound, .int h_reads, .int h_readSections, .ref h_readKind, .ref h_readWhat, .ref h_readOf, .ref h_place, .ref h_readRelation, .ref h_readBound, .int h_stop, .ref h_meant, .ref h_row, .ref h_exact, .ref h_error, .ref h_bestError, .long h_m, .int h_e, .ref h_digits, .int h_whole])), (h_tape, .inl (cI, 260, .inl u_4))] := hD
    obtain ⟨w_2_0, w_2_1, w_2_2⟩ := w_2
    refine lv_aload_n hx hb dX12_feed_22 rfl (lv_at hl 0 rfl) ?_
    refine lv_iload_n hx hb dX12_feed_23 rfl (lv_at hl 2 rfl) ?_
    have hPc := hP.sub (ws' := [(h, .inr (9, [.int 0, .int u_3, .ref h_tape, .int h_size, .ref h_text, .double h_value, .int h_out, .ref h_output, .int h_illAt, .ref h_format, .int h_sections, .int h_items, .ref h_kind, .ref h_what, .ref h_of, .ref h_relation, .ref h_bound, .int h_reads, .int h_readSections, .ref h_readKind, .ref h_readWhat, .ref h_readOf, .ref h_place, .ref h_readRelation, .ref h_readBound, .int h_stop, .ref h_meant, .ref h_row, .ref h_exact, .ref h_error, .ref h_bestError, .long h_m, .int h_e, .ref h_digits, .int h_whole])), (h_tape, .inl (cI, 260, .inl u_4))]) [0, 1] rfl
    have hDc := hD.sub (ws' := [(h, .inr (9, [.int 0, .int u_3, .ref h_tape, .int h_size, .ref h_text, .double h_value, .int h_out, .ref h_output, .int h_illAt, .ref h_format, .int h_sections, .int h_items, .ref h_kind, .ref h_what, .ref h_of, .ref h_relation, .ref h_bound, .int h_reads, .int h_readSections, .ref h_readKind, .ref h_readWhat, .ref h_readOf, .ref h_place, .ref h_readRelation, .ref h_readBound, .int h_stop, .ref h_meant, .ref h_row, .ref h_exact, .ref h_error, .ref h_bestError, .long h_m, .int h_e, .ref h_digits, .int h_whole])), (h_tape, .inl (cI, 260, .inl u_4))]) [0, 1] (by decide) rfl
    have hFc := va_free (wc := [(h, .inr (9, [.int 0, .int u_3, .ref h_tape, .int h_size, .ref h_text, .double h_value, .int h_out, .ref h_output, .int h_illAt, .ref h_format, .int h_sections, .int h_items, .ref h_kind, .ref h_what, .ref h_of, .ref h_relation, .ref h_bound, .int h_reads, .int h_readSections, .ref h_readKind, .ref h_readWhat, .ref h_readOf, .ref h_place, .ref h_readRelation, .ref h_readBound, .int h_stop, .ref h_meant, .ref h_row, .ref h_exact, .ref h_error, .ref h_bestError, .long h_m, .int h_e, .ref h_digits, .int h_whole])), (h_tape, .inl (cI, 260, .inl u_4))]) hD hS hA [0, 1] rfl
    refine va_callv (va_runV (As := [.int p2]) (rest := []) ⟨hx, hb, hml, hown, hts⟩ (c_X12_put l D cI cD cJ H.size h 0 u_3 h_tape h_size h_text h_value h_out h_output h_illAt h_format h_sections h_items h_kind h_what h_of h_relation h_bound h_reads h_readSections h_readKind h_readWhat h_readOf h_place h_readRelation h_readBound h_stop h_meant h_row h_exact h_error h_bestError h_m h_e h_digits h_whole u_4 p2 (by omega) (by omega) (by omega) (by assumption) (by omega) (by omega) (by omega) (by omega) (by omega) (by omega) (by assumption)) (cwV 1 hts (goodIn_app (goodIn_r _ [3, 4, 5, 6] rfl (by decide +kernel)) (goodIn_sub i_X12_put k_X12_put)) rfl rfl rfl (by decide +kernel) ⟨Nat.le_of_ble_eq_true rfl, Nat.le_of_ble_eq_true rfl⟩) ⟨fun a U g mk q => by obtain ⟨q0, q1, qP, qK, qD⟩ := q; exact ⟨q0, q1, qP, va_K.moved (u := U) (U := U.calling g mk a) (Vm.Alike.refl U.vm) qK, qD⟩, va_recv hK hPc (ci := 9) (q0 := 0) rfl rfl, fun U hU hW => ⟨rfl, by rw [hU], by rw [hU]; exact hPc, va_K.moved hW.alike hK, hDc.weaken (fun _ _ _ _ => trivial)⟩⟩ rfl rfl hl.1 rfl (lv_room (Nat.le_of_ble_eq_true rfl)) dX12_feed_24 ⟨Nat.le_of_ble_eq_true rfl, Nat.le_of_ble_eq_true rfl⟩) hS (fun q _ h => hFc q h) hFc (fun u t H1 locs ht hvm w_5 hB hz1 hk1 hS => ?_)
    obtain ⟨u_6, u_7⟩ := u
    obtain ⟨hP1, hK1, hD1⟩ := hB
    rw [ht] at hP1
    try dsimp only at w_5
    obtain ⟨hP, hD⟩ := va_join (wr := []) (w1 := [(h, .inr (9, [.int 0, .int u_6, .ref h_tape, .int h_size, .ref h_text, .double h_value, .int h_out, .ref h_output, .int h_illAt, .ref h_format, .int h_sections, .int h_items, .ref h_kind, .ref h_what, .ref h_of, .ref h_relation, .ref h_bound, .int h_reads, .int h_readSections, .ref h_readKind, .ref h_readWhat, .ref h_readOf, .ref h_place, .ref h_readRelation, .ref h_readBound, .int h_stop, .ref h_meant, .ref h_row, .ref h_exact, .ref h_error, .ref h_bestError, .long h_m, .int h_e, .ref h_digits, .int h_whole])), (h_tape, .inl (cI, 260, .inl u_7))]) hP hD [0, 1] [] rfl rfl (by decide) (by decide) hk1 hFc hP1 hD1
    generalize H1 = H at hP hS ⊢
    have hP : va_P D vwCl [(h, .inr (9, [.int 0, .int u_6, .ref h_tape, .int h_size, .ref h_text, .double h_value, .int h_out, .ref h_output, .int h_illAt, .ref h_format, .int h_sections, .int h_items, .ref h_kind, .ref h_what, .ref h_of, .ref h_relation, .ref h_bound, .int h_reads, .int h_readSections, .ref h_readKind, .ref h_readWhat, .ref h_readOf, .ref h_place, .ref h_readRelation, .ref h_readBound, .int h_stop, .ref h_meant, .ref h_row, .ref h_exact, .ref h_error, .ref h_bestError, .long h_m, .int h_e, .ref h_digits, .int h_whole])), (h_tape, .inl (cI, 260, .inl u_7))] H := hP
    have hD : va_D A [(h, .inr (9, [.int 0, .int u_6, .ref h_tape, .int h_size, .ref h_text, .double h_value, .int h_out, .ref h_output, .int h_illAt, .ref h_format, .int h_sections, .int h_items, .ref h_kind, .ref h_what, .ref h_of, .ref h_relation, .ref h_bound, .int h_reads, .int h_readSections, .ref h_readKind, .ref h_readWhat, .ref h_readOf, .ref h_place, .ref h_readRelation, .ref h_readBound, .int h_stop, .ref h_meant, .ref h_row, .ref h_exact, .ref h_error, .ref h_bestError, .long h_m, .int h_e, .ref h_digits, .int h_whole])), (h_tape, .inl (cI, 260, .inl u_7))] := hD
    obtain ⟨w_5_0, w_5_1, w_5_2⟩ := w_5
    refine lv_aload_n hx hb dX12_feed_27 rfl (lv_at hl 0 rfl) ?_
    refine lv_iload_n hx hb dX12_feed_28 rfl (lv_at hl 3 rfl) ?_
    have hPc := hP.sub (ws' := [(h, .inr (9, [.int 0, .int u_6, .ref h_tape, .int h_size, .ref h_text, .double h_value, .int h_out, .ref h_output, .int h_illAt, .ref h_format, .int h_sections, .int h_items, .ref h_kind, .ref h_what, .ref h_of, .ref h_relation, .ref h_bound, .int h_reads, .int h_readSections, .ref h_readKind, .ref h_readWhat, .ref h_readOf, .ref h_place, .ref h_readRelation, .ref h_readBound, .int h_stop, .ref h_meant, .ref h_row, .ref h_exact, .ref h_error, .ref h_bestError, .long h_m, .int h_e, .ref h_digits, .int h_whole])), (h_tape, .inl (cI, 260, .inl u_7))]) [0, 1] rfl
    have hDc := hD.sub (ws' := [(h, .inr (9, [.int 0, .int u_6, .ref h_tape, .int h_size, .ref h_text, .double h_value, .int h_out, .ref h_output, .int h_illAt, .ref h_format, .int h_sections, .int h_items, .ref h_kind, .ref h_what, .ref h_of, .ref h_relation, .ref h_bound, .int h_reads, .int h_readSections, .ref h_readKind, .ref h_readWhat, .ref h_readOf, .ref h_place, .ref h_readRelation, .ref h_readBound, .int h_stop, .ref h_meant, .ref h_row, .ref h_exact, .ref h_error, .ref h_bestError, .long h_m, .int h_e, .ref h_digits, .int h_whole])), (h_tape, .inl (cI, 260, .inl u_7))]) [0, 1] (by decide) rfl
    have hFc := va_free (wc := [(h, .inr (9, [.int 0, .int u_6, .ref h_tape, .int h_size, .ref h_text, .double h_value, .int h_out, .ref h_output, .int h_illAt, .ref h_format, .int h_sections, .int h_items, .ref h_kind, .ref h_what, .ref h_of, .ref h_relation, .ref h_bound, .int h_reads, .int h_readSections, .ref h_readKind, .ref h_readWhat, .ref h_readOf, .ref h_place, .ref h_readRelation, .ref h_readBound, .int h_stop, .ref h_meant, .ref h_row, .ref h_exact, .ref h_error, .ref h_bestError, .long h_m, .int h_e, .ref h_digits, .int h_whole])), (h_tape, .inl (cI, 260, .inl u_7))]) hD hS hA [0, 1] rfl
    refine va_callv (va_runV (As := [.int p3]) (rest := []) ⟨hx, hb, hml, hown, hts⟩ (c_X12_put l D cI cD cJ H.size h 0 u_6 h_tape h_size h_text h_value h_out h_output h_illAt h_format h_sections h_items h_kind h_what h_of h_relation h_bound h_reads h_readSections h_readKind h_readWhat h_readOf h_place h_readRelation h_readBound h_stop h_meant h_row h_exact h_error h_bestError h_m h_e h_digits h_whole u_7 p3 (by omega) (by omega) (by omega) (by assumption) (by omega) (by omega) (by omega) (by omega) (by omega) (by omega) (by assumption)) (cwV 1 hts (goodIn_app (goodIn_r _ [3, 4, 5, 6] rfl (by decide +kernel)) (goodIn_sub i_X12_put k_X12_put)) rfl rfl rfl (by decide +kernel) ⟨Nat.le_of_ble_eq_true rfl, Nat.le_of_ble_eq_true rfl⟩) ⟨fun a U g mk q => by obtain ⟨q0, q1, qP, qK, qD⟩ := q; exact ⟨q0, q1, qP, va_K.moved (u := U) (U := U.calling g mk a) (Vm.Alike.refl U.vm) qK, qD⟩, va_recv hK hPc (ci := 9) (q0 := 0) rfl rfl, fun U hU hW => ⟨rfl, by rw [hU], by rw [hU]; exact hPc, va_K.moved hW.alike hK, hDc.weaken (fun _ _ _ _ => trivial)⟩⟩ rfl rfl hl.1 rfl (lv_room (Nat.le_of_ble_eq_true rfl)) dX12_feed_29 ⟨Nat.le_of_ble_eq_true rfl, Nat.le_of_ble_eq_true rfl⟩) hS (fun q _ h => hFc q h) hFc (fun u t H1 locs ht hvm w_8 hB hz1 hk1 hS => ?_)
    obtain ⟨u_9, u_10⟩ := u
    obtain ⟨hP1, hK1, hD1⟩ := hB
    rw [ht] at hP1
    try dsimp only at w_8
    obtain ⟨hP, hD⟩ := va_join (wr := []) (w1 := [(h, .inr (9, [.int 0, .int u_9, .ref h_tape, .int h_size, .ref h_text, .double h_value, .int h_out, .ref h_output, .int h_illAt, .ref h_format, .int h_sections, .int h_items, .ref h_kind, .ref h_what, .ref h_of, .ref h_relation, .ref h_bound, .int h_reads, .int h_readSections, .ref h_readKind, .ref h_readWhat, .ref h_readOf, .ref h_place, .ref h_readRelation, .ref h_readBound, .int h_stop, .ref h_meant, .ref h_row, .ref h_exact, .ref h_error, .ref h_bestError, .long h_m, .int h_e, .ref h_digits, .int h_whole])), (h_tape, .inl (cI, 260, .inl u_10))]) hP hD [0, 1] [] rfl rfl (by decide) (by decide) hk1 hFc hP1 hD1
    generalize H1 = H at hP hS ⊢
    have hP : va_P D vwCl [(h, .inr (9, [.int 0, .int u_9, .ref h_tape, .int h_size, .ref h_text, .double h_value, .int h_out, .ref h_output, .int h_illAt, .ref h_format, .int h_sections, .int h_items, .ref h_kind, .ref h_what, .ref h_of, .ref h_relation, .ref h_bound, .int h_reads, .int h_readSections, .ref h_readKind, .ref h_readWhat, .ref h_readOf, .ref h_place, .ref h_readRelation, .ref h_readBound, .int h_stop, .ref h_meant, .ref h_row, .ref h_exact, .ref h_error, .ref h_bestError, .long h_m, .int h_e, .ref h_digits, .int h_whole])), (h_tape, .inl (cI, 260, .inl u_10))] H := hP
    have hD : va_D A [(h, .inr (9, [.int 0, .int u_9, .ref h_tape, .int h_size, .ref h_text, .double h_value, .int h_out, .ref h_output, .int h_illAt, .ref h_format, .int h_sections, .int h_items, .ref h_kind, .ref h_what, .ref h_of, .ref h_relation, .ref h_bound, .int h_reads, .int h_readSections, .ref h_readKind, .ref h_readWhat, .ref h_readOf, .ref h_place, .ref h_readRelation, .ref h_readBound, .int h_stop, .ref h_meant, .ref h_row, .ref h_exact, .ref h_error, .ref h_bestError, .long h_m, .int h_e, .ref h_digits, .int h_whole])), (h_tape, .inl (cI, 260, .inl u_10))] := hD
    obtain ⟨w_8_0, w_8_1, w_8_2⟩ := w_8
    refine lv_aload_n hx hb dX12_feed_32 rfl (lv_at hl 0 rfl) ?_
    refine lv_iload hx hb dX12_feed_33 (lv_at hl 4 rfl) ?_
    have hPc := hP.sub (ws' := [(h, .inr (9, [.int 0, .int u_9, .ref h_tape, .int h_size, .ref h_text, .double h_value, .int h_out, .ref h_output, .int h_illAt, .ref h_format, .int h_sections, .int h_items, .ref h_kind, .ref h_what, .ref h_of, .ref h_relation, .ref h_bound, .int h_reads, .int h_readSections, .ref h_readKind, .ref h_readWhat, .ref h_readOf, .ref h_place, .ref h_readRelation, .ref h_readBound, .int h_stop, .ref h_meant, .ref h_row, .ref h_exact, .ref h_error, .ref h_bestError, .long h_m, .int h_e, .ref h_digits, .int h_whole])), (h_tape, .inl (cI, 260, .inl u_10))]) [0, 1] rfl
    have hDc := hD.sub (ws' := [(h, .inr (9, [.int 0, .int u_9, .ref h_tape, .int h_size, .ref h_text, .double h_value, .int h_out, .ref h_output, .int h_illAt, .ref h_format, .int h_sections, .int h_items, .ref h_kind, .ref h_what, .ref h_of, .ref h_relation, .ref h_bound, .int h_reads, .int h_readSections, .ref h_readKind, .ref h_readWhat, .ref h_readOf, .ref h_place, .ref h_readRelation, .ref h_readBound, .int h_stop, .ref h_meant, .ref h_row, .ref h_exact, .ref h_error, .ref h_bestError, .long h_m, .int h_e, .ref h_digits, .int h_whole])), (h_tape, .inl (cI, 260, .inl u_10))]) [0, 1] (by decide) rfl
    have hFc := va_free (wc := [(h, .inr (9, [.int 0, .int u_9, .ref h_tape, .int h_size, .ref h_text, .double h_value, .int h_out, .ref h_output, .int h_illAt, .ref h_format, .int h_sections, .int h_items, .ref h_kind, .ref h_what, .ref h_of, .ref h_relation, .ref h_bound, .int h_reads, .int h_readSections, .ref h_readKind, .ref h_readWhat, .ref h_readOf, .ref h_place, .ref h_readRelation, .ref h_readBound, .int h_stop, .ref h_meant, .ref h_row, .ref h_exact, .ref h_error, .ref h_bestError, .long h_m, .int h_e, .ref h_digits, .int h_whole])), (h_tape, .inl (cI, 260, .inl u_10))]) hD hS hA [0, 1] rfl
    refine va_callv (va_runV (As := [.int p4]) (rest := []) ⟨hx, hb, hml, hown, hts⟩ (c_X12_put l D cI cD cJ H.size h 0 u_9 h_tape h_size h_text h_value h_out h_output h_illAt h_format h_sections h_items h_kind h_what h_of h_relation h_bound h_reads h_readSections h_readKind h_readWhat h_readOf h_place h_readRelation h_readBound h_stop h_meant h_row h_exact h_error h_bestError h_m h_e h_digits h_whole u_10 p4 (by omega) (by omega) (by omega) (by assumption) (by omega) (by omega) (by omega) (by omega) (by omega) (by omega) (by assumption)) (cwV 1 hts (goodIn_app (goodIn_r _ [3, 4, 5, 6] rfl (by decide +kernel)) (goodIn_sub i_X12_put k_X12_put)) rfl rfl rfl (by decide +kernel) ⟨Nat.le_of_ble_eq_true rfl, Nat.le_of_ble_eq_true rfl⟩) ⟨fun a U g mk q => by obtain ⟨q0, q1, qP, qK, qD⟩ := q; exact ⟨q0, q1, qP, va_K.moved (u := U) (U := U.calling g mk a) (Vm.Alike.refl U.vm) qK, qD⟩, va_recv hK hPc (ci := 9) (q0 := 0) rfl rfl, fun U hU hW => ⟨rfl, by rw [hU], by rw [hU]; exact hPc, va_K.moved hW.alike hK, hDc.weaken (fun _ _ _ _ => trivial)⟩⟩ rfl rfl hl.1 rfl (lv_room (Nat.le_of_ble_eq_true rfl)) dX12_feed_35 ⟨Nat.le_of_ble_eq_true rfl, Nat.le_of_ble_eq_true rfl⟩) hS (fun q _ h => hFc q h) hFc (fun u t H1 locs ht hvm w_11 hB hz1 hk1 hS => ?_)
    obtain ⟨u_12, u_13⟩ := u
    obtain ⟨hP1, hK1, hD1⟩ := hB
    rw [ht] at hP1
    try dsimp only at w_11
    obtain ⟨hP, hD⟩ := va_join (wr := []) (w1 := [(h, .inr (9, [.int 0, .int u_12, .ref h_tape, .int h_size, .ref h_text, .double h_value, .int h_out, .ref h_output, .int h_illAt, .ref h_format, .int h_sections, .int h_items, .ref h_kind, .ref h_what, .ref h_of, .ref h_relation, .ref h_bound, .int h_reads, .int h_readSections, .ref h_readKind, .ref h_readWhat, .ref h_readOf, .ref h_place, .ref h_readRelation, .ref h_readBound, .int h_stop, .ref h_meant, .ref h_row, .ref h_exact, .ref h_error, .ref h_bestError, .long h_m, .int h_e, .ref h_digits, .int h_whole])), (h_tape, .inl (cI, 260, .inl u_13))]) hP hD [0, 1] [] rfl rfl (by decide) (by decide) hk1 hFc hP1 hD1
    generalize H1 = H at hP hS ⊢
    have hP : va_P D vwCl [(h, .inr (9, [.int 0, .int u_12, .ref h_tape, .int h_size, .ref h_text, .double h_value, .int h_out, .ref h_output, .int h_illAt, .ref h_format, .int h_sections, .int h_items, .ref h_kind, .ref h_what, .ref h_of, .ref h_relation, .ref h_bound, .int h_reads, .int h_readSections, .ref h_readKind, .ref h_readWhat, .ref h_readOf, .ref h_place, .ref h_readRelation, .ref h_readBound, .int h_stop, .ref h_meant, .ref h_row, .ref h_exact, .ref h_error, .ref h_bestError, .long h_m, .int h_e, .ref h_digits, .int h_whole])), (h_tape, .inl (cI, 260, .inl u_13))] H := hP
    have hD : va_D A [(h, .inr (9, [.int 0, .int u_12, .ref h_tape, .int h_size, .ref h_text, .double h_value, .int h_out, .ref h_output, .int h_illAt, .ref h_format, .int h_sections, .int h_items, .ref h_kind, .ref h_what, .ref h_of, .ref h_relation, .ref h_bound, .int h_reads, .int h_readSections, .ref h_readKind, .ref h_readWhat, .ref h_readOf, .ref h_place, .ref h_readRelation, .ref h_readBound, .int h_stop, .ref h_meant, .ref h_row, .ref h_exact, .ref h_error, .ref h_bestError, .long h_m, .int h_e, .ref h_digits, .int h_whole])), (h_tape, .inl (cI, 260, .inl u_13))] := hD
    obtain ⟨w_11_0, w_11_1, w_11_2⟩ := w_11
    refine lv_aload_n hx hb dX12_feed_38 rfl (lv_at hl 0 rfl) ?_
    refine lv_iload hx hb dX12_feed_39 (lv_at hl 5 rfl) ?_
    have hPc := hP.sub (ws' := [(h, .inr (9, [.int 0, .int u_12, .ref h_tape, .int h_size, .ref h_text, .double h_value, .int h_out, .ref h_output, .int h_illAt, .ref h_format, .int h_sections, .int h_items, .ref h_kind, .ref h_what, .ref h_of, .ref h_relation, .ref h_bound, .int h_reads, .int h_readSections, .ref h_readKind, .ref h_readWhat, .ref h_readOf, .ref h_place, .ref h_readRelation, .ref h_readBound, .int h_stop, .ref h_meant, .ref h_row, .ref h_exact, .ref h_error, .ref h_bestError, .long h_m, .int h_e, .ref h_digits, .int h_whole])), (h_tape, .inl (cI, 260, .inl u_13))]) [0, 1] rfl
    have hDc := hD.sub (ws' := [(h, .inr (9, [.int 0, .int u_12, .ref h_tape, .int h_size, .ref h_text, .double h_value, .int h_out, .ref h_output, .int h_illAt, .ref h_format, .int h_sections, .int h_items, .ref h_kind, .ref h_what, .ref h_of, .ref h_relation, .ref h_bound, .int h_reads, .int h_readSections, .ref h_readKind, .ref h_readWhat, .ref h_readOf, .ref h_place, .ref h_readRelation, .ref h_readBound, .int h_stop, .ref h_meant, .ref h_row, .ref h_exact, .ref h_error, .ref h_bestError, .long h_m, .int h_e, .ref h_digits, .int h_whole])), (h_tape, .inl (cI, 260, .inl u_13))]) [0, 1] (by decide) rfl
    have hFc := va_free (wc := [(h, .inr (9, [.int 0, .int u_12, .ref h_tape, .int h_size, .ref h_text, .double h_value, .int h_out, .ref h_output, .int h_illAt, .ref h_format, .int h_sections, .int h_items, .ref h_kind, .ref h_what, .ref h_of, .ref h_relation, .ref h_bound, .int h_reads, .int h_readSections, .ref h_readKind, .ref h_readWhat, .ref h_readOf, .ref h_place, .ref h_readRelation, .ref h_readBound, .int h_stop, .ref h_meant, .ref h_row, .ref h_exact, .ref h_error, .ref h_bestError, .long h_m, .int h_e, .ref h_digits, .int h_whole])), (h_tape, .inl (cI, 260, .inl u_13))]) hD hS hA [0, 1] rfl
    refine va_callv (va_runV (As := [.int p5]) (rest := []) ⟨hx, hb, hml, hown, hts⟩ (c_X12_put l D cI cD cJ H.size h 0 u_12 h_tape h_size h_text h_value h_out h_output h_illAt h_format h_sections h_items h_kind h_what h_of h_relation h_bound h_reads h_readSections h_readKind h_readWhat h_readOf h_place h_readRelation h_readBound h_stop h_meant h_row h_exact h_error h_bestError h_m h_e h_digits h_whole u_13 p5 (by omega) (by omega) (by omega) (by assumption) (by omega) (by omega) (by omega) (by omega) (by omega) (by omega) (by assumption)) (cwV 1 hts (goodIn_app (goodIn_r _ [3, 4, 5, 6] rfl (by decide +kernel)) (goodIn_sub i_X12_put k_X12_put)) rfl rfl rfl (by decide +kernel) ⟨Nat.le_of_ble_eq_true rfl, Nat.le_of_ble_eq_true rfl⟩) ⟨fun a U g mk q => by obtain ⟨q0, q1, qP, qK, qD⟩ := q; exact ⟨q0, q1, qP, va_K.moved (u := U) (U := U.calling g mk a) (Vm.Alike.refl U.vm) qK, qD⟩, va_recv hK hPc (ci := 9) (q0 := 0) rfl rfl, fun U hU hW => ⟨rfl, by rw [hU], by rw [hU]; exact hPc, va_K.moved hW.alike hK, hDc.weaken (fun _ _ _ _ => trivial)⟩⟩ rfl rfl hl.1 rfl (lv_room (Nat.le_of_ble_eq_true rfl)) dX12_feed_41 ⟨Nat.le_of_ble_eq_true rfl, Nat.le_of_ble_eq_true rfl⟩) hS (fun q _ h => hFc q h) hFc (fun u t H1 locs ht hvm w_14 hB hz1 hk1 hS => ?_)
    obtain ⟨u_15, u_16⟩ := u
    obtain ⟨hP1, hK1, hD1⟩ := hB
    rw [ht] at hP1
    try dsimp only at w_14
    obtain ⟨hP, hD⟩ := va_join (wr := []) (w1 := [(h, .inr (9, [.int 0, .int u_15, .ref h_tape, .int h_size, .ref h_text, .double h_value, .int h_out, .ref h_output, .int h_illAt, .ref h_format, .int h_sections, .int h_items, .ref h_kind, .ref h_what, .ref h_of, .ref h_relation, .ref h_bound, .int h_reads, .int h_readSections, .ref h_readKind, .ref h_readWhat, .ref h_readOf, .ref h_place, .ref h_readRelation, .ref h_readBound, .int h_stop, .ref h_meant, .ref h_row, .ref h_exact, .ref h_error, .ref h_bestError, .long h_m, .int h_e, .ref h_digits, .int h_whole])), (h_tape, .inl (cI, 260, .inl u_16))]) hP hD [0, 1] [] rfl rfl (by decide) (by decide) hk1 hFc hP1 hD1
    generalize H1 = H at hP hS ⊢
    have hP : va_P D vwCl [(h, .inr (9, [.int 0, .int u_15, .ref h_tape, .int h_size, .ref h_text, .double h_value, .int h_out, .ref h_output, .int h_illAt, .ref h_format, .int h_sections, .int h_items, .ref h_kind, .ref h_what, .ref h_of, .ref h_relation, .ref h_bound, .int h_reads, .int h_readSections, .ref h_readKind, .ref h_readWhat, .ref h_readOf, .ref h_place, .ref h_readRelation, .ref h_readBound, .int h_stop, .ref h_meant, .ref h_row, .ref h_exact, .ref h_error, .ref h_bestError, .long h_m, .int h_e, .ref h_digits, .int h_whole])), (h_tape, .inl (cI, 260, .inl u_16))] H := hP
    have hD : va_D A [(h, .inr (9, [.int 0, .int u_15, .ref h_tape, .int h_size, .ref h_text, .double h_value, .int h_out, .ref h_output, .int h_illAt, .ref h_format, .int h_sections, .int h_items, .ref h_kind, .ref h_what, .ref h_of, .ref h_relation, .ref h_bound, .int h_reads, .int h_readSections, .ref h_readKind, .ref h_readWhat, .ref h_readOf, .ref h_place, .ref h_readRelation, .ref h_readBound, .int h_stop, .ref h_meant, .ref h_row, .ref h_exact, .ref h_error, .ref h_bestError, .long h_m, .int h_e, .ref h_digits, .int h_whole])), (h_tape, .inl (cI, 260, .inl u_16))] := hD
    obtain ⟨w_14_0, w_14_1, w_14_2⟩ := w_14
    refine lv_iconst (v := 1) hx hb dX12_feed_44 (by decide) ?_
    have hP9 := hP.sub (ws' := [(h, .inr (9, [.int 0, .int u_15, .ref h_tape, .int h_size, .ref h_text, .double h_value, .int h_out, .ref h_output, .int h_illAt, .ref h_format, .int h_sections, .int h_items, .ref h_kind, .ref h_what, .ref h_of, .ref h_relation, .ref h_bound, .int h_reads, .int h_readSections, .ref h_readKind, .ref h_readWhat, .ref h_readOf, .ref h_place, .ref h_readRelation, .ref h_readBound, .int h_stop, .ref h_meant, .ref h_row, .ref h_exact, .ref h_error, .ref h_bestError, .long h_m, .int h_e, .ref h_digits, .int h_whole])), (h_tape, .inl (cI, 260, .inl u_16))]) [0, 1] rfl
    have hD9 := hD.sub (ws' := [(h, .inr (9, [.int 0, .int u_15, .ref h_tape, .int h_size, .ref h_text, .double h_value, .int h_out, .ref h_output, .int h_illAt, .ref h_format, .int h_sections, .int h_items, .ref h_kind, .ref h_what, .ref h_of, .ref h_relation, .ref h_bound, .int h_reads, .int h_readSections, .ref h_readKind, .ref h_readWhat, .ref h_readOf, .ref h_place, .ref h_readRelation, .ref h_readBound, .int h_stop, .ref h_meant, .ref h_row, .ref h_exact, .ref h_error, .ref h_bestError, .long h_m, .int h_e, .ref h_digits, .int h_whole])), (h_tape, .inl (cI, 260, .inl u_16))]) [0, 1] (by decide) rfl
    exact W.zret (v := 1) hx hb hr rfl (fun t ht hW => ⟨⟨1, (0, u_15, u_16), rfl, (by (try dsimp only); refine ⟨?_, ?_, ?_, ?_⟩ <;> first | omega | assumption | exact Or.inr ⟨rfl, by omega, rfl⟩ | exact Or.inl ⟨rfl, by omega, by omega⟩), by rw [ht]; exact hP9, va_K.moved hW.alike hK, hD9⟩, hS.F ht⟩) hS.2.2 dX12_feed_45
  · have ic_1 : (h_taped : Int32).toInt = (260 : Int32).toInt := (fa_eq h_taped 260).mp c_1
    refine lv_iconst (v := 0) hx hb dX12_feed_15 (by decide) ?_
    have hP9 := hP.sub (ws' := [(h, .inr (9, [.int 0, .int h_taped, .ref h_tape, .int h_size, .ref h_text, .double h_value, .int h_out, .ref h_output, .int h_illAt, .ref h_format, .int h_sections, .int h_items, .ref h_kind, .ref h_what, .ref h_of, .ref h_relation, .ref h_bound, .int h_reads, .int h_readSections, .ref h_readKind, .ref h_readWhat, .ref h_readOf, .ref h_place, .ref h_readRelation, .ref h_readBound, .int h_stop, .ref h_meant, .ref h_row, .ref h_exact, .ref h_error, .ref h_bestError, .long h_m, .int h_e, .ref h_digits, .int h_whole])), (h_tape, .inl (cI, 260, .inl h_tapeF))]) [0, 1] rfl
    have hD9 := hD.sub (ws' := [(h, .inr (9, [.int 0, .int h_taped, .ref h_tape, .int h_size, .ref h_text, .double h_value, .int h_out, .ref h_output, .int h_illAt, .ref h_format, .int h_sections, .int h_items, .ref h_kind, .ref h_what, .ref h_of, .ref h_relation, .ref h_bound, .int h_reads, .int h_readSections, .ref h_readKind, .ref h_readWhat, .ref h_readOf, .ref h_place, .ref h_readRelation, .ref h_readBound, .int h_stop, .ref h_meant, .ref h_row, .ref h_exact, .ref h_error, .ref h_bestError, .long h_m, .int h_e, .ref h_digits, .int h_whole])), (h_tape, .inl (cI, 260, .inl h_tapeF))]) [0, 1] (by decide) rfl
    exact W.zret (v := 0) hx hb hr rfl (fun t ht hW => ⟨⟨0, (0, h_taped, h_tapeF), rfl, (by (try dsimp only); refine ⟨?_, ?_, ?_, ?_⟩ <;> first | omega | assumption | exact Or.inr ⟨rfl, by omega, rfl⟩ | exact Or.inl ⟨rfl, by omega, by omega⟩), by rw [ht]; exact hP9, va_K.moved hW.alike hK, hD9⟩, hS.F ht⟩) hS.2.2 dX12_feed_16

def ow_X12_end : List Cond := [Cond.fieldLink RX12 78 "NumberFormatsModel" "code" "I", Cond.fieldLink RX12 81 "NumberFormatsModel" "taped" "I", Cond.fieldLink RX12 88 "NumberFormatsModel" "size" "I", Cond.fieldLink RX12 13 "NumberFormatsModel" "text" "[I", Cond.fieldLink RX12 7 "NumberFormatsModel" "tape" "[I"]
def pw_X12_end : List Cond := Cond.code yX12_end cX12_end 3 (some .boolean) :: (ow_X12_end ++ (wsX120))
set_option maxRecDepth 20000 in
theorem mo_X12_end : ∀ w ∈ ow_X12_end, w ∈ lw_tbl := by decide +kernel
set_option maxRecDepth 20000 in
theorem mc_X12_end : Cond.code yX12_end cX12_end 3 (some .boolean) ∈ lw_tbl := by decide +kernel
theorem m_X12_end : ∀ w ∈ pw_X12_end, w ∈ lw_tbl := List.forall_mem_cons.mpr ⟨mc_X12_end, (List.forall_mem_append.mpr ⟨mo_X12_end, inX12⟩)⟩
theorem ko_X12_end : ∀ w ∈ ow_X12_end, goodWord w = true := by decide +kernel
theorem k_X12_end : pw_X12_end.all goodWord = true := List.all_eq_true.mpr (List.forall_mem_cons.mpr ⟨by decide +kernel, (List.forall_mem_append.mpr ⟨ko_X12_end, kX_X12⟩)⟩)
set_option maxHeartbeats 400000 in
set_option maxRecDepth 100000 in
theorem c_X12_end (l : Launch) (D : va_G) (cI cD cJ : ClassId) (sz : Nat) (h : Nat) (h_code : Int32) (h_taped : Int32) (h_tape : Nat) (h_size : Int32) (h_text : Nat) (h_value : UInt64) (h_out : Int32) (h_output : Nat) (h_illAt : Int32) (h_format : Nat) (h_sections : Int32) (h_items : Int32) (h_kind : Nat) (h_what : Nat) (h_of : Nat) (h_relation : Nat) (h_bound : Nat) (h_reads : Int32) (h_readSections : Int32) (h_readKind : Nat) (h_readWhat : Nat) (h_readOf : Nat) (h_place : Nat) (h_readRelation : Nat) (h_readBound : Nat) (h_stop : Int32) (h_meant : Nat) (h_row : Nat) (h_exact : Nat) (h_error : Nat) (h_bestError : Nat) (h_m : Int64) (h_e : Int32) (h_digits : Nat) (h_whole : Int32) (h_tapeF : Nat → Int32) (h_textF : Nat → Int32) (p1 : Int32) (iv_h_taped : 0 ≤ (h_taped : Int32).toInt ∧ (h_taped : Int32).toInt ≤ 260) (iv_h_size : 0 ≤ (h_size : Int32).toInt ∧ (h_size : Int32).toInt ≤ 255) (iv_h_value : inR h_value) (iv_h_out : 0 ≤ (h_out : Int32).toInt ∧ (h_out : Int32).toInt ≤ 1024) (iv_h_sections : 0 ≤ (h_sections : Int32).toInt ∧ (h_sections : Int32).toInt ≤ 4) (iv_h_items : 0 ≤ (h_items : Int32).toInt ∧ (h_items : Int32).toInt ≤ 255) (iv_h_reads : 0 ≤ (h_reads : Int32).toInt ∧ (h_reads : Int32).toInt ≤ 255) (iv_h_readSections : 0 ≤ (h_readSections : Int32).toInt ∧ (h_readSections : Int32).toInt ≤ 4) (iv_h_whole : 0 ≤ (h_whole : Int32).toInt ∧ (h_whole : Int32).toInt ≤ 1001) (iv_h_tapeF : ∀ k9 : Nat, k9 < 260 → 0 ≤ (h_tapeF k9).toInt ∧ (h_tapeF k9).toInt ≤ 255) (iv_h_textF : ∀ k9 : Nat, k9 < 256 → 0 ≤ (h_textF k9).toInt ∧ (h_textF k9).toInt ≤ 255) : Met l yX12_end pw_X12_end ({ frames := 0, cells := 0, slots := 0, locals := 0 }) (va_Pc [.ref h, .int p1] (fun U => U.heap.size = sz ∧ va_P D vwCl [(h, .inr (9, [.int h_code, .int h_taped, .ref h_tape, .int h_size, .ref h_text, .double h_value, .int h_out, .ref h_output, .int h_illAt, .ref h_format, .int h_sections, .int h_items, .ref h_kind, .ref h_what, .ref h_of, .ref h_relation, .ref h_bound, .int h_reads, .int h_readSections, .ref h_readKind, .ref h_readWhat, .ref h_readOf, .ref h_place, .ref h_readRelation, .ref h_readBound, .int h_stop, .ref h_meant, .ref h_row, .ref h_exact, .ref h_error, .ref h_bestError, .long h_m, .int h_e, .ref h_digits, .int h_whole])), (h_tape, .inl (cI, 260, .inl h_tapeF)), (h_text, .inl (cI, 256, .inl h_textF))] U.heap ∧ va_K D vwCl (ty3 cI cD cJ) U ∧ va_D (fun _ => True) [(h, .inr (9, [.int h_code, .int h_taped, .ref h_tape, .int h_size, .ref h_text, .double h_value, .int h_out, .ref h_output, .int h_illAt, .ref h_format, .int h_sections, .int h_items, .ref h_kind, .ref h_what, .ref h_of, .ref h_relation, .ref h_bound, .int h_reads, .int h_readSections, .ref h_readKind, .ref h_readWhat, .ref h_readOf, .ref h_place, .ref h_readRelation, .ref h_readBound, .int h_stop, .ref h_meant, .ref h_row, .ref h_exact, .ref h_error, .ref h_bestError, .long h_m, .int h_e, .ref h_digits, .int h_whole])), (h_tape, .inl (cI, 260, .inl h_tapeF)), (h_text, .inl (cI, 256, .inl h_textF))])) (va_Qi (fun (r : Int32) (u : Int32 × Int32 × Int32 × (Nat → Int32)) => match u with | (h_code2, h_taped2, h_size2, h_textF2) => (r.toInt = 0 ∨ r.toInt = 1) ∧ ((r = 1 ∧ 0 ≤ p1.toInt ∧ p1.toInt ≤ h_taped.toInt ∧ p1.toInt ≤ 255 ∧ h_taped2 = 0 ∧ h_size2 = p1) ∨ (r = 0 ∧ (p1.toInt < 0 ∨ h_taped.toInt < p1.toInt ∨ 255 < p1.toInt) ∧ h_taped2 = h_taped ∧ h_size2 = h_size)) ∧ (0 ≤ (h_taped2 : Int32).toInt ∧ (h_taped2 : Int32).toInt ≤ 260) ∧ (0 ≤ (h_size2 : Int32).toInt ∧ (h_size2 : Int32).toInt ≤ 255) ∧ (∀ k9 : Nat, k9 < 256 → 0 ≤ (h_textF2 k9).toInt ∧ (h_textF2 k9).toInt ≤ 255)) (fun (u : Int32 × Int32 × Int32 × (Nat → Int32)) (t : State) => match u with | (h_code2, h_taped2, h_size2, h_textF2) => va_P D vwCl [(h, .inr (9, [.int h_code2, .int h_taped2, .ref h_tape, .int h_size2, .ref h_text, .double h_value, .int h_out, .ref h_output, .int h_illAt, .ref h_format, .int h_sections, .int h_items, .ref h_kind, .ref h_what, .ref h_of, .ref h_relation, .ref h_bound, .int h_reads, .int h_readSections, .ref h_readKind, .ref h_readWhat, .ref h_readOf, .ref h_place, .ref h_readRelation, .ref h_readBound, .int h_stop, .ref h_meant, .ref h_row, .ref h_exact, .ref h_error, .ref h_bestError, .long h_m, .int h_e, .ref h_digits, .int h_whole])), (h_tape, .inl (cI, 260, .inl h_tapeF)), (h_text, .inl (cI, 256, .inl h_textF2))] t.heap ∧ va_K D vwCl (ty3 cI cD cJ) t ∧ va_D (va_A [(h, .inr (9, [.int h_code, .int h_taped, .ref h_tape, .int h_size, .ref h_text, .double h_value, .int h_out, .ref h_output, .int h_illAt, .ref h_format, .int h_sections, .int h_items, .ref h_kind, .ref h_what, .ref h_of, .ref h_relation, .ref h_bound, .int h_reads, .int h_readSections, .ref h_readKind, .ref h_readWhat, .ref h_readOf, .ref h_place, .ref h_readRelation, .ref h_readBound, .int h_stop, .ref h_meant, .ref h_row, .ref h_exact, .ref h_error, .ref h_bestError, .long h_m, .int h_e, .ref h_digits, .int h_whole])), (h_tape, .inl (cI, 260, .inl h_tapeF)), (h_text, .inl (cI, 256, .inl h_textF))] sz) [(h, .inr (9, [.int h_code2, .int h_taped2, .ref h_tape, .int h_size2, .ref h_text, .double h_value, .int h_out, .ref h_output, .int h_illAt, .ref h_format, .int h_sections, .int h_items, .ref h_kind, .ref h_what, .ref h_of, .ref h_relation, .ref h_bound, .int h_reads, .int h_readSections, .ref h_readKind, .ref h_readWhat, .ref h_readOf, .ref h_place, .ref h_readRelation, .ref h_readBound, .int h_stop, .ref h_meant, .ref h_row, .ref h_exact, .ref h_error, .ref h_bestError, .long h_m, .int h_e, .ref h_digits, .int h_whole])), (h_tape, .inl (cI, 260, .inl h_tapeF)), (h_text, .inl (cI, 256, .inl h_textF2))]) (va_A [(h, .inr (9, [.int h_code, .int h_taped, .ref h_tape, .int h_size, .ref h_text, .double h_value, .int h_out, .ref h_output, .int h_illAt, .ref h_format, .int h_sections, .int h_items, .ref h_kind, .ref h_what, .ref h_of, .ref h_relation, .ref h_bound, .int h_reads, .int h_readSections, .ref h_readKind, .ref h_readWhat, .ref h_readOf, .ref h_place, .ref h_readRelation, .ref h_readBound, .int h_stop, .ref h_meant, .ref h_row, .ref h_exact, .ref h_error, .ref h_bestError, .long h_m, .int h_e, .ref h_digits, .int h_whole])), (h_tape, .inl (cI, 260, .inl h_tapeF)), (h_text, .inl (cI, 256, .inl h_textF))] sz)) 0 0 (va_A [(h, .inr (9, [.int h_code, .int h_taped, .ref h_tape, .int h_size, .ref h_text, .double h_value, .int h_out, .ref h_output, .int h_illAt, .ref h_format, .int h_sections, .int h_items, .ref h_kind, .ref h_what, .ref h_of, .ref h_relation, .ref h_bound, .int h_reads, .int h_readSections, .ref h_readKind, .ref h_readWhat, .ref h_readOf, .ref h_place, .ref h_readRelation, .ref h_readBound, .int h_stop, .ref h_meant, .ref h_row, .ref h_exact, .ref h_error, .ref h_bestError, .long h_m, .int h_e, .ref h_digits, .int h_whole])), (h_tape, .inl (cI, 260, .inl h_tapeF)), (h_text, .inl (cI, 256, .inl h_textF))] sz) := by
  refine Met.ofW (cc := cX12_end) (maxL := 3) (ret := (some .boolean)) (by decide +kernel) rfl ?_
  intro p e s m args below meth c s₁ B hml hv
  obtain ⟨rfl, hsz, hP, hK, hD0⟩ := hv
  have hx := B.exec
  have hb := B.bytes
  have hr := B.returns
  have hts := atoms_spec (ws := pw_X12_end) B.pre
  have hown : s.vm.findClass RX12 = some m.cls := findClass_of_methodNamed B.named
  have hlocks := B.notSynchronized
  subst hsz
  have hD := hD0.self (sz := s.heap.size)
  generalize hAe : va_A [(h, .inr (9, [.int h_code, .int h_taped, .ref h_tape, .int h_size, .ref h_text, .double h_value, .int h_out, .ref h_output, .int h_illAt, .ref h_format, .int h_sections, .int h_items, .ref h_kind, .ref h_what, .ref h_of, .ref h_relation, .ref h_bound, .int h_reads, .int h_readSections, .ref h_readKind, .ref h_readWhat, .ref h_readOf, .ref h_place, .ref h_readRelation, .ref h_readBound, .int h_stop, .ref h_meant, .ref h_row, .ref h_exact, .ref h_error, .ref h_bestError, .long h_m, .int h_e, .ref h_digits, .int h_whole])), (h_tape, .inl (cI, 260, .inl h_tapeF)), (h_text, .inl (cI, 256, .inl h_textF))] s.heap.size = A at hD ⊢
  have hA : ∀ q : Nat, s.heap.size ≤ q → A q := fun q h => by rw [← hAe]; exact Or.inr h
  have hS : va_S A s.heap s.heap [] := va_S.rf
  have hw : ∀ (k : Nat) (w : Cond), ow_X12_end[k]? = some w → w.before _ s = true := fun k w h => hts w (List.mem_cons_of_mem _ (have h9 := List.mem_of_getElem? h; List.mem_append_left _ h9))
  have iX12 : ∀ w ∈ u_ws RX12 TX12 35, w ∈ pw_X12_end := fun w h9 => List.mem_cons_of_mem _ (List.mem_append_right _ (h9))
  have n_0 : ((0 : Int32)).toInt = 0 := by decide
  have n_1 : ((1 : Int32)).toInt = 1 := by decide
  have n_255 : ((255 : Int32)).toInt = 255 := by decide
  have hl := lv_entry ([.ref h, .int p1]) (n := 3) (Nat.le_of_ble_eq_true rfl)
  rw [lg_entry_eq]
  generalize (lg_sl ([.ref h, .int p1]) ++ List.replicate (3 - (lg_sl ([.ref h, .int p1])).length) Slot.unset).toArray = ls at hl ⊢
  have hl : lv_has ls 3 [(0, .ref h), (1, .int p1)] := hl
  have b_p1 := ti_b p1
  refine zz_cap (fun Z hZ1 hZ2 => ?_)
  refine lv_aload_n hx hb dX12_end_0 rfl (lv_at hl 0 rfl) ?_
  refine lv_iconst (v := 0) hx hb dX12_end_1 (by decide) ?_
  refine va_put (D := D) (ci := 9) (v := .int 0) (ty := .int) (C := RX12) (T := TX12) (N := 35) hx hb hts iX12 tyX12 tyX12_ok nmX12 hown hK hP hD hS 0 rfl rfl 0 (by decide) (hw 0 (.fieldLink RX12 78 "NumberFormatsModel" "code" "I") rfl) (fun _ h9 => h9) rfl (by decide +kernel) rfl rfl (Nat.le_of_ble_eq_true rfl) dX12_end_2 (fun H locs hP hD hS => ?_)
  have hP : va_P D vwCl [(h, .inr (9, [.int 0, .int h_taped, .ref h_tape, .int h_size, .ref h_text, .double h_value, .int h_out, .ref h_output, .int h_illAt, .ref h_format, .int h_sections, .int h_items, .ref h_kind, .ref h_what, .ref h_of, .ref h_relation, .ref h_bound, .int h_reads, .int h_readSections, .ref h_readKind, .ref h_readWhat, .ref h_readOf, .ref h_place, .ref h_readRelation, .ref h_readBound, .int h_stop, .ref h_meant, .ref h_row, .ref h_exact, .ref h_error, .ref h_bestError, .long h_m, .int h_e, .ref h_digits, .int h_whole])), (h_tape, .inl (cI, 260, .inl h_tapeF)), (h_text, .inl (cI, 256, .inl h_textF))] H := hP
  have hD : va_D A [(h, .inr (9, [.int 0, .int h_taped, .ref h_tape, .int h_size, .ref h_text, .double h_value, .int h_out, .ref h_output, .int h_illAt, .ref h_format, .int h_sections, .int h_items, .ref h_kind, .ref h_what, .ref h_of, .ref h_relation, .ref h_bound, .int h_reads, .int h_readSections, .ref h_readKind, .ref h_readWhat, .ref h_readOf, .ref h_place, .ref h_readRelation, .ref h_readBound, .int h_stop, .ref h_meant, .ref h_row, .ref h_exact, .ref h_error, .ref h_bestError, .long h_m, .int h_e, .ref h_digits, .int h_whole])), (h_tape, .inl (cI, 260, .inl h_tapeF)), (h_text, .inl (cI, 256, .inl h_textF))] := hD
  refine lv_iload_n hx hb dX12_end_5 rfl (lv_at hl 1 rfl) ?_
  refine lv_if_lt (tgt := 24) hx hb dX12_end_6 (by decide) (fun c_1 => ?_) (fun c_1 => ?_)
  · have ic_1 : (p1 : Int32).toInt < (0 : Int32).toInt := (fa_lt p1 0).mp c_1
    refine lv_iconst (v := 0) hx hb dX12_end_24 (by decide) ?_
    have hP9 := hP.sub (ws' := [(h, .inr (9, [.int 0, .int h_taped, .ref h_tape, .int h_size, .ref h_text, .double h_value, .int h_out, .ref h_output, .int h_illAt, .ref h_format, .int h_sections, .int h_items, .ref h_kind, .ref h_what, .ref h_of, .ref h_relation, .ref h_bound, .int h_reads, .int h_readSections, .ref h_readKind, .ref h_readWhat, .ref h_readOf, .ref h_place, .ref h_readRelation, .ref h_readBound, .int h_stop, .ref h_meant, .ref h_row, .ref h_exact, .ref h_error, .ref h_bestError, .long h_m, .int h_e, .ref h_digits, .int h_whole])), (h_tape, .inl (cI, 260, .inl h_tapeF)), (h_text, .inl (cI, 256, .inl h_textF))]) [0, 1, 2] rfl
    have hD9 := hD.sub (ws' := [(h, .inr (9, [.int 0, .int h_taped, .ref h_tape, .int h_size, .ref h_text, .double h_value, .int h_out, .ref h_output, .int h_illAt, .ref h_format, .int h_sections, .int h_items, .ref h_kind, .ref h_what, .ref h_of, .ref h_relation, .ref h_bound, .int h_reads, .int h_readSections, .ref h_readKind, .ref h_readWhat, .ref h_readOf, .ref h_place, .ref h_readRelation, .ref h_readBound, .int h_stop, .ref h_meant, .ref h_row, .ref h_exact, .ref h_error, .ref h_bestError, .long h_m, .int h_e, .ref h_digits, .int h_whole])), (h_tape, .inl (cI, 260, .inl h_tapeF)), (h_text, .inl (cI, 256, .inl h_textF))]) [0, 1, 2] (by decide) rfl
    exact W.zret (v := 0) hx hb hr rfl (fun t ht hW => ⟨⟨0, (0, h_taped, h_size, h_textF), rfl, (by (try dsimp only); refine ⟨?_, ?_, ?_, ?_, ?_⟩ <;> first | omega | assumption | exact Or.inr ⟨rfl, by omega, rfl, rfl⟩ | exact Or.inl ⟨rfl, by omega, by omega, by omega, rfl, rfl⟩), by rw [ht]; exact hP9, va_K.moved hW.alike hK, hD9⟩, hS.F ht⟩) hS.2.2 dX12_end_25
  · have ic_1 : ¬ ((p1 : Int32).toInt < (0 : Int32).toInt) := fun h9 => c_1 ((fa_lt p1 0).mpr h9)
    refine lv_iload_n hx hb dX12_end_9 rfl (lv_at hl 1 rfl) ?_
    refine lv_aload_n hx hb dX12_end_10 rfl (lv_at hl 0 rfl) ?_
    refine va_get (D := D) (ci := 9) (v := .int h_taped) (C := RX12) (T := TX12) (N := 35) hx hb hts iX12 hown hK hP 0 rfl rfl 1 (by decide) (hw 1 (.fieldLink RX12 81 "NumberFormatsModel" "taped" "I") rfl) (fun _ h9 => h9) rfl dX12_end_11 ?_
    refine lv_icmp_gt (tgt := 24) hx hb dX12_end_14 (by decide) (fun c_2 => ?_) (fun c_2 => ?_)
    · have ic_2 : (h_taped : Int32).toInt < (p1 : Int32).toInt := (fa_lt h_taped p1).mp c_2
      refine lv_iconst (v := 0) hx hb dX12_end_24 (by decide) ?_
      have hP9 := hP.sub (ws' := [(h, .inr (9, [.int 0, .int h_taped, .ref h_tape, .int h_size, .ref h_text, .double h_value, .int h_out, .ref h_output, .int h_illAt, .ref h_format, .int h_sections, .int h_items, .ref h_kind, .ref h_what, .ref h_of, .ref h_relation, .ref h_bound, .int h_reads, .int h_readSections, .ref h_readKind, .ref h_readWhat, .ref h_readOf, .ref h_place, .ref h_readRelation, .ref h_readBound, .int h_stop, .ref h_meant, .ref h_row, .ref h_exact, .ref h_error, .ref h_bestError, .long h_m, .int h_e, .ref h_digits, .int h_whole])), (h_tape, .inl (cI, 260, .inl h_tapeF)), (h_text, .inl (cI, 256, .inl h_textF))]) [0, 1, 2] rfl
      have hD9 := hD.sub (ws' := [(h, .inr (9, [.int 0, .int h_taped, .ref h_tape, .int h_size, .ref h_text, .double h_value, .int h_out, .ref h_output, .int h_illAt, .ref h_format, .int h_sections, .int h_items, .ref h_kind, .ref h_what, .ref h_of, .ref h_relation, .ref h_bound, .int h_reads, .int h_readSections, .ref h_readKind, .ref h_readWhat, .ref h_readOf, .ref h_place, .ref h_readRelation, .ref h_readBound, .int h_stop, .ref h_meant, .ref h_row, .ref h_exact, .ref h_error, .ref h_bestError, .long h_m, .int h_e, .ref h_digits, .int h_whole])), (h_tape, .inl (cI, 260, .inl h_tapeF)), (h_text, .inl (cI, 256, .inl h_textF))]) [0, 1, 2] (by decide) rfl
      exact W.zret (v := 0) hx hb hr rfl (fun t ht hW => ⟨⟨0, (0, h_taped, h_size, h_textF), rfl, (by (try dsimp only); refine ⟨?_, ?_, ?_, ?_, ?_⟩ <;> first | omega | assumption | exact Or.inr ⟨rfl, by omega, rfl, rfl⟩ | exact Or.inl ⟨rfl, by omega, by omega, by omega, rfl, rfl⟩), by rw [ht]; exact hP9, va_K.moved hW.alike hK, hD9⟩, hS.F ht⟩) hS.2.2 dX12_end_25
    · have ic_2 : ¬ ((h_taped : Int32).toInt < (p1 : Int32).toInt) := fun h9 => c_2 ((fa_lt h_taped p1).mpr h9)
      refine lv_iload_n hx hb dX12_end_17 rfl (lv_at hl 1 rfl) ?_
      refine lv_sipush (v := 255) hx hb dX12_end_18 (by decide) ?_
      refine lv_icmp_le (tgt := 26) hx hb dX12_end_21 (by decide) (fun c_3 => ?_) (fun c_3 => ?_)
      · have ic_3 : (p1 : Int32).toInt ≤ (255 : Int32).toInt := (fa_le p1 255).mp c_3
        refine lv_iconst (v := 0) hx hb dX12_end_26 (by decide) ?_
        refine lv_istore_n (lv' := [(2, .int 0), (0, .ref h), (1, .int p1)]) hx hb dX12_end_27 rfl hl (by decide) rfl (fun ls hl => ?_)
        have L_28 : ∀ (N : Nat) (x_4 : Int32) (f_5 : Nat → Int32) (H : Heap) (locs : List Loc) (ls : Array Slot), (0 ≤ (x_4 : Int32).toInt) → (∀ k9 : Nat, k9 < 256 → 0 ≤ (f_5 k9).toInt ∧ (f_5 k9).toInt ≤ 255) → ((2147483647 - (x_4 : Int32).toInt).toNat < N) → va_P D vwCl [(h, .inr (9, [.int 0, .int h_taped, .ref h_tape, .int h_size, .ref h_text, .double h_value, .int h_out, .ref h_output, .int h_illAt, .ref h_format, .int h_sections, .int h_items, .ref h_kind, .ref h_what, .ref h_of, .ref h_relation, .ref h_bound, .int h_reads, .int h_readSections, .ref h_readKind, .ref h_readWhat, .ref h_readOf, .ref h_place, .ref h_readRelation, .ref h_readBound, .int h_stop, .ref h_meant, .ref h_row, .ref h_exact, .ref h_error, .ref h_bestError, .long h_m, .int h_e, .ref h_digits, .int h_whole])), (h_tape, .inl (cI, 260, .inl h_tapeF)), (h_text, .inl (cI, 256, .inl f_5))] H → va_D A [(h, .inr (9, [.int 0, .int h_taped, .ref h_tape, .int h_size, .ref h_text, .double h_value, .int h_out, .ref h_output, .int h_illAt, .ref h_format, .int h_sections, .int h_items, .ref h_kind, .ref h_what, .ref h_of, .ref h_relation, .ref h_bound, .int h_reads, .int h_readSections, .ref h_readKind, .ref h_readWhat, .ref h_readOf, .ref h_place, .ref h_readRelation, .ref h_readBound, .int h_stop, .ref h_meant, .ref h_row, .ref h_exact, .ref h_error, .ref h_bestError, .long h_m, .int h_e, .ref h_digits, .int h_whole])), (h_tape, .inl (cI, 260, .inl h_tapeF)), (h_text, .inl (cI, 256, .inl f_5))] → va_S A s.heap H locs → lv_has ls 3 [(2, .int x_4), (0, .ref h), (1, .int p1)] → Z 0 0 H locs (F0 m 28 ls []) := by
          intro N
          induction N with
          | zero => intro _ _ _ _ _ _ _ hmu; exact absurd hmu (Nat.not_lt_zero _)
          | succ N ih_28 =>
            intro x_4 f_5 H locs ls g28_0 g28_1 hmu hP hD hS hl
            refine hZ2 ?_
            refine lv_iload_n hx hb dX12_end_28 rfl (lv_at hl 0 rfl) ?_
            refine lv_iload_n hx hb dX12_end_29 rfl (lv_at hl 2 rfl) ?_
            refine lv_icmp_ge (tgt := 51) hx hb dX12_end_30 (by decide) (fun c_6 => ?_) (fun c_6 => ?_)
            · have ic_6 : (p1 : Int32).toInt ≤ (x_4 : Int32).toInt := (fa_le p1 x_4).mp c_6
              refine lv_aload_n hx hb dX12_end_51 rfl (lv_at hl 1 rfl) ?_
              refine lv_iload_n hx hb dX12_end_52 rfl (lv_at hl 2 rfl) ?_
              refine va_put (D := D) (ci := 9) (v := .int p1) (ty := .int) (C := RX12) (T := TX12) (N := 35) hx hb hts iX12 tyX12 tyX12_ok nmX12 hown hK hP hD hS 0 rfl rfl 3 (by decide) (hw 2 (.fieldLink RX12 88 "NumberFormatsModel" "size" "I") rfl) (fun _ h9 => h9) rfl (by decide +kernel) rfl rfl (Nat.le_of_ble_eq_true rfl) dX12_end_53 (fun H locs hP hD hS => ?_)
              have hP : va_P D vwCl [(h, .inr (9, [.int 0, .int h_taped, .ref h_tape, .int p1, .ref h_text, .double h_value, .int h_out, .ref h_output, .int h_illAt, .ref h_format, .int h_sections, .int h_items, .ref h_kind, .ref h_what, .ref h_of, .ref h_relation, .ref h_bound, .int h_reads, .int h_readSections, .ref h_readKind, .ref h_readWhat, .ref h_readOf, .ref h_place, .ref h_readRelation, .ref h_readBound, .int h_stop, .ref h_meant, .ref h_row, .ref h_exact, .ref h_error, .ref h_bestError, .long h_m, .int h_e, .ref h_digits, .int h_whole])), (h_tape, .inl (cI, 260, .inl h_tapeF)), (h_text, .inl (cI, 256, .inl f_5))] H := hP
              have hD : va_D A [(h, .inr (9, [.int 0, .int h_taped, .ref h_tape, .int p1, .ref h_text, .double h_value, .int h_out, .ref h_output, .int h_illAt, .ref h_format, .int h_sections, .int h_items, .ref h_kind, .ref h_what, .ref h_of, .ref h_relation, .ref h_bound, .int h_reads, .int h_readSections, .ref h_readKind, .ref h_readWhat, .ref h_readOf, .ref h_place, .ref h_readRelation, .ref h_readBound, .int h_stop, .ref h_meant, .ref h_row, .ref h_exact, .ref h_error, .ref h_bestError, .long h_m, .int h_e, .ref h_digits, .int h_whole])), (h_tape, .inl (cI, 260, .inl h_tapeF)), (h_text, .inl (cI, 256, .inl f_5))] := hD
              refine lv_aload_n hx hb dX12_end_56 rfl (lv_at hl 1 rfl) ?_
              refine lv_iconst (v := 0) hx hb dX12_end_57 (by decide) ?_
              refine va_put (D := D) (ci := 9) (v := .int 0) (ty := .int) (C := RX12) (T := TX12) (N := 35) hx hb hts iX12 tyX12 tyX12_ok nmX12 hown hK hP hD hS 0 rfl rfl 1 (by decide) (hw 1 (.fieldLink RX12 81 "NumberFormatsModel" "taped" "I") rfl) (fun _ h9 => h9) rfl (by decide +kernel) rfl rfl (Nat.le_of_ble_eq_true rfl) dX12_end_58 (fun H locs hP hD hS => ?_)
              have hP : va_P D vwCl [(h, .inr (9, [.int 0, .int 0, .ref h_tape, .int p1, .ref h_text, .double h_value, .int h_out, .ref h_output, .int h_illAt, .ref h_format, .int h_sections, .int h_items, .ref h_kind, .ref h_what, .ref h_of, .ref h_relation, .ref h_bound, .int h_reads, .int h_readSections, .ref h_readKind, .ref h_readWhat, .ref h_readOf, .ref h_place, .ref h_readRelation, .ref h_readBound, .int h_stop, .ref h_meant, .ref h_row, .ref h_exact, .ref h_error, .ref h_bestError, .long h_m, .int h_e, .ref h_digits, .int h_whole])), (h_tape, .inl (cI, 260, .inl h_tapeF)), (h_text, .inl (cI, 256, .inl f_5))] H := hP
              have hD : va_D A [(h, .inr (9, [.int 0, .int 0, .ref h_tape, .int p1, .ref h_text, .double h_value, .int h_out, .ref h_output, .int h_illAt, .ref h_format, .int h_sections, .int h_items, .ref h_kind, .ref h_what, .ref h_of, .ref h_relation, .ref h_bound, .int h_reads, .int h_readSections, .ref h_readKind, .ref h_readWhat, .ref h_readOf, .ref h_place, .ref h_readRelation, .ref h_readBound, .int h_stop, .ref h_meant, .ref h_row, .ref h_exact, .ref h_error, .ref h_bestError, .long h_m, .int h_e, .ref h_digits, .int h_whole])), (h_tape, .inl (cI, 260, .inl h_tapeF)), (h_text, .inl (cI, 256, .inl f_5))] := hD
              refine lv_iconst (v := 1) hx hb dX12_end_61 (by decide) ?_
              have hP9 := hP.sub (ws' := [(h, .inr (9, [.int 0, .int 0, .ref h_tape, .int p1, .ref h_text, .double h_value, .int h_out, .ref h_output, .int h_illAt, .ref h_format, .int h_sections, .int h_items, .ref h_kind, .ref h_what, .ref h_of, .ref h_relation, .ref h_bound, .int h_reads, .int h_readSections, .ref h_readKind, .ref h_readWhat, .ref h_readOf, .ref h_place, .ref h_readRelation, .ref h_readBound, .int h_stop, .ref h_meant, .ref h_row, .ref h_exact, .ref h_error, .ref h_bestError, .long h_m, .int h_e, .ref h_digits, .int h_whole])), (h_tape, .inl (cI, 260, .inl h_tapeF)), (h_text, .inl (cI, 256, .inl f_5))]) [0, 1, 2] rfl
              have hD9 := hD.sub (ws' := [(h, .inr (9, [.int 0, .int 0, .ref h_tape, .int p1, .ref h_text, .double h_value, .int h_out, .ref h_output, .int h_illAt, .ref h_format, .int h_sections, .int h_items, .ref h_kind, .ref h_what, .ref h_of, .ref h_relation, .ref h_bound, .int h_reads, .int h_readSections, .ref h_readKind, .ref h_readWhat, .ref h_readOf, .ref h_place, .ref h_readRelation, .ref h_readBound, .int h_stop, .ref h_meant, .ref h_row, .ref h_exact, .ref h_error, .ref h_bestError, .long h_m, .int h_e, .ref h_digits, .int h_whole])), (h_tape, .inl (cI, 260, .inl h_tapeF)), (h_text, .inl (cI, 256, .inl f_5))]) [0, 1, 2] (by decide) rfl
              exact W.zret (v := 1) hx hb hr rfl (fun t ht hW => ⟨⟨1, (0, 0, p1, f_5), rfl, (by (try dsimp only); refine ⟨?_, ?_, ?_, ?_, ?_⟩ <;> first | omega | assumption | exact Or.inr ⟨rfl, by omega, rfl, rfl⟩ | exact Or.inl ⟨rfl, by omega, by omega, by omega, rfl, rfl⟩), by rw [ht]; exact hP9, va_K.moved hW.alike hK, hD9⟩, hS.F ht⟩) hS.2.2 dX12_end_62
            · have ic_6 : ¬ ((p1 : Int32).toInt ≤ (x_4 : Int32).toInt) := fun h9 => c_6 ((fa_le p1 x_4).mpr h9)
              refine lv_aload_n hx hb dX12_end_33 rfl (lv_at hl 1 rfl) ?_
              refine va_get (D := D) (ci := 9) (v := .ref h_text) (C := RX12) (T := TX12) (N := 35) hx hb hts iX12 hown hK hP 0 rfl rfl 4 (by decide) (hw 3 (.fieldLink RX12 13 "NumberFormatsModel" "text" "[I") rfl) (fun _ h9 => h9) rfl dX12_end_34 ?_
              refine lv_iload_n hx hb dX12_end_37 rfl (lv_at hl 0 rfl) ?_
              refine lv_aload_n hx hb dX12_end_38 rfl (lv_at hl 1 rfl) ?_
              refine va_get (D := D) (ci := 9) (v := .ref h_tape) (C := RX12) (T := TX12) (N := 35) hx hb hts iX12 hown hK hP 0 rfl rfl 2 (by decide) (hw 4 (.fieldLink RX12 7 "NumberFormatsModel" "tape" "[I") rfl) (fun _ h9 => h9) rfl dX12_end_39 ?_
              refine lv_iload_n hx hb dX12_end_42 rfl (lv_at hl 0 rfl) ?_
              have h_43 : vp_in x_4 260 := by rw [vp_in_iff]; omega
              refine va_iald hx hb hK hP 1 0 rfl rfl h_43 dX12_end_43 ?_
              refine lv_topi (fun x_7 ex_7 => ?_)
              have iv_x_7 := (‹∀ k9 : Nat, k9 < 260 → 0 ≤ (h_tapeF k9).toInt ∧ (h_tapeF k9).toInt ≤ 255›) _ (Nat.lt_of_not_le (fun h9 => h_43 (Or.inr h9)))
              rw [← ex_7] at iv_x_7
              have h_44 : vp_in x_4 256 := by rw [vp_in_iff]; omega
              refine va_iast hx hb hK hP hD hS 2 0 rfl rfl h_44 dX12_end_44 (fun H locs hP hD hS => ?_)
              obtain ⟨f_8, ef_8⟩ : ∃ y : Nat → Int32, y = upd f_5 (x_4 : Int32).toNatClampNeg x_7 := ⟨_, rfl⟩
              rw [← ef_8] at hP hD
              have hP : va_P D vwCl [(h, .inr (9, [.int 0, .int h_taped, .ref h_tape, .int h_size, .ref h_text, .double h_value, .int h_out, .ref h_output, .int h_illAt, .ref h_format, .int h_sections, .int h_items, .ref h_kind, .ref h_what, .ref h_of, .ref h_relation, .ref h_bound, .int h_reads, .int h_readSections, .ref h_readKind, .ref h_readWhat, .ref h_readOf, .ref h_place, .ref h_readRelation, .ref h_readBound, .int h_stop, .ref h_meant, .ref h_row, .ref h_exact, .ref h_error, .ref h_bestError, .long h_m, .int h_e, .ref h_digits, .int h_whole])), (h_tape, .inl (cI, 260, .inl h_tapeF)), (h_text, .inl (cI, 256, .inl f_8))] H := hP
              have hD : va_D A [(h, .inr (9, [.int 0, .int h_taped, .ref h_tape, .int h_size, .ref h_text, .double h_value, .int h_out, .ref h_output, .int h_illAt, .ref h_format, .int h_sections, .int h_items, .ref h_kind, .ref h_what, .ref h_of, .ref h_relation, .ref h_bound, .int h_reads, .int h_readSections, .ref h_readKind, .ref h_readWhat, .ref h_readOf, .ref h_place, .ref h_readRelation, .ref h_readBound, .int h_stop, .ref h_meant, .ref h_row, .ref h_exact, .ref h_error, .ref h_bestError, .long h_m, .int h_e, .ref h_digits, .int h_whole])), (h_tape, .inl (cI, 260, .inl h_tapeF)), (h_text, .inl (cI, 256, .inl f_8))] := hD
              have iv_f_8 : ∀ k9 : Nat, k9 < 256 → 0 ≤ (f_8 k9).toInt ∧ (f_8 k9).toInt ≤ 255 := by intro k9 h9; rw [ef_8]; unfold upd; split <;> first | omega | exact (‹∀ k9 : Nat, k9 < 256 → 0 ≤ (f_5 k9).toInt ∧ (f_5 k9).toInt ≤ 255›) k9 h9
              obtain ⟨x_9, ex_9⟩ : ∃ y : Int32, y = x_4 + 1 := ⟨_, rfl⟩
              have b_x_4 := ti_b x_4
              have tx_9 := ti_add ex_9
              refine lv_iinc (v := x_9) (lv' := [(2, .int x_9), (0, .ref h), (1, .int p1)]) hx hb dX12_end_45 hl (k := 0) rfl (by rw [ex_9]; rfl) (by decide) rfl (fun ls hl => ?_)
              refine lv_goto (tgt := 28) hx hb dX12_end_48 (by decide) ?_
              exact hZ1 (ih_28 x_9 f_8 _ _ _ (by omega) (by assumption) (by omega) hP hD hS hl)
        exact hZ1 (L_28 (((2147483647 - (0 : Int32).toInt).toNat) + 1) 0 h_textF _ _ _ (by omega) (by assumption) (by omega) hP hD hS hl)
      · have ic_3 : ¬ ((p1 : Int32).toInt ≤ (255 : Int32).toInt) := fun h9 => c_3 ((fa_le p1 255).mpr h9)
        refine lv_iconst (v := 0) hx hb dX12_end_24 (by decide) ?_
        have hP9 := hP.sub (ws' := [(h, .inr (9, [.int 0, .int h_taped, .ref h_tape, .int h_size, .ref h_text, .double h_value, .int h_out, .ref h_output, .int h_illAt, .ref h_format, .int h_sections, .int h_items, .ref h_kind, .ref h_what, .ref h_of, .ref h_relation, .ref h_bound, .int h_reads, .int h_readSections, .ref h_readKind, .ref h_readWhat, .ref h_readOf, .ref h_place, .ref h_readRelation, .ref h_readBound, .int h_stop, .ref h_meant, .ref h_row, .ref h_exact, .ref h_error, .ref h_bestError, .long h_m, .int h_e, .ref h_digits, .int h_whole])), (h_tape, .inl (cI, 260, .inl h_tapeF)), (h_text, .inl (cI, 256, .inl h_textF))]) [0, 1, 2] rfl
        have hD9 := hD.sub (ws' := [(h, .inr (9, [.int 0, .int h_taped, .ref h_tape, .int h_size, .ref h_text, .double h_value, .int h_out, .ref h_output, .int h_illAt, .ref h_format, .int h_sections, .int h_items, .ref h_kind, .ref h_what, .ref h_of, .ref h_relation, .ref h_bound, .int h_reads, .int h_readSections, .ref h_readKind, .ref h_readWhat, .ref h_readOf, .ref h_place, .ref h_readRelation, .ref h_readBound, .int h_stop, .ref h_meant, .ref h_row, .ref h_exact, .ref h_error, .ref h_bestError, .long h_m, .int h_e, .ref h_digits, .int h_whole])), (h_tape, .inl (cI, 260, .inl h_tapeF)), (h_text, .inl (cI, 256, .inl h_textF))]) [0, 1, 2] (by decide) rfl
        exact W.zret (v := 0) hx hb hr rfl (fun t ht hW => ⟨⟨0, (0, h_taped, h_size, h_textF), rfl, (by (try dsimp only); refine ⟨?_, ?_, ?_, ?_, ?_⟩ <;> first | omega | assumption | exact Or.inr ⟨rfl, by omega, rfl, rfl⟩ | exact Or.inl ⟨rfl, by omega, by omega, by omega, rfl, rfl⟩), by rw [ht]; exact hP9, va_K.moved hW.alike hK, hD9⟩, hS.F ht⟩) hS.2.2 dX12_end_25

def ow_X12_set : List Cond := [Cond.fieldLink RX12 78 "NumberFormatsModel" "code" "I", Cond.constantDouble RX12 91 (9094988921128908188), Cond.constantDouble RX12 93 (18318360957983683996), Cond.fieldLink RX12 95 "NumberFormatsModel" "value" "D"]
def pw_X12_set : List Cond := Cond.code yX12_set cX12_set 3 (some .boolean) :: (ow_X12_set ++ (wsX120))
set_option maxRecDepth 20000 in
theorem mo_X12_set : ∀ w ∈ ow_X12_set, w ∈ lw_tbl := by decide +kernel
set_option maxRecDepth 20000 in
theorem mc_X12_set : Cond.code yX12_set cX12_set 3 (some .boolean) ∈ lw_tbl := by decide +kernel
theorem m_X12_set : ∀ w ∈ pw_X12_set, w ∈ lw_tbl := List.forall_mem_cons.mpr ⟨mc_X12_set, (List.forall_mem_append.mpr ⟨mo_X12_set, inX12⟩)⟩
theorem ko_X12_set : ∀ w ∈ ow_X12_set, goodWord w = true := by decide +kernel
theorem k_X12_set : pw_X12_set.all goodWord = true := List.all_eq_true.mpr (List.forall_mem_cons.mpr ⟨by decide +kernel, (List.forall_mem_append.mpr ⟨ko_X12_set, kX_X12⟩)⟩)
set_option maxHeartbeats 400000 in
set_option maxRecDepth 100000 in
theorem c_X12_set (l : Launch) (D : va_G) (cI cD cJ : ClassId) (sz : Nat) (h : Nat) (h_code : Int32) (h_taped : Int32) (h_tape : Nat) (h_size : Int32) (h_text : Nat) (h_value : UInt64) (h_out : Int32) (h_output : Nat) (h_illAt : Int32) (h_format : Nat) (h_sections : Int32) (h_items : Int32) (h_kind : Nat) (h_what : Nat) (h_of : Nat) (h_relation : Nat) (h_bound : Nat) (h_reads : Int32) (h_readSections : Int32) (h_readKind : Nat) (h_readWhat : Nat) (h_readOf : Nat) (h_place : Nat) (h_readRelation : Nat) (h_readBound : Nat) (h_stop : Int32) (h_meant : Nat) (h_row : Nat) (h_exact : Nat) (h_error : Nat) (h_bestError : Nat) (h_m : Int64) (h_e : Int32) (h_digits : Nat) (h_whole : Int32) (p1 : UInt64) (iv_h_taped : 0 ≤ (h_taped : Int32).toInt ∧ (h_taped : Int32).toInt ≤ 260) (iv_h_size : 0 ≤ (h_size : Int32).toInt ∧ (h_size : Int32).toInt ≤ 255) (iv_h_value : inR h_value) (iv_h_out : 0 ≤ (h_out : Int32).toInt ∧ (h_out : Int32).toInt ≤ 1024) (iv_h_sections : 0 ≤ (h_sections : Int32).toInt ∧ (h_sections : Int32).toInt ≤ 4) (iv_h_items : 0 ≤ (h_items : Int32).toInt ∧ (h_items : Int32).toInt ≤ 255) (iv_h_reads : 0 ≤ (h_reads : Int32).toInt ∧ (h_reads : Int32).toInt ≤ 255) (iv_h_readSections : 0 ≤ (h_readSections : Int32).toInt ∧ (h_readSections : Int32).toInt ≤ 4) (iv_h_whole : 0 ≤ (h_whole : Int32).toInt ∧ (h_whole : Int32).toInt ≤ 1001) : Met l yX12_set pw_X12_set ({ frames := 0, cells := 0, slots := 0, locals := 0 }) (va_Pc [.ref h, .double p1] (fun U => U.heap.size = sz ∧ va_P D vwCl [(h, .inr (9, [.int h_code, .int h_taped, .ref h_tape, .int h_size, .ref h_text, .double h_value, .int h_out, .ref h_output, .int h_illAt, .ref h_format, .int h_sections, .int h_items, .ref h_kind, .ref h_what, .ref h_of, .ref h_relation, .ref h_bound, .int h_reads, .int h_readSections, .ref h_readKind, .ref h_readWhat, .ref h_readOf, .ref h_place, .ref h_readRelation, .ref h_readBound, .int h_stop, .ref h_meant, .ref h_row, .ref h_exact, .ref h_error, .ref h_bestError, .long h_m, .int h_e, .ref h_digits, .int h_whole]))] U.heap ∧ va_K D vwCl (ty3 cI cD cJ) U ∧ va_D (fun _ => True) [(h, .inr (9, [.int h_code, .int h_taped, .ref h_tape, .int h_size, .ref h_text, .double h_value, .int h_out, .ref h_output, .int h_illAt, .ref h_format, .int h_sections, .int h_items, .ref h_kind, .ref h_what, .ref h_of, .ref h_relation, .ref h_bound, .int h_reads, .int h_readSections, .ref h_readKind, .ref h_readWhat, .ref h_readOf, .ref h_place, .ref h_readRelation, .ref h_readBound, .int h_stop, .ref h_meant, .ref h_row, .ref h_exact, .ref h_error, .ref h_bestError, .long h_m, .int h_e, .ref h_digits, .int h_whole]))])) (va_Qi (fun (r : Int32) (u : Int32 × UInt64) => match u with | (h_code2, h_value2) => (r.toInt = 0 ∨ r.toInt = 1) ∧ ((r = 1 ∧ inR p1 ∧ h_value2 = nzd p1) ∨ (r = 0 ∧ ¬ inR p1 ∧ h_value2 = h_value)) ∧ (inR h_value2)) (fun (u : Int32 × UInt64) (t : State) => match u with | (h_code2, h_value2) => va_P D vwCl [(h, .inr (9, [.int h_code2, .int h_taped, .ref h_tape, .int h_size, .ref h_text, .double h_value2, .int h_out, .ref h_output, .int h_illAt, .ref h_format, .int h_sections, .int h_items, .ref h_kind, .ref h_what, .ref h_of, .ref h_relation, .ref h_bound, .int h_reads, .int h_readSections, .ref h_readKind, .ref h_readWhat, .ref h_readOf, .ref h_place, .ref h_readRelation, .ref h_readBound, .int h_stop, .ref h_meant, .ref h_row, .ref h_exact, .ref h_error, .ref h_bestError, .long h_m, .int h_e, .ref h_digits, .int h_whole]))] t.heap ∧ va_K D vwCl (ty3 cI cD cJ) t ∧ va_D (va_A [(h, .inr (9, [.int h_code, .int h_taped, .ref h_tape, .int h_size, .ref h_text, .double h_value, .int h_out, .ref h_output, .int h_illAt, .ref h_format, .int h_sections, .int h_items, .ref h_kind, .ref h_what, .ref h_of, .ref h_relation, .ref h_bound, .int h_reads, .int h_readSections, .ref h_readKind, .ref h_readWhat, .ref h_readOf, .ref h_place, .ref h_readRelation, .ref h_readBound, .int h_stop, .ref h_meant, .ref h_row, .ref h_exact, .ref h_error, .ref h_bestError, .long h_m, .int h_e, .ref h_digits, .int h_whole]))] sz) [(h, .inr (9, [.int h_code2, .int h_taped, .ref h_tape, .int h_size, .ref h_text, .double h_value2, .int h_out, .ref h_output, .int h_illAt, .ref h_format, .int h_sections, .int h_items, .ref h_kind, .ref h_what, .ref h_of, .ref h_relation, .ref h_bound, .int h_reads, .int h_readSections, .ref h_readKind, .ref h_readWhat, .ref h_readOf, .ref h_place, .ref h_readRelation, .ref h_readBound, .int h_stop, .ref h_meant, .ref h_row, .ref h_exact, .ref h_error, .ref h_bestError, .long h_m, .int h_e, .ref h_digits, .int h_whole]))]) (va_A [(h, .inr (9, [.int h_code, .int h_taped, .ref h_tape, .int h_size, .ref h_text, .double h_value, .int h_out, .ref h_output, .int h_illAt, .ref h_format, .int h_sections, .int h_items, .ref h_kind, .ref h_what, .ref h_of, .ref h_relation, .ref h_bound, .int h_reads, .int h_readSections, .ref h_readKind, .ref h_readWhat, .ref h_readOf, .ref h_place, .ref h_readRelation, .ref h_readBound, .int h_stop, .ref h_meant, .ref h_row, .ref h_exact, .ref h_error, .ref h_bestError, .long h_m, .int h_e, .ref h_digits, .int h_whole]))] sz)) 0 0 (va_A [(h, .inr (9, [.int h_code, .int h_taped, .ref h_tape, .int h_size, .ref h_text, .double h_value, .int h_out, .ref h_output, .int h_illAt, .ref h_format, .int h_sections, .int h_items, .ref h_kind, .ref h_what, .ref h_of, .ref h_relation, .ref h_bound, .int h_reads, .int h_readSections, .ref h_readKind, .ref h_readWhat, .ref h_readOf, .ref h_place, .ref h_readRelation, .ref h_readBound, .int h_stop, .ref h_meant, .ref h_row, .ref h_exact, .ref h_error, .ref h_bestError, .long h_m, .int h_e, .ref h_digits, .int h_whole]))] sz) := by
  refine Met.ofW (cc := cX12_set) (maxL := 3) (ret := (some .boolean)) (by decide +kernel) rfl ?_
  intro p e s m args below meth c s₁ B hml hv
  obtain ⟨rfl, hsz, hP, hK, hD0⟩ := hv
  have hx := B.exec
  have hb := B.bytes
  have hr := B.returns
  have hts := atoms_spec (ws := pw_X12_set) B.pre
  have hown : s.vm.findClass RX12 = some m.cls := findClass_of_methodNamed B.named
  have hlocks := B.notSynchronized
  subst hsz
  have hD := hD0.self (sz := s.heap.size)
  generalize hAe : va_A [(h, .inr (9, [.int h_code, .int h_taped, .ref h_tape, .int h_size, .ref h_text, .double h_value, .int h_out, .ref h_output, .int h_illAt, .ref h_format, .int h_sections, .int h_items, .ref h_kind, .ref h_what, .ref h_of, .ref h_relation, .ref h_bound, .int h_reads, .int h_readSections, .ref h_readKind, .ref h_readWhat, .ref h_readOf, .ref h_place, .ref h_readRelation, .ref h_readBound, .int h_stop, .ref h_meant, .ref h_row, .ref h_exact, .ref h_error, .ref h_bestError, .long h_m, .int h_e, .ref h_digits, .int h_whole]))] s.heap.size = A at hD ⊢
  have hA : ∀ q : Nat, s.heap.size ≤ q → A q := fun q h => by rw [← hAe]; exact Or.inr h
  have hS : va_S A s.heap s.heap [] := va_S.rf
  have hw : ∀ (k : Nat) (w : Cond), ow_X12_set[k]? = some w → w.before _ s = true := fun k w h => hts w (List.mem_cons_of_mem _ (have h9 := List.mem_of_getElem? h; List.mem_append_left _ h9))
  have iX12 : ∀ w ∈ u_ws RX12 TX12 35, w ∈ pw_X12_set := fun w h9 => List.mem_cons_of_mem _ (List.mem_append_right _ (h9))
  have n_0 : ((0 : Int32)).toInt = 0 := by decide
  have n_1 : ((1 : Int32)).toInt = 1 := by decide
  have hl := lv_entry ([.ref h, .double p1]) (n := 3) (Nat.le_of_ble_eq_true rfl)
  rw [lg_entry_eq]
  generalize (lg_sl ([.ref h, .double p1]) ++ List.replicate (3 - (lg_sl ([.ref h, .double p1])).length) Slot.unset).toArray = ls at hl ⊢
  have hl : lv_has ls 3 [(0, .ref h), (1, .double p1)] := hl
  refine lv_aload_n hx hb dX12_set_0 rfl (lv_at hl 0 rfl) ?_
  refine lv_iconst (v := 0) hx hb dX12_set_1 (by decide) ?_
  refine va_put (D := D) (ci := 9) (v := .int 0) (ty := .int) (C := RX12) (T := TX12) (N := 35) hx hb hts iX12 tyX12 tyX12_ok nmX12 hown hK hP hD hS 0 rfl rfl 0 (by decide) (hw 0 (.fieldLink RX12 78 "NumberFormatsModel" "code" "I") rfl) (fun _ h9 => h9) rfl (by decide +kernel) rfl rfl (Nat.le_of_ble_eq_true rfl) dX12_set_2 (fun H locs hP hD hS => ?_)
  have hP : va_P D vwCl [(h, .inr (9, [.int 0, .int h_taped, .ref h_tape, .int h_size, .ref h_text, .double h_value, .int h_out, .ref h_output, .int h_illAt, .ref h_format, .int h_sections, .int h_items, .ref h_kind, .ref h_what, .ref h_of, .ref h_relation, .ref h_bound, .int h_reads, .int h_readSections, .ref h_readKind, .ref h_readWhat, .ref h_readOf, .ref h_place, .ref h_readRelation, .ref h_readBound, .int h_stop, .ref h_meant, .ref h_row, .ref h_exact, .ref h_error, .ref h_bestError, .long h_m, .int h_e, .ref h_digits, .int h_whole]))] H := hP
  have hD : va_D A [(h, .inr (9, [.int 0, .int h_taped, .ref h_tape, .int h_size, .ref h_text, .double h_value, .int h_out, .ref h_output, .int h_illAt, .ref h_format, .int h_sections, .int h_items, .ref h_kind, .ref h_what, .ref h_of, .ref h_relation, .ref h_bound, .int h_reads, .int h_readSections, .ref h_readKind, .ref h_readWhat, .ref h_readOf, .ref h_place, .ref h_readRelation, .ref h_readBound, .int h_stop, .ref h_meant, .ref h_row, .ref h_exact, .ref h_error, .ref h_bestError, .long h_m, .int h_e, .ref h_digits, .int h_whole]))] := hD
  refine lv_dload_n hx hb dX12_set_5 rfl (lv_at hl 1 rfl) ?_
  refine lv_ldc2d (v := 9094988921128908188) hx hb hown (hw 1 (.constantDouble RX12 91 (9094988921128908188)) rfl) dX12_set_6 ?_
  refine lv_dcmp hx hb dX12_set_9 ?_
  refine lv_topi (fun x_1 ex_1 => ?_)
  refine lv_if_ge (tgt := 21) hx hb dX12_set_10 (by decide) (fun c_2 => ?_) (fun c_2 => ?_)
  · have ic_2 : (0 : Int32).toInt ≤ (x_1 : Int32).toInt := (fa_le 0 x_1).mp c_2
    refine lv_iconst (v := 0) hx hb dX12_set_21 (by decide) ?_
    have hP9 := hP.sub (ws' := [(h, .inr (9, [.int 0, .int h_taped, .ref h_tape, .int h_size, .ref h_text, .double h_value, .int h_out, .ref h_output, .int h_illAt, .ref h_format, .int h_sections, .int h_items, .ref h_kind, .ref h_what, .ref h_of, .ref h_relation, .ref h_bound, .int h_reads, .int h_readSections, .ref h_readKind, .ref h_readWhat, .ref h_readOf, .ref h_place, .ref h_readRelation, .ref h_readBound, .int h_stop, .ref h_meant, .ref h_row, .ref h_exact, .ref h_error, .ref h_bestError, .long h_m, .int h_e, .ref h_digits, .int h_whole]))]) [0] rfl
    have hD9 := hD.sub (ws' := [(h, .inr (9, [.int 0, .int h_taped, .ref h_tape, .int h_size, .ref h_text, .double h_value, .int h_out, .ref h_output, .int h_illAt, .ref h_format, .int h_sections, .int h_items, .ref h_kind, .ref h_what, .ref h_of, .ref h_relation, .ref h_bound, .int h_reads, .int h_readSections, .ref h_readKind, .ref h_readWhat, .ref h_readOf, .ref h_place, .ref h_readRelation, .ref h_readBound, .int h_stop, .ref h_meant, .ref h_row, .ref h_exact, .ref h_error, .ref h_bestError, .long h_m, .int h_e, .ref h_digits, .int h_whole]))]) [0] (by decide) rfl
    exact W.zret (v := 0) hx hb hr rfl (fun t ht hW => ⟨⟨0, (0, h_value), rfl, (by (try dsimp only); refine ⟨?_, ?_, ?_⟩ <;> first | omega | assumption | (subst_vars; exact Or.inl ⟨rfl, ⟨by omega, by omega⟩, by unfold nzd; split <;> first | rfl | contradiction⟩) | (subst_vars; exact Or.inr ⟨rfl, fun h9 => by have h8 := h9.1; have h7 := h9.2; omega, rfl⟩) | (subst_vars; exact inR_0) | (subst_vars; exact ⟨by omega, by omega⟩)), by rw [ht]; exact hP9, va_K.moved hW.alike hK, hD9⟩, hS.F ht⟩) hS.2.2 dX12_set_22
  · have ic_2 : ¬ ((0 : Int32).toInt ≤ (x_1 : Int32).toInt) := fun h9 => c_2 ((fa_le 0 x_1).mpr h9)
    refine lv_dload_n hx hb dX12_set_13 rfl (lv_at hl 1 rfl) ?_
    refine lv_ldc2d (v := 18318360957983683996) hx hb hown (hw 2 (.constantDouble RX12 93 (18318360957983683996)) rfl) dX12_set_14 ?_
    refine lv_dcmp hx hb dX12_set_17 ?_
    refine lv_topi (fun x_3 ex_3 => ?_)
    refine lv_if_gt (tgt := 23) hx hb dX12_set_18 (by decide) (fun c_4 => ?_) (fun c_4 => ?_)
    · have ic_4 : (0 : Int32).toInt < (x_3 : Int32).toInt := (fa_lt 0 x_3).mp c_4
      refine lv_aload_n hx hb dX12_set_23 rfl (lv_at hl 0 rfl) ?_
      refine lv_dload_n hx hb dX12_set_24 rfl (lv_at hl 1 rfl) ?_
      refine lv_dconst0 hx hb dX12_set_25 ?_
      refine lv_dcmp hx hb dX12_set_26 ?_
      refine lv_topi (fun x_5 ex_5 => ?_)
      refine lv_if_ne (tgt := 34) hx hb dX12_set_27 (by decide) (fun c_6 => ?_) (fun c_6 => ?_)
      · have ic_6 : ¬ ((x_5 : Int32).toInt = (0 : Int32).toInt) := fun h9 => c_6 ((fa_eq x_5 0).mpr h9)
        refine lv_dload_n hx hb dX12_set_34 rfl (lv_at hl 1 rfl) ?_
        refine va_put (D := D) (ci := 9) (v := .double p1) (ty := .double) (C := RX12) (T := TX12) (N := 35) hx hb hts iX12 tyX12 tyX12_ok nmX12 hown hK hP hD hS 0 rfl rfl 5 (by decide) (hw 3 (.fieldLink RX12 95 "NumberFormatsModel" "value" "D") rfl) (fun _ h9 => h9) rfl (by decide +kernel) rfl rfl (Nat.le_of_ble_eq_true rfl) dX12_set_35 (fun H locs hP hD hS => ?_)
        have hP : va_P D vwCl [(h, .inr (9, [.int 0, .int h_taped, .ref h_tape, .int h_size, .ref h_text, .double p1, .int h_out, .ref h_output, .int h_illAt, .ref h_format, .int h_sections, .int h_items, .ref h_kind, .ref h_what, .ref h_of, .ref h_relation, .ref h_bound, .int h_reads, .int h_readSections, .ref h_readKind, .ref h_readWhat, .ref h_readOf, .ref h_place, .ref h_readRelation, .ref h_readBound, .int h_stop, .ref h_meant, .ref h_row, .ref h_exact, .ref h_error, .ref h_bestError, .long h_m, .int h_e, .ref h_digits, .int h_whole]))] H := hP
        have hD : va_D A [(h, .inr (9, [.int 0, .int h_taped, .ref h_tape, .int h_size, .ref h_text, .double p1, .int h_out, .ref h_output, .int h_illAt, .ref h_format, .int h_sections, .int h_items, .ref h_kind, .ref h_what, .ref h_of, .ref h_relation, .ref h_bound, .int h_reads, .int h_readSections, .ref h_readKind, .ref h_readWhat, .ref h_readOf, .ref h_place, .ref h_readRelation, .ref h_readBound, .int h_stop, .ref h_meant, .ref h_row, .ref h_exact, .ref h_error, .ref h_bestError, .long h_m, .int h_e, .ref h_digits, .int h_whole]))] := hD
        refine lv_iconst (v := 1) hx hb dX12_set_38 (by decide) ?_
        have hP9 := hP.sub (ws' := [(h, .inr (9, [.int 0, .int h_taped, .ref h_tape, .int h_size, .ref h_text, .double p1, .int h_out, .ref h_output, .int h_illAt, .ref h_format, .int h_sections, .int h_items, .ref h_kind, .ref h_what, .ref h_of, .ref h_relation, .ref h_bound, .int h_reads, .int h_readSections, .ref h_readKind, .ref h_readWhat, .ref h_readOf, .ref h_place, .ref h_readRelation, .ref h_readBound, .int h_stop, .ref h_meant, .ref h_row, .ref h_exact, .ref h_error, .ref h_bestError, .long h_m, .int h_e, .ref h_digits, .int h_whole]))]) [0] rfl
        have hD9 := hD.sub (ws' := [(h, .inr (9, [.int 0, .int h_taped, .ref h_tape, .int h_size, .ref h_text, .double p1, .int h_out, .ref h_output, .int h_illAt, .ref h_format, .int h_sections, .int h_items, .ref h_kind, .ref h_what, .ref h_of, .ref h_relation, .ref h_bound, .int h_reads, .int h_readSections, .ref h_readKind, .ref h_readWhat, .ref h_readOf, .ref h_place, .ref h_readRelation, .ref h_readBound, .int h_stop, .ref h_meant, .ref h_row, .ref h_exact, .ref h_error, .ref h_bestError, .long h_m, .int h_e, .ref h_digits, .int h_whole]))]) [0] (by decide) rfl
        exact W.zret (v := 1) hx hb hr rfl (fun t ht hW => ⟨⟨1, (0, p1), rfl, (by (try dsimp only); refine ⟨?_, ?_, ?_⟩ <;> first | omega | assumption | (subst_vars; exact Or.inl ⟨rfl, ⟨by omega, by omega⟩, by unfold nzd; split <;> first | rfl | contradiction⟩) | (subst_vars; exact Or.inr ⟨rfl, fun h9 => by have h8 := h9.1; have h7 := h9.2; omega, rfl⟩) | (subst_vars; exact inR_0) | (subst_vars; exact ⟨by omega, by omega⟩)), by rw [ht]; exact hP9, va_K.moved hW.alike hK, hD9⟩, hS.F ht⟩) hS.2.2 dX12_set_39
      · have ic_6 : (x_5 : Int32).toInt = (0 : Int32).toInt := (fa_eq x_5 0).mp c_6
        refine lv_dconst0 hx hb dX12_set_30 ?_
        refine lv_goto (tgt := 35) hx hb dX12_set_31 (by decide) ?_
        refine va_put (D := D) (ci := 9) (v := .double FP.dconst0) (ty := .double) (C := RX12) (T := TX12) (N := 35) hx hb hts iX12 tyX12 tyX12_ok nmX12 hown hK hP hD hS 0 rfl rfl 5 (by decide) (hw 3 (.fieldLink RX12 95 "NumberFormatsModel" "value" "D") rfl) (fun _ h9 => h9) rfl (by decide +kernel) rfl rfl (Nat.le_of_ble_eq_true rfl) dX12_set_35 (fun H locs hP hD hS => ?_)
        have hP : va_P D vwCl [(h, .inr (9, [.int 0, .int h_taped, .ref h_tape, .int h_size, .ref h_text, .double FP.dconst0, .int h_out, .ref h_output, .int h_illAt, .ref h_format, .int h_sections, .int h_items, .ref h_kind, .ref h_what, .ref h_of, .ref h_relation, .ref h_bound, .int h_reads, .int h_readSections, .ref h_readKind, .ref h_readWhat, .ref h_readOf, .ref h_place, .ref h_readRelation, .ref h_readBound, .int h_stop, .ref h_meant, .ref h_row, .ref h_exact, .ref h_error, .ref h_bestError, .long h_m, .int h_e, .ref h_digits, .int h_whole]))] H := hP
        have hD : va_D A [(h, .inr (9, [.int 0, .int h_taped, .ref h_tape, .int h_size, .ref h_text, .double FP.dconst0, .int h_out, .ref h_output, .int h_illAt, .ref h_format, .int h_sections, .int h_items, .ref h_kind, .ref h_what, .ref h_of, .ref h_relation, .ref h_bound, .int h_reads, .int h_readSections, .ref h_readKind, .ref h_readWhat, .ref h_readOf, .ref h_place, .ref h_readRelation, .ref h_readBound, .int h_stop, .ref h_meant, .ref h_row, .ref h_exact, .ref h_error, .ref h_bestError, .long h_m, .int h_e, .ref h_digits, .int h_whole]))] := hD
        refine lv_iconst (v := 1) hx hb dX12_set_38 (by decide) ?_
        have hP9 := hP.sub (ws' := [(h, .inr (9, [.int 0, .int h_taped, .ref h_tape, .int h_size, .ref h_text, .double FP.dconst0, .int h_out, .ref h_output, .int h_illAt, .ref h_format, .int h_sections, .int h_items, .ref h_kind, .ref h_what, .ref h_of, .ref h_relation, .ref h_bound, .int h_reads, .int h_readSections, .ref h_readKind, .ref h_readWhat, .ref h_readOf, .ref h_place, .ref h_readRelation, .ref h_readBound, .int h_stop, .ref h_meant, .ref h_row, .ref h_exact, .ref h_error, .ref h_bestError, .long h_m, .int h_e, .ref h_digits, .int h_whole]))]) [0] rfl
        have hD9 := hD.sub (ws' := [(h, .inr (9, [.int 0, .int h_taped, .ref h_tape, .int h_size, .ref h_text, .double FP.dconst0, .int h_out, .ref h_output, .int h_illAt, .ref h_format, .int h_sections, .int h_items, .ref h_kind, .ref h_what, .ref h_of, .ref h_relation, .ref h_bound, .int h_reads, .int h_readSections, .ref h_readKind, .ref h_readWhat, .ref h_readOf, .ref h_place, .ref h_readRelation, .ref h_readBound, .int h_stop, .ref h_meant, .ref h_row, .ref h_exact, .ref h_error, .ref h_bestError, .long h_m, .int h_e, .ref h_digits, .int h_whole]))]) [0] (by decide) rfl
        exact W.zret (v := 1) hx hb hr rfl (fun t ht hW => ⟨⟨1, (0, FP.dconst0), rfl, (by (try dsimp only); refine ⟨?_, ?_, ?_⟩ <;> first | omega | assumption | (subst_vars; exact Or.inl ⟨rfl, ⟨by omega, by omega⟩, by unfold nzd; split <;> first | rfl | contradiction⟩) | (subst_vars; exact Or.inr ⟨rfl, fun h9 => by have h8 := h9.1; have h7 := h9.2; omega, rfl⟩) | (subst_vars; exact inR_0) | (subst_vars; exact ⟨by omega, by omega⟩)), by rw [ht]; exact hP9, va_K.moved hW.alike hK, hD9⟩, hS.F ht⟩) hS.2.2 dX12_set_39
    · have ic_4 : ¬ ((0 : Int32).toInt < (x_3 : Int32).toInt) := fun h9 => c_4 ((fa_lt 0 x_3).mpr h9)
      refine lv_iconst (v := 0) hx hb dX12_set_21 (by decide) ?_
      have hP9 := hP.sub (ws' := [(h, .inr (9, [.int 0, .int h_taped, .ref h_tape, .int h_size, .ref h_text, .double h_value, .int h_out, .ref h_output, .int h_illAt, .ref h_format, .int h_sections, .int h_items, .ref h_kind, .ref h_what, .ref h_of, .ref h_relation, .ref h_bound, .int h_reads, .int h_readSections, .ref h_readKind, .ref h_readWhat, .ref h_readOf, .ref h_place, .ref h_readRelation, .ref h_readBound, .int h_stop, .ref h_meant, .ref h_row, .ref h_exact, .ref h_error, .ref h_bestError, .long h_m, .int h_e, .ref h_digits, .int h_whole]))]) [0] rfl
      have hD9 := hD.sub (ws' := [(h, .inr (9, [.int 0, .int h_taped, .ref h_tape, .int h_size, .ref h_text, .double h_value, .int h_out, .ref h_output, .int h_illAt, .ref h_format, .int h_sections, .int h_items, .ref h_kind, .ref h_what, .ref h_of, .ref h_relation, .ref h_bound, .int h_reads, .int h_readSections, .ref h_readKind, .ref h_readWhat, .ref h_readOf, .ref h_place, .ref h_readRelation, .ref h_readBound, .int h_stop, .ref h_meant, .ref h_row, .ref h_exact, .ref h_error, .ref h_bestError, .long h_m, .int h_e, .ref h_digits, .int h_whole]))]) [0] (by decide) rfl
      exact W.zret (v := 0) hx hb hr rfl (fun t ht hW => ⟨⟨0, (0, h_value), rfl, (by (try dsimp only); refine ⟨?_, ?_, ?_⟩ <;> first | omega | assumption | (subst_vars; exact Or.inl ⟨rfl, ⟨by omega, by omega⟩, by unfold nzd; split <;> first | rfl | contradiction⟩) | (subst_vars; exact Or.inr ⟨rfl, fun h9 => by have h8 := h9.1; have h7 := h9.2; omega, rfl⟩) | (subst_vars; exact inR_0) | (subst_vars; exact ⟨by omega, by omega⟩)), by rw [ht]; exact hP9, va_K.moved hW.alike hK, hD9⟩, hS.F ht⟩) hS.2.2 dX12_set_22

def ow_X12_reckon : List Cond := [Cond.fieldLink RX12 78 "NumberFormatsModel" "code" "I", Cond.fieldLink RX12 95 "NumberFormatsModel" "value" "D", Cond.methodLink RX12 99 yX12_set, Cond.instanceMethod yX12_set, Cond.selects RX12 yX12_set yX12_set, Cond.initialized RX12]
def pw_X12_reckon : List Cond := Cond.code yX12_reckon cX12_reckon 4 (some .boolean) :: (ow_X12_reckon ++ (pw_X12_set ++ (wsX120)))
set_option maxRecDepth 20000 in
theorem mo_X12_reckon : ∀ w ∈ ow_X12_reckon, w ∈ lw_tbl := by decide +kernel
set_option maxRecDepth 20000 in
theorem mc_X12_reckon : Cond.code yX12_reckon cX12_reckon 4 (some .boolean) ∈ lw_tbl := by decide +kernel
theorem m_X12_reckon : ∀ w ∈ pw_X12_reckon, w ∈ lw_tbl := List.forall_mem_cons.mpr ⟨mc_X12_reckon, (List.forall_mem_append.mpr ⟨mo_X12_reckon, (List.forall_mem_append.mpr ⟨m_X12_set, inX12⟩)⟩)⟩
theorem ko_X12_reckon : ∀ w ∈ ow_X12_reckon, goodWord w = true := by decide +kernel
theorem k_X12_reckon : pw_X12_reckon.all goodWord = true := List.all_eq_true.mpr (List.forall_mem_cons.mpr ⟨by decide +kernel, (List.forall_mem_append.mpr ⟨ko_X12_reckon, (List.forall_mem_append.mpr ⟨(List.all_eq_true.mp k_X12_set), kX_X12⟩)⟩)⟩)
set_option maxHeartbeats 400000 in
set_option maxRecDepth 100000 in
theorem c_X12_reckon (l : Launch) (D : va_G) (cI cD cJ : ClassId) (sz : Nat) (h : Nat) (h_code : Int32) (h_taped : Int32) (h_tape : Nat) (h_size : Int32) (h_text : Nat) (h_value : UInt64) (h_out : Int32) (h_output : Nat) (h_illAt : Int32) (h_format : Nat) (h_sections : Int32) (h_items : Int32) (h_kind : Nat) (h_what : Nat) (h_of : Nat) (h_relation : Nat) (h_bound : Nat) (h_reads : Int32) (h_readSections : Int32) (h_readKind : Nat) (h_readWhat : Nat) (h_readOf : Nat) (h_place : Nat) (h_readRelation : Nat) (h_readBound : Nat) (h_stop : Int32) (h_meant : Nat) (h_row : Nat) (h_exact : Nat) (h_error : Nat) (h_bestError : Nat) (h_m : Int64) (h_e : Int32) (h_digits : Nat) (h_whole : Int32) (p1 : Int32) (p2 : UInt64) (iv_h_taped : 0 ≤ (h_taped : Int32).toInt ∧ (h_taped : Int32).toInt ≤ 260) (iv_h_size : 0 ≤ (h_size : Int32).toInt ∧ (h_size : Int32).toInt ≤ 255) (iv_h_value : inR h_value) (iv_h_out : 0 ≤ (h_out : Int32).toInt ∧ (h_out : Int32).toInt ≤ 1024) (iv_h_sections : 0 ≤ (h_sections : Int32).toInt ∧ (h_sections : Int32).toInt ≤ 4) (iv_h_items : 0 ≤ (h_items : Int32).toInt ∧ (h_items : Int32).toInt ≤ 255) (iv_h_reads : 0 ≤ (h_reads : Int32).toInt ∧ (h_reads : Int32).toInt ≤ 255) (iv_h_readSections : 0 ≤ (h_readSections : Int32).toInt ∧ (h_readSections : Int32).toInt ≤ 4) (iv_h_whole : 0 ≤ (h_whole : Int32).toInt ∧ (h_whole : Int32).toInt ≤ 1001) : MetD lw_cs l yX12_reckon pw_X12_reckon ({ frames := 1, cells := 0, slots := 0, locals := 22 }) (va_Pc [.ref h, .int p1, .double p2] (fun U => U.heap.size = sz ∧ va_P D vwCl [(h, .inr (9, [.int h_code, .int h_taped, .ref h_tape, .int h_size, .ref h_text, .double h_value, .int h_out, .ref h_output, .int h_illAt, .ref h_format, .int h_sections, .int h_items, .ref h_kind, .ref h_what, .ref h_of, .ref h_relation, .ref h_bound, .int h_reads, .int h_readSections, .ref h_readKind, .ref h_readWhat, .ref h_readOf, .ref h_place, .ref h_readRelation, .ref h_readBound, .int h_stop, .ref h_meant, .ref h_row, .ref h_exact, .ref h_error, .ref h_bestError, .long h_m, .int h_e, .ref h_digits, .int h_whole]))] U.heap ∧ va_K D vwCl (ty3 cI cD cJ) U ∧ va_D (fun _ => True) [(h, .inr (9, [.int h_code, .int h_taped, .ref h_tape, .int h_size, .ref h_text, .double h_value, .int h_out, .ref h_output, .int h_illAt, .ref h_format, .int h_sections, .int h_items, .ref h_kind, .ref h_what, .ref h_of, .ref h_relation, .ref h_bound, .int h_reads, .int h_readSections, .ref h_readKind, .ref h_readWhat, .ref h_readOf, .ref h_place, .ref h_readRelation, .ref h_readBound, .int h_stop, .ref h_meant, .ref h_row, .ref h_exact, .ref h_error, .ref h_bestError, .long h_m, .int h_e, .ref h_digits, .int h_whole]))])) (va_Qi (fun (r : Int32) (u : Int32 × UInt64) => match u with | (h_code2, h_value2) => (r.toInt = 0 ∨ r.toInt = 1) ∧ ((rbad p1 p2 ∧ r = 0 ∧ h_value2 = h_value) ∨ (¬ rbad p1 p2 ∧ ∃ q, alike64 q (rk p1 h_value p2) = true ∧ ((r = 1 ∧ inR q ∧ h_value2 = nzd q) ∨ (r = 0 ∧ ¬ inR q ∧ h_value2 = h_value)))) ∧ (inR h_value2)) (fun (u : Int32 × UInt64) (t : State) => match u with | (h_code2, h_value2) => va_P D vwCl [(h, .inr (9, [.int h_code2, .int h_taped, .ref h_tape, .int h_size, .ref h_text, .double h_value2, .int h_out, .ref h_output, .int h_illAt, .ref h_format, .int h_sections, .int h_items, .ref h_kind, .ref h_what, .ref h_of, .ref h_relation, .ref h_bound, .int h_reads, .int h_readSections, .ref h_readKind, .ref h_readWhat, .ref h_readOf, .ref h_place, .ref h_readRelation, .ref h_readBound, .int h_stop, .ref h_meant, .ref h_row, .ref h_exact, .ref h_error, .ref h_bestError, .long h_m, .int h_e, .ref h_digits, .int h_whole]))] t.heap ∧ va_K D vwCl (ty3 cI cD cJ) t ∧ va_D (va_A [(h, .inr (9, [.int h_code, .int h_taped, .ref h_tape, .int h_size, .ref h_text, .double h_value, .int h_out, .ref h_output, .int h_illAt, .ref h_format, .int h_sections, .int h_items, .ref h_kind, .ref h_what, .ref h_of, .ref h_relation, .ref h_bound, .int h_reads, .int h_readSections, .ref h_readKind, .ref h_readWhat, .ref h_readOf, .ref h_place, .ref h_readRelation, .ref h_readBound, .int h_stop, .ref h_meant, .ref h_row, .ref h_exact, .ref h_error, .ref h_bestError, .long h_m, .int h_e, .ref h_digits, .int h_whole]))] sz) [(h, .inr (9, [.int h_code2, .int h_taped, .ref h_tape, .int h_size, .ref h_text, .double h_value2, .int h_out, .ref h_output, .int h_illAt, .ref h_format, .int h_sections, .int h_items, .ref h_kind, .ref h_what, .ref h_of, .ref h_relation, .ref h_bound, .int h_reads, .int h_readSections, .ref h_readKind, .ref h_readWhat, .ref h_readOf, .ref h_place, .ref h_readRelation, .ref h_readBound, .int h_stop, .ref h_meant, .ref h_row, .ref h_exact, .ref h_error, .ref h_bestError, .long h_m, .int h_e, .ref h_digits, .int h_whole]))]) (va_A [(h, .inr (9, [.int h_code, .int h_taped, .ref h_tape, .int h_size, .ref h_text, .double h_value, .int h_out, .ref h_output, .int h_illAt, .ref h_format, .int h_sections, .int h_items, .ref h_kind, .ref h_what, .ref h_of, .ref h_relation, .ref h_bound, .int h_reads, .int h_readSections, .ref h_readKind, .ref h_readWhat, .ref h_readOf, .ref h_place, .ref h_readRelation, .ref h_readBound, .int h_stop, .ref h_meant, .ref h_row, .ref h_exact, .ref h_error, .ref h_bestError, .long h_m, .int h_e, .ref h_digits, .int h_whole]))] sz)) 0 0 (va_A [(h, .inr (9, [.int h_code, .int h_taped, .ref h_tape, .int h_size, .ref h_text, .double h_value, .int h_out, .ref h_output, .int h_illAt, .ref h_format, .int h_sections, .int h_items, .ref h_kind, .ref h_what, .ref h_of, .ref h_relation, .ref h_bound, .int h_reads, .int h_readSections, .ref h_readKind, .ref h_readWhat, .ref h_readOf, .ref h_place, .ref h_readRelation, .ref h_readBound, .int h_stop, .ref h_meant, .ref h_row, .ref h_exact, .ref h_error, .ref h_bestError, .long h_m, .int h_e, .ref h_digits, .int h_whole]))] sz) := by
  refine MetD.ofW (cc := cX12_reckon) (maxL := 4) (ret := (some .boolean)) (by decide +kernel) rfl ?_
  intro p e s m args below meth c s₁ B hml hv hd0
  obtain ⟨rfl, hsz, hP, hK, hD0⟩ := hv
  have hx := B.exec
  have hb := B.bytes
  have hr := B.returns
  have hts := atoms_spec (ws := pw_X12_reckon) B.pre
  have hown : s.vm.findClass RX12 = some m.cls := findClass_of_methodNamed B.named
  have hlocks := B.notSynchronized
  subst hsz
  have hD := hD0.self (sz := s.heap.size)
  generalize hAe : va_A [(h, .inr (9, [.int h_code, .int h_taped, .ref h_tape, .int h_size, .ref h_text, .double h_value, .int h_out, .ref h_output, .int h_illAt, .ref h_format, .int h_sections, .int h_items, .ref h_kind, .ref h_what, .ref h_of, .ref h_relation, .ref h_bound, .int h_reads, .int h_readSections, .ref h_readKind, .ref h_readWhat, .ref h_readOf, .ref h_place, .ref h_readRelation, .ref h_readBound, .int h_stop, .ref h_meant, .ref h_row, .ref h_exact, .ref h_error, .ref h_bestError, .long h_m, .int h_e, .ref h_digits, .int h_whole]))] s.heap.size = A at hD ⊢
  have hA : ∀ q : Nat, s.heap.size ≤ q → A q := fun q h => by rw [← hAe]; exact Or.inr h
  have hS : va_S A s.heap s.heap [] := va_S.rf
  have hw : ∀ {d9 : Drawn} (k : Nat) (w : Cond), ow_X12_reckon[k]? = some w → w.before _ (s.setDrawn d9) = true := fun k w h => dr_words hts _ w (List.mem_cons_of_mem _ (have h9 := List.mem_of_getElem? h; List.mem_append_left _ h9))
  have i_X12_set : ∀ w ∈ pw_X12_set, w ∈ pw_X12_reckon := fun w h9 => List.mem_cons_of_mem _ (List.mem_append_right _ (List.mem_append_left _ h9))
  have iX12 : ∀ w ∈ u_ws RX12 TX12 35, w ∈ pw_X12_reckon := fun w h9 => List.mem_cons_of_mem _ (List.mem_append_right _ (List.mem_append_right _ (h9)))
  have n_0 : ((0 : Int32)).toInt = 0 := by decide
  have n_1 : ((1 : Int32)).toInt = 1 := by decide
  have n_2 : ((2 : Int32)).toInt = 2 := by decide
  have n_3 : ((3 : Int32)).toInt = 3 := by decide
  have hl := lv_entry ([.ref h, .int p1, .double p2]) (n := 4) (Nat.le_of_ble_eq_true rfl)
  rw [lg_entry_eq]
  generalize (lg_sl ([.ref h, .int p1, .double p2]) ++ List.replicate (4 - (lg_sl ([.ref h, .int p1, .double p2])).length) Slot.unset).toArray = ls at hl ⊢
  have hl : lv_has ls 4 [(0, .ref h), (1, .int p1), (2, .double p2)] := hl
  have b_p1 := ti_b p1
  refine lv_aload_n hx hb dX12_reckon_0 rfl (lv_at hl 0 rfl) ?_
  refine lv_iconst (v := 0) hx hb dX12_reckon_1 (by decide) ?_
  refine va_put (s := s.setDrawn s.drawn) (D := D) (ci := 9) (v := .int 0) (ty := .int) (C := RX12) (T := TX12) (N := 35) hx hb (dr_words hts _) iX12 tyX12 tyX12_ok nmX12 hown hK hP hD hS 0 rfl rfl 0 (by decide) (hw 0 (.fieldLink RX12 78 "NumberFormatsModel" "code" "I") rfl) (fun _ h9 => h9) rfl (by decide +kernel) rfl rfl (Nat.le_of_ble_eq_true rfl) dX12_reckon_2 (fun H locs hP hD hS => ?_)
  have hP : va_P D vwCl [(h, .inr (9, [.int 0, .int h_taped, .ref h_tape, .int h_size, .ref h_text, .double h_value, .int h_out, .ref h_output, .int h_illAt, .ref h_format, .int h_sections, .int h_items, .ref h_kind, .ref h_what, .ref h_of, .ref h_relation, .ref h_bound, .int h_reads, .int h_readSections, .ref h_readKind, .ref h_readWhat, .ref h_readOf, .ref h_place, .ref h_readRelation, .ref h_readBound, .int h_stop, .ref h_meant, .ref h_row, .ref h_exact, .ref h_error, .ref h_bestError, .long h_m, .int h_e, .ref h_digits, .int h_whole]))] H := hP
  have hD : va_D A [(h, .inr (9, [.int 0, .int h_taped, .ref h_tape, .int h_size, .ref h_text, .double h_value, .int h_out, .ref h_output, .int h_illAt, .ref h_format, .int h_sections, .int h_items, .ref h_kind, .ref h_what, .ref h_of, .ref h_relation, .ref h_bound, .int h_reads, .int h_readSections, .ref h_readKind, .ref h_readWhat, .ref h_readOf, .ref h_place, .ref h_readRelation, .ref h_readBound, .int h_stop, .ref h_meant, .ref h_row, .ref h_exact, .ref h_error, .ref h_bestError, .long h_m, .int h_e, .ref h_digits, .int h_whole]))] := hD
  refine lv_iload_n hx hb dX12_reckon_5 rfl (lv_at hl 1 rfl) ?_
  refine lv_if_lt (tgt := 25) hx hb dX12_reckon_6 (by decide) (fun c_1 => ?_) (fun c_1 => ?_)
  · have ic_1 : (p1 : Int32).toInt < (0 : Int32).toInt := (fa_lt p1 0).mp c_1
    refine lv_iconst (v := 0) hx hb dX12_reckon_25 (by decide) ?_
    refine W.endD hd0 ?_
    have hP9 := hP.sub (ws' := [(h, .inr (9, [.int 0, .int h_taped, .ref h_tape, .int h_size, .ref h_text, .double h_value, .int h_out, .ref h_output, .int h_illAt, .ref h_format, .int h_sections, .int h_items, .ref h_kind, .ref h_what, .ref h_of, .ref h_relation, .ref h_bound, .int h_reads, .int h_readSections, .ref h_readKind, .ref h_readWhat, .ref h_readOf, .ref h_place, .ref h_readRelation, .ref h_readBound, .int h_stop, .ref h_meant, .ref h_row, .ref h_exact, .ref h_error, .ref h_bestError, .long h_m, .int h_e, .ref h_digits, .int h_whole]))]) [0] rfl
    have hD9 := hD.sub (ws' := [(h, .inr (9, [.int 0, .int h_taped, .ref h_tape, .int h_size, .ref h_text, .double h_value, .int h_out, .ref h_output, .int h_illAt, .ref h_format, .int h_sections, .int h_items, .ref h_kind, .ref h_what, .ref h_of, .ref h_relation, .ref h_bound, .int h_reads, .int h_readSections, .ref h_readKind, .ref h_readWhat, .ref h_readOf, .ref h_place, .ref h_readRelation, .ref h_readBound, .int h_stop, .ref h_meant, .ref h_row, .ref h_exact, .ref h_error, .ref h_bestError, .long h_m, .int h_e, .ref h_digits, .int h_whole]))]) [0] (by decide) rfl
    exact W.zret (v := 0) hx hb hr rfl (fun t ht hW => ⟨⟨0, (0, h_value), rfl, (by (try dsimp only); refine ⟨?_, ?_, ?_⟩ <;> first | omega | assumption | (subst_vars; exact Or.inl ⟨by unfold rbad; omega, rfl, rfl⟩) | (refine Or.inr ⟨by subst_vars; unfold rbad; omega, 0, (by first | exact rk_0 (by omega) (by assumption) | exact rk_1 (by omega) (by assumption) | exact rk_2 (by omega) (by assumption) | exact rk_3 (by omega) (by assumption)), ?_⟩; assumption)), by rw [ht]; exact hP9, va_K.moved hW.alike hK, hD9⟩, hS.F ht⟩) hS.2.2 dX12_reckon_26
  · have ic_1 : ¬ ((p1 : Int32).toInt < (0 : Int32).toInt) := fun h9 => c_1 ((fa_lt p1 0).mpr h9)
    refine lv_iload_n hx hb dX12_reckon_9 rfl (lv_at hl 1 rfl) ?_
    refine lv_iconst (v := 3) hx hb dX12_reckon_10 (by decide) ?_
    refine lv_icmp_gt (tgt := 25) hx hb dX12_reckon_11 (by decide) (fun c_2 => ?_) (fun c_2 => ?_)
    · have ic_2 : (3 : Int32).toInt < (p1 : Int32).toInt := (fa_lt 3 p1).mp c_2
      refine lv_iconst (v := 0) hx hb dX12_reckon_25 (by decide) ?_
      refine W.endD hd0 ?_
      have hP9 := hP.sub (ws' := [(h, .inr (9, [.int 0, .int h_taped, .ref h_tape, .int h_size, .ref h_text, .double h_value, .int h_out, .ref h_output, .int h_illAt, .ref h_format, .int h_sections, .int h_items, .ref h_kind, .ref h_what, .ref h_of, .ref h_relation, .ref h_bound, .int h_reads, .int h_readSections, .ref h_readKind, .ref h_readWhat, .ref h_readOf, .ref h_place, .ref h_readRelation, .ref h_readBound, .int h_stop, .ref h_meant, .ref h_row, .ref h_exact, .ref h_error, .ref h_bestError, .long h_m, .int h_e, .ref h_digits, .int h_whole]))]) [0] rfl
      have hD9 := hD.sub (ws' := [(h, .inr (9, [.int 0, .int h_taped, .ref h_tape, .int h_size, .ref h_text, .double h_value, .int h_out, .ref h_output, .int h_illAt, .ref h_format, .int h_sections, .int h_items, .ref h_kind, .ref h_what, .ref h_of, .ref h_relation, .ref h_bound, .int h_reads, .int h_readSections, .ref h_readKind, .ref h_readWhat, .ref h_readOf, .ref h_place, .ref h_readRelation, .ref h_readBound, .int h_stop, .ref h_meant, .ref h_row, .ref h_exact, .ref h_error, .ref h_bestError, .long h_m, .int h_e, .ref h_digits, .int h_whole]))]) [0] (by decide) rfl
      exact W.zret (v := 0) hx hb hr rfl (fun t ht hW => ⟨⟨0, (0, h_value), rfl, (by (try dsimp only); refine ⟨?_, ?_, ?_⟩ <;> first | omega | assumption | (subst_vars; exact Or.inl ⟨by unfold rbad; omega, rfl, rfl⟩) | (refine Or.inr ⟨by subst_vars; unfold rbad; omega, 0, (by first | exact rk_0 (by omega) (by assumption) | exact rk_1 (by omega) (by assumption) | exact rk_2 (by omega) (by assumption) | exact rk_3 (by omega) (by assumption)), ?_⟩; assumption)), by rw [ht]; exact hP9, va_K.moved hW.alike hK, hD9⟩, hS.F ht⟩) hS.2.2 dX12_reckon_26
    · have ic_2 : ¬ ((3 : Int32).toInt < (p1 : Int32).toInt) := fun h9 => c_2 ((fa_lt 3 p1).mpr h9)
      refine lv_iload_n hx hb dX12_reckon_14 rfl (lv_at hl 1 rfl) ?_
      refine lv_iconst (v := 3) hx hb dX12_reckon_15 (by decide) ?_
      refine lv_icmp_ne (tgt := 27) hx hb dX12_reckon_16 (by decide) (fun c_3 => ?_) (fun c_3 => ?_)
      · have ic_3 : ¬ ((p1 : Int32).toInt = (3 : Int32).toInt) := fun h9 => c_3 ((fa_eq p1 3).mpr h9)
        refine lv_aload_n hx hb dX12_reckon_27 rfl (lv_at hl 0 rfl) ?_
        refine lv_iload_n hx hb dX12_reckon_28 rfl (lv_at hl 1 rfl) ?_
        refine lv_if_ne (tgt := 41) hx hb dX12_reckon_29 (by decide) (fun c_4 => ?_) (fun c_4 => ?_)
        · have ic_4 : ¬ ((p1 : Int32).toInt = (0 : Int32).toInt) := fun h9 => c_4 ((fa_eq p1 0).mpr h9)
          refine lv_iload_n hx hb dX12_reckon_41 rfl (lv_at hl 1 rfl) ?_
          refine lv_iconst (v := 1) hx hb dX12_reckon_42 (by decide) ?_
          refine lv_icmp_ne (tgt := 55) hx hb dX12_reckon_43 (by decide) (fun c_5 => ?_) (fun c_5 => ?_)
          · have ic_5 : ¬ ((p1 : Int32).toInt = (1 : Int32).toInt) := fun h9 => c_5 ((fa_eq p1 1).mpr h9)
            refine lv_iload_n hx hb dX12_reckon_55 rfl (lv_at hl 1 rfl) ?_
            refine lv_iconst (v := 2) hx hb dX12_reckon_56 (by decide) ?_
            refine lv_icmp_ne (tgt := 69) hx hb dX12_reckon_57 (by decide) (fun c_6 => ?_) (fun c_6 => ?_)
            · have ic_6 : ¬ ((p1 : Int32).toInt = (2 : Int32).toInt) := fun h9 => c_6 ((fa_eq p1 2).mpr h9)
              refine lv_aload_n hx hb dX12_reckon_69 rfl (lv_at hl 0 rfl) ?_
              refine va_get (s := s.setDrawn s.drawn) (D := D) (ci := 9) (v := .double h_value) (C := RX12) (T := TX12) (N := 35) hx hb (dr_words hts _) iX12 hown hK hP 0 rfl rfl 5 (by decide) (hw 1 (.fieldLink RX12 95 "NumberFormatsModel" "value" "D") rfl) (fun _ h9 => h9) rfl dX12_reckon_70 ?_
              refine lv_dload_n hx hb dX12_reckon_73 rfl (lv_at hl 2 rfl) ?_
              refine lv_ddiv_any hd0 lw_bits hx hb dX12_reckon_74 (fun d_7 dhd_8 ad_7 hd_8 => ?_)
              have hPc := hP.sub (ws' := [(h, .inr (9, [.int 0, .int h_taped, .ref h_tape, .int h_size, .ref h_text, .double h_value, .int h_out, .ref h_output, .int h_illAt, .ref h_format, .int h_sections, .int h_items, .ref h_kind, .ref h_what, .ref h_of, .ref h_relation, .ref h_bound, .int h_reads, .int h_readSections, .ref h_readKind, .ref h_readWhat, .ref h_readOf, .ref h_place, .ref h_readRelation, .ref h_readBound, .int h_stop, .ref h_meant, .ref h_row, .ref h_exact, .ref h_error, .ref h_bestError, .long h_m, .int h_e, .ref h_digits, .int h_whole]))]) [0] rfl
              have hDc := hD.sub (ws' := [(h, .inr (9, [.int 0, .int h_taped, .ref h_tape, .int h_size, .ref h_text, .double h_value, .int h_out, .ref h_output, .int h_illAt, .ref h_format, .int h_sections, .int h_items, .ref h_kind, .ref h_what, .ref h_of, .ref h_relation, .ref h_bound, .int h_reads, .int h_readSections, .ref h_readKind, .ref h_readWhat, .ref h_readOf, .ref h_place, .ref h_readRelation, .ref h_readBound, .int h_stop, .ref h_meant, .ref h_row, .ref h_exact, .ref h_error, .ref h_bestError, .long h_m, .int h_e, .ref h_digits, .int h_whole]))]) [0] (by decide) rfl
              have hFc := va_free (wc := [(h, .inr (9, [.int 0, .int h_taped, .ref h_tape, .int h_size, .ref h_text, .double h_value, .int h_out, .ref h_output, .int h_illAt, .ref h_format, .int h_sections, .int h_items, .ref h_kind, .ref h_what, .ref h_of, .ref h_relation, .ref h_bound, .int h_reads, .int h_readSections, .ref h_readKind, .ref h_readWhat, .ref h_readOf, .ref h_place, .ref h_readRelation, .ref h_readBound, .int h_stop, .ref h_meant, .ref h_row, .ref h_exact, .ref h_error, .ref h_bestError, .long h_m, .int h_e, .ref h_digits, .int h_whole]))]) hD hS hA [0] rfl
              refine va_calli (va_runV (As := [.double d_7]) (rest := []) ⟨hx, hb, hml, hown, (dr_words hts _)⟩ (c_X12_set l D cI cD cJ H.size h 0 h_taped h_tape h_size h_text h_value h_out h_output h_illAt h_format h_sections h_items h_kind h_what h_of h_relation h_bound h_reads h_readSections h_readKind h_readWhat h_readOf h_place h_readRelation h_readBound h_stop h_meant h_row h_exact h_error h_bestError h_m h_e h_digits h_whole d_7 (by omega) (by omega) (by assumption) (by omega) (by omega) (by omega) (by omega) (by omega) (by omega)) (cwV 1 (dr_words hts _) (goodIn_app (goodIn_r _ [3, 4, 5, 6] rfl (by decide +kernel)) (goodIn_sub i_X12_set k_X12_set)) rfl rfl rfl (by decide +kernel) ⟨Nat.le_of_ble_eq_true rfl, Nat.le_of_ble_eq_true rfl⟩) ⟨fun a U g mk q => by obtain ⟨q0, q1, qP, qK, qD⟩ := q; exact ⟨q0, q1, qP, va_K.moved (u := U) (U := U.calling g mk a) (Vm.Alike.refl U.vm) qK, qD⟩, va_recv hK hPc (ci := 9) (q0 := 0) rfl rfl, fun U hU hW => ⟨rfl, by rw [hU], by rw [hU]; exact hPc, va_K.moved hW.alike hK, hDc.weaken (fun _ _ _ _ => trivial)⟩⟩ rfl rfl hl.1 rfl (lv_room (Nat.le_of_ble_eq_true rfl)) dX12_reckon_75 ⟨Nat.le_of_ble_eq_true rfl, Nat.le_of_ble_eq_true rfl⟩) hS (fun q _ h => hFc q h) hFc (fun x_9 u t H1 locs ht hvm w_10 hB hz1 hk1 hS => ?_)
              obtain ⟨u_11, u_12⟩ := u
              obtain ⟨hP1, hK1, hD1⟩ := hB
              rw [ht] at hP1
              try dsimp only at w_10
              obtain ⟨hP, hD⟩ := va_join (wr := []) (w1 := [(h, .inr (9, [.int u_11, .int h_taped, .ref h_tape, .int h_size, .ref h_text, .double u_12, .int h_out, .ref h_output, .int h_illAt, .ref h_format, .int h_sections, .int h_items, .ref h_kind, .ref h_what, .ref h_of, .ref h_relation, .ref h_bound, .int h_reads, .int h_readSections, .ref h_readKind, .ref h_readWhat, .ref h_readOf, .ref h_place, .ref h_readRelation, .ref h_readBound, .int h_stop, .ref h_meant, .ref h_row, .ref h_exact, .ref h_error, .ref h_bestError, .long h_m, .int h_e, .ref h_digits, .int h_whole]))]) hP hD [0] [] rfl rfl (by decide) (by decide) hk1 hFc hP1 hD1
              generalize H1 = H at hP hS ⊢
              have hP : va_P D vwCl [(h, .inr (9, [.int u_11, .int h_taped, .ref h_tape, .int h_size, .ref h_text, .double u_12, .int h_out, .ref h_output, .int h_illAt, .ref h_format, .int h_sections, .int h_items, .ref h_kind, .ref h_what, .ref h_of, .ref h_relation, .ref h_bound, .int h_reads, .int h_readSections, .ref h_readKind, .ref h_readWhat, .ref h_readOf, .ref h_place, .ref h_readRelation, .ref h_readBound, .int h_stop, .ref h_meant, .ref h_row, .ref h_exact, .ref h_error, .ref h_bestError, .long h_m, .int h_e, .ref h_digits, .int h_whole]))] H := hP
              have hD : va_D A [(h, .inr (9, [.int u_11, .int h_taped, .ref h_tape, .int h_size, .ref h_text, .double u_12, .int h_out, .ref h_output, .int h_illAt, .ref h_format, .int h_sections, .int h_items, .ref h_kind, .ref h_what, .ref h_of, .ref h_relation, .ref h_bound, .int h_reads, .int h_readSections, .ref h_readKind, .ref h_readWhat, .ref h_readOf, .ref h_place, .ref h_readRelation, .ref h_readBound, .int h_stop, .ref h_meant, .ref h_row, .ref h_exact, .ref h_error, .ref h_bestError, .long h_m, .int h_e, .ref h_digits, .int h_whole]))] := hD
              obtain ⟨w_10_0, w_10_1, w_10_2⟩ := w_10
              have b_x_9 := ti_b x_9
              refine W.endD hd_8 ?_
              have hP9 := hP.sub (ws' := [(h, .inr (9, [.int u_11, .int h_taped, .ref h_tape, .int h_size, .ref h_text, .double u_12, .int h_out, .ref h_output, .int h_illAt, .ref h_format, .int h_sections, .int h_items, .ref h_kind, .ref h_what, .ref h_of, .ref h_relation, .ref h_bound, .int h_reads, .int h_readSections, .ref h_readKind, .ref h_readWhat, .ref h_readOf, .ref h_place, .ref h_readRelation, .ref h_readBound, .int h_stop, .ref h_meant, .ref h_row, .ref h_exact, .ref h_error, .ref h_bestError, .long h_m, .int h_e, .ref h_digits, .int h_whole]))]) [0] rfl
              have hD9 := hD.sub (ws' := [(h, .inr (9, [.int u_11, .int h_taped, .ref h_tape, .int h_size, .ref h_text, .double u_12, .int h_out, .ref h_output, .int h_illAt, .ref h_format, .int h_sections, .int h_items, .ref h_kind, .ref h_what, .ref h_of, .ref h_relation, .ref h_bound, .int h_reads, .int h_readSections, .ref h_readKind, .ref h_readWhat, .ref h_readOf, .ref h_place, .ref h_readRelation, .ref h_readBound, .int h_stop, .ref h_meant, .ref h_row, .ref h_exact, .ref h_error, .ref h_bestError, .long h_m, .int h_e, .ref h_digits, .int h_whole]))]) [0] (by decide) rfl
              exact W.zret (v := x_9) hx hb hr (nz01 (by omega)) (fun t ht hW => ⟨⟨x_9, (u_11, u_12), rfl, (by (try dsimp only); refine ⟨?_, ?_, ?_⟩ <;> first | omega | assumption | (subst_vars; exact Or.inl ⟨by unfold rbad; omega, rfl, rfl⟩) | (refine Or.inr ⟨by subst_vars; unfold rbad; omega, d_7, (by first | exact rk_0 (by omega) (by assumption) | exact rk_1 (by omega) (by assumption) | exact rk_2 (by omega) (by assumption) | exact rk_3 (by omega) (by assumption)), ?_⟩; assumption)), by rw [ht]; exact hP9, va_K.moved hW.alike hK, hD9⟩, hS.F ht⟩) hS.2.2 dX12_reckon_78
            · have ic_6 : (p1 : Int32).toInt = (2 : Int32).toInt := (fa_eq p1 2).mp c_6
              refine lv_aload_n hx hb dX12_reckon_60 rfl (lv_at hl 0 rfl) ?_
              refine va_get (s := s.setDrawn s.drawn) (D := D) (ci := 9) (v := .double h_value) (C := RX12) (T := TX12) (N := 35) hx hb (dr_words hts _) iX12 hown hK hP 0 rfl rfl 5 (by decide) (hw 1 (.fieldLink RX12 95 "NumberFormatsModel" "value" "D") rfl) (fun _ h9 => h9) rfl dX12_reckon_61 ?_
              refine lv_dload_n hx hb dX12_reckon_64 rfl (lv_at hl 2 rfl) ?_
              refine lv_dmul_any hd0 lw_bits hx hb dX12_reckon_65 (fun d_13 dhd_14 ad_13 hd_14 => ?_)
              refine lv_goto (tgt := 75) hx hb dX12_reckon_66 (by decide) ?_
              have hPc := hP.sub (ws' := [(h, .inr (9, [.int 0, .int h_taped, .ref h_tape, .int h_size, .ref h_text, .double h_value, .int h_out, .ref h_output, .int h_illAt, .ref h_format, .int h_sections, .int h_items, .ref h_kind, .ref h_what, .ref h_of, .ref h_relation, .ref h_bound, .int h_reads, .int h_readSections, .ref h_readKind, .ref h_readWhat, .ref h_readOf, .ref h_place, .ref h_readRelation, .ref h_readBound, .int h_stop, .ref h_meant, .ref h_row, .ref h_exact, .ref h_error, .ref h_bestError, .long h_m, .int h_e, .ref h_digits, .int h_whole]))]) [0] rfl
              have hDc := hD.sub (ws' := [(h, .inr (9, [.int 0, .int h_taped, .ref h_tape, .int h_size, .ref h_text, .double h_value, .int h_out, .ref h_output, .int h_illAt, .ref h_format, .int h_sections, .int h_items, .ref h_kind, .ref h_what, .ref h_of, .ref h_relation, .ref h_bound, .int h_reads, .int h_readSections, .ref h_readKind, .ref h_readWhat, .ref h_readOf, .ref h_place, .ref h_readRelation, .ref h_readBound, .int h_stop, .ref h_meant, .ref h_row, .ref h_exact, .ref h_error, .ref h_bestError, .long h_m, .int h_e, .ref h_digits, .int h_whole]))]) [0] (by decide) rfl
              have hFc := va_free (wc := [(h, .inr (9, [.int 0, .int h_taped, .ref h_tape, .int h_size, .ref h_text, .double h_value, .int h_out, .ref h_output, .int h_illAt, .ref h_format, .int h_sections, .int h_items, .ref h_kind, .ref h_what, .ref h_of, .ref h_relation, .ref h_bound, .int h_reads, .int h_readSections, .ref h_readKind, .ref h_readWhat, .ref h_readOf, .ref h_place, .ref h_readRelation, .ref h_readBound, .int h_stop, .ref h_meant, .ref h_row, .ref h_exact, .ref h_error, .ref h_bestError, .long h_m, .int h_e, .ref h_digits, .int h_whole]))]) hD hS hA [0] rfl
              refine va_calli (va_runV (As := [.double d_13]) (rest := []) ⟨hx, hb, hml, hown, (dr_words hts _)⟩ (c_X12_set l D cI cD cJ H.size h 0 h_taped h_tape h_size h_text h_value h_out h_output h_illAt h_format h_sections h_items h_kind h_what h_of h_relation h_bound h_reads h_readSections h_readKind h_readWhat h_readOf h_place h_readRelation h_readBound h_stop h_meant h_row h_exact h_error h_bestError h_m h_e h_digits h_whole d_13 (by omega) (by omega) (by assumption) (by omega) (by omega) (by omega) (by omega) (by omega) (by omega)) (cwV 1 (dr_words hts _) (goodIn_app (goodIn_r _ [3, 4, 5, 6] rfl (by decide +kernel)) (goodIn_sub i_X12_set k_X12_set)) rfl rfl rfl (by decide +kernel) ⟨Nat.le_of_ble_eq_true rfl, Nat.le_of_ble_eq_true rfl⟩) ⟨fun a U g mk q => by obtain ⟨q0, q1, qP, qK, qD⟩ := q; exact ⟨q0, q1, qP, va_K.moved (u := U) (U := U.calling g mk a) (Vm.Alike.refl U.vm) qK, qD⟩, va_recv hK hPc (ci := 9) (q0 := 0) rfl rfl, fun U hU hW => ⟨rfl, by rw [hU], by rw [hU]; exact hPc, va_K.moved hW.alike hK, hDc.weaken (fun _ _ _ _ => trivial)⟩⟩ rfl rfl hl.1 rfl (lv_room (Nat.le_of_ble_eq_true rfl)) dX12_reckon_75 ⟨Nat.le_of_ble_eq_true rfl, Nat.le_of_ble_eq_true rfl⟩) hS (fun q _ h => hFc q h) hFc (fun x_15 u t H1 locs ht hvm w_16 hB hz1 hk1 hS => ?_)
              obtain ⟨u_17, u_18⟩ := u
              obtain ⟨hP1, hK1, hD1⟩ := hB
              rw [ht] at hP1
              try dsimp only at w_16
              obtain ⟨hP, hD⟩ := va_join (wr := []) (w1 := [(h, .inr (9, [.int u_17, .int h_taped, .ref h_tape, .int h_size, .ref h_text, .double u_18, .int h_out, .ref h_output, .int h_illAt, .ref h_format, .int h_sections, .int h_items, .ref h_kind, .ref h_what, .ref h_of, .ref h_relation, .ref h_bound, .int h_reads, .int h_readSections, .ref h_readKind, .ref h_readWhat, .ref h_readOf, .ref h_place, .ref h_readRelation, .ref h_readBound, .int h_stop, .ref h_meant, .ref h_row, .ref h_exact, .ref h_error, .ref h_bestError, .long h_m, .int h_e, .ref h_digits, .int h_whole]))]) hP hD [0] [] rfl rfl (by decide) (by decide) hk1 hFc hP1 hD1
              generalize H1 = H at hP hS ⊢
              have hP : va_P D vwCl [(h, .inr (9, [.int u_17, .int h_taped, .ref h_tape, .int h_size, .ref h_text, .double u_18, .int h_out, .ref h_output, .int h_illAt, .ref h_format, .int h_sections, .int h_items, .ref h_kind, .ref h_what, .ref h_of, .ref h_relation, .ref h_bound, .int h_reads, .int h_readSections, .ref h_readKind, .ref h_readWhat, .ref h_readOf, .ref h_place, .ref h_readRelation, .ref h_readBound, .int h_stop, .ref h_meant, .ref h_row, .ref h_exact, .ref h_error, .ref h_bestError, .long h_m, .int h_e, .ref h_digits, .int h_whole]))] H := hP
              have hD : va_D A [(h, .inr (9, [.int u_17, .int h_taped, .ref h_tape, .int h_size, .ref h_text, .double u_18, .int h_out, .ref h_output, .int h_illAt, .ref h_format, .int h_sections, .int h_items, .ref h_kind, .ref h_what, .ref h_of, .ref h_relation, .ref h_bound, .int h_reads, .int h_readSections, .ref h_readKind, .ref h_readWhat, .ref h_readOf, .ref h_place, .ref h_readRelation, .ref h_readBound, .int h_stop, .ref h_meant, .ref h_row, .ref h_exact, .ref h_error, .ref h_bestError, .long h_m, .int h_e, .ref h_digits, .int h_whole]))] := hD
              obtain ⟨w_16_0, w_16_1, w_16_2⟩ := w_16
              have b_x_15 := ti_b x_15
              refine W.endD hd_14 ?_
              have hP9 := hP.sub (ws' := [(h, .inr (9, [.int u_17, .int h_taped, .ref h_tape, .int h_size, .ref h_text, .double u_18, .int h_out, .ref h_output, .int h_illAt, .ref h_format, .int h_sections, .int h_items, .ref h_kind, .ref h_what, .ref h_of, .ref h_relation, .ref h_bound, .int h_reads, .int h_readSections, .ref h_readKind, .ref h_readWhat, .ref h_readOf, .ref h_place, .ref h_readRelation, .ref h_readBound, .int h_stop, .ref h_meant, .ref h_row, .ref h_exact, .ref h_error, .ref h_bestError, .long h_m, .int h_e, .ref h_digits, .int h_whole]))]) [0] rfl
              have hD9 := hD.sub (ws' := [(h, .inr (9, [.int u_17, .int h_taped, .ref h_tape, .int h_size, .ref h_text, .double u_18, .int h_out, .ref h_output, .int h_illAt, .ref h_format, .int h_sections, .int h_items, .ref h_kind, .ref h_what, .ref h_of, .ref h_relation, .ref h_bound, .int h_reads, .int h_readSections, .ref h_readKind, .ref h_readWhat, .ref h_readOf, .ref h_place, .ref h_readRelation, .ref h_readBound, .int h_stop, .ref h_meant, .ref h_row, .ref h_exact, .ref h_error, .ref h_bestError, .long h_m, .int h_e, .ref h_digits, .int h_whole]))]) [0] (by decide) rfl
              exact W.zret (v := x_15) hx hb hr (nz01 (by omega)) (fun t ht hW => ⟨⟨x_15, (u_17, u_18), rfl, (by (try dsimp only); refine ⟨?_, ?_, ?_⟩ <;> first | omega | assumption | (subst_vars; exact Or.inl ⟨by unfold rbad; omega, rfl, rfl⟩) | (refine Or.inr ⟨by subst_vars; unfold rbad; omega, d_13, (by first | exact rk_0 (by omega) (by assumption) | exact rk_1 (by omega) (by assumption) | exact rk_2 (by omega) (by assumption) | exact rk_3 (by omega) (by assumption)), ?_⟩; assumption)), by rw [ht]; exact hP9, va_K.moved hW.alike hK, hD9⟩, hS.F ht⟩) hS.2.2 dX12_reckon_78
          · have ic_5 : (p1 : Int32).toInt = (1 : Int32).toInt := (fa_eq p1 1).mp c_5
            refine lv_aload_n hx hb dX12_reckon_46 rfl (lv_at hl 0 rfl) ?_
            refine va_get (s := s.setDrawn s.drawn) (D := D) (ci := 9) (v := .double h_value) (C := RX12) (T := TX12) (N := 35) hx hb (dr_words hts _) iX12 hown hK hP 0 rfl rfl 5 (by decide) (hw 1 (.fieldLink RX12 95 "NumberFormatsModel" "value" "D") rfl) (fun _ h9 => h9) rfl dX12_reckon_47 ?_
            refine lv_dload_n hx hb dX12_reckon_50 rfl (lv_at hl 2 rfl) ?_
            refine lv_dsub_any hd0 lw_bits hx hb dX12_reckon_51 (fun d_19 dhd_20 ad_19 hd_20 => ?_)
            refine lv_goto (tgt := 75) hx hb dX12_reckon_52 (by decide) ?_
            have hPc := hP.sub (ws' := [(h, .inr (9, [.int 0, .int h_taped, .ref h_tape, .int h_size, .ref h_text, .double h_value, .int h_out, .ref h_output, .int h_illAt, .ref h_format, .int h_sections, .int h_items, .ref h_kind, .ref h_what, .ref h_of, .ref h_relation, .ref h_bound, .int h_reads, .int h_readSections, .ref h_readKind, .ref h_readWhat, .ref h_readOf, .ref h_place, .ref h_readRelation, .ref h_readBound, .int h_stop, .ref h_meant, .ref h_row, .ref h_exact, .ref h_error, .ref h_bestError, .long h_m, .int h_e, .ref h_digits, .int h_whole]))]) [0] rfl
            have hDc := hD.sub (ws' := [(h, .inr (9, [.int 0, .int h_taped, .ref h_tape, .int h_size, .ref h_text, .double h_value, .int h_out, .ref h_output, .int h_illAt, .ref h_format, .int h_sections, .int h_items, .ref h_kind, .ref h_what, .ref h_of, .ref h_relation, .ref h_bound, .int h_reads, .int h_readSections, .ref h_readKind, .ref h_readWhat, .ref h_readOf, .ref h_place, .ref h_readRelation, .ref h_readBound, .int h_stop, .ref h_meant, .ref h_row, .ref h_exact, .ref h_error, .ref h_bestError, .long h_m, .int h_e, .ref h_digits, .int h_whole]))]) [0] (by decide) rfl
            have hFc := va_free (wc := [(h, .inr (9, [.int 0, .int h_taped, .ref h_tape, .int h_size, .ref h_text, .double h_value, .int h_out, .ref h_output, .int h_illAt, .ref h_format, .int h_sections, .int h_items, .ref h_kind, .ref h_what, .ref h_of, .ref h_relation, .ref h_bound, .int h_reads, .int h_readSections, .ref h_readKind, .ref h_readWhat, .ref h_readOf, .ref h_place, .ref h_readRelation, .ref h_readBound, .int h_stop, .ref h_meant, .ref h_row, .ref h_exact, .ref h_error, .ref h_bestError, .long h_m, .int h_e, .ref h_digits, .int h_whole]))]) hD hS hA [0] rfl
            refine va_calli (va_runV (As := [.double d_19]) (rest := []) ⟨hx, hb, hml, hown, (dr_words hts _)⟩ (c_X12_set l D cI cD cJ H.size h 0 h_taped h_tape h_size h_text h_value h_out h_output h_illAt h_format h_sections h_items h_kind h_what h_of h_relation h_bound h_reads h_readSections h_readKind h_readWhat h_readOf h_place h_readRelation h_readBound h_stop h_meant h_row h_exact h_error h_bestError h_m h_e h_digits h_whole d_19 (by omega) (by omega) (by assumption) (by omega) (by omega) (by omega) (by omega) (by omega) (by omega)) (cwV 1 (dr_words hts _) (goodIn_app (goodIn_r _ [3, 4, 5, 6] rfl (by decide +kernel)) (goodIn_sub i_X12_set k_X12_set)) rfl rfl rfl (by decide +kernel) ⟨Nat.le_of_ble_eq_true rfl, Nat.le_of_ble_eq_true rfl⟩) ⟨fun a U g mk q => by obtain ⟨q0, q1, qP, qK, qD⟩ := q; exact ⟨q0, q1, qP, va_K.moved (u := U) (U := U.calling g mk a) (Vm.Alike.refl U.vm) qK, qD⟩, va_recv hK hPc (ci := 9) (q0 := 0) rfl rfl, fun U hU hW => ⟨rfl, by rw [hU], by rw [hU]; exact hPc, va_K.moved hW.alike hK, hDc.weaken (fun _ _ _ _ => trivial)⟩⟩ rfl rfl hl.1 rfl (lv_room (Nat.le_of_ble_eq_true rfl)) dX12_reckon_75 ⟨Nat.le_of_ble_eq_true rfl, Nat.le_of_ble_eq_true rfl⟩) hS (fun q _ h => hFc q h) hFc (fun x_21 u t H1 locs ht hvm w_22 hB hz1 hk1 hS => ?_)
            obtain ⟨u_23, u_24⟩ := u
            obtain ⟨hP1, hK1, hD1⟩ := hB
            rw [ht] at hP1
            try dsimp only at w_22
            obtain ⟨hP, hD⟩ := va_join (wr := []) (w1 := [(h, .inr (9, [.int u_23, .int h_taped, .ref h_tape, .int h_size, .ref h_text, .double u_24, .int h_out, .ref h_output, .int h_illAt, .ref h_format, .int h_sections, .int h_items, .ref h_kind, .ref h_what, .ref h_of, .ref h_relation, .ref h_bound, .int h_reads, .int h_readSections, .ref h_readKind, .ref h_readWhat, .ref h_readOf, .ref h_place, .ref h_readRelation, .ref h_readBound, .int h_stop, .ref h_meant, .ref h_row, .ref h_exact, .ref h_error, .ref h_bestError, .long h_m, .int h_e, .ref h_digits, .int h_whole]))]) hP hD [0] [] rfl rfl (by decide) (by decide) hk1 hFc hP1 hD1
            generalize H1 = H at hP hS ⊢
            have hP : va_P D vwCl [(h, .inr (9, [.int u_23, .int h_taped, .ref h_tape, .int h_size, .ref h_text, .double u_24, .int h_out, .ref h_output, .int h_illAt, .ref h_format, .int h_sections, .int h_items, .ref h_kind, .ref h_what, .ref h_of, .ref h_relation, .ref h_bound, .int h_reads, .int h_readSections, .ref h_readKind, .ref h_readWhat, .ref h_readOf, .ref h_place, .ref h_readRelation, .ref h_readBound, .int h_stop, .ref h_meant, .ref h_row, .ref h_exact, .ref h_error, .ref h_bestError, .long h_m, .int h_e, .ref h_digits, .int h_whole]))] H := hP
            have hD : va_D A [(h, .inr (9, [.int u_23, .int h_taped, .ref h_tape, .int h_size, .ref h_text, .double u_24, .int h_out, .ref h_output, .int h_illAt, .ref h_format, .int h_sections, .int h_items, .ref h_kind, .ref h_what, .ref h_of, .ref h_relation, .ref h_bound, .int h_reads, .int h_readSections, .ref h_readKind, .ref h_readWhat, .ref h_readOf, .ref h_place, .ref h_readRelation, .ref h_readBound, .int h_stop, .ref h_meant, .ref h_row, .ref h_exact, .ref h_error, .ref h_bestError, .long h_m, .int h_e, .ref h_digits, .int h_whole]))] := hD
            obtain ⟨w_22_0, w_22_1, w_22_2⟩ := w_22
            have b_x_21 := ti_b x_21
            refine W.endD hd_20 ?_
            have hP9 := hP.sub (ws' := [(h, .inr (9, [.int u_23, .int h_taped, .ref h_tape, .int h_size, .ref h_text, .double u_24, .int h_out, .ref h_output, .int h_illAt, .ref h_format, .int h_sections, .int h_items, .ref h_kind, .ref h_what, .ref h_of, .ref h_relation, .ref h_bound, .int h_reads, .int h_readSections, .ref h_readKind, .ref h_readWhat, .ref h_readOf, .ref h_place, .ref h_readRelation, .ref h_readBound, .int h_stop, .ref h_meant, .ref h_row, .ref h_exact, .ref h_error, .ref h_bestError, .long h_m, .int h_e, .ref h_digits, .int h_whole]))]) [0] rfl
            have hD9 := hD.sub (ws' := [(h, .inr (9, [.int u_23, .int h_taped, .ref h_tape, .int h_size, .ref h_text, .double u_24, .int h_out, .ref h_output, .int h_illAt, .ref h_format, .int h_sections, .int h_items, .ref h_kind, .ref h_what, .ref h_of, .ref h_relation, .ref h_bound, .int h_reads, .int h_readSections, .ref h_readKind, .ref h_readWhat, .ref h_readOf, .ref h_place, .ref h_readRelation, .ref h_readBound, .int h_stop, .ref h_meant, .ref h_row, .ref h_exact, .ref h_error, .ref h_bestError, .long h_m, .int h_e, .ref h_digits, .int h_whole]))]) [0] (by decide) rfl
            exact W.zret (v := x_21) hx hb hr (nz01 (by omega)) (fun t ht hW => ⟨⟨x_21, (u_23, u_24), rfl, (by (try dsimp only); refine ⟨?_, ?_, ?_⟩ <;> first | omega | assumption | (subst_vars; exact Or.inl ⟨by unfold rbad; omega, rfl, rfl⟩) | (refine Or.inr ⟨by subst_vars; unfold rbad; omega, d_19, (by first | exact rk_0 (by omega) (by assumption) | exact rk_1 (by omega) (by assumption) | exact rk_2 (by omega) (by assumption) | exact rk_3 (by omega) (by assumption)), ?_⟩; assumption)), by rw [ht]; exact hP9, va_K.moved hW.alike hK, hD9⟩, hS.F ht⟩) hS.2.2 dX12_reckon_78
        · have ic_4 : (p1 : Int32).toInt = (0 : Int32).toInt := (fa_eq p1 0).mp c_4
          refine lv_aload_n hx hb dX12_reckon_32 rfl (lv_at hl 0 rfl) ?_
          refine va_get (s := s.setDrawn s.drawn) (D := D) (ci := 9) (v := .double h_value) (C := RX12) (T := TX12) (N := 35) hx hb (dr_words hts _) iX12 hown hK hP 0 rfl rfl 5 (by decide) (hw 1 (.fieldLink RX12 95 "NumberFormatsModel" "value" "D") rfl) (fun _ h9 => h9) rfl dX12_reckon_33 ?_
          refine lv_dload_n hx hb dX12_reckon_36 rfl (lv_at hl 2 rfl) ?_
          refine lv_dadd_any hd0 lw_bits hx hb dX12_reckon_37 (fun d_25 dhd_26 ad_25 hd_26 => ?_)
          refine lv_goto (tgt := 75) hx hb dX12_reckon_38 (by decide) ?_
          have hPc := hP.sub (ws' := [(h, .inr (9, [.int 0, .int h_taped, .ref h_tape, .int h_size, .ref h_text, .double h_value, .int h_out, .ref h_output, .int h_illAt, .ref h_format, .int h_sections, .int h_items, .ref h_kind, .ref h_what, .ref h_of, .ref h_relation, .ref h_bound, .int h_reads, .int h_readSections, .ref h_readKind, .ref h_readWhat, .ref h_readOf, .ref h_place, .ref h_readRelation, .ref h_readBound, .int h_stop, .ref h_meant, .ref h_row, .ref h_exact, .ref h_error, .ref h_bestError, .long h_m, .int h_e, .ref h_digits, .int h_whole]))]) [0] rfl
          have hDc := hD.sub (ws' := [(h, .inr (9, [.int 0, .int h_taped, .ref h_tape, .int h_size, .ref h_text, .double h_value, .int h_out, .ref h_output, .int h_illAt, .ref h_format, .int h_sections, .int h_items, .ref h_kind, .ref h_what, .ref h_of, .ref h_relation, .ref h_bound, .int h_reads, .int h_readSections, .ref h_readKind, .ref h_readWhat, .ref h_readOf, .ref h_place, .ref h_readRelation, .ref h_readBound, .int h_stop, .ref h_meant, .ref h_row, .ref h_exact, .ref h_error, .ref h_bestError, .long h_m, .int h_e, .ref h_digits, .int h_whole]))]) [0] (by decide) rfl
          have hFc := va_free (wc := [(h, .inr (9, [.int 0, .int h_taped, .ref h_tape, .int h_size, .ref h_text, .double h_value, .int h_out, .ref h_output, .int h_illAt, .ref h_format, .int h_sections, .int h_items, .ref h_kind, .ref h_what, .ref h_of, .ref h_relation, .ref h_bound, .int h_reads, .int h_readSections, .ref h_readKind, .ref h_readWhat, .ref h_readOf, .ref h_place, .ref h_readRelation, .ref h_readBound, .int h_stop, .ref h_meant, .ref h_row, .ref h_exact, .ref h_error, .ref h_bestError, .long h_m, .int h_e, .ref h_digits, .int h_whole]))]) hD hS hA [0] rfl
          refine va_calli (va_runV (As := [.double d_25]) (rest := []) ⟨hx, hb, hml, hown, (dr_words hts _)⟩ (c_X12_set l D cI cD cJ H.size h 0 h_taped h_tape h_size h_text h_value h_out h_output h_illAt h_format h_sections h_items h_kind h_what h_of h_relation h_bound h_reads h_readSections h_readKind h_readWhat h_readOf h_place h_readRelation h_readBound h_stop h_meant h_row h_exact h_error h_bestError h_m h_e h_digits h_whole d_25 (by omega) (by omega) (by assumption) (by omega) (by omega) (by omega) (by omega) (by omega) (by omega)) (cwV 1 (dr_words hts _) (goodIn_app (goodIn_r _ [3, 4, 5, 6] rfl (by decide +kernel)) (goodIn_sub i_X12_set k_X12_set)) rfl rfl rfl (by decide +kernel) ⟨Nat.le_of_ble_eq_true rfl, Nat.le_of_ble_eq_true rfl⟩) ⟨fun a U g mk q => by obtain ⟨q0, q1, qP, qK, qD⟩ := q; exact ⟨q0, q1, qP, va_K.moved (u := U) (U := U.calling g mk a) (Vm.Alike.refl U.vm) qK, qD⟩, va_recv hK hPc (ci := 9) (q0 := 0) rfl rfl, fun U hU hW => ⟨rfl, by rw [hU], by rw [hU]; exact hPc, va_K.moved hW.alike hK, hDc.weaken (fun _ _ _ _ => trivial)⟩⟩ rfl rfl hl.1 rfl (lv_room (Nat.le_of_ble_eq_true rfl)) dX12_reckon_75 ⟨Nat.le_of_ble_eq_true rfl, Nat.le_of_ble_eq_true rfl⟩) hS (fun q _ h => hFc q h) hFc (fun x_27 u t H1 locs ht hvm w_28 hB hz1 hk1 hS => ?_)
          obtain ⟨u_29, u_30⟩ := u
          obtain ⟨hP1, hK1, hD1⟩ := hB
          rw [ht] at hP1
          try dsimp only at w_28
          obtain ⟨hP, hD⟩ := va_join (wr := []) (w1 := [(h, .inr (9, [.int u_29, .int h_taped, .ref h_tape, .int h_size, .ref h_text, .double u_30, .int h_out, .ref h_output, .int h_illAt, .ref h_format, .int h_sections, .int h_items, .ref h_kind, .ref h_what, .ref h_of, .ref h_relation, .ref h_bound, .int h_reads, .int h_readSections, .ref h_readKind, .ref h_readWhat, .ref h_readOf, .ref h_place, .ref h_readRelation, .ref h_readBound, .int h_stop, .ref h_meant, .ref h_row, .ref h_exact, .ref h_error, .ref h_bestError, .long h_m, .int h_e, .ref h_digits, .int h_whole]))]) hP hD [0] [] rfl rfl (by decide) (by decide) hk1 hFc hP1 hD1
          generalize H1 = H at hP hS ⊢
          have hP : va_P D vwCl [(h, .inr (9, [.int u_29, .int h_taped, .ref h_tape, .int h_size, .ref h_text, .double u_30, .int h_out, .ref h_output, .int h_illAt, .ref h_format, .int h_sections, .int h_items, .ref h_kind, .ref h_what, .ref h_of, .ref h_relation, .ref h_bound, .int h_reads, .int h_readSections, .ref h_readKind, .ref h_readWhat, .ref h_readOf, .ref h_place, .ref h_readRelation, .ref h_readBound, .int h_stop, .ref h_meant, .ref h_row, .ref h_exact, .ref h_error, .ref h_bestError, .long h_m, .int h_e, .ref h_digits, .int h_whole]))] H := hP
          have hD : va_D A [(h, .inr (9, [.int u_29, .int h_taped, .ref h_tape, .int h_size, .ref h_text, .double u_30, .int h_out, .ref h_output, .int h_illAt, .ref h_format, .int h_sections, .int h_items, .ref h_kind, .ref h_what, .ref h_of, .ref h_relation, .ref h_bound, .int h_reads, .int h_readSections, .ref h_readKind, .ref h_readWhat, .ref h_readOf, .ref h_place, .ref h_readRelation, .ref h_readBound, .int h_stop, .ref h_meant, .ref h_row, .ref h_exact, .ref h_error, .ref h_bestError, .long h_m, .int h_e, .ref h_digits, .int h_whole]))] := hD
          obtain ⟨w_28_0, w_28_1, w_28_2⟩ := w_28
          have b_x_27 := ti_b x_27
          refine W.endD hd_26 ?_
          have hP9 := hP.sub (ws' := [(h, .inr (9, [.int u_29, .int h_taped, .ref h_tape, .int h_size, .ref h_text, .double u_30, .int h_out, .ref h_output, .int h_illAt, .ref h_format, .int h_sections, .int h_items, .ref h_kind, .ref h_what, .ref h_of, .ref h_relation, .ref h_bound, .int h_reads, .int h_readSections, .ref h_readKind, .ref h_readWhat, .ref h_readOf, .ref h_place, .ref h_readRelation, .ref h_readBound, .int h_stop, .ref h_meant, .ref h_row, .ref h_exact, .ref h_error, .ref h_bestError, .long h_m, .int h_e, .ref h_digits, .int h_whole]))]) [0] rfl
          have hD9 := hD.sub (ws' := [(h, .inr (9, [.int u_29, .int h_taped, .ref h_tape, .int h_size, .ref h_text, .double u_30, .int h_out, .ref h_output, .int h_illAt, .ref h_format, .int h_sections, .int h_items, .ref h_kind, .ref h_what, .ref h_of, .ref h_relation, .ref h_bound, .int h_reads, .int h_readSections, .ref h_readKind, .ref h_readWhat, .ref h_readOf, .ref h_place, .ref h_readRelation, .ref h_readBound, .int h_stop, .ref h_meant, .ref h_row, .ref h_exact, .ref h_error, .ref h_bestError, .long h_m, .int h_e, .ref h_digits, .int h_whole]))]) [0] (by decide) rfl
          exact W.zret (v := x_27) hx hb hr (nz01 (by omega)) (fun t ht hW => ⟨⟨x_27, (u_29, u_30), rfl, (by (try dsimp only); refine ⟨?_, ?_, ?_⟩ <;> first | omega | assumption | (subst_vars; exact Or.inl ⟨by unfold rbad; omega, rfl, rfl⟩) | (refine Or.inr ⟨by subst_vars; unfold rbad; omega, d_25, (by first | exact rk_0 (by omega) (by assumption) | exact rk_1 (by omega) (by assumption) | exact rk_2 (by omega) (by assumption) | exact rk_3 (by omega) (by assumption)), ?_⟩; assumption)), by rw [ht]; exact hP9, va_K.moved hW.alike hK, hD9⟩, hS.F ht⟩) hS.2.2 dX12_reckon_78
      · have ic_3 : (p1 : Int32).toInt = (3 : Int32).toInt := (fa_eq p1 3).mp c_3
        refine lv_dload_n hx hb dX12_reckon_19 rfl (lv_at hl 2 rfl) ?_
        refine lv_dconst0 hx hb dX12_reckon_20 ?_
        refine lv_dcmp hx hb dX12_reckon_21 ?_
        refine lv_topi (fun x_31 ex_31 => ?_)
        refine lv_if_ne (tgt := 27) hx hb dX12_reckon_22 (by decide) (fun c_32 => ?_) (fun c_32 => ?_)
        · have ic_32 : ¬ ((x_31 : Int32).toInt = (0 : Int32).toInt) := fun h9 => c_32 ((fa_eq x_31 0).mpr h9)
          refine lv_aload_n hx hb dX12_reckon_27 rfl (lv_at hl 0 rfl) ?_
          refine lv_iload_n hx hb dX12_reckon_28 rfl (lv_at hl 1 rfl) ?_
          refine lv_if_ne (tgt := 41) hx hb dX12_reckon_29 (by decide) (fun c_33 => ?_) (fun c_33 => ?_)
          · have ic_33 : ¬ ((p1 : Int32).toInt = (0 : Int32).toInt) := fun h9 => c_33 ((fa_eq p1 0).mpr h9)
            refine lv_iload_n hx hb dX12_reckon_41 rfl (lv_at hl 1 rfl) ?_
            refine lv_iconst (v := 1) hx hb dX12_reckon_42 (by decide) ?_
            refine lv_icmp_ne (tgt := 55) hx hb dX12_reckon_43 (by decide) (fun c_34 => ?_) (fun c_34 => ?_)
            · have ic_34 : ¬ ((p1 : Int32).toInt = (1 : Int32).toInt) := fun h9 => c_34 ((fa_eq p1 1).mpr h9)
              refine lv_iload_n hx hb dX12_reckon_55 rfl (lv_at hl 1 rfl) ?_
              refine lv_iconst (v := 2) hx hb dX12_reckon_56 (by decide) ?_
              refine lv_icmp_ne (tgt := 69) hx hb dX12_reckon_57 (by decide) (fun c_35 => ?_) (fun c_35 => ?_)
              · have ic_35 : ¬ ((p1 : Int32).toInt = (2 : Int32).toInt) := fun h9 => c_35 ((fa_eq p1 2).mpr h9)
                refine lv_aload_n hx hb dX12_reckon_69 rfl (lv_at hl 0 rfl) ?_
                refine va_get (s := s.setDrawn s.drawn) (D := D) (ci := 9) (v := .double h_value) (C := RX12) (T := TX12) (N := 35) hx hb (dr_words hts _) iX12 hown hK hP 0 rfl rfl 5 (by decide) (hw 1 (.fieldLink RX12 95 "NumberFormatsModel" "value" "D") rfl) (fun _ h9 => h9) rfl dX12_reckon_70 ?_
                refine lv_dload_n hx hb dX12_reckon_73 rfl (lv_at hl 2 rfl) ?_
                refine lv_ddiv_any hd0 lw_bits hx hb dX12_reckon_74 (fun d_36 dhd_37 ad_36 hd_37 => ?_)
                have hPc := hP.sub (ws' := [(h, .inr (9, [.int 0, .int h_taped, .ref h_tape, .int h_size, .ref h_text, .double h_value, .int h_out, .ref h_output, .int h_illAt, .ref h_format, .int h_sections, .int h_items, .ref h_kind, .ref h_what, .ref h_of, .ref h_relation, .ref h_bound, .int h_reads, .int h_readSections, .ref h_readKind, .ref h_readWhat, .ref h_readOf, .ref h_place, .ref h_readRelation, .ref h_readBound, .int h_stop, .ref h_meant, .ref h_row, .ref h_exact, .ref h_error, .ref h_bestError, .long h_m, .int h_e, .ref h_digits, .int h_whole]))]) [0] rfl
                have hDc := hD.sub (ws' := [(h, .inr (9, [.int 0, .int h_taped, .ref h_tape, .int h_size, .ref h_text, .double h_value, .int h_out, .ref h_output, .int h_illAt, .ref h_format, .int h_sections, .int h_items, .ref h_kind, .ref h_what, .ref h_of, .ref h_relation, .ref h_bound, .int h_reads, .int h_readSections, .ref h_readKind, .ref h_readWhat, .ref h_readOf, .ref h_place, .ref h_readRelation, .ref h_readBound, .int h_stop, .ref h_meant, .ref h_row, .ref h_exact, .ref h_error, .ref h_bestError, .long h_m, .int h_e, .ref h_digits, .int h_whole]))]) [0] (by decide) rfl
                have hFc := va_free (wc := [(h, .inr (9, [.int 0, .int h_taped, .ref h_tape, .int h_size, .ref h_text, .double h_value, .int h_out, .ref h_output, .int h_illAt, .ref h_format, .int h_sections, .int h_items, .ref h_kind, .ref h_what, .ref h_of, .ref h_relation, .ref h_bound, .int h_reads, .int h_readSections, .ref h_readKind, .ref h_readWhat, .ref h_readOf, .ref h_place, .ref h_readRelation, .ref h_readBound, .int h_stop, .ref h_meant, .ref h_row, .ref h_exact, .ref h_error, .ref h_bestError, .long h_m, .int h_e, .ref h_digits, .int h_whole]))]) hD hS hA [0] rfl
                refine va_calli (va_runV (As := [.double d_36]) (rest := []) ⟨hx, hb, hml, hown, (dr_words hts _)⟩ (c_X12_set l D cI cD cJ H.size h 0 h_taped h_tape h_size h_text h_value h_out h_output h_illAt h_format h_sections h_items h_kind h_what h_of h_relation h_bound h_reads h_readSections h_readKind h_readWhat h_readOf h_place h_readRelation h_readBound h_stop h_meant h_row h_exact h_error h_bestError h_m h_e h_digits h_whole d_36 (by omega) (by omega) (by assumption) (by omega) (by omega) (by omega) (by omega) (by omega) (by omega)) (cwV 1 (dr_words hts _) (goodIn_app (goodIn_r _ [3, 4, 5, 6] rfl (by decide +kernel)) (goodIn_sub i_X12_set k_X12_set)) rfl rfl rfl (by decide +kernel) ⟨Nat.le_of_ble_eq_true rfl, Nat.le_of_ble_eq_true rfl⟩) ⟨fun a U g mk q => by obtain ⟨q0, q1, qP, qK, qD⟩ := q; exact ⟨q0, q1, qP, va_K.moved (u := U) (U := U.calling g mk a) (Vm.Alike.refl U.vm) qK, qD⟩, va_recv hK hPc (ci := 9) (q0 := 0) rfl rfl, fun U hU hW => ⟨rfl, by rw [hU], by rw [hU]; exact hPc, va_K.moved hW.alike hK, hDc.weaken (fun _ _ _ _ => trivial)⟩⟩ rfl rfl hl.1 rfl (lv_room (Nat.le_of_ble_eq_true rfl)) dX12_reckon_75 ⟨Nat.le_of_ble_eq_true rfl, Nat.le_of_ble_eq_true rfl⟩) hS (fun q _ h => hFc q h) hFc (fun x_38 u t H1 locs ht hvm w_39 hB hz1 hk1 hS => ?_)
                obtain ⟨u_40, u_41⟩ := u
                obtain ⟨hP1, hK1, hD1⟩ := hB
                rw [ht] at hP1
                try dsimp only at w_39
                obtain ⟨hP, hD⟩ := va_join (wr := []) (w1 := [(h, .inr (9, [.int u_40, .int h_taped, .ref h_tape, .int h_size, .ref h_text, .double u_41, .int h_out, .ref h_output, .int h_illAt, .ref h_format, .int h_sections, .int h_items, .ref h_kind, .ref h_what, .ref h_of, .ref h_relation, .ref h_bound, .int h_reads, .int h_readSections, .ref h_readKind, .ref h_readWhat, .ref h_readOf, .ref h_place, .ref h_readRelation, .ref h_readBound, .int h_stop, .ref h_meant, .ref h_row, .ref h_exact, .ref h_error, .ref h_bestError, .long h_m, .int h_e, .ref h_digits, .int h_whole]))]) hP hD [0] [] rfl rfl (by decide) (by decide) hk1 hFc hP1 hD1
                generalize H1 = H at hP hS ⊢
                have hP : va_P D vwCl [(h, .inr (9, [.int u_40, .int h_taped, .ref h_tape, .int h_size, .ref h_text, .double u_41, .int h_out, .ref h_output, .int h_illAt, .ref h_format, .int h_sections, .int h_items, .ref h_kind, .ref h_what, .ref h_of, .ref h_relation, .ref h_bound, .int h_reads, .int h_readSections, .ref h_readKind, .ref h_readWhat, .ref h_readOf, .ref h_place, .ref h_readRelation, .ref h_readBound, .int h_stop, .ref h_meant, .ref h_row, .ref h_exact, .ref h_error, .ref h_bestError, .long h_m, .int h_e, .ref h_digits, .int h_whole]))] H := hP
                have hD : va_D A [(h, .inr (9, [.int u_40, .int h_taped, .ref h_tape, .int h_size, .ref h_text, .double u_41, .int h_out, .ref h_output, .int h_illAt, .ref h_format, .int h_sections, .int h_items, .ref h_kind, .ref h_what, .ref h_of, .ref h_relation, .ref h_bound, .int h_reads, .int h_readSections, .ref h_readKind, .ref h_readWhat, .ref h_readOf, .ref h_place, .ref h_readRelation, .ref h_readBound, .int h_stop, .ref h_meant, .ref h_row, .ref h_exact, .ref h_error, .ref h_bestError, .long h_m, .int h_e, .ref h_digits, .int h_whole]))] := hD
                obtain ⟨w_39_0, w_39_1, w_39_2⟩ := w_39
                have b_x_38 := ti_b x_38
                refine W.endD hd_37 ?_
                have hP9 := hP.sub (ws' := [(h, .inr (9, [.int u_40, .int h_taped, .ref h_tape, .int h_size, .ref h_text, .double u_41, .int h_out, .ref h_output, .int h_illAt, .ref h_format, .int h_sections, .int h_items, .ref h_kind, .ref h_what, .ref h_of, .ref h_relation, .ref h_bound, .int h_reads, .int h_readSections, .ref h_readKind, .ref h_readWhat, .ref h_readOf, .ref h_place, .ref h_readRelation, .ref h_readBound, .int h_stop, .ref h_meant, .ref h_row, .ref h_exact, .ref h_error, .ref h_bestError, .long h_m, .int h_e, .ref h_digits, .int h_whole]))]) [0] rfl
                have hD9 := hD.sub (ws' := [(h, .inr (9, [.int u_40, .int h_taped, .ref h_tape, .int h_size, .ref h_text, .double u_41, .int h_out, .ref h_output, .int h_illAt, .ref h_format, .int h_sections, .int h_items, .ref h_kind, .ref h_what, .ref h_of, .ref h_relation, .ref h_bound, .int h_reads, .int h_readSections, .ref h_readKind, .ref h_readWhat, .ref h_readOf, .ref h_place, .ref h_readRelation, .ref h_readBound, .int h_stop, .ref h_meant, .ref h_row, .ref h_exact, .ref h_error, .ref h_bestError, .long h_m, .int h_e, .ref h_digits, .int h_whole]))]) [0] (by decide) rfl
                exact W.zret (v := x_38) hx hb hr (nz01 (by omega)) (fun t ht hW => ⟨⟨x_38, (u_40, u_41), rfl, (by (try dsimp only); refine ⟨?_, ?_, ?_⟩ <;> first | omega | assumption | (subst_vars; exact Or.inl ⟨by unfold rbad; omega, rfl, rfl⟩) | (refine Or.inr ⟨by subst_vars; unfold rbad; omega, d_36, (by first | exact rk_0 (by omega) (by assumption) | exact rk_1 (by omega) (by assumption) | exact rk_2 (by omega) (by assumption) | exact rk_3 (by omega) (by assumption)), ?_⟩; assumption)), by rw [ht]; exact hP9, va_K.moved hW.alike hK, hD9⟩, hS.F ht⟩) hS.2.2 dX12_reckon_78
              · have ic_35 : (p1 : Int32).toInt = (2 : Int32).toInt := (fa_eq p1 2).mp c_35
                refine lv_aload_n hx hb dX12_reckon_60 rfl (lv_at hl 0 rfl) ?_
                refine va_get (s := s.setDrawn s.drawn) (D := D) (ci := 9) (v := .double h_value) (C := RX12) (T := TX12) (N := 35) hx hb (dr_words hts _) iX12 hown hK hP 0 rfl rfl 5 (by decide) (hw 1 (.fieldLink RX12 95 "NumberFormatsModel" "value" "D") rfl) (fun _ h9 => h9) rfl dX12_reckon_61 ?_
                refine lv_dload_n hx hb dX12_reckon_64 rfl (lv_at hl 2 rfl) ?_
                refine lv_dmul_any hd0 lw_bits hx hb dX12_reckon_65 (fun d_42 dhd_43 ad_42 hd_43 => ?_)
                refine lv_goto (tgt := 75) hx hb dX12_reckon_66 (by decide) ?_
                have hPc := hP.sub (ws' := [(h, .inr (9, [.int 0, .int h_taped, .ref h_tape, .int h_size, .ref h_text, .double h_value, .int h_out, .ref h_output, .int h_illAt, .ref h_format, .int h_sections, .int h_items, .ref h_kind, .ref h_what, .ref h_of, .ref h_relation, .ref h_bound, .int h_reads, .int h_readSections, .ref h_readKind, .ref h_readWhat, .ref h_readOf, .ref h_place, .ref h_readRelation, .ref h_readBound, .int h_stop, .ref h_meant, .ref h_row, .ref h_exact, .ref h_error, .ref h_bestError, .long h_m, .int h_e, .ref h_digits, .int h_whole]))]) [0] rfl
                have hDc := hD.sub (ws' := [(h, .inr (9, [.int 0, .int h_taped, .ref h_tape, .int h_size, .ref h_text, .double h_value, .int h_out, .ref h_output, .int h_illAt, .ref h_format, .int h_sections, .int h_items, .ref h_kind, .ref h_what, .ref h_of, .ref h_relation, .ref h_bound, .int h_reads, .int h_readSections, .ref h_readKind, .ref h_readWhat, .ref h_readOf, .ref h_place, .ref h_readRelation, .ref h_readBound, .int h_stop, .ref h_meant, .ref h_row, .ref h_exact, .ref h_error, .ref h_bestError, .long h_m, .int h_e, .ref h_digits, .int h_whole]))]) [0] (by decide) rfl
                have hFc := va_free (wc := [(h, .inr (9, [.int 0, .int h_taped, .ref h_tape, .int h_size, .ref h_text, .double h_value, .int h_out, .ref h_output, .int h_illAt, .ref h_format, .int h_sections, .int h_items, .ref h_kind, .ref h_what, .ref h_of, .ref h_relation, .ref h_bound, .int h_reads, .int h_readSections, .ref h_readKind, .ref h_readWhat, .ref h_readOf, .ref h_place, .ref h_readRelation, .ref h_readBound, .int h_stop, .ref h_meant, .ref h_row, .ref h_exact, .ref h_error, .ref h_bestError, .long h_m, .int h_e, .ref h_digits, .int h_whole]))]) hD hS hA [0] rfl
                refine va_calli (va_runV (As := [.double d_42]) (rest := []) ⟨hx, hb, hml, hown, (dr_words hts _)⟩ (c_X12_set l D cI cD cJ H.size h 0 h_taped h_tape h_size h_text h_value h_out h_output h_illAt h_format h_sections h_items h_kind h_what h_of h_relation h_bound h_reads h_readSections h_readKind h_readWhat h_readOf h_place h_readRelation h_readBound h_stop h_meant h_row h_exact h_error h_bestError h_m h_e h_digits h_whole d_42 (by omega) (by omega) (by assumption) (by omega) (by omega) (by omega) (by omega) (by omega) (by omega)) (cwV 1 (dr_words hts _) (goodIn_app (goodIn_r _ [3, 4, 5, 6] rfl (by decide +kernel)) (goodIn_sub i_X12_set k_X12_set)) rfl rfl rfl (by decide +kernel) ⟨Nat.le_of_ble_eq_true rfl, Nat.le_of_ble_eq_true rfl⟩) ⟨fun a U g mk q => by obtain ⟨q0, q1, qP, qK, qD⟩ := q; exact ⟨q0, q1, qP, va_K.moved (u := U) (U := U.calling g mk a) (Vm.Alike.refl U.vm) qK, qD⟩, va_recv hK hPc (ci := 9) (q0 := 0) rfl rfl, fun U hU hW => ⟨rfl, by rw [hU], by rw [hU]; exact hPc, va_K.moved hW.alike hK, hDc.weaken (fun _ _ _ _ => trivial)⟩⟩ rfl rfl hl.1 rfl (lv_room (Nat.le_of_ble_eq_true rfl)) dX12_reckon_75 ⟨Nat.le_of_ble_eq_true rfl, Nat.le_of_ble_eq_true rfl⟩) hS (fun q _ h => hFc q h) hFc (fun x_44 u t H1 locs ht hvm w_45 hB hz1 hk1 hS => ?_)
                obtain ⟨u_46, u_47⟩ := u
                obtain ⟨hP1, hK1, hD1⟩ := hB
                rw [ht] at hP1
                try dsimp only at w_45
                obtain ⟨hP, hD⟩ := va_join (wr := []) (w1 := [(h, .inr (9, [.int u_46, .int h_taped, .ref h_tape, .int h_size, .ref h_text, .double u_47, .int h_out, .ref h_output, .int h_illAt, .ref h_format, .int h_sections, .int h_items, .ref h_kind, .ref h_what, .ref h_of, .ref h_relation, .ref h_bound, .int h_reads, .int h_readSections, .ref h_readKind, .ref h_readWhat, .ref h_readOf, .ref h_place, .ref h_readRelation, .ref h_readBound, .int h_stop, .ref h_meant, .ref h_row, .ref h_exact, .ref h_error, .ref h_bestError, .long h_m, .int h_e, .ref h_digits, .int h_whole]))]) hP hD [0] [] rfl rfl (by decide) (by decide) hk1 hFc hP1 hD1
                generalize H1 = H at hP hS ⊢
                have hP : va_P D vwCl [(h, .inr (9, [.int u_46, .int h_taped, .ref h_tape, .int h_size, .ref h_text, .double u_47, .int h_out, .ref h_output, .int h_illAt, .ref h_format, .int h_sections, .int h_items, .ref h_kind, .ref h_what, .ref h_of, .ref h_relation, .ref h_bound, .int h_reads, .int h_readSections, .ref h_readKind, .ref h_readWhat, .ref h_readOf, .ref h_place, .ref h_readRelation, .ref h_readBound, .int h_stop, .ref h_meant, .ref h_row, .ref h_exact, .ref h_error, .ref h_bestError, .long h_m, .int h_e, .ref h_digits, .int h_whole]))] H := hP
                have hD : va_D A [(h, .inr (9, [.int u_46, .int h_taped, .ref h_tape, .int h_size, .ref h_text, .double u_47, .int h_out, .ref h_output, .int h_illAt, .ref h_format, .int h_sections, .int h_items, .ref h_kind, .ref h_what, .ref h_of, .ref h_relation, .ref h_bound, .int h_reads, .int h_readSections, .ref h_readKind, .ref h_readWhat, .ref h_readOf, .ref h_place, .ref h_readRelation, .ref h_readBound, .int h_stop, .ref h_meant, .ref h_row, .ref h_exact, .ref h_error, .ref h_bestError, .long h_m, .int h_e, .ref h_digits, .int h_whole]))] := hD
                obtain ⟨w_45_0, w_45_1, w_45_2⟩ := w_45
                have b_x_44 := ti_b x_44
                refine W.endD hd_43 ?_
                have hP9 := hP.sub (ws' := [(h, .inr (9, [.int u_46, .int h_taped, .ref h_tape, .int h_size, .ref h_text, .double u_47, .int h_out, .ref h_output, .int h_illAt, .ref h_format, .int h_sections, .int h_items, .ref h_kind, .ref h_what, .ref h_of, .ref h_relation, .ref h_bound, .int h_reads, .int h_readSections, .ref h_readKind, .ref h_readWhat, .ref h_readOf, .ref h_place, .ref h_readRelation, .ref h_readBound, .int h_stop, .ref h_meant, .ref h_row, .ref h_exact, .ref h_error, .ref h_bestError, .long h_m, .int h_e, .ref h_digits, .int h_whole]))]) [0] rfl
                have hD9 := hD.sub (ws' := [(h, .inr (9, [.int u_46, .int h_taped, .ref h_tape, .int h_size, .ref h_text, .double u_47, .int h_out, .ref h_output, .int h_illAt, .ref h_format, .int h_sections, .int h_items, .ref h_kind, .ref h_what, .ref h_of, .ref h_relation, .ref h_bound, .int h_reads, .int h_readSections, .ref h_readKind, .ref h_readWhat, .ref h_readOf, .ref h_place, .ref h_readRelation, .ref h_readBound, .int h_stop, .ref h_meant, .ref h_row, .ref h_exact, .ref h_error, .ref h_bestError, .long h_m, .int h_e, .ref h_digits, .int h_whole]))]) [0] (by decide) rfl
                exact W.zret (v := x_44) hx hb hr (nz01 (by omega)) (fun t ht hW => ⟨⟨x_44, (u_46, u_47), rfl, (by (try dsimp only); refine ⟨?_, ?_, ?_⟩ <;> first | omega | assumption | (subst_vars; exact Or.inl ⟨by unfold rbad; omega, rfl, rfl⟩) | (refine Or.inr ⟨by subst_vars; unfold rbad; omega, d_42, (by first | exact rk_0 (by omega) (by assumption) | exact rk_1 (by omega) (by assumption) | exact rk_2 (by omega) (by assumption) | exact rk_3 (by omega) (by assumption)), ?_⟩; assumption)), by rw [ht]; exact hP9, va_K.moved hW.alike hK, hD9⟩, hS.F ht⟩) hS.2.2 dX12_reckon_78
            · have ic_34 : (p1 : Int32).toInt = (1 : Int32).toInt := (fa_eq p1 1).mp c_34
              refine lv_aload_n hx hb dX12_reckon_46 rfl (lv_at hl 0 rfl) ?_
              refine va_get (s := s.setDrawn s.drawn) (D := D) (ci := 9) (v := .double h_value) (C := RX12) (T := TX12) (N := 35) hx hb (dr_words hts _) iX12 hown hK hP 0 rfl rfl 5 (by decide) (hw 1 (.fieldLink RX12 95 "NumberFormatsModel" "value" "D") rfl) (fun _ h9 => h9) rfl dX12_reckon_47 ?_
              refine lv_dload_n hx hb dX12_reckon_50 rfl (lv_at hl 2 rfl) ?_
              refine lv_dsub_any hd0 lw_bits hx hb dX12_reckon_51 (fun d_48 dhd_49 ad_48 hd_49 => ?_)
              refine lv_goto (tgt := 75) hx hb dX12_reckon_52 (by decide) ?_
              have hPc := hP.sub (ws' := [(h, .inr (9, [.int 0, .int h_taped, .ref h_tape, .int h_size, .ref h_text, .double h_value, .int h_out, .ref h_output, .int h_illAt, .ref h_format, .int h_sections, .int h_items, .ref h_kind, .ref h_what, .ref h_of, .ref h_relation, .ref h_bound, .int h_reads, .int h_readSections, .ref h_readKind, .ref h_readWhat, .ref h_readOf, .ref h_place, .ref h_readRelation, .ref h_readBound, .int h_stop, .ref h_meant, .ref h_row, .ref h_exact, .ref h_error, .ref h_bestError, .long h_m, .int h_e, .ref h_digits, .int h_whole]))]) [0] rfl
              have hDc := hD.sub (ws' := [(h, .inr (9, [.int 0, .int h_taped, .ref h_tape, .int h_size, .ref h_text, .double h_value, .int h_out, .ref h_output, .int h_illAt, .ref h_format, .int h_sections, .int h_items, .ref h_kind, .ref h_what, .ref h_of, .ref h_relation, .ref h_bound, .int h_reads, .int h_readSections, .ref h_readKind, .ref h_readWhat, .ref h_readOf, .ref h_place, .ref h_readRelation, .ref h_readBound, .int h_stop, .ref h_meant, .ref h_row, .ref h_exact, .ref h_error, .ref h_bestError, .long h_m, .int h_e, .ref h_digits, .int h_whole]))]) [0] (by decide) rfl
              have hFc := va_free (wc := [(h, .inr (9, [.int 0, .int h_taped, .ref h_tape, .int h_size, .ref h_text, .double h_value, .int h_out, .ref h_output, .int h_illAt, .ref h_format, .int h_sections, .int h_items, .ref h_kind, .ref h_what, .ref h_of, .ref h_relation, .ref h_bound, .int h_reads, .int h_readSections, .ref h_readKind, .ref h_readWhat, .ref h_readOf, .ref h_place, .ref h_readRelation, .ref h_readBound, .int h_stop, .ref h_meant, .ref h_row, .ref h_exact, .ref h_error, .ref h_bestError, .long h_m, .int h_e, .ref h_digits, .int h_whole]))]) hD hS hA [0] rfl
              refine va_calli (va_runV (As := [.double d_48]) (rest := []) ⟨hx, hb, hml, hown, (dr_words hts _)⟩ (c_X12_set l D cI cD cJ H.size h 0 h_taped h_tape h_size h_text h_value h_out h_output h_illAt h_format h_sections h_items h_kind h_what h_of h_relation h_bound h_reads h_readSections h_readKind h_readWhat h_readOf h_place h_readRelation h_readBound h_stop h_meant h_row h_exact h_error h_bestError h_m h_e h_digits h_whole d_48 (by omega) (by omega) (by assumption) (by omega) (by omega) (by omega) (by omega) (by omega) (by omega)) (cwV 1 (dr_words hts _) (goodIn_app (goodIn_r _ [3, 4, 5, 6] rfl (by decide +kernel)) (goodIn_sub i_X12_set k_X12_set)) rfl rfl rfl (by decide +kernel) ⟨Nat.le_of_ble_eq_true rfl, Nat.le_of_ble_eq_true rfl⟩) ⟨fun a U g mk q => by obtain ⟨q0, q1, qP, qK, qD⟩ := q; exact ⟨q0, q1, qP, va_K.moved (u := U) (U := U.calling g mk a) (Vm.Alike.refl U.vm) qK, qD⟩, va_recv hK hPc (ci := 9) (q0 := 0) rfl rfl, fun U hU hW => ⟨rfl, by rw [hU], by rw [hU]; exact hPc, va_K.moved hW.alike hK, hDc.weaken (fun _ _ _ _ => trivial)⟩⟩ rfl rfl hl.1 rfl (lv_room (Nat.le_of_ble_eq_true rfl)) dX12_reckon_75 ⟨Nat.le_of_ble_eq_true rfl, Nat.le_of_ble_eq_true rfl⟩) hS (fun q _ h => hFc q h) hFc (fun x_50 u t H1 locs ht hvm w_51 hB hz1 hk1 hS => ?_)
              obtain ⟨u_52, u_53⟩ := u
              obtain ⟨hP1, hK1, hD1⟩ := hB
              rw [ht] at hP1
              try dsimp only at w_51
              obtain ⟨hP, hD⟩ := va_join (wr := []) (w1 := [(h, .inr (9, [.int u_52, .int h_taped, .ref h_tape, .int h_size, .ref h_text, .double u_53, .int h_out, .ref h_output, .int h_illAt, .ref h_format, .int h_sections, .int h_items, .ref h_kind, .ref h_what, .ref h_of, .ref h_relation, .ref h_bound, .int h_reads, .int h_readSections, .ref h_readKind, .ref h_readWhat, .ref h_readOf, .ref h_place, .ref h_readRelation, .ref h_readBound, .int h_stop, .ref h_meant, .ref h_row, .ref h_exact, .ref h_error, .ref h_bestError, .long h_m, .int h_e, .ref h_digits, .int h_whole]))]) hP hD [0] [] rfl rfl (by decide) (by decide) hk1 hFc hP1 hD1
              generalize H1 = H at hP hS ⊢
              have hP : va_P D vwCl [(h, .inr (9, [.int u_52, .int h_taped, .ref h_tape, .int h_size, .ref h_text, .double u_53, .int h_out, .ref h_output, .int h_illAt, .ref h_format, .int h_sections, .int h_items, .ref h_kind, .ref h_what, .ref h_of, .ref h_relation, .ref h_bound, .int h_reads, .int h_readSections, .ref h_readKind, .ref h_readWhat, .ref h_readOf, .ref h_place, .ref h_readRelation, .ref h_readBound, .int h_stop, .ref h_meant, .ref h_row, .ref h_exact, .ref h_error, .ref h_bestError, .long h_m, .int h_e, .ref h_digits, .int h_whole]))] H := hP
              have hD : va_D A [(h, .inr (9, [.int u_52, .int h_taped, .ref h_tape, .int h_size, .ref h_text, .double u_53, .int h_out, .ref h_output, .int h_illAt, .ref h_format, .int h_sections, .int h_items, .ref h_kind, .ref h_what, .ref h_of, .ref h_relation, .ref h_bound, .int h_reads, .int h_readSections, .ref h_readKind, .ref h_readWhat, .ref h_readOf, .ref h_place, .ref h_readRelation, .ref h_readBound, .int h_stop, .ref h_meant, .ref h_row, .ref h_exact, .ref h_error, .ref h_bestError, .long h_m, .int h_e, .ref h_digits, .int h_whole]))] := hD
              obtain ⟨w_51_0, w_51_1, w_51_2⟩ := w_51
              have b_x_50 := ti_b x_50
              refine W.endD hd_49 ?_
              have hP9 := hP.sub (ws' := [(h, .inr (9, [.int u_52, .int h_taped, .ref h_tape, .int h_size, .ref h_text, .double u_53, .int h_out, .ref h_output, .int h_illAt, .ref h_format, .int h_sections, .int h_items, .ref h_kind, .ref h_what, .ref h_of, .ref h_relation, .ref h_bound, .int h_reads, .int h_readSections, .ref h_readKind, .ref h_readWhat, .ref h_readOf, .ref h_place, .ref h_readRelation, .ref h_readBound, .int h_stop, .ref h_meant, .ref h_row, .ref h_exact, .ref h_error, .ref h_bestError, .long h_m, .int h_e, .ref h_digits, .int h_whole]))]) [0] rfl
              have hD9 := hD.sub (ws' := [(h, .inr (9, [.int u_52, .int h_taped, .ref h_tape, .int h_size, .ref h_text, .double u_53, .int h_out, .ref h_output, .int h_illAt, .ref h_format, .int h_sections, .int h_items, .ref h_kind, .ref h_what, .ref h_of, .ref h_relation, .ref h_bound, .int h_reads, .int h_readSections, .ref h_readKind, .ref h_readWhat, .ref h_readOf, .ref h_place, .ref h_readRelation, .ref h_readBound, .int h_stop, .ref h_meant, .ref h_row, .ref h_exact, .ref h_error, .ref h_bestError, .long h_m, .int h_e, .ref h_digits, .int h_whole]))]) [0] (by decide) rfl
              exact W.zret (v := x_50) hx hb hr (nz01 (by omega)) (fun t ht hW => ⟨⟨x_50, (u_52, u_53), rfl, (by (try dsimp only); refine ⟨?_, ?_, ?_⟩ <;> first | omega | assumption | (subst_vars; exact Or.inl ⟨by unfold rbad; omega, rfl, rfl⟩) | (refine Or.inr ⟨by subst_vars; unfold rbad; omega, d_48, (by first | exact rk_0 (by omega) (by assumption) | exact rk_1 (by omega) (by assumption) | exact rk_2 (by omega) (by assumption) | exact rk_3 (by omega) (by assumption)), ?_⟩; assumption)), by rw [ht]; exact hP9, va_K.moved hW.alike hK, hD9⟩, hS.F ht⟩) hS.2.2 dX12_reckon_78
          · have ic_33 : (p1 : Int32).toInt = (0 : Int32).toInt := (fa_eq p1 0).mp c_33
            refine lv_aload_n hx hb dX12_reckon_32 rfl (lv_at hl 0 rfl) ?_
            refine va_get (s := s.setDrawn s.drawn) (D := D) (ci := 9) (v := .double h_value) (C := RX12) (T := TX12) (N := 35) hx hb (dr_words hts _) iX12 hown hK hP 0 rfl rfl 5 (by decide) (hw 1 (.fieldLink RX12 95 "NumberFormatsModel" "value" "D") rfl) (fun _ h9 => h9) rfl dX12_reckon_33 ?_
            refine lv_dload_n hx hb dX12_reckon_36 rfl (lv_at hl 2 rfl) ?_
            refine lv_dadd_any hd0 lw_bits hx hb dX12_reckon_37 (fun d_54 dhd_55 ad_54 hd_55 => ?_)
            refine lv_goto (tgt := 75) hx hb dX12_reckon_38 (by decide) ?_
            have hPc := hP.sub (ws' := [(h, .inr (9, [.int 0, .int h_taped, .ref h_tape, .int h_size, .ref h_text, .double h_value, .int h_out, .ref h_output, .int h_illAt, .ref h_format, .int h_sections, .int h_items, .ref h_kind, .ref h_what, .ref h_of, .ref h_relation, .ref h_bound, .int h_reads, .int h_readSections, .ref h_readKind, .ref h_readWhat, .ref h_readOf, .ref h_place, .ref h_readRelation, .ref h_readBound, .int h_stop, .ref h_meant, .ref h_row, .ref h_exact, .ref h_error, .ref h_bestError, .long h_m, .int h_e, .ref h_digits, .int h_whole]))]) [0] rfl
            have hDc := hD.sub (ws' := [(h, .inr (9, [.int 0, .int h_taped, .ref h_tape, .int h_size, .ref h_text, .double h_value, .int h_out, .ref h_output, .int h_illAt, .ref h_format, .int h_sections, .int h_items, .ref h_kind, .ref h_what, .ref h_of, .ref h_relation, .ref h_bound, .int h_reads, .int h_readSections, .ref h_readKind, .ref h_readWhat, .ref h_readOf, .ref h_place, .ref h_readRelation, .ref h_readBound, .int h_stop, .ref h_meant, .ref h_row, .ref h_exact, .ref h_error, .ref h_bestError, .long h_m, .int h_e, .ref h_digits, .int h_whole]))]) [0] (by decide) rfl
            have hFc := va_free (wc := [(h, .inr (9, [.int 0, .int h_taped, .ref h_tape, .int h_size, .ref h_text, .double h_value, .int h_out, .ref h_output, .int h_illAt, .ref h_format, .int h_sections, .int h_items, .ref h_kind, .ref h_what, .ref h_of, .ref h_relation, .ref h_bound, .int h_reads, .int h_readSections, .ref h_readKind, .ref h_readWhat, .ref h_readOf, .ref h_place, .ref h_readRelation, .ref h_readBound, .int h_stop, .ref h_meant, .ref h_row, .ref h_exact, .ref h_error, .ref h_bestError, .long h_m, .int h_e, .ref h_digits, .int h_whole]))]) hD hS hA [0] rfl
            refine va_calli (va_runV (As := [.double d_54]) (rest := []) ⟨hx, hb, hml, hown, (dr_words hts _)⟩ (c_X12_set l D cI cD cJ H.size h 0 h_taped h_tape h_size h_text h_value h_out h_output h_illAt h_format h_sections h_items h_kind h_what h_of h_relation h_bound h_reads h_readSections h_readKind h_readWhat h_readOf h_place h_readRelation h_readBound h_stop h_meant h_row h_exact h_error h_bestError h_m h_e h_digits h_whole d_54 (by omega) (by omega) (by assumption) (by omega) (by omega) (by omega) (by omega) (by omega) (by omega)) (cwV 1 (dr_words hts _) (goodIn_app (goodIn_r _ [3, 4, 5, 6] rfl (by decide +kernel)) (goodIn_sub i_X12_set k_X12_set)) rfl rfl rfl (by decide +kernel) ⟨Nat.le_of_ble_eq_true rfl, Nat.le_of_ble_eq_true rfl⟩) ⟨fun a U g mk q => by obtain ⟨q0, q1, qP, qK, qD⟩ := q; exact ⟨q0, q1, qP, va_K.moved (u := U) (U := U.calling g mk a) (Vm.Alike.refl U.vm) qK, qD⟩, va_recv hK hPc (ci := 9) (q0 := 0) rfl rfl, fun U hU hW => ⟨rfl, by rw [hU], by rw [hU]; exact hPc, va_K.moved hW.alike hK, hDc.weaken (fun _ _ _ _ => trivial)⟩⟩ rfl rfl hl.1 rfl (lv_room (Nat.le_of_ble_eq_true rfl)) dX12_reckon_75 ⟨Nat.le_of_ble_eq_true rfl, Nat.le_of_ble_eq_true rfl⟩) hS (fun q _ h => hFc q h) hFc (fun x_56 u t H1 locs ht hvm w_57 hB hz1 hk1 hS => ?_)
            obtain ⟨u_58, u_59⟩ := u
            obtain ⟨hP1, hK1, hD1⟩ := hB
            rw [ht] at hP1
            try dsimp only at w_57
            obtain ⟨hP, hD⟩ := va_join (wr := []) (w1 := [(h, .inr (9, [.int u_58, .int h_taped, .ref h_tape, .int h_size, .ref h_text, .double u_59, .int h_out, .ref h_output, .int h_illAt, .ref h_format, .int h_sections, .int h_items, .ref h_kind, .ref h_what, .ref h_of, .ref h_relation, .ref h_bound, .int h_reads, .int h_readSections, .ref h_readKind, .ref h_readWhat, .ref h_readOf, .ref h_place, .ref h_readRelation, .ref h_readBound, .int h_stop, .ref h_meant, .ref h_row, .ref h_exact, .ref h_error, .ref h_bestError, .long h_m, .int h_e, .ref h_digits, .int h_whole]))]) hP hD [0] [] rfl rfl (by decide) (by decide) hk1 hFc hP1 hD1
            generalize H1 = H at hP hS ⊢
            have hP : va_P D vwCl [(h, .inr (9, [.int u_58, .int h_taped, .ref h_tape, .int h_size, .ref h_text, .double u_59, .int h_out, .ref h_output, .int h_illAt, .ref h_format, .int h_sections, .int h_items, .ref h_kind, .ref h_what, .ref h_of, .ref h_relation, .ref h_bound, .int h_reads, .int h_readSections, .ref h_readKind, .ref h_readWhat, .ref h_readOf, .ref h_place, .ref h_readRelation, .ref h_readBound, .int h_stop, .ref h_meant, .ref h_row, .ref h_exact, .ref h_error, .ref h_bestError, .long h_m, .int h_e, .ref h_digits, .int h_whole]))] H := hP
            have hD : va_D A [(h, .inr (9, [.int u_58, .int h_taped, .ref h_tape, .int h_size, .ref h_text, .double u_59, .int h_out, .ref h_output, .int h_illAt, .ref h_format, .int h_sections, .int h_items, .ref h_kind, .ref h_what, .ref h_of, .ref h_relation, .ref h_bound, .int h_reads, .int h_readSections, .ref h_readKind, .ref h_readWhat, .ref h_readOf, .ref h_place, .ref h_readRelation, .ref h_readBound, .int h_stop, .ref h_meant, .ref h_row, .ref h_exact, .ref h_error, .ref h_bestError, .long h_m, .int h_e, .ref h_digits, .int h_whole]))] := hD
            obtain ⟨w_57_0, w_57_1, w_57_2⟩ := w_57
            have b_x_56 := ti_b x_56
            refine W.endD hd_55 ?_
            have hP9 := hP.sub (ws' := [(h, .inr (9, [.int u_58, .int h_taped, .ref h_tape, .int h_size, .ref h_text, .double u_59, .int h_out, .ref h_output, .int h_illAt, .ref h_format, .int h_sections, .int h_items, .ref h_kind, .ref h_what, .ref h_of, .ref h_relation, .ref h_bound, .int h_reads, .int h_readSections, .ref h_readKind, .ref h_readWhat, .ref h_readOf, .ref h_place, .ref h_readRelation, .ref h_readBound, .int h_stop, .ref h_meant, .ref h_row, .ref h_exact, .ref h_error, .ref h_bestError, .long h_m, .int h_e, .ref h_digits, .int h_whole]))]) [0] rfl
            have hD9 := hD.sub (ws' := [(h, .inr (9, [.int u_58, .int h_taped, .ref h_tape, .int h_size, .ref h_text, .double u_59, .int h_out, .ref h_output, .int h_illAt, .ref h_format, .int h_sections, .int h_items, .ref h_kind, .ref h_what, .ref h_of, .ref h_relation, .ref h_bound, .int h_reads, .int h_readSections, .ref h_readKind, .ref h_readWhat, .ref h_readOf, .ref h_place, .ref h_readRelation, .ref h_readBound, .int h_stop, .ref h_meant, .ref h_row, .ref h_exact, .ref h_error, .ref h_bestError, .long h_m, .int h_e, .ref h_digits, .int h_whole]))]) [0] (by decide) rfl
            exact W.zret (v := x_56) hx hb hr (nz01 (by omega)) (fun t ht hW => ⟨⟨x_56, (u_58, u_59), rfl, (by (try dsimp only); refine ⟨?_, ?_, ?_⟩ <;> first | omega | assumption | (subst_vars; exact Or.inl ⟨by unfold rbad; omega, rfl, rfl⟩) | (refine Or.inr ⟨by subst_vars; unfold rbad; omega, d_54, (by first | exact rk_0 (by omega) (by assumption) | exact rk_1 (by omega) (by assumption) | exact rk_2 (by omega) (by assumption) | exact rk_3 (by omega) (by assumption)), ?_⟩; assumption)), by rw [ht]; exact hP9, va_K.moved hW.alike hK, hD9⟩, hS.F ht⟩) hS.2.2 dX12_reckon_78
        · have ic_32 : (x_31 : Int32).toInt = (0 : Int32).toInt := (fa_eq x_31 0).mp c_32
          refine lv_iconst (v := 0) hx hb dX12_reckon_25 (by decide) ?_
          refine W.endD hd0 ?_
          have hP9 := hP.sub (ws' := [(h, .inr (9, [.int 0, .int h_taped, .ref h_tape, .int h_size, .ref h_text, .double h_value, .int h_out, .ref h_output, .int h_illAt, .ref h_format, .int h_sections, .int h_items, .ref h_kind, .ref h_what, .ref h_of, .ref h_relation, .ref h_bound, .int h_reads, .int h_readSections, .ref h_readKind, .ref h_readWhat, .ref h_readOf, .ref h_place, .ref h_readRelation, .ref h_readBound, .int h_stop, .ref h_meant, .ref h_row, .ref h_exact, .ref h_error, .ref h_bestError, .long h_m, .int h_e, .ref h_digits, .int h_whole]))]) [0] rfl
          have hD9 := hD.sub (ws' := [(h, .inr (9, [.int 0, .int h_taped, .ref h_tape, .int h_size, .ref h_text, .double h_value, .int h_out, .ref h_output, .int h_illAt, .ref h_format, .int h_sections, .int h_items, .ref h_kind, .ref h_what, .ref h_of, .ref h_relation, .ref h_bound, .int h_reads, .int h_readSections, .ref h_readKind, .ref h_readWhat, .ref h_readOf, .ref h_place, .ref h_readRelation, .ref h_readBound, .int h_stop, .ref h_meant, .ref h_row, .ref h_exact, .ref h_error, .ref h_bestError, .long h_m, .int h_e, .ref h_digits, .int h_whole]))]) [0] (by decide) rfl
          exact W.zret (v := 0) hx hb hr rfl (fun t ht hW => ⟨⟨0, (0, h_value), rfl, (by (try dsimp only); refine ⟨?_, ?_, ?_⟩ <;> first | omega | assumption | (subst_vars; exact Or.inl ⟨by unfold rbad; omega, rfl, rfl⟩) | (refine Or.inr ⟨by subst_vars; unfold rbad; omega, 0, (by first | exact rk_0 (by omega) (by assumption) | exact rk_1 (by omega) (by assumption) | exact rk_2 (by omega) (by assumption) | exact rk_3 (by omega) (by assumption)), ?_⟩; assumption)), by rw [ht]; exact hP9, va_K.moved hW.alike hK, hD9⟩, hS.F ht⟩) hS.2.2 dX12_reckon_26

def ow_X12_clear : List Cond := []
def pw_X12_clear : List Cond := Cond.code yX12_clear cX12_clear 2 none :: (ow_X12_clear)
set_option maxRecDepth 20000 in
theorem mo_X12_clear : ∀ w ∈ ow_X12_clear, w ∈ lw_tbl := by decide +kernel
set_option maxRecDepth 20000 in
theorem mc_X12_clear : Cond.code yX12_clear cX12_clear 2 none ∈ lw_tbl := by decide +kernel
theorem m_X12_clear : ∀ w ∈ pw_X12_clear, w ∈ lw_tbl := List.forall_mem_cons.mpr ⟨mc_X12_clear, mo_X12_clear⟩
theorem ko_X12_clear : ∀ w ∈ ow_X12_clear, goodWord w = true := by decide +kernel
theorem k_X12_clear : pw_X12_clear.all goodWord = true := List.all_eq_true.mpr (List.forall_mem_cons.mpr ⟨by decide +kernel, ko_X12_clear⟩)
set_option maxHeartbeats 400000 in
set_option maxRecDepth 100000 in
theorem c_X12_clear (l : Launch) (D : va_G) (cI cD cJ : ClassId) (sz : Nat) (ar_r : Nat) (ar_rF : Nat → Int32) : Met l yX12_clear pw_X12_clear ({ frames := 0, cells := 0, slots := 0, locals := 0 }) (va_Pc [.ref ar_r] (fun U => U.heap.size = sz ∧ va_P D vwCl [(ar_r, .inl (cI, 1420, .inl ar_rF))] U.heap ∧ va_K D vwCl (ty3 cI cD cJ) U ∧ va_D (fun _ => True) [(ar_r, .inl (cI, 1420, .inl ar_rF))])) (va_Qv (fun (ar_rF2 : (Nat → Int32)) => (Zer ar_rF2)) (fun (ar_rF2 : (Nat → Int32)) (t : State) => va_P D vwCl [(ar_r, .inl (cI, 1420, .inl ar_rF2))] t.heap ∧ va_K D vwCl (ty3 cI cD cJ) t ∧ va_D (va_A [(ar_r, .inl (cI, 1420, .inl ar_rF))] sz) [(ar_r, .inl (cI, 1420, .inl ar_rF2))]) (va_A [(ar_r, .inl (cI, 1420, .inl ar_rF))] sz)) 0 0 (va_A [(ar_r, .inl (cI, 1420, .inl ar_rF))] sz) := by
  refine Met.ofW (cc := cX12_clear) (maxL := 2) (ret := none) (by decide +kernel) rfl ?_
  intro p e s m args below meth c s₁ B hml hv
  obtain ⟨rfl, hsz, hP, hK, hD0⟩ := hv
  have hx := B.exec
  have hb := B.bytes
  have hr := B.returns
  have hts := atoms_spec (ws := pw_X12_clear) B.pre
  have hown : s.vm.findClass RX12 = some m.cls := findClass_of_methodNamed B.named
  have hlocks := B.notSynchronized
  subst hsz
  have hD := hD0.self (sz := s.heap.size)
  generalize hAe : va_A [(ar_r, .inl (cI, 1420, .inl ar_rF))] s.heap.size = A at hD ⊢
  have hA : ∀ q : Nat, s.heap.size ≤ q → A q := fun q h => by rw [← hAe]; exact Or.inr h
  have hS : va_S A s.heap s.heap [] := va_S.rf
  have hw : ∀ (k : Nat) (w : Cond), ow_X12_clear[k]? = some w → w.before _ s = true := fun k w h => hts w (List.mem_cons_of_mem _ (have h9 := List.mem_of_getElem? h; h9))
  have n_0 : ((0 : Int32)).toInt = 0 := by decide
  have n_1 : ((1 : Int32)).toInt = 1 := by decide
  have n_1420 : ((1420 : Int32)).toInt = 1420 := by decide
  have hl := lv_entry ([.ref ar_r]) (n := 2) (Nat.le_of_ble_eq_true rfl)
  rw [lg_entry_eq]
  generalize (lg_sl ([.ref ar_r]) ++ List.replicate (2 - (lg_sl ([.ref ar_r])).length) Slot.unset).toArray = ls at hl ⊢
  have hl : lv_has ls 2 [(0, .ref ar_r)] := hl
  refine zz_cap (fun Z hZ1 hZ2 => ?_)
  refine lv_iconst (v := 0) hx hb dX12_clear_0 (by decide) ?_
  refine lv_istore_n (lv' := [(1, .int 0), (0, .ref ar_r)]) hx hb dX12_clear_1 rfl hl (by decide) rfl (fun ls hl => ?_)
  have L_2 : ∀ (N : Nat) (x_1 : Int32) (f_2 : Nat → Int32) (H : Heap) (locs : List Loc) (ls : Array Slot), (ZIn f_2 x_1) → (0 ≤ (x_1 : Int32).toInt) → ((2147483647 - (x_1 : Int32).toInt).toNat < N) → va_P D vwCl [(ar_r, .inl (cI, 1420, .inl f_2))] H → va_D A [(ar_r, .inl (cI, 1420, .inl f_2))] → va_S A s.heap H locs → lv_has ls 2 [(1, .int x_1), (0, .ref ar_r)] → Z 0 0 H locs (F0 m 2 ls []) := by
    intro N
    induction N with
    | zero => intro _ _ _ _ _ _ _ hmu; exact absurd hmu (Nat.not_lt_zero _)
    | succ N ih_2 =>
      intro x_1 f_2 H locs ls g2_0 g2_1 hmu hP hD hS hl
      refine hZ2 ?_
      refine lv_iload_n hx hb dX12_clear_2 rfl (lv_at hl 0 rfl) ?_
      refine lv_sipush (v := 1420) hx hb dX12_clear_3 (by decide) ?_
      refine lv_icmp_ge (tgt := 19) hx hb dX12_clear_6 (by decide) (fun c_3 => ?_) (fun c_3 => ?_)
      · have ic_3 : (1420 : Int32).toInt ≤ (x_1 : Int32).toInt := (fa_le 1420 x_1).mp c_3
        have hP9 := hP.sub (ws' := [(ar_r, .inl (cI, 1420, .inl f_2))]) [0] rfl
        have hD9 := hD.sub (ws' := [(ar_r, .inl (cI, 1420, .inl f_2))]) [0] (by decide) rfl
        exact W.vret hx hb hr (fun t ht hW => ⟨⟨(f_2), rfl, (by (try dsimp only); first | omega | assumption | exact Zer_of g2_0 (by omega)), by rw [ht]; exact hP9, va_K.moved hW.alike hK, hD9⟩, hS.F ht⟩) hS.2.2 dX12_clear_19
      · have ic_3 : ¬ ((1420 : Int32).toInt ≤ (x_1 : Int32).toInt) := fun h9 => c_3 ((fa_le 1420 x_1).mpr h9)
        refine lv_aload_n hx hb dX12_clear_9 rfl (lv_at hl 1 rfl) ?_
        refine lv_iload_n hx hb dX12_clear_10 rfl (lv_at hl 0 rfl) ?_
        refine lv_iconst (v := 0) hx hb dX12_clear_11 (by decide) ?_
        have h_12 : vp_in x_1 1420 := by rw [vp_in_iff]; omega
        refine va_iast hx hb hK hP hD hS 0 0 rfl rfl h_12 dX12_clear_12 (fun H locs hP hD hS => ?_)
        obtain ⟨f_4, ef_4⟩ : ∃ y : Nat → Int32, y = upd f_2 (x_1 : Int32).toNatClampNeg 0 := ⟨_, rfl⟩
        rw [← ef_4] at hP hD
        have hP : va_P D vwCl [(ar_r, .inl (cI, 1420, .inl f_4))] H := hP
        have hD : va_D A [(ar_r, .inl (cI, 1420, .inl f_4))] := hD
        obtain ⟨x_5, ex_5⟩ : ∃ y : Int32, y = x_1 + 1 := ⟨_, rfl⟩
        have b_x_1 := ti_b x_1
        have tx_5 := ti_add ex_5
        refine lv_iinc (v := x_5) (lv' := [(1, .int x_5), (0, .ref ar_r)]) hx hb dX12_clear_13 hl (k := 0) rfl (by rw [ex_5]; rfl) (by decide) rfl (fun ls hl => ?_)
        refine lv_goto (tgt := 2) hx hb dX12_clear_16 (by decide) ?_
        exact hZ1 (ih_2 x_5 f_4 _ _ _ (ZIn_step g2_0 (by omega) ef_4 ex_5) (by omega) (by omega) hP hD hS hl)
  exact hZ1 (L_2 (((2147483647 - (0 : Int32).toInt).toNat) + 1) 0 ar_rF _ _ _ ZIn_0 (by omega) (by omega) hP hD hS hl)

def ow_X12_copy : List Cond := []
def pw_X12_copy : List Cond := Cond.code yX12_copy cX12_copy 3 none :: (ow_X12_copy)
set_option maxRecDepth 20000 in
theorem mo_X12_copy : ∀ w ∈ ow_X12_copy, w ∈ lw_tbl := by decide +kernel
set_option maxRecDepth 20000 in
theorem mc_X12_copy : Cond.code yX12_copy cX12_copy 3 none ∈ lw_tbl := by decide +kernel
theorem m_X12_copy : ∀ w ∈ pw_X12_copy, w ∈ lw_tbl := List.forall_mem_cons.mpr ⟨mc_X12_copy, mo_X12_copy⟩
theorem ko_X12_copy : ∀ w ∈ ow_X12_copy, goodWord w = true := by decide +kernel
theorem k_X12_copy : pw_X12_copy.all goodWord = true := List.all_eq_true.mpr (List.forall_mem_cons.mpr ⟨by decide +kernel, ko_X12_copy⟩)
set_option maxHeartbeats 400000 in
set_option maxRecDepth 100000 in
theorem c_X12_copy (l : Launch) (D : va_G) (cI cD cJ : ClassId) (sz : Nat) (ar_from : Nat) (ar_fromF : Nat → Int32) (ar_to : Nat) (ar_toF : Nat → Int32) : Met l yX12_copy pw_X12_copy ({ frames := 0, cells := 0, slots := 0, locals := 0 }) (va_Pc [.ref ar_from, .ref ar_to] (fun U => U.heap.size = sz ∧ va_P D vwCl [(ar_from, .inl (cI, 1420, .inl ar_fromF)), (ar_to, .inl (cI, 1420, .inl ar_toF))] U.heap ∧ va_K D vwCl (ty3 cI cD cJ) U ∧ va_D (fun _ => True) [(ar_from, .inl (cI, 1420, .inl ar_fromF)), (ar_to, .inl (cI, 1420, .inl ar_toF))])) (va_Qv (fun (ar_toF2 : (Nat → Int32)) => (Cpy ar_fromF ar_toF2)) (fun (ar_toF2 : (Nat → Int32)) (t : State) => va_P D vwCl [(ar_from, .inl (cI, 1420, .inl ar_fromF)), (ar_to, .inl (cI, 1420, .inl ar_toF2))] t.heap ∧ va_K D vwCl (ty3 cI cD cJ) t ∧ va_D (va_A [(ar_from, .inl (cI, 1420, .inl ar_fromF)), (ar_to, .inl (cI, 1420, .inl ar_toF))] sz) [(ar_from, .inl (cI, 1420, .inl ar_fromF)), (ar_to, .inl (cI, 1420, .inl ar_toF2))]) (va_A [(ar_from, .inl (cI, 1420, .inl ar_fromF)), (ar_to, .inl (cI, 1420, .inl ar_toF))] sz)) 0 0 (va_A [(ar_from, .inl (cI, 1420, .inl ar_fromF)), (ar_to, .inl (cI, 1420, .inl ar_toF))] sz) := by
  refine Met.ofW (cc := cX12_copy) (maxL := 3) (ret := none) (by decide +kernel) rfl ?_
  intro p e s m args below meth c s₁ B hml hv
  obtain ⟨rfl, hsz, hP, hK, hD0⟩ := hv
  have hx := B.exec
  have hb := B.bytes
  have hr := B.returns
  have hts := atoms_spec (ws := pw_X12_copy) B.pre
  have hown : s.vm.findClass RX12 = some m.cls := findClass_of_methodNamed B.named
  have hlocks := B.notSynchronized
  subst hsz
  have hD := hD0.self (sz := s.heap.size)
  generalize hAe : va_A [(ar_from, .inl (cI, 1420, .inl ar_fromF)), (ar_to, .inl (cI, 1420, .inl ar_toF))] s.heap.size = A at hD ⊢
  have hA : ∀ q : Nat, s.heap.size ≤ q → A q := fun q h => by rw [← hAe]; exact Or.inr h
  have hS : va_S A s.heap s.heap [] := va_S.rf
  have hw : ∀ (k : Nat) (w : Cond), ow_X12_copy[k]? = some w → w.before _ s = true := fun k w h => hts w (List.mem_cons_of_mem _ (have h9 := List.mem_of_getElem? h; h9))
  have n_0 : ((0 : Int32)).toInt = 0 := by decide
  have n_1 : ((1 : Int32)).toInt = 1 := by decide
  have n_1420 : ((1420 : Int32)).toInt = 1420 := by decide
  have hl := lv_entry ([.ref ar_from, .ref ar_to]) (n := 3) (Nat.le_of_ble_eq_true rfl)
  rw [lg_entry_eq]
  generalize (lg_sl ([.ref ar_from, .ref ar_to]) ++ List.replicate (3 - (lg_sl ([.ref ar_from, .ref ar_to])).length) Slot.unset).toArray = ls at hl ⊢
  have hl : lv_has ls 3 [(0, .ref ar_from), (1, .ref ar_to)] := hl
  refine zz_cap (fun Z hZ1 hZ2 => ?_)
  refine lv_iconst (v := 0) hx hb dX12_copy_0 (by decide) ?_
  refine lv_istore_n (lv' := [(2, .int 0), (0, .ref ar_from), (1, .ref ar_to)]) hx hb dX12_copy_1 rfl hl (by decide) rfl (fun ls hl => ?_)
  have L_2 : ∀ (N : Nat) (x_1 : Int32) (f_2 : Nat → Int32) (H : Heap) (locs : List Loc) (ls : Array Slot), (YIn ar_fromF f_2 x_1) → (0 ≤ (x_1 : Int32).toInt) → ((2147483647 - (x_1 : Int32).toInt).toNat < N) → va_P D vwCl [(ar_from, .inl (cI, 1420, .inl ar_fromF)), (ar_to, .inl (cI, 1420, .inl f_2))] H → va_D A [(ar_from, .inl (cI, 1420, .inl ar_fromF)), (ar_to, .inl (cI, 1420, .inl f_2))] → va_S A s.heap H locs → lv_has ls 3 [(2, .int x_1), (0, .ref ar_from), (1, .ref ar_to)] → Z 0 0 H locs (F0 m 2 ls []) := by
    intro N
    induction N with
    | zero => intro _ _ _ _ _ _ _ hmu; exact absurd hmu (Nat.not_lt_zero _)
    | succ N ih_2 =>
      intro x_1 f_2 H locs ls g2_0 g2_1 hmu hP hD hS hl
      refine hZ2 ?_
      refine lv_iload_n hx hb dX12_copy_2 rfl (lv_at hl 0 rfl) ?_
      refine lv_sipush (v := 1420) hx hb dX12_copy_3 (by decide) ?_
      refine lv_icmp_ge (tgt := 21) hx hb dX12_copy_6 (by decide) (fun c_3 => ?_) (fun c_3 => ?_)
      · have ic_3 : (1420 : Int32).toInt ≤ (x_1 : Int32).toInt := (fa_le 1420 x_1).mp c_3
        have hP9 := hP.sub (ws' := [(ar_from, .inl (cI, 1420, .inl ar_fromF)), (ar_to, .inl (cI, 1420, .inl f_2))]) [0, 1] rfl
        have hD9 := hD.sub (ws' := [(ar_from, .inl (cI, 1420, .inl ar_fromF)), (ar_to, .inl (cI, 1420, .inl f_2))]) [0, 1] (by decide) rfl
        exact W.vret hx hb hr (fun t ht hW => ⟨⟨(f_2), rfl, (by (try dsimp only); first | omega | assumption | exact Cpy_of g2_0 (by omega)), by rw [ht]; exact hP9, va_K.moved hW.alike hK, hD9⟩, hS.F ht⟩) hS.2.2 dX12_copy_21
      · have ic_3 : ¬ ((1420 : Int32).toInt ≤ (x_1 : Int32).toInt) := fun h9 => c_3 ((fa_le 1420 x_1).mpr h9)
        refine lv_aload_n hx hb dX12_copy_9 rfl (lv_at hl 2 rfl) ?_
        refine lv_iload_n hx hb dX12_copy_10 rfl (lv_at hl 0 rfl) ?_
        refine lv_aload_n hx hb dX12_copy_11 rfl (lv_at hl 1 rfl) ?_
        refine lv_iload_n hx hb dX12_copy_12 rfl (lv_at hl 0 rfl) ?_
        have h_13 : vp_in x_1 1420 := by rw [vp_in_iff]; omega
        refine va_iald hx hb hK hP 0 0 rfl rfl h_13 dX12_copy_13 ?_
        refine lv_topi (fun x_4 ex_4 => ?_)
        have h_14 : vp_in x_1 1420 := by rw [vp_in_iff]; omega
        refine va_iast hx hb hK hP hD hS 1 0 rfl rfl h_14 dX12_copy_14 (fun H locs hP hD hS => ?_)
        obtain ⟨f_5, ef_5⟩ : ∃ y : Nat → Int32, y = upd f_2 (x_1 : Int32).toNatClampNeg x_4 := ⟨_, rfl⟩
        rw [← ef_5] at hP hD
        have hP : va_P D vwCl [(ar_from, .inl (cI, 1420, .inl ar_fromF)), (ar_to, .inl (cI, 1420, .inl f_5))] H := hP
        have hD : va_D A [(ar_from, .inl (cI, 1420, .inl ar_fromF)), (ar_to, .inl (cI, 1420, .inl f_5))] := hD
        obtain ⟨x_6, ex_6⟩ : ∃ y : Int32, y = x_1 + 1 := ⟨_, rfl⟩
        have b_x_1 := ti_b x_1
        have tx_6 := ti_add ex_6
        refine lv_iinc (v := x_6) (lv' := [(2, .int x_6), (0, .ref ar_from), (1, .ref ar_to)]) hx hb dX12_copy_15 hl (k := 0) rfl (by rw [ex_6]; rfl) (by decide) rfl (fun ls hl => ?_)
        refine lv_goto (tgt := 2) hx hb dX12_copy_18 (by decide) ?_
        exact hZ1 (ih_2 x_6 f_5 _ _ _ (YIn_step g2_0 (by omega) ex_4 ef_5 ex_6) (by omega) (by omega) hP hD hS hl)
  exact hZ1 (L_2 (((2147483647 - (0 : Int32).toInt).toNat) + 1) 0 ar_toF _ _ _ YIn_0 (by omega) (by omega) hP hD hS hl)

def ow_X12_compare : List Cond := []
def pw_X12_compare : List Cond := Cond.code yX12_compare cX12_compare 3 (some .int) :: (ow_X12_compare)
set_option maxRecDepth 20000 in
theorem mo_X12_compare : ∀ w ∈ ow_X12_compare, w ∈ lw_tbl := by decide +kernel
set_option maxRecDepth 20000 in
theorem mc_X12_compare : Cond.code yX12_compare cX12_compare 3 (some .int) ∈ lw_tbl := by decide +kernel
theorem m_X12_compare : ∀ w ∈ pw_X12_compare, w ∈ lw_tbl := List.forall_mem_cons.mpr ⟨mc_X12_compare, mo_X12_compare⟩
theorem ko_X12_compare : ∀ w ∈ ow_X12_compare, goodWord w = true := by decide +kernel
theorem k_X12_compare : pw_X12_compare.all goodWord = true := List.all_eq_true.mpr (List.forall_mem_cons.mpr ⟨by decide +kernel, ko_X12_compare⟩)
set_option maxHeartbeats 400000 in
set_option maxRecDepth 100000 in
theorem c_X12_compare (l : Launch) (D : va_G) (cI cD cJ : ClassId) (sz : Nat) (ar_a : Nat) (ar_aF : Nat → Int32) (ar_b : Nat) (ar_bF : Nat → Int32) : Met l yX12_compare pw_X12_compare ({ frames := 0, cells := 0, slots := 0, locals := 0 }) (va_Pc [.ref ar_a, .ref ar_b] (fun U => va_P D vwCl [(ar_a, .inl (cI, 1420, .inl ar_aF)), (ar_b, .inl (cI, 1420, .inl ar_bF))] U.heap ∧ va_K D vwCl (ty3 cI cD cJ) U)) (va_Qi (fun (r : Int32) (u : Unit) => (Cmp ar_aF ar_bF r)) (fun _ _ => True) (fun _ => False)) 0 0 (fun _ => False) := by
  refine Met.ofW (cc := cX12_compare) (maxL := 3) (ret := (some .int)) (by decide +kernel) rfl ?_
  intro p e s m args below meth c s₁ B hml hv
  obtain ⟨rfl, hP, hK⟩ := hv
  have hx := B.exec
  have hb := B.bytes
  have hr := B.returns
  have hts := atoms_spec (ws := pw_X12_compare) B.pre
  have hown : s.vm.findClass RX12 = some m.cls := findClass_of_methodNamed B.named
  have hlocks := B.notSynchronized
  have hS : va_S (fun _ => False) s.heap s.heap [] := va_S.rf
  have hw : ∀ (k : Nat) (w : Cond), ow_X12_compare[k]? = some w → w.before _ s = true := fun k w h => hts w (List.mem_cons_of_mem _ (have h9 := List.mem_of_getElem? h; h9))
  have n_m1 : (((-1) : Int32)).toInt = (-1) := by decide
  have n_0 : ((0 : Int32)).toInt = 0 := by decide
  have n_1 : ((1 : Int32)).toInt = 1 := by decide
  have n_1420 : ((1420 : Int32)).toInt = 1420 := by decide
  have hl := lv_entry ([.ref ar_a, .ref ar_b]) (n := 3) (Nat.le_of_ble_eq_true rfl)
  rw [lg_entry_eq]
  generalize (lg_sl ([.ref ar_a, .ref ar_b]) ++ List.replicate (3 - (lg_sl ([.ref ar_a, .ref ar_b])).length) Slot.unset).toArray = ls at hl ⊢
  have hl : lv_has ls 3 [(0, .ref ar_a), (1, .ref ar_b)] := hl
  refine zz_cap (fun Z hZ1 hZ2 => ?_)
  refine lv_iconst (v := 0) hx hb dX12_compare_0 (by decide) ?_
  refine lv_istore_n (lv' := [(2, .int 0), (0, .ref ar_a), (1, .ref ar_b)]) hx hb dX12_compare_1 rfl hl (by decide) rfl (fun ls hl => ?_)
  have L_2 : ∀ (N : Nat) (x_1 : Int32) (H : Heap) (locs : List Loc) (ls : Array Slot), (CIn ar_aF ar_bF x_1) → (0 ≤ (x_1 : Int32).toInt) → ((2147483647 - (x_1 : Int32).toInt).toNat < N) → va_P D vwCl [(ar_a, .inl (cI, 1420, .inl ar_aF)), (ar_b, .inl (cI, 1420, .inl ar_bF))] H → va_S (fun _ => False) s.heap H locs → lv_has ls 3 [(2, .int x_1), (0, .ref ar_a), (1, .ref ar_b)] → Z 0 0 H locs (F0 m 2 ls []) := by
    intro N
    induction N with
    | zero => intro _ _ _ _ _ _ hmu; exact absurd hmu (Nat.not_lt_zero _)
    | succ N ih_2 =>
      intro x_1 H locs ls g2_0 g2_1 hmu hP hS hl
      refine hZ2 ?_
      refine lv_iload_n hx hb dX12_compare_2 rfl (lv_at hl 0 rfl) ?_
      refine lv_sipush (v := 1420) hx hb dX12_compare_3 (by decide) ?_
      refine lv_icmp_ge (tgt := 39) hx hb dX12_compare_6 (by decide) (fun c_2 => ?_) (fun c_2 => ?_)
      · have ic_2 : (1420 : Int32).toInt ≤ (x_1 : Int32).toInt := (fa_le 1420 x_1).mp c_2
        refine lv_iconst (v := 0) hx hb dX12_compare_39 (by decide) ?_
        exact W.iret (v := 0) hx hb hr (fun t ht hW => ⟨⟨0, (), rfl, (by (try dsimp only); first | omega | assumption | exact Cmp_eq g2_0 (by omega) | exact Cmp_lt g2_0 (by omega) missing_e20 missing_e23 (by omega) | exact Cmp_gt2 g2_0 (by omega) missing_e11 missing_e14 (by omega) missing_e20 missing_e23 (by omega)), trivial⟩, hS.F ht⟩) hS.2.2 dX12_compare_40
      · have ic_2 : ¬ ((1420 : Int32).toInt ≤ (x_1 : Int32).toInt) := fun h9 => c_2 ((fa_le 1420 x_1).mpr h9)
        refine lv_aload_n hx hb dX12_compare_9 rfl (lv_at hl 1 rfl) ?_
        refine lv_iload_n hx hb dX12_compare_10 rfl (lv_at hl 0 rfl) ?_
        have h_11 : vp_in x_1 1420 := by rw [vp_in_iff]; omega
        refine va_iald hx hb hK hP 0 0 rfl rfl h_11 dX12_compare_11 ?_
        refine lv_topi (fun x_3 ex_3 => ?_)
        refine lv_aload_n hx hb dX12_compare_12 rfl (lv_at hl 2 rfl) ?_
        refine lv_iload_n hx hb dX12_compare_13 rfl (lv_at hl 0 rfl) ?_
        have h_14 : vp_in x_1 1420 := by rw [vp_in_iff]; omega
        refine va_iald hx hb hK hP 1 0 rfl rfl h_14 dX12_compare_14 ?_
        refine lv_topi (fun x_4 ex_4 => ?_)
        refine lv_icmp_eq (tgt := 33) hx hb dX12_compare_15 (by decide) (fun c_5 => ?_) (fun c_5 => ?_)
        · have ic_5 : (x_3 : Int32).toInt = (x_4 : Int32).toInt := (fa_eq x_3 x_4).mp c_5
          obtain ⟨x_6, ex_6⟩ : ∃ y : Int32, y = x_1 + 1 := ⟨_, rfl⟩
          have b_x_1 := ti_b x_1
          have tx_6 := ti_add ex_6
          refine lv_iinc (v := x_6) (lv' := [(2, .int x_6), (0, .ref ar_a), (1, .ref ar_b)]) hx hb dX12_compare_33 hl (k := 0) rfl (by rw [ex_6]; rfl) (by decide) rfl (fun ls hl => ?_)
          refine lv_goto (tgt := 2) hx hb dX12_compare_36 (by decide) ?_
          exact hZ1 (ih_2 x_6 _ _ _ (CIn_step g2_0 (by omega) ex_3 ex_4 (by omega) ex_6) (by omega) (by omega) hP hS hl)
        · have ic_5 : ¬ ((x_3 : Int32).toInt = (x_4 : Int32).toInt) := fun h9 => c_5 ((fa_eq x_3 x_4).mpr h9)
          refine lv_aload_n hx hb dX12_compare_18 rfl (lv_at hl 1 rfl) ?_
          refine lv_iload_n hx hb dX12_compare_19 rfl (lv_at hl 0 rfl) ?_
          have h_20 : vp_in x_1 1420 := by rw [vp_in_iff]; omega
          refine va_iald hx hb hK hP 0 0 rfl rfl h_20 dX12_compare_20 ?_
          refine lv_topi (fun x_7 ex_7 => ?_)
          refine lv_aload_n hx hb dX12_compare_21 rfl (lv_at hl 2 rfl) ?_
          refine lv_iload_n hx hb dX12_compare_22 rfl (lv_at hl 0 rfl) ?_
          have h_23 : vp_in x_1 1420 := by rw [vp_in_iff]; omega
          refine va_iald hx hb hK hP 1 0 rfl rfl h_23 dX12_compare_23 ?_
          refine lv_topi (fun x_8 ex_8 => ?_)
          refine lv_icmp_ge (tgt := 31) hx hb dX12_compare_24 (by decide) (fun c_9 => ?_) (fun c_9 => ?_)
          · have ic_9 : (x_8 : Int32).toInt ≤ (x_7 : Int32).toInt := (fa_le x_8 x_7).mp c_9
            refine lv_iconst (v := 1) hx hb dX12_compare_31 (by decide) ?_
            exact W.iret (v := 1) hx hb hr (fun t ht hW => ⟨⟨1, (), rfl, (by (try dsimp only); first | omega | assumption | exact Cmp_eq g2_0 (by omega) | exact Cmp_lt g2_0 (by omega) ex_7 ex_8 (by omega) | exact Cmp_gt2 g2_0 (by omega) ex_3 ex_4 (by omega) ex_7 ex_8 (by omega)), trivial⟩, hS.F ht⟩) hS.2.2 dX12_compare_32
          · have ic_9 : ¬ ((x_8 : Int32).toInt ≤ (x_7 : Int32).toInt) := fun h9 => c_9 ((fa_le x_8 x_7).mpr h9)
            refine lv_iconst (v := (-1)) hx hb dX12_compare_27 (by decide) ?_
            refine lv_goto (tgt := 32) hx hb dX12_compare_28 (by decide) ?_
            exact W.iret (v := (-1)) hx hb hr (fun t ht hW => ⟨⟨(-1), (), rfl, (by (try dsimp only); first | omega | assumption | exact Cmp_eq g2_0 (by omega) | exact Cmp_lt g2_0 (by omega) ex_7 ex_8 (by omega) | exact Cmp_gt2 g2_0 (by omega) ex_3 ex_4 (by omega) ex_7 ex_8 (by omega)), trivial⟩, hS.F ht⟩) hS.2.2 dX12_compare_32
  exact hZ1 (L_2 (((2147483647 - (0 : Int32).toInt).toNat) + 1) 0 _ _ _ CIn_0 (by omega) (by omega) hP hS hl)

def ow_X12_first : List Cond := []
def pw_X12_first : List Cond := Cond.code yX12_first cX12_first 2 (some .int) :: (ow_X12_first)
set_option maxRecDepth 20000 in
theorem mo_X12_first : ∀ w ∈ ow_X12_first, w ∈ lw_tbl := by decide +kernel
set_option maxRecDepth 20000 in
theorem mc_X12_first : Cond.code yX12_first cX12_first 2 (some .int) ∈ lw_tbl := by decide +kernel
theorem m_X12_first : ∀ w ∈ pw_X12_first, w ∈ lw_tbl := List.forall_mem_cons.mpr ⟨mc_X12_first, mo_X12_first⟩
theorem ko_X12_first : ∀ w ∈ ow_X12_first, goodWord w = true := by decide +kernel
theorem k_X12_first : pw_X12_first.all goodWord = true := List.all_eq_true.mpr (List.forall_mem_cons.mpr ⟨by decide +kernel, ko_X12_first⟩)
set_option maxHeartbeats 400000 in
set_option maxRecDepth 100000 in
theorem c_X12_first (l : Launch) (D : va_G) (cI cD cJ : ClassId) (sz : Nat) (ar_r : Nat) (ar_rF : Nat → Int32) : Met l yX12_first pw_X12_first ({ frames := 0, cells := 0, slots := 0, locals := 0 }) (va_Pc [.ref ar_r] (fun U => va_P D vwCl [(ar_r, .inl (cI, 1420, .inl ar_rF))] U.heap ∧ va_K D vwCl (ty3 cI cD cJ) U)) (va_Qi (fun (r : Int32) (u : Unit) => (Fst ar_rF r)) (fun _ _ => True) (fun _ => False)) 0 0 (fun _ => False) := by
  refine Met.ofW (cc := cX12_first) (maxL := 2) (ret := (some .int)) (by decide +kernel) rfl ?_
  intro p e s m args below meth c s₁ B hml hv
  obtain ⟨rfl, hP, hK⟩ := hv
  have hx := B.exec
  have hb := B.bytes
  have hr := B.returns
  have hts := atoms_spec (ws := pw_X12_first) B.pre
  have hown : s.vm.findClass RX12 = some m.cls := findClass_of_methodNamed B.named
  have hlocks := B.notSynchronized
  have hS : va_S (fun _ => False) s.heap s.heap [] := va_S.rf
  have hw : ∀ (k : Nat) (w : Cond), ow_X12_first[k]? = some w → w.before _ s = true := fun k w h => hts w (List.mem_cons_of_mem _ (have h9 := List.mem_of_getElem? h; h9))
  have n_0 : ((0 : Int32)).toInt = 0 := by decide
  have n_1 : ((1 : Int32)).toInt = 1 := by decide
  have n_1420 : ((1420 : Int32)).toInt = 1420 := by decide
  have hl := lv_entry ([.ref ar_r]) (n := 2) (Nat.le_of_ble_eq_true rfl)
  rw [lg_entry_eq]
  generalize (lg_sl ([.ref ar_r]) ++ List.replicate (2 - (lg_sl ([.ref ar_r])).length) Slot.unset).toArray = ls at hl ⊢
  have hl : lv_has ls 2 [(0, .ref ar_r)] := hl
  refine zz_cap (fun Z hZ1 hZ2 => ?_)
  refine lv_iconst (v := 0) hx hb dX12_first_0 (by decide) ?_
  refine lv_istore_n (lv' := [(1, .int 0), (0, .ref ar_r)]) hx hb dX12_first_1 rfl hl (by decide) rfl (fun ls hl => ?_)
  have L_2 : ∀ (N : Nat) (x_1 : Int32) (H : Heap) (locs : List Loc) (ls : Array Slot), (FIn ar_rF x_1) → (0 ≤ (x_1 : Int32).toInt) → ((2147483647 - (x_1 : Int32).toInt).toNat < N) → va_P D vwCl [(ar_r, .inl (cI, 1420, .inl ar_rF))] H → va_S (fun _ => False) s.heap H locs → lv_has ls 2 [(1, .int x_1), (0, .ref ar_r)] → Z 0 0 H locs (F0 m 2 ls []) := by
    intro N
    induction N with
    | zero => intro _ _ _ _ _ _ hmu; exact absurd hmu (Nat.not_lt_zero _)
    | succ N ih_2 =>
      intro x_1 H locs ls g2_0 g2_1 hmu hP hS hl
      refine hZ2 ?_
      refine lv_iload_n hx hb dX12_first_2 rfl (lv_at hl 0 rfl) ?_
      refine lv_sipush (v := 1420) hx hb dX12_first_3 (by decide) ?_
      refine lv_icmp_ge (tgt := 21) hx hb dX12_first_6 (by decide) (fun c_2 => ?_) (fun c_2 => ?_)
      · have ic_2 : (1420 : Int32).toInt ≤ (x_1 : Int32).toInt := (fa_le 1420 x_1).mp c_2
        refine lv_iload_n hx hb dX12_first_21 rfl (lv_at hl 0 rfl) ?_
        exact W.iret (v := x_1) hx hb hr (fun t ht hW => ⟨⟨x_1, (), rfl, (by (try dsimp only); first | omega | assumption | exact Fst_of g2_0 (by omega) | exact Fst_at g2_0 missing_e11 (by omega)), trivial⟩, hS.F ht⟩) hS.2.2 dX12_first_22
      · have ic_2 : ¬ ((1420 : Int32).toInt ≤ (x_1 : Int32).toInt) := fun h9 => c_2 ((fa_le 1420 x_1).mpr h9)
        refine lv_aload_n hx hb dX12_first_9 rfl (lv_at hl 1 rfl) ?_
        refine lv_iload_n hx hb dX12_first_10 rfl (lv_at hl 0 rfl) ?_
        have h_11 : vp_in x_1 1420 := by rw [vp_in_iff]; omega
        refine va_iald hx hb hK hP 0 0 rfl rfl h_11 dX12_first_11 ?_
        refine lv_topi (fun x_3 ex_3 => ?_)
        refine lv_if_ne (tgt := 21) hx hb dX12_first_12 (by decide) (fun c_4 => ?_) (fun c_4 => ?_)
        · have ic_4 : ¬ ((x_3 : Int32).toInt = (0 : Int32).toInt) := fun h9 => c_4 ((fa_eq x_3 0).mpr h9)
          refine lv_iload_n hx hb dX12_first_21 rfl (lv_at hl 0 rfl) ?_
          exact W.iret (v := x_1) hx hb hr (fun t ht hW => ⟨⟨x_1, (), rfl, (by (try dsimp only); first | omega | assumption | exact Fst_of g2_0 (by omega) | exact Fst_at g2_0 ex_3 (by omega)), trivial⟩, hS.F ht⟩) hS.2.2 dX12_first_22
        · have ic_4 : (x_3 : Int32).toInt = (0 : Int32).toInt := (fa_eq x_3 0).mp c_4
          obtain ⟨x_5, ex_5⟩ : ∃ y : Int32, y = x_1 + 1 := ⟨_, rfl⟩
          have b_x_1 := ti_b x_1
          have tx_5 := ti_add ex_5
          refine lv_iinc (v := x_5) (lv' := [(1, .int x_5), (0, .ref ar_r)]) hx hb dX12_first_15 hl (k := 0) rfl (by rw [ex_5]; rfl) (by decide) rfl (fun ls hl => ?_)
          refine lv_goto (tgt := 2) hx hb dX12_first_18 (by decide) ?_
          exact hZ1 (ih_2 x_5 _ _ _ (FIn_step g2_0 (by omega) ex_3 (by omega) ex_5) (by omega) (by omega) hP hS hl)
  exact hZ1 (L_2 (((2147483647 - (0 : Int32).toInt).toNat) + 1) 0 _ _ _ FIn_0 (by omega) (by omega) hP hS hl)

def ow_X12_last : List Cond := []
def pw_X12_last : List Cond := Cond.code yX12_last cX12_last 2 (some .int) :: (ow_X12_last)
set_option maxRecDepth 20000 in
theorem mo_X12_last : ∀ w ∈ ow_X12_last, w ∈ lw_tbl := by decide +kernel
set_option maxRecDepth 20000 in
theorem mc_X12_last : Cond.code yX12_last cX12_last 2 (some .int) ∈ lw_tbl := by decide +kernel
theorem m_X12_last : ∀ w ∈ pw_X12_last, w ∈ lw_tbl := List.forall_mem_cons.mpr ⟨mc_X12_last, mo_X12_last⟩
theorem ko_X12_last : ∀ w ∈ ow_X12_last, goodWord w = true := by decide +kernel
theorem k_X12_last : pw_X12_last.all goodWord = true := List.all_eq_true.mpr (List.forall_mem_cons.mpr ⟨by decide +kernel, ko_X12_last⟩)
set_option maxHeartbeats 400000 in
set_option maxRecDepth 100000 in
theorem c_X12_last (l : Launch) (D : va_G) (cI cD cJ : ClassId) (sz : Nat) (ar_r : Nat) (ar_rF : Nat → Int32) : Met l yX12_last pw_X12_last ({ frames := 0, cells := 0, slots := 0, locals := 0 }) (va_Pc [.ref ar_r] (fun U => va_P D vwCl [(ar_r, .inl (cI, 1420, .inl ar_rF))] U.heap ∧ va_K D vwCl (ty3 cI cD cJ) U)) (va_Qi (fun (r : Int32) (u : Unit) => (Lst ar_rF r)) (fun _ _ => True) (fun _ => False)) 0 0 (fun _ => False) := by
  refine Met.ofW (cc := cX12_last) (maxL := 2) (ret := (some .int)) (by decide +kernel) rfl ?_
  intro p e s m args below meth c s₁ B hml hv
  obtain ⟨rfl, hP, hK⟩ := hv
  have hx := B.exec
  have hb := B.bytes
  have hr := B.returns
  have hts := atoms_spec (ws := pw_X12_last) B.pre
  have hown : s.vm.findClass RX12 = some m.cls := findClass_of_methodNamed B.named
  have hlocks := B.notSynchronized
  have hS : va_S (fun _ => False) s.heap s.heap [] := va_S.rf
  have hw : ∀ (k : Nat) (w : Cond), ow_X12_last[k]? = some w → w.before _ s = true := fun k w h => hts w (List.mem_cons_of_mem _ (have h9 := List.mem_of_getElem? h; h9))
  have n_m1 : (((-1) : Int32)).toInt = (-1) := by decide
  have n_0 : ((0 : Int32)).toInt = 0 := by decide
  have n_1419 : ((1419 : Int32)).toInt = 1419 := by decide
  have hl := lv_entry ([.ref ar_r]) (n := 2) (Nat.le_of_ble_eq_true rfl)
  rw [lg_entry_eq]
  generalize (lg_sl ([.ref ar_r]) ++ List.replicate (2 - (lg_sl ([.ref ar_r])).length) Slot.unset).toArray = ls at hl ⊢
  have hl : lv_has ls 2 [(0, .ref ar_r)] := hl
  refine zz_cap (fun Z hZ1 hZ2 => ?_)
  refine lv_sipush (v := 1419) hx hb dX12_last_0 (by decide) ?_
  refine lv_istore_n (lv' := [(1, .int 1419), (0, .ref ar_r)]) hx hb dX12_last_3 rfl hl (by decide) rfl (fun ls hl => ?_)
  have L_4 : ∀ (N : Nat) (x_1 : Int32) (H : Heap) (locs : List Loc) (ls : Array Slot), (LIn ar_rF x_1) → ((x_1 : Int32).toInt ≤ 1419) → (((x_1 : Int32).toInt + 2147483648).toNat < N) → va_P D vwCl [(ar_r, .inl (cI, 1420, .inl ar_rF))] H → va_S (fun _ => False) s.heap H locs → lv_has ls 2 [(1, .int x_1), (0, .ref ar_r)] → Z 0 0 H locs (F0 m 4 ls []) := by
    intro N
    induction N with
    | zero => intro _ _ _ _ _ _ hmu; exact absurd hmu (Nat.not_lt_zero _)
    | succ N ih_4 =>
      intro x_1 H locs ls g4_0 g4_1 hmu hP hS hl
      refine hZ2 ?_
      refine lv_iload_n hx hb dX12_last_4 rfl (lv_at hl 0 rfl) ?_
      refine lv_if_lt (tgt := 20) hx hb dX12_last_5 (by decide) (fun c_2 => ?_) (fun c_2 => ?_)
      · have ic_2 : (x_1 : Int32).toInt < (0 : Int32).toInt := (fa_lt x_1 0).mp c_2
        refine lv_iload_n hx hb dX12_last_20 rfl (lv_at hl 0 rfl) ?_
        exact W.iret (v := x_1) hx hb hr (fun t ht hW => ⟨⟨x_1, (), rfl, (by (try dsimp only); first | omega | assumption | exact Lst_of g4_0 (by omega) | exact Lst_at g4_0 missing_e10 (by omega)), trivial⟩, hS.F ht⟩) hS.2.2 dX12_last_21
      · have ic_2 : ¬ ((x_1 : Int32).toInt < (0 : Int32).toInt) := fun h9 => c_2 ((fa_lt x_1 0).mpr h9)
        refine lv_aload_n hx hb dX12_last_8 rfl (lv_at hl 1 rfl) ?_
        refine lv_iload_n hx hb dX12_last_9 rfl (lv_at hl 0 rfl) ?_
        have h_10 : vp_in x_1 1420 := by rw [vp_in_iff]; omega
        refine va_iald hx hb hK hP 0 0 rfl rfl h_10 dX12_last_10 ?_
        refine lv_topi (fun x_3 ex_3 => ?_)
        refine lv_if_ne (tgt := 20) hx hb dX12_last_11 (by decide) (fun c_4 => ?_) (fun c_4 => ?_)
        · have ic_4 : ¬ ((x_3 : Int32).toInt = (0 : Int32).toInt) := fun h9 => c_4 ((fa_eq x_3 0).mpr h9)
          refine lv_iload_n hx hb dX12_last_20 rfl (lv_at hl 0 rfl) ?_
          exact W.iret (v := x_1) hx hb hr (fun t ht hW => ⟨⟨x_1, (), rfl, (by (try dsimp only); first | omega | assumption | exact Lst_of g4_0 (by omega) | exact Lst_at g4_0 ex_3 (by omega)), trivial⟩, hS.F ht⟩) hS.2.2 dX12_last_21
        · have ic_4 : (x_3 : Int32).toInt = (0 : Int32).toInt := (fa_eq x_3 0).mp c_4
          obtain ⟨x_5, ex_5⟩ : ∃ y : Int32, y = x_1 + (-1) := ⟨_, rfl⟩
          have b_x_1 := ti_b x_1
          have tx_5 := ti_add ex_5
          refine lv_iinc (v := x_5) (lv' := [(1, .int x_5), (0, .ref ar_r)]) hx hb dX12_last_14 hl (k := 0) rfl (by rw [ex_5]; rfl) (by decide) rfl (fun ls hl => ?_)
          refine lv_goto (tgt := 4) hx hb dX12_last_17 (by decide) ?_
          exact hZ1 (ih_4 x_5 _ _ _ (LIn_step g4_0 (by omega) ex_3 (by omega) ex_5) (by omega) (by omega) hP hS hl)
  exact hZ1 (L_4 ((((1419 : Int32).toInt + 2147483648).toNat) + 1) 1419 _ _ _ LIn_0 (by omega) (by omega) hP hS hl)

def ow_X12_times : List Cond := [Cond.methodLink RX12 103 yX12_first, Cond.static yX12_first, Cond.initialized RX12, Cond.methodLink RX12 107 yX12_last, Cond.static yX12_last]
def pw_X12_times : List Cond := Cond.code yX12_times cX12_times 6 none :: (ow_X12_times ++ (pw_X12_first ++ (pw_X12_last)))
set_option maxRecDepth 20000 in
theorem mo_X12_times : ∀ w ∈ ow_X12_times, w ∈ lw_tbl := by decide +kernel
set_option maxRecDepth 20000 in
theorem mc_X12_times : Cond.code yX12_times cX12_times 6 none ∈ lw_tbl := by decide +kernel
theorem m_X12_times : ∀ w ∈ pw_X12_times, w ∈ lw_tbl := List.forall_mem_cons.mpr ⟨mc_X12_times, (List.forall_mem_append.mpr ⟨mo_X12_times, (List.forall_mem_append.mpr ⟨m_X12_first, m_X12_last⟩)⟩)⟩
theorem ko_X12_times : ∀ w ∈ ow_X12_times, goodWord w = true := by decide +kernel
theorem k_X12_times : pw_X12_times.all goodWord = true := List.all_eq_true.mpr (List.forall_mem_cons.mpr ⟨by decide +kernel, (List.forall_mem_append.mpr ⟨ko_X12_times, (List.forall_mem_append.mpr ⟨(List.all_eq_true.mp k_X12_first), (List.all_eq_true.mp k_X12_last)⟩)⟩)⟩)
set_option maxHeartbeats 400000 in
set_option maxRecDepth 100000 in
theorem c_X12_times (l : Launch) (D : va_G) (cI cD cJ : ClassId) (sz : Nat) (ar_r : Nat) (ar_rF : Nat → Int32) (p1 : Int32) : Met l yX12_times pw_X12_times ({ frames := 1, cells := 0, slots := 0, locals := 21 }) (va_Pc [.ref ar_r, .int p1] (fun U => U.heap.size = sz ∧ va_P D vwCl [(ar_r, .inl (cI, 1420, .inl ar_rF))] U.heap ∧ va_K D vwCl (ty3 cI cD cJ) U ∧ va_D (fun _ => True) [(ar_r, .inl (cI, 1420, .inl ar_rF))])) (va_Qv (fun (ar_rF2 : (Nat → Int32)) => (Tms ar_rF ar_rF2 p1)) (fun (ar_rF2 : (Nat → Int32)) (t : State) => va_P D vwCl [(ar_r, .inl (cI, 1420, .inl ar_rF2))] t.heap ∧ va_K D vwCl (ty3 cI cD cJ) t ∧ va_D (va_A [(ar_r, .inl (cI, 1420, .inl ar_rF))] sz) [(ar_r, .inl (cI, 1420, .inl ar_rF2))]) (va_A [(ar_r, .inl (cI, 1420, .inl ar_rF))] sz)) 0 0 (va_A [(ar_r, .inl (cI, 1420, .inl ar_rF))] sz) := by
  refine Met.ofW (cc := cX12_times) (maxL := 6) (ret := none) (by decide +kernel) rfl ?_
  intro p e s m args below meth c s₁ B hml hv
  obtain ⟨rfl, hsz, hP, hK, hD0⟩ := hv
  have hx := B.exec
  have hb := B.bytes
  have hr := B.returns
  have hts := atoms_spec (ws := pw_X12_times) B.pre
  have hown : s.vm.findClass RX12 = some m.cls := findClass_of_methodNamed B.named
  have hlocks := B.notSynchronized
  subst hsz
  have hD := hD0.self (sz := s.heap.size)
  generalize hAe : va_A [(ar_r, .inl (cI, 1420, .inl ar_rF))] s.heap.size = A at hD ⊢
  have hA : ∀ q : Nat, s.heap.size ≤ q → A q := fun q h => by rw [← hAe]; exact Or.inr h
  have hS : va_S A s.heap s.heap [] := va_S.rf
  have hw : ∀ (k : Nat) (w : Cond), ow_X12_times[k]? = some w → w.before _ s = true := fun k w h => hts w (List.mem_cons_of_mem _ (have h9 := List.mem_of_getElem? h; List.mem_append_left _ h9))
  have i_X12_first : ∀ w ∈ pw_X12_first, w ∈ pw_X12_times := fun w h9 => List.mem_cons_of_mem _ (List.mem_append_right _ (List.mem_append_left _ h9))
  have i_X12_last : ∀ w ∈ pw_X12_last, w ∈ pw_X12_times := fun w h9 => List.mem_cons_of_mem _ (List.mem_append_right _ (List.mem_append_right _ (h9)))
  have n_m1 : (((-1) : Int32)).toInt = (-1) := by decide
  have n_0 : ((0 : Int32)).toInt = 0 := by decide
  have n_10 : ((10 : Int32)).toInt = 10 := by decide
  have hl := lv_entry ([.ref ar_r, .int p1]) (n := 6) (Nat.le_of_ble_eq_true rfl)
  rw [lg_entry_eq]
  generalize (lg_sl ([.ref ar_r, .int p1]) ++ List.replicate (6 - (lg_sl ([.ref ar_r, .int p1])).length) Slot.unset).toArray = ls at hl ⊢
  have hl : lv_has ls 6 [(0, .ref ar_r), (1, .int p1)] := hl
  have b_p1 := ti_b p1
  refine zz_cap (fun Z hZ1 hZ2 => ?_)
  refine lv_iconst (v := 0) hx hb dX12_times_0 (by decide) ?_
  refine lv_istore_n (lv' := [(2, .int 0), (0, .ref ar_r), (1, .int p1)]) hx hb dX12_times_1 rfl hl (by decide) rfl (fun ls hl => ?_)
  refine lv_aload_n hx hb dX12_times_2 rfl (lv_at hl 1 rfl) ?_
  have hPc := hP.sub (ws' := [(ar_r, .inl (cI, 1420, .inl ar_rF))]) [0] rfl
  refine va_calli (va_runS (As := [.ref ar_r]) (rest := []) ⟨hx, hb, hml, hown, hts⟩ (c_X12_first l D cI cD cJ s.heap.size ar_r ar_rF) (va_cwS 1 hts (goodIn_app (goodIn_r _ [1, 2, 3] rfl (by decide +kernel)) (goodIn_sub i_X12_first k_X12_first)) rfl rfl rfl (by decide +kernel) ⟨Nat.le_of_ble_eq_true rfl, Nat.le_of_ble_eq_true rfl⟩) ⟨fun a U g mk q => by obtain ⟨q0, qP, qK⟩ := q; exact ⟨q0, qP, va_K.moved (u := U) (U := U.calling g mk a) (Vm.Alike.refl U.vm) qK⟩, fun U hU hW => ⟨rfl, by rw [hU]; exact hPc, va_K.moved hW.alike hK⟩⟩ rfl rfl hl.1 rfl (lv_room (Nat.le_of_ble_eq_true rfl)) dX12_times_3 ⟨Nat.le_of_ble_eq_true rfl, Nat.le_of_ble_eq_true rfl⟩) hS (fun q _ h => h.elim) (fun q h => h.elim) (fun x_1 u t H1 locs ht hvm w_2 hB hz1 hk1 hS => ?_)
  have hP : va_P D vwCl [(ar_r, .inl (cI, 1420, .inl ar_rF))] H1 := hP.kept (fun k9 q9 h9 => hk1 q9.1 (vx_lt hP h9) (fun h => h))
  generalize H1 = H at hP hS ⊢
  try dsimp only at w_2
  have b_x_1 := ti_b x_1
  have hfs := w_2
  refine lv_istore_n (lv' := [(3, .int x_1), (2, .int 0), (0, .ref ar_r), (1, .int p1)]) hx hb dX12_times_6 rfl hl (by decide) rfl (fun ls hl => ?_)
  refine lv_aload_n hx hb dX12_times_7 rfl (lv_at hl 2 rfl) ?_
  have hPc := hP.sub (ws' := [(ar_r, .inl (cI, 1420, .inl ar_rF))]) [0] rfl
  refine va_calli (va_runS (As := [.ref ar_r]) (rest := []) ⟨hx, hb, hml, hown, hts⟩ (c_X12_last l D cI cD cJ H.size ar_r ar_rF) (va_cwS 1 hts (goodIn_app (goodIn_r _ [4, 5, 3] rfl (by decide +kernel)) (goodIn_sub i_X12_last k_X12_last)) rfl rfl rfl (by decide +kernel) ⟨Nat.le_of_ble_eq_true rfl, Nat.le_of_ble_eq_true rfl⟩) ⟨fun a U g mk q => by obtain ⟨q0, qP, qK⟩ := q; exact ⟨q0, qP, va_K.moved (u := U) (U := U.calling g mk a) (Vm.Alike.refl U.vm) qK⟩, fun U hU hW => ⟨rfl, by rw [hU]; exact hPc, va_K.moved hW.alike hK⟩⟩ rfl rfl hl.1 rfl (lv_room (Nat.le_of_ble_eq_true rfl)) dX12_times_8 ⟨Nat.le_of_ble_eq_true rfl, Nat.le_of_ble_eq_true rfl⟩) hS (fun q _ h => h.elim) (fun q h => h.elim) (fun x_3 u t H1 locs ht hvm w_4 hB hz1 hk1 hS => ?_)
  have hP : va_P D vwCl [(ar_r, .inl (cI, 1420, .inl ar_rF))] H1 := hP.kept (fun k9 q9 h9 => hk1 q9.1 (vx_lt hP h9) (fun h => h))
  generalize H1 = H at hP hS ⊢
  try dsimp only at w_4
  have b_x_3 := ti_b x_3
  have hls := w_4
  have hll := lst_lin w_4
  refine lv_istore (lv' := [(4, .int x_3), (3, .int x_1), (2, .int 0), (0, .ref ar_r), (1, .int p1)]) hx hb dX12_times_11 hl (by decide) rfl (fun ls hl => ?_)
  have L_13 : ∀ (N : Nat) (x_5 : Int32) (x_6 : Int32) (f_7 : Nat → Int32) (H : Heap) (locs : List Loc) (ls : Array Slot), (TIm ar_rF f_7 p1 x_5 x_6) → ((x_5 : Int32).toInt ≤ 1419) → (((x_5 : Int32).toInt + 2147483648).toNat < N) → va_P D vwCl [(ar_r, .inl (cI, 1420, .inl f_7))] H → va_D A [(ar_r, .inl (cI, 1420, .inl f_7))] → va_S A s.heap H locs → lv_has ls 6 [(4, .int x_5), (3, .int x_1), (2, .int x_6), (0, .ref ar_r), (1, .int p1)] → Z 0 0 H locs (F0 m 13 ls []) := by
    intro N
    induction N with
    | zero => intro _ _ _ _ _ _ _ _ hmu; exact absurd hmu (Nat.not_lt_zero _)
    | succ N ih_13 =>
      intro x_5 x_6 f_7 H locs ls g13_0 g13_1 hmu hP hD hS hl
      refine hZ2 ?_
      refine lv_iload hx hb dX12_times_13 (lv_at hl 0 rfl) ?_
      refine lv_if_lt (tgt := 59) hx hb dX12_times_15 (by decide) (fun c_8 => ?_) (fun c_8 => ?_)
      · have ic_8 : (x_5 : Int32).toInt < (0 : Int32).toInt := (fa_lt x_5 0).mp c_8
        have hP9 := hP.sub (ws' := [(ar_r, .inl (cI, 1420, .inl f_7))]) [0] rfl
        have hD9 := hD.sub (ws' := [(ar_r, .inl (cI, 1420, .inl f_7))]) [0] (by decide) rfl
        exact W.vret hx hb hr (fun t ht hW => ⟨⟨(f_7), rfl, (by (try dsimp only); first | omega | assumption | exact Tms_end g13_0 (by omega) | exact Tms_stop g13_0 hfs (by omega) (by omega)), by rw [ht]; exact hP9, va_K.moved hW.alike hK, hD9⟩, hS.F ht⟩) hS.2.2 dX12_times_59
      · have ic_8 : ¬ ((x_5 : Int32).toInt < (0 : Int32).toInt) := fun h9 => c_8 ((fa_lt x_5 0).mpr h9)
        refine lv_iload hx hb dX12_times_18 (lv_at hl 0 rfl) ?_
        refine lv_iload_n hx hb dX12_times_20 rfl (lv_at hl 1 rfl) ?_
        have K_28 : ∀ (H : Heap) (locs : List Loc) (ls : Array Slot), va_P D vwCl [(ar_r, .inl (cI, 1420, .inl f_7))] H → va_D A [(ar_r, .inl (cI, 1420, .inl f_7))] → va_S A s.heap H locs → lv_has ls 6 [(4, .int x_5), (3, .int x_1), (2, .int x_6), (0, .ref ar_r), (1, .int p1)] → Z 0 0 H locs (F0 m 28 ls []) := by
          intro  H locs ls  hP hD hS hl
          refine hZ2 ?_
          refine lv_aload_n hx hb dX12_times_28 rfl (lv_at hl 3 rfl) ?_
          refine lv_iload hx hb dX12_times_29 (lv_at hl 0 rfl) ?_
          have h_31 : vp_in x_5 1420 := by rw [vp_in_iff]; omega
          refine va_iald hx hb hK hP 0 0 rfl rfl h_31 dX12_times_31 ?_
          refine lv_topi (fun x_9 ex_9 => ?_)
          refine lv_iload_n hx hb dX12_times_32 rfl (lv_at hl 4 rfl) ?_
          refine lv_imul hx hb dX12_times_33 ?_
          refine lv_topi (fun x_10 ex_10 => ?_)
          refine lv_iload_n hx hb dX12_times_34 rfl (lv_at hl 2 rfl) ?_
          refine lv_iadd hx hb dX12_times_35 ?_
          refine lv_topi (fun x_11 ex_11 => ?_)
          have b_x_10 := ti_b x_10
          have b_x_6 := ti_b x_6
          have tx_11 := ti_add ex_11
          refine lv_istore (lv' := [(5, .int x_11), (4, .int x_5), (3, .int x_1), (2, .int x_6), (0, .ref ar_r), (1, .int p1)]) hx hb dX12_times_36 hl (by decide) rfl (fun ls hl => ?_)
          refine lv_aload_n hx hb dX12_times_38 rfl (lv_at hl 4 rfl) ?_
          refine lv_iload hx hb dX12_times_39 (lv_at hl 1 rfl) ?_
          refine lv_iload hx hb dX12_times_41 (lv_at hl 0 rfl) ?_
          refine lv_bipush (v := 10) hx hb dX12_times_43 (by decide) ?_
          refine lv_irem hx hb dX12_times_45 (by decide) ?_
          refine lv_topi (fun x_12 ex_12 => ?_)
          have tx_12 := ti_rem ex_12 (by decide)
          rw [n_10] at tx_12
          try (have ux_12 := ti_remE ex_12 (by decide) (by omega); rw [n_10] at ux_12)
          have h_46 : vp_in x_5 1420 := by rw [vp_in_iff]; omega
          refine va_iast hx hb hK hP hD hS 0 0 rfl rfl h_46 dX12_times_46 (fun H locs hP hD hS => ?_)
          obtain ⟨f_13, ef_13⟩ : ∃ y : Nat → Int32, y = upd f_7 (x_5 : Int32).toNatClampNeg x_12 := ⟨_, rfl⟩
          rw [← ef_13] at hP hD
          have hP : va_P D vwCl [(ar_r, .inl (cI, 1420, .inl f_13))] H := hP
          have hD : va_D A [(ar_r, .inl (cI, 1420, .inl f_13))] := hD
          refine lv_iload hx hb dX12_times_47 (lv_at hl 0 rfl) ?_
          refine lv_bipush (v := 10) hx hb dX12_times_49 (by decide) ?_
          refine lv_idiv hx hb dX12_times_51 (by decide) ?_
          refine lv_topi (fun x_14 ex_14 => ?_)
          have tx_14 := ti_div ex_14 (by decide)
          rw [n_10] at tx_14
          try (have ux_14 := ti_divE ex_14 (by decide) (by omega); rw [n_10] at ux_14)
          refine lv_istore_n (lv' := [(2, .int x_14), (5, .int x_11), (4, .int x_5), (3, .int x_1), (0, .ref ar_r), (1, .int p1)]) hx hb dX12_times_52 rfl hl (by decide) rfl (fun ls hl => ?_)
          obtain ⟨x_15, ex_15⟩ : ∃ y : Int32, y = x_5 + (-1) := ⟨_, rfl⟩
          have b_x_5 := ti_b x_5
          have tx_15 := ti_add ex_15
          refine lv_iinc (v := x_15) (lv' := [(4, .int x_15), (2, .int x_14), (5, .int x_11), (3, .int x_1), (0, .ref ar_r), (1, .int p1)]) hx hb dX12_times_53 hl (k := 2) rfl (by rw [ex_15]; rfl) (by decide) rfl (fun ls hl => ?_)
          refine lv_goto (tgt := 13) hx hb dX12_times_56 (by decide) ?_
          exact hZ1 (ih_13 x_15 x_14 f_13 _ _ _ (TIm_step g13_0 (by omega) ex_9 ex_10 ex_11 ex_12 ef_13 ex_14 ex_15) (by omega) (by omega) hP hD hS (lv_sub hl [0, 3, 1, 4, 5] rfl))
        refine lv_icmp_ge (tgt := 28) hx hb dX12_times_21 (by decide) (fun c_16 => ?_) (fun c_16 => ?_)
        · have ic_16 : (x_1 : Int32).toInt ≤ (x_5 : Int32).toInt := (fa_le x_1 x_5).mp c_16
          exact hZ1 (K_28  _ _ _ hP hD hS hl)
        · have ic_16 : ¬ ((x_1 : Int32).toInt ≤ (x_5 : Int32).toInt) := fun h9 => c_16 ((fa_le x_1 x_5).mpr h9)
          refine lv_iload_n hx hb dX12_times_24 rfl (lv_at hl 2 rfl) ?_
          refine lv_if_le (tgt := 59) hx hb dX12_times_25 (by decide) (fun c_17 => ?_) (fun c_17 => ?_)
          · have ic_17 : (x_6 : Int32).toInt ≤ (0 : Int32).toInt := (fa_le x_6 0).mp c_17
            have hP9 := hP.sub (ws' := [(ar_r, .inl (cI, 1420, .inl f_7))]) [0] rfl
            have hD9 := hD.sub (ws' := [(ar_r, .inl (cI, 1420, .inl f_7))]) [0] (by decide) rfl
            exact W.vret hx hb hr (fun t ht hW => ⟨⟨(f_7), rfl, (by (try dsimp only); first | omega | assumption | exact Tms_end g13_0 (by omega) | exact Tms_stop g13_0 hfs (by omega) (by omega)), by rw [ht]; exact hP9, va_K.moved hW.alike hK, hD9⟩, hS.F ht⟩) hS.2.2 dX12_times_59
          · have ic_17 : ¬ ((x_6 : Int32).toInt ≤ (0 : Int32).toInt) := fun h9 => c_17 ((fa_le x_6 0).mpr h9)
            exact hZ1 (K_28  _ _ _ hP hD hS hl)
  exact hZ1 (L_13 ((((x_3 : Int32).toInt + 2147483648).toNat) + 1) x_3 0 ar_rF _ _ _ (TIm_0 hls) (by omega) (by omega) hP hD hS hl)

def ow_X12_part : List Cond := [Cond.fieldLink RX12 63 "NumberFormatsModel" "row" "[I", Cond.methodLink RX12 107 yX12_last, Cond.static yX12_last, Cond.initialized RX12, Cond.methodLink RX12 103 yX12_first, Cond.static yX12_first]
def pw_X12_part : List Cond := Cond.code yX12_part cX12_part 6 none :: (ow_X12_part ++ (pw_X12_last ++ (pw_X12_first ++ (wsX120))))
set_option maxRecDepth 20000 in
theorem mo_X12_part : ∀ w ∈ ow_X12_part, w ∈ lw_tbl := by decide +kernel
set_option maxRecDepth 20000 in
theorem mc_X12_part : Cond.code yX12_part cX12_part 6 none ∈ lw_tbl := by decide +kernel
theorem m_X12_part : ∀ w ∈ pw_X12_part, w ∈ lw_tbl := List.forall_mem_cons.mpr ⟨mc_X12_part, (List.forall_mem_append.mpr ⟨mo_X12_part, (List.forall_mem_append.mpr ⟨m_X12_last, (List.forall_mem_append.mpr ⟨m_X12_first, inX12⟩)⟩)⟩)⟩
theorem ko_X12_part : ∀ w ∈ ow_X12_part, goodWord w = true := by decide +kernel
theorem k_X12_part : pw_X12_part.all goodWord = true := List.all_eq_true.mpr (List.forall_mem_cons.mpr ⟨by decide +kernel, (List.forall_mem_append.mpr ⟨ko_X12_part, (List.forall_mem_append.mpr ⟨(List.all_eq_true.mp k_X12_last), (List.forall_mem_append.mpr ⟨(List.all_eq_true.mp k_X12_first), kX_X12⟩)⟩)⟩)⟩)
set_option maxHeartbeats 400000 in
set_option maxRecDepth 100000 in
theorem c_X12_part (l : Launch) (D : va_G) (cI cD cJ : ClassId) (sz : Nat) (h : Nat) (h_code : Int32) (h_taped : Int32) (h_tape : Nat) (h_size : Int32) (h_text : Nat) (h_value : UInt64) (h_out : Int32) (h_output : Nat) (h_illAt : Int32) (h_format : Nat) (h_sections : Int32) (h_items : Int32) (h_kind : Nat) (h_what : Nat) (h_of : Nat) (h_relation : Nat) (h_bound : Nat) (h_reads : Int32) (h_readSections : Int32) (h_readKind : Nat) (h_readWhat : Nat) (h_readOf : Nat) (h_place : Nat) (h_readRelation : Nat) (h_readBound : Nat) (h_stop : Int32) (h_meant : Nat) (h_row : Nat) (h_exact : Nat) (h_error : Nat) (h_bestError : Nat) (h_m : Int64) (h_e : Int32) (h_digits : Nat) (h_whole : Int32) (h_rowF : Nat → Int32) (p1 : Int32) (hh0 : 2 ≤ p1.toInt) (iv_h_taped : 0 ≤ (h_taped : Int32).toInt ∧ (h_taped : Int32).toInt ≤ 260) (iv_h_size : 0 ≤ (h_size : Int32).toInt ∧ (h_size : Int32).toInt ≤ 255) (iv_h_value : inR h_value) (iv_h_out : 0 ≤ (h_out : Int32).toInt ∧ (h_out : Int32).toInt ≤ 1024) (iv_h_sections : 0 ≤ (h_sections : Int32).toInt ∧ (h_sections : Int32).toInt ≤ 4) (iv_h_items : 0 ≤ (h_items : Int32).toInt ∧ (h_items : Int32).toInt ≤ 255) (iv_h_reads : 0 ≤ (h_reads : Int32).toInt ∧ (h_reads : Int32).toInt ≤ 255) (iv_h_readSections : 0 ≤ (h_readSections : Int32).toInt ∧ (h_readSections : Int32).toInt ≤ 4) (iv_h_whole : 0 ≤ (h_whole : Int32).toInt ∧ (h_whole : Int32).toInt ≤ 1001) : Met l yX12_part pw_X12_part ({ frames := 1, cells := 0, slots := 0, locals := 21 }) (va_Pc [.ref h, .int p1] (fun U => U.heap.size = sz ∧ va_P D vwCl [(h, .inr (9, [.int h_code, .int h_taped, .ref h_tape, .int h_size, .ref h_text, .double h_value, .int h_out, .ref h_output, .int h_illAt, .ref h_format, .int h_sections, .int h_items, .ref h_kind, .ref h_what, .ref h_of, .ref h_relation, .ref h_bound, .int h_reads, .int h_readSections, .ref h_readKind, .ref h_readWhat, .ref h_readOf, .ref h_place, .ref h_readRelation, .ref h_readBound, .int h_stop, .ref h_meant, .ref h_row, .ref h_exact, .ref h_error, .ref h_bestError, .long h_m, .int h_e, .ref h_digits, .int h_whole])), (h_row, .inl (cI, 1420, .inl h_rowF))] U.heap ∧ va_K D vwCl (ty3 cI cD cJ) U ∧ va_D (fun _ => True) [(h, .inr (9, [.int h_code, .int h_taped, .ref h_tape, .int h_size, .ref h_text, .double h_value, .int h_out, .ref h_output, .int h_illAt, .ref h_format, .int h_sections, .int h_items, .ref h_kind, .ref h_what, .ref h_of, .ref h_relation, .ref h_bound, .int h_reads, .int h_readSections, .ref h_readKind, .ref h_readWhat, .ref h_readOf, .ref h_place, .ref h_readRelation, .ref h_readBound, .int h_stop, .ref h_meant, .ref h_row, .ref h_exact, .ref h_error, .ref h_bestError, .long h_m, .int h_e, .ref h_digits, .int h_whole])), (h_row, .inl (cI, 1420, .inl h_rowF))])) (va_Qv (fun (h_rowF2 : (Nat → Int32)) => (Prt h_rowF h_rowF2 p1)) (fun (h_rowF2 : (Nat → Int32)) (t : State) => va_P D vwCl [(h, .inr (9, [.int h_code, .int h_taped, .ref h_tape, .int h_size, .ref h_text, .double h_value, .int h_out, .ref h_output, .int h_illAt, .ref h_format, .int h_sections, .int h_items, .ref h_kind, .ref h_what, .ref h_of, .ref h_relation, .ref h_bound, .int h_reads, .int h_readSections, .ref h_readKind, .ref h_readWhat, .ref h_readOf, .ref h_place, .ref h_readRelation, .ref h_readBound, .int h_stop, .ref h_meant, .ref h_row, .ref h_exact, .ref h_error, .ref h_bestError, .long h_m, .int h_e, .ref h_digits, .int h_whole])), (h_row, .inl (cI, 1420, .inl h_rowF2))] t.heap ∧ va_K D vwCl (ty3 cI cD cJ) t ∧ va_D (va_A [(h, .inr (9, [.int h_code, .int h_taped, .ref h_tape, .int h_size, .ref h_text, .double h_value, .int h_out, .ref h_output, .int h_illAt, .ref h_format, .int h_sections, .int h_items, .ref h_kind, .ref h_what, .ref h_of, .ref h_relation, .ref h_bound, .int h_reads, .int h_readSections, .ref h_readKind, .ref h_readWhat, .ref h_readOf, .ref h_place, .ref h_readRelation, .ref h_readBound, .int h_stop, .ref h_meant, .ref h_row, .ref h_exact, .ref h_error, .ref h_bestError, .long h_m, .int h_e, .ref h_digits, .int h_whole])), (h_row, .inl (cI, 1420, .inl h_rowF))] sz) [(h, .inr (9, [.int h_code, .int h_taped, .ref h_tape, .int h_size, .ref h_text, .double h_value, .int h_out, .ref h_output, .int h_illAt, .ref h_format, .int h_sections, .int h_items, .ref h_kind, .ref h_what, .ref h_of, .ref h_relation, .ref h_bound, .int h_reads, .int h_readSections, .ref h_readKind, .ref h_readWhat, .ref h_readOf, .ref h_place, .ref h_readRelation, .ref h_readBound, .int h_stop, .ref h_meant, .ref h_row, .ref h_exact, .ref h_error, .ref h_bestError, .long h_m, .int h_e, .ref h_digits, .int h_whole])), (h_row, .inl (cI, 1420, .inl h_rowF2))]) (va_A [(h, .inr (9, [.int h_code, .int h_taped, .ref h_tape, .int h_size, .ref h_text, .double h_value, .int h_out, .ref h_output, .int h_illAt, .ref h_format, .int h_sections, .int h_items, .ref h_kind, .ref h_what, .ref h_of, .ref h_relation, .ref h_bound, .int h_reads, .int h_readSections, .ref h_readKind, .ref h_readWhat, .ref h_readOf, .ref h_place, .ref h_readRelation, .ref h_readBound, .int h_stop, .ref h_meant, .ref h_row, .ref h_exact, .ref h_error, .ref h_bestError, .long h_m, .int h_e, .ref h_digits, .int h_whole])), (h_row, .inl (cI, 1420, .inl h_rowF))] sz)) 0 0 (va_A [(h, .inr (9, [.int h_code, .int h_taped, .ref h_tape, .int h_size, .ref h_text, .double h_value, .int h_out, .ref h_output, .int h_illAt, .ref h_format, .int h_sections, .int h_items, .ref h_kind, .ref h_what, .ref h_of, .ref h_relation, .ref h_bound, .int h_reads, .int h_readSections, .ref h_readKind, .ref h_readWhat, .ref h_readOf, .ref h_place, .ref h_readRelation, .ref h_readBound, .int h_stop, .ref h_meant, .ref h_row, .ref h_exact, .ref h_error, .ref h_bestError, .long h_m, .int h_e, .ref h_digits, .int h_whole])), (h_row, .inl (cI, 1420, .inl h_rowF))] sz) := by
  refine Met.ofW (cc := cX12_part) (maxL := 6) (ret := none) (by decide +kernel) rfl ?_
  intro p e s m args below meth c s₁ B hml hv
  obtain ⟨rfl, hsz, hP, hK, hD0⟩ := hv
  have hx := B.exec
  have hb := B.bytes
  have hr := B.returns
  have hts := atoms_spec (ws := pw_X12_part) B.pre
  have hown : s.vm.findClass RX12 = some m.cls := findClass_of_methodNamed B.named
  have hlocks := B.notSynchronized
  subst hsz
  have hD := hD0.self (sz := s.heap.size)
  generalize hAe : va_A [(h, .inr (9, [.int h_code, .int h_taped, .ref h_tape, .int h_size, .ref h_text, .double h_value, .int h_out, .ref h_output, .int h_illAt, .ref h_format, .int h_sections, .int h_items, .ref h_kind, .ref h_what, .ref h_of, .ref h_relation, .ref h_bound, .int h_reads, .int h_readSections, .ref h_readKind, .ref h_readWhat, .ref h_readOf, .ref h_place, .ref h_readRelation, .ref h_readBound, .int h_stop, .ref h_meant, .ref h_row, .ref h_exact, .ref h_error, .ref h_bestError, .long h_m, .int h_e, .ref h_digits, .int h_whole])), (h_row, .inl (cI, 1420, .inl h_rowF))] s.heap.size = A at hD ⊢
  have hA : ∀ q : Nat, s.heap.size ≤ q → A q := fun q h => by rw [← hAe]; exact Or.inr h
  have hS : va_S A s.heap s.heap [] := va_S.rf
  have hw : ∀ (k : Nat) (w : Cond), ow_X12_part[k]? = some w → w.before _ s = true := fun k w h => hts w (List.mem_cons_of_mem _ (have h9 := List.mem_of_getElem? h; List.mem_append_left _ h9))
  have i_X12_last : ∀ w ∈ pw_X12_last, w ∈ pw_X12_part := fun w h9 => List.mem_cons_of_mem _ (List.mem_append_right _ (List.mem_append_left _ h9))
  have i_X12_first : ∀ w ∈ pw_X12_first, w ∈ pw_X12_part := fun w h9 => List.mem_cons_of_mem _ (List.mem_append_right _ (List.mem_append_right _ (List.mem_append_left _ h9)))
  have iX12 : ∀ w ∈ u_ws RX12 TX12 35, w ∈ pw_X12_part := fun w h9 => List.mem_cons_of_mem _ (List.mem_append_right _ (List.mem_append_right _ (List.mem_append_right _ (h9))))
  have n_0 : ((0 : Int32)).toInt = 0 := by decide
  have n_1 : ((1 : Int32)).toInt = 1 := by decide
  have n_10 : ((10 : Int32)).toInt = 10 := by decide
  have n_1420 : ((1420 : Int32)).toInt = 1420 := by decide
  have hl := lv_entry ([.ref h, .int p1]) (n := 6) (Nat.le_of_ble_eq_true rfl)
  rw [lg_entry_eq]
  generalize (lg_sl ([.ref h, .int p1]) ++ List.replicate (6 - (lg_sl ([.ref h, .int p1])).length) Slot.unset).toArray = ls at hl ⊢
  have hl : lv_has ls 6 [(0, .ref h), (1, .int p1)] := hl
  have b_p1 := ti_b p1
  refine zz_cap (fun Z hZ1 hZ2 => ?_)
  refine lv_iconst (v := 0) hx hb dX12_part_0 (by decide) ?_
  refine lv_istore_n (lv' := [(2, .int 0), (0, .ref h), (1, .int p1)]) hx hb dX12_part_1 rfl hl (by decide) rfl (fun ls hl => ?_)
  refine lv_aload_n hx hb dX12_part_2 rfl (lv_at hl 1 rfl) ?_
  refine va_get (D := D) (ci := 9) (v := .ref h_row) (C := RX12) (T := TX12) (N := 35) hx hb hts iX12 hown hK hP 0 rfl rfl 27 (by decide) (hw 0 (.fieldLink RX12 63 "NumberFormatsModel" "row" "[I") rfl) (fun _ h9 => h9) rfl dX12_part_3 ?_
  have hPc := hP.sub (ws' := [(h_row, .inl (cI, 1420, .inl h_rowF))]) [1] rfl
  refine va_calli (va_runS (As := [.ref h_row]) (rest := []) ⟨hx, hb, hml, hown, hts⟩ (c_X12_last l D cI cD cJ s.heap.size h_row h_rowF) (va_cwS 1 hts (goodIn_app (goodIn_r _ [2, 3, 4] rfl (by decide +kernel)) (goodIn_sub i_X12_last k_X12_last)) rfl rfl rfl (by decide +kernel) ⟨Nat.le_of_ble_eq_true rfl, Nat.le_of_ble_eq_true rfl⟩) ⟨fun a U g mk q => by obtain ⟨q0, qP, qK⟩ := q; exact ⟨q0, qP, va_K.moved (u := U) (U := U.calling g mk a) (Vm.Alike.refl U.vm) qK⟩, fun U hU hW => ⟨rfl, by rw [hU]; exact hPc, va_K.moved hW.alike hK⟩⟩ rfl rfl hl.1 rfl (lv_room (Nat.le_of_ble_eq_true rfl)) dX12_part_6 ⟨Nat.le_of_ble_eq_true rfl, Nat.le_of_ble_eq_true rfl⟩) hS (fun q _ h => h.elim) (fun q h => h.elim) (fun x_1 u t H1 locs ht hvm w_2 hB hz1 hk1 hS => ?_)
  have hP : va_P D vwCl [(h, .inr (9, [.int h_code, .int h_taped, .ref h_tape, .int h_size, .ref h_text, .double h_value, .int h_out, .ref h_output, .int h_illAt, .ref h_format, .int h_sections, .int h_items, .ref h_kind, .ref h_what, .ref h_of, .ref h_relation, .ref h_bound, .int h_reads, .int h_readSections, .ref h_readKind, .ref h_readWhat, .ref h_readOf, .ref h_place, .ref h_readRelation, .ref h_readBound, .int h_stop, .ref h_meant, .ref h_row, .ref h_exact, .ref h_error, .ref h_bestError, .long h_m, .int h_e, .ref h_digits, .int h_whole])), (h_row, .inl (cI, 1420, .inl h_rowF))] H1 := hP.kept (fun k9 q9 h9 => hk1 q9.1 (vx_lt hP h9) (fun h => h))
  generalize H1 = H at hP hS ⊢
  try dsimp only at w_2
  have b_x_1 := ti_b x_1
  have hls := w_2
  refine lv_istore_n (lv' := [(3, .int x_1), (2, .int 0), (0, .ref h), (1, .int p1)]) hx hb dX12_part_9 rfl hl (by decide) rfl (fun ls hl => ?_)
  refine lv_aload_n hx hb dX12_part_10 rfl (lv_at hl 2 rfl) ?_
  refine va_get (D := D) (ci := 9) (v := .ref h_row) (C := RX12) (T := TX12) (N := 35) hx hb hts iX12 hown hK hP 0 rfl rfl 27 (by decide) (hw 0 (.fieldLink RX12 63 "NumberFormatsModel" "row" "[I") rfl) (fun _ h9 => h9) rfl dX12_part_11 ?_
  have hPc := hP.sub (ws' := [(h_row, .inl (cI, 1420, .inl h_rowF))]) [1] rfl
  refine va_calli (va_runS (As := [.ref h_row]) (rest := []) ⟨hx, hb, hml, hown, hts⟩ (c_X12_first l D cI cD cJ H.size h_row h_rowF) (va_cwS 1 hts (goodIn_app (goodIn_r _ [5, 6, 4] rfl (by decide +kernel)) (goodIn_sub i_X12_first k_X12_first)) rfl rfl rfl (by decide +kernel) ⟨Nat.le_of_ble_eq_true rfl, Nat.le_of_ble_eq_true rfl⟩) ⟨fun a U g mk q => by obtain ⟨q0, qP, qK⟩ := q; exact ⟨q0, qP, va_K.moved (u := U) (U := U.calling g mk a) (Vm.Alike.refl U.vm) qK⟩, fun U hU hW => ⟨rfl, by rw [hU]; exact hPc, va_K.moved hW.alike hK⟩⟩ rfl rfl hl.1 rfl (lv_room (Nat.le_of_ble_eq_true rfl)) dX12_part_14 ⟨Nat.le_of_ble_eq_true rfl, Nat.le_of_ble_eq_true rfl⟩) hS (fun q _ h => h.elim) (fun q h => h.elim) (fun x_3 u t H1 locs ht hvm w_4 hB hz1 hk1 hS => ?_)
  have hP : va_P D vwCl [(h, .inr (9, [.int h_code, .int h_taped, .ref h_tape, .int h_size, .ref h_text, .double h_value, .int h_out, .ref h_output, .int h_illAt, .ref h_format, .int h_sections, .int h_items, .ref h_kind, .ref h_what, .ref h_of, .ref h_relation, .ref h_bound, .int h_reads, .int h_readSections, .ref h_readKind, .ref h_readWhat, .ref h_readOf, .ref h_place, .ref h_readRelation, .ref h_readBound, .int h_stop, .ref h_meant, .ref h_row, .ref h_exact, .ref h_error, .ref h_bestError, .long h_m, .int h_e, .ref h_digits, .int h_whole])), (h_row, .inl (cI, 1420, .inl h_rowF))] H1 := hP.kept (fun k9 q9 h9 => hk1 q9.1 (vx_lt hP h9) (fun h => h))
  generalize H1 = H at hP hS ⊢
  try dsimp only at w_4
  have b_x_3 := ti_b x_3
  have hfs := w_4
  have hfl := fst_lin w_4
  refine lv_istore (lv' := [(4, .int x_3), (3, .int x_1), (2, .int 0), (0, .ref h), (1, .int p1)]) hx hb dX12_part_17 hl (by decide) rfl (fun ls hl => ?_)
  have L_19 : ∀ (N : Nat) (x_5 : Int32) (x_6 : Int32) (f_7 : Nat → Int32) (H : Heap) (locs : List Loc) (ls : Array Slot), (PIm h_rowF f_7 p1 x_5 x_6) → (0 ≤ (x_5 : Int32).toInt) → ((2147483647 - (x_5 : Int32).toInt).toNat < N) → va_P D vwCl [(h, .inr (9, [.int h_code, .int h_taped, .ref h_tape, .int h_size, .ref h_text, .double h_value, .int h_out, .ref h_output, .int h_illAt, .ref h_format, .int h_sections, .int h_items, .ref h_kind, .ref h_what, .ref h_of, .ref h_relation, .ref h_bound, .int h_reads, .int h_readSections, .ref h_readKind, .ref h_readWhat, .ref h_readOf, .ref h_place, .ref h_readRelation, .ref h_readBound, .int h_stop, .ref h_meant, .ref h_row, .ref h_exact, .ref h_error, .ref h_bestError, .long h_m, .int h_e, .ref h_digits, .int h_whole])), (h_row, .inl (cI, 1420, .inl f_7))] H → va_D A [(h, .inr (9, [.int h_code, .int h_taped, .ref h_tape, .int h_size, .ref h_text, .double h_value, .int h_out, .ref h_output, .int h_illAt, .ref h_format, .int h_sections, .int h_items, .ref h_kind, .ref h_what, .ref h_of, .ref h_relation, .ref h_bound, .int h_reads, .int h_readSections, .ref h_readKind, .ref h_readWhat, .ref h_readOf, .ref h_place, .ref h_readRelation, .ref h_readBound, .int h_stop, .ref h_meant, .ref h_row, .ref h_exact, .ref h_error, .ref h_bestError, .long h_m, .int h_e, .ref h_digits, .int h_whole])), (h_row, .inl (cI, 1420, .inl f_7))] → va_S A s.heap H locs → lv_has ls 6 [(4, .int x_5), (3, .int x_1), (2, .int x_6), (0, .ref h), (1, .int p1)] → Z 0 0 H locs (F0 m 19 ls []) := by
    intro N
    induction N with
    | zero => intro _ _ _ _ _ _ _ _ hmu; exact absurd hmu (Nat.not_lt_zero _)
    | succ N ih_19 =>
      intro x_5 x_6 f_7 H locs ls g19_0 g19_1 hmu hP hD hS hl
      refine hZ2 ?_
      refine lv_iload hx hb dX12_part_19 (lv_at hl 0 rfl) ?_
      refine lv_sipush (v := 1420) hx hb dX12_part_21 (by decide) ?_
      refine lv_icmp_ge (tgt := 73) hx hb dX12_part_24 (by decide) (fun c_8 => ?_) (fun c_8 => ?_)
      · have ic_8 : (1420 : Int32).toInt ≤ (x_5 : Int32).toInt := (fa_le 1420 x_5).mp c_8
        have hP9 := hP.sub (ws' := [(h, .inr (9, [.int h_code, .int h_taped, .ref h_tape, .int h_size, .ref h_text, .double h_value, .int h_out, .ref h_output, .int h_illAt, .ref h_format, .int h_sections, .int h_items, .ref h_kind, .ref h_what, .ref h_of, .ref h_relation, .ref h_bound, .int h_reads, .int h_readSections, .ref h_readKind, .ref h_readWhat, .ref h_readOf, .ref h_place, .ref h_readRelation, .ref h_readBound, .int h_stop, .ref h_meant, .ref h_row, .ref h_exact, .ref h_error, .ref h_bestError, .long h_m, .int h_e, .ref h_digits, .int h_whole])), (h_row, .inl (cI, 1420, .inl f_7))]) [0, 1] rfl
        have hD9 := hD.sub (ws' := [(h, .inr (9, [.int h_code, .int h_taped, .ref h_tape, .int h_size, .ref h_text, .double h_value, .int h_out, .ref h_output, .int h_illAt, .ref h_format, .int h_sections, .int h_items, .ref h_kind, .ref h_what, .ref h_of, .ref h_relation, .ref h_bound, .int h_reads, .int h_readSections, .ref h_readKind, .ref h_readWhat, .ref h_readOf, .ref h_place, .ref h_readRelation, .ref h_readBound, .int h_stop, .ref h_meant, .ref h_row, .ref h_exact, .ref h_error, .ref h_bestError, .long h_m, .int h_e, .ref h_digits, .int h_whole])), (h_row, .inl (cI, 1420, .inl f_7))]) [0, 1] (by decide) rfl
        exact W.vret hx hb hr (fun t ht hW => ⟨⟨(f_7), rfl, (by (try dsimp only); first | omega | assumption | exact Prt_end g19_0 (by omega) | exact Prt_stop g19_0 hls (by omega) (by omega)), by rw [ht]; exact hP9, va_K.moved hW.alike hK, hD9⟩, hS.F ht⟩) hS.2.2 dX12_part_73
      · have ic_8 : ¬ ((1420 : Int32).toInt ≤ (x_5 : Int32).toInt) := fun h9 => c_8 ((fa_le 1420 x_5).mpr h9)
        refine lv_iload hx hb dX12_part_27 (lv_at hl 0 rfl) ?_
        refine lv_iload_n hx hb dX12_part_29 rfl (lv_at hl 1 rfl) ?_
        have K_37 : ∀ (H : Heap) (locs : List Loc) (ls : Array Slot), va_P D vwCl [(h, .inr (9, [.int h_code, .int h_taped, .ref h_tape, .int h_size, .ref h_text, .double h_value, .int h_out, .ref h_output, .int h_illAt, .ref h_format, .int h_sections, .int h_items, .ref h_kind, .ref h_what, .ref h_of, .ref h_relation, .ref h_bound, .int h_reads, .int h_readSections, .ref h_readKind, .ref h_readWhat, .ref h_readOf, .ref h_place, .ref h_readRelation, .ref h_readBound, .int h_stop, .ref h_meant, .ref h_row, .ref h_exact, .ref h_error, .ref h_bestError, .long h_m, .int h_e, .ref h_digits, .int h_whole])), (h_row, .inl (cI, 1420, .inl f_7))] H → va_D A [(h, .inr (9, [.int h_code, .int h_taped, .ref h_tape, .int h_size, .ref h_text, .double h_value, .int h_out, .ref h_output, .int h_illAt, .ref h_format, .int h_sections, .int h_items, .ref h_kind, .ref h_what, .ref h_of, .ref h_relation, .ref h_bound, .int h_reads, .int h_readSections, .ref h_readKind, .ref h_readWhat, .ref h_readOf, .ref h_place, .ref h_readRelation, .ref h_readBound, .int h_stop, .ref h_meant, .ref h_row, .ref h_exact, .ref h_error, .ref h_bestError, .long h_m, .int h_e, .ref h_digits, .int h_whole])), (h_row, .inl (cI, 1420, .inl f_7))] → va_S A s.heap H locs → lv_has ls 6 [(4, .int x_5), (3, .int x_1), (2, .int x_6), (0, .ref h), (1, .int p1)] → Z 0 0 H locs (F0 m 37 ls []) := by
          intro  H locs ls  hP hD hS hl
          refine hZ2 ?_
          refine lv_bipush (v := 10) hx hb dX12_part_37 (by decide) ?_
          refine lv_iload_n hx hb dX12_part_39 rfl (lv_at hl 2 rfl) ?_
          refine lv_imul hx hb dX12_part_40 ?_
          refine lv_topi (fun x_9 ex_9 => ?_)
          have tx_9 := ti_mul ex_9
          rw [n_10] at tx_9
          refine lv_aload_n hx hb dX12_part_41 rfl (lv_at hl 3 rfl) ?_
          refine va_get (D := D) (ci := 9) (v := .ref h_row) (C := RX12) (T := TX12) (N := 35) hx hb hts iX12 hown hK hP 0 rfl rfl 27 (by decide) (hw 0 (.fieldLink RX12 63 "NumberFormatsModel" "row" "[I") rfl) (fun _ h9 => h9) rfl dX12_part_42 ?_
          refine lv_iload hx hb dX12_part_45 (lv_at hl 0 rfl) ?_
          have h_47 : vp_in x_5 1420 := by rw [vp_in_iff]; omega
          refine va_iald hx hb hK hP 1 0 rfl rfl h_47 dX12_part_47 ?_
          refine lv_topi (fun x_10 ex_10 => ?_)
          refine lv_iadd hx hb dX12_part_48 ?_
          refine lv_topi (fun x_11 ex_11 => ?_)
          have b_x_9 := ti_b x_9
          have b_x_10 := ti_b x_10
          have tx_11 := ti_add ex_11
          refine lv_istore (lv' := [(5, .int x_11), (4, .int x_5), (3, .int x_1), (2, .int x_6), (0, .ref h), (1, .int p1)]) hx hb dX12_part_49 hl (by decide) rfl (fun ls hl => ?_)
          refine lv_aload_n hx hb dX12_part_51 rfl (lv_at hl 4 rfl) ?_
          refine va_get (D := D) (ci := 9) (v := .ref h_row) (C := RX12) (T := TX12) (N := 35) hx hb hts iX12 hown hK hP 0 rfl rfl 27 (by decide) (hw 0 (.fieldLink RX12 63 "NumberFormatsModel" "row" "[I") rfl) (fun _ h9 => h9) rfl dX12_part_52 ?_
          refine lv_iload hx hb dX12_part_55 (lv_at hl 1 rfl) ?_
          refine lv_iload hx hb dX12_part_57 (lv_at hl 0 rfl) ?_
          refine lv_iload_n hx hb dX12_part_59 rfl (lv_at hl 5 rfl) ?_
          refine lv_idiv hx hb dX12_part_60 (fun h9 => by have h8 := congrArg Int32.toInt h9; omega) ?_
          refine lv_topi (fun x_12 ex_12 => ?_)
          have h_61 : vp_in x_5 1420 := by rw [vp_in_iff]; omega
          refine va_iast hx hb hK hP hD hS 1 0 rfl rfl h_61 dX12_part_61 (fun H locs hP hD hS => ?_)
          obtain ⟨f_13, ef_13⟩ : ∃ y : Nat → Int32, y = upd f_7 (x_5 : Int32).toNatClampNeg x_12 := ⟨_, rfl⟩
          rw [← ef_13] at hP hD
          have hP : va_P D vwCl [(h, .inr (9, [.int h_code, .int h_taped, .ref h_tape, .int h_size, .ref h_text, .double h_value, .int h_out, .ref h_output, .int h_illAt, .ref h_format, .int h_sections, .int h_items, .ref h_kind, .ref h_what, .ref h_of, .ref h_relation, .ref h_bound, .int h_reads, .int h_readSections, .ref h_readKind, .ref h_readWhat, .ref h_readOf, .ref h_place, .ref h_readRelation, .ref h_readBound, .int h_stop, .ref h_meant, .ref h_row, .ref h_exact, .ref h_error, .ref h_bestError, .long h_m, .int h_e, .ref h_digits, .int h_whole])), (h_row, .inl (cI, 1420, .inl f_13))] H := hP
          have hD : va_D A [(h, .inr (9, [.int h_code, .int h_taped, .ref h_tape, .int h_size, .ref h_text, .double h_value, .int h_out, .ref h_output, .int h_illAt, .ref h_format, .int h_sections, .int h_items, .ref h_kind, .ref h_what, .ref h_of, .ref h_relation, .ref h_bound, .int h_reads, .int h_readSections, .ref h_readKind, .ref h_readWhat, .ref h_readOf, .ref h_place, .ref h_readRelation, .ref h_readBound, .int h_stop, .ref h_meant, .ref h_row, .ref h_exact, .ref h_error, .ref h_bestError, .long h_m, .int h_e, .ref h_digits, .int h_whole])), (h_row, .inl (cI, 1420, .inl f_13))] := hD
          refine lv_iload hx hb dX12_part_62 (lv_at hl 0 rfl) ?_
          refine lv_iload_n hx hb dX12_part_64 rfl (lv_at hl 5 rfl) ?_
          refine lv_irem hx hb dX12_part_65 (fun h9 => by have h8 := congrArg Int32.toInt h9; omega) ?_
          refine lv_topi (fun x_14 ex_14 => ?_)
          refine lv_istore_n (lv' := [(2, .int x_14), (5, .int x_11), (4, .int x_5), (3, .int x_1), (0, .ref h), (1, .int p1)]) hx hb dX12_part_66 rfl hl (by decide) rfl (fun ls hl => ?_)
          obtain ⟨x_15, ex_15⟩ : ∃ y : Int32, y = x_5 + 1 := ⟨_, rfl⟩
          have b_x_5 := ti_b x_5
          have tx_15 := ti_add ex_15
          refine lv_iinc (v := x_15) (lv' := [(4, .int x_15), (2, .int x_14), (5, .int x_11), (3, .int x_1), (0, .ref h), (1, .int p1)]) hx hb dX12_part_67 hl (k := 2) rfl (by rw [ex_15]; rfl) (by decide) rfl (fun ls hl => ?_)
          refine lv_goto (tgt := 19) hx hb dX12_part_70 (by decide) ?_
          exact hZ1 (ih_19 x_15 x_14 f_13 _ _ _ (PIm_step g19_0 (by omega) ex_9 ex_10 ex_11 ex_12 ef_13 ex_14 ex_15) (by omega) (by omega) hP hD hS (lv_sub hl [0, 3, 1, 4, 5] rfl))
        refine lv_icmp_le (tgt := 37) hx hb dX12_part_30 (by decide) (fun c_16 => ?_) (fun c_16 => ?_)
        · have ic_16 : (x_5 : Int32).toInt ≤ (x_1 : Int32).toInt := (fa_le x_5 x_1).mp c_16
          exact hZ1 (K_37  _ _ _ hP hD hS hl)
        · have ic_16 : ¬ ((x_5 : Int32).toInt ≤ (x_1 : Int32).toInt) := fun h9 => c_16 ((fa_le x_5 x_1).mpr h9)
          refine lv_iload_n hx hb dX12_part_33 rfl (lv_at hl 2 rfl) ?_
          refine lv_if_le (tgt := 73) hx hb dX12_part_34 (by decide) (fun c_17 => ?_) (fun c_17 => ?_)
          · have ic_17 : (x_6 : Int32).toInt ≤ (0 : Int32).toInt := (fa_le x_6 0).mp c_17
            have hP9 := hP.sub (ws' := [(h, .inr (9, [.int h_code, .int h_taped, .ref h_tape, .int h_size, .ref h_text, .double h_value, .int h_out, .ref h_output, .int h_illAt, .ref h_format, .int h_sections, .int h_items, .ref h_kind, .ref h_what, .ref h_of, .ref h_relation, .ref h_bound, .int h_reads, .int h_readSections, .ref h_readKind, .ref h_readWhat, .ref h_readOf, .ref h_place, .ref h_readRelation, .ref h_readBound, .int h_stop, .ref h_meant, .ref h_row, .ref h_exact, .ref h_error, .ref h_bestError, .long h_m, .int h_e, .ref h_digits, .int h_whole])), (h_row, .inl (cI, 1420, .inl f_7))]) [0, 1] rfl
            have hD9 := hD.sub (ws' := [(h, .inr (9, [.int h_code, .int h_taped, .ref h_tape, .int h_size, .ref h_text, .double h_value, .int h_out, .ref h_output, .int h_illAt, .ref h_format, .int h_sections, .int h_items, .ref h_kind, .ref h_what, .ref h_of, .ref h_relation, .ref h_bound, .int h_reads, .int h_readSections, .ref h_readKind, .ref h_readWhat, .ref h_readOf, .ref h_place, .ref h_readRelation, .ref h_readBound, .int h_stop, .ref h_meant, .ref h_row, .ref h_exact, .ref h_error, .ref h_bestError, .long h_m, .int h_e, .ref h_digits, .int h_whole])), (h_row, .inl (cI, 1420, .inl f_7))]) [0, 1] (by decide) rfl
            exact W.vret hx hb hr (fun t ht hW => ⟨⟨(f_7), rfl, (by (try dsimp only); first | omega | assumption | exact Prt_end g19_0 (by omega) | exact Prt_stop g19_0 hls (by omega) (by omega)), by rw [ht]; exact hP9, va_K.moved hW.alike hK, hD9⟩, hS.F ht⟩) hS.2.2 dX12_part_73
          · have ic_17 : ¬ ((x_6 : Int32).toInt ≤ (0 : Int32).toInt) := fun h9 => c_17 ((fa_le x_6 0).mpr h9)
            exact hZ1 (K_37  _ _ _ hP hD hS hl)
  exact hZ1 (L_19 (((2147483647 - (x_3 : Int32).toInt).toNat) + 1) x_3 0 h_rowF _ _ _ (PIm_0 hfs) (by omega) (by omega) hP hD hS hl)

def ow_X12_expand : List Cond := [Cond.fieldLink RX12 63 "NumberFormatsModel" "row" "[I", Cond.methodLink RX12 110 yX12_clear, Cond.static yX12_clear, Cond.initialized RX12, Cond.methodLink RX12 120 yX12_part, Cond.instanceMethod yX12_part, Cond.selects RX12 yX12_part yX12_part, Cond.methodLink RX12 116 yX12_times, Cond.static yX12_times, Cond.constantLong RX12 114 (10)]
def pw_X12_expand : List Cond := Cond.code yX12_expand cX12_expand 7 none :: (ow_X12_expand ++ (pw_X12_clear ++ (pw_X12_part ++ (pw_X12_times ++ (wsX120)))))
set_option maxRecDepth 20000 in
theorem mo_X12_expand : ∀ w ∈ ow_X12_expand, w ∈ lw_tbl := by decide +kernel
set_option maxRecDepth 20000 in
theorem mc_X12_expand : Cond.code yX12_expand cX12_expand 7 none ∈ lw_tbl := by decide +kernel
theorem m_X12_expand : ∀ w ∈ pw_X12_expand, w ∈ lw_tbl := List.forall_mem_cons.mpr ⟨mc_X12_expand, (List.forall_mem_append.mpr ⟨mo_X12_expand, (List.forall_mem_append.mpr ⟨m_X12_clear, (List.forall_mem_append.mpr ⟨m_X12_part, (List.forall_mem_append.mpr ⟨m_X12_times, inX12⟩)⟩)⟩)⟩)⟩
theorem ko_X12_expand : ∀ w ∈ ow_X12_expand, goodWord w = true := by decide +kernel
theorem k_X12_expand : pw_X12_expand.all goodWord = true := List.all_eq_true.mpr (List.forall_mem_cons.mpr ⟨by decide +kernel, (List.forall_mem_append.mpr ⟨ko_X12_expand, (List.forall_mem_append.mpr ⟨(List.all_eq_true.mp k_X12_clear), (List.forall_mem_append.mpr ⟨(List.all_eq_true.mp k_X12_part), (List.forall_mem_append.mpr ⟨(List.all_eq_true.mp k_X12_times), kX_X12⟩)⟩)⟩)⟩)⟩)
set_option maxHeartbeats 400000 in
set_option maxRecDepth 100000 in
theorem c_X12_expand (l : Launch) (D : va_G) (cI cD cJ : ClassId) (sz : Nat) (h : Nat) (h_code : Int32) (h_taped : Int32) (h_tape : Nat) (h_size : Int32) (h_text : Nat) (h_value : UInt64) (h_out : Int32) (h_output : Nat) (h_illAt : Int32) (h_format : Nat) (h_sections : Int32) (h_items : Int32) (h_kind : Nat) (h_what : Nat) (h_of : Nat) (h_relation : Nat) (h_bound : Nat) (h_reads : Int32) (h_readSections : Int32) (h_readKind : Nat) (h_readWhat : Nat) (h_readOf : Nat) (h_place : Nat) (h_readRelation : Nat) (h_readBound : Nat) (h_stop : Int32) (h_meant : Nat) (h_row : Nat) (h_exact : Nat) (h_error : Nat) (h_bestError : Nat) (h_m : Int64) (h_e : Int32) (h_digits : Nat) (h_whole : Int32) (h_rowF : Nat → Int32) (p1 : Int64) (p2 : Int32) (iv_h_taped : 0 ≤ (h_taped : Int32).toInt ∧ (h_taped : Int32).toInt ≤ 260) (iv_h_size : 0 ≤ (h_size : Int32).toInt ∧ (h_size : Int32).toInt ≤ 255) (iv_h_value : inR h_value) (iv_h_out : 0 ≤ (h_out : Int32).toInt ∧ (h_out : Int32).toInt ≤ 1024) (iv_h_sections : 0 ≤ (h_sections : Int32).toInt ∧ (h_sections : Int32).toInt ≤ 4) (iv_h_items : 0 ≤ (h_items : Int32).toInt ∧ (h_items : Int32).toInt ≤ 255) (iv_h_reads : 0 ≤ (h_reads : Int32).toInt ∧ (h_reads : Int32).toInt ≤ 255) (iv_h_readSections : 0 ≤ (h_readSections : Int32).toInt ∧ (h_readSections : Int32).toInt ≤ 4) (iv_h_whole : 0 ≤ (h_whole : Int32).toInt ∧ (h_whole : Int32).toInt ≤ 1001) : Met l yX12_expand pw_X12_expand ({ frames := 2, cells := 0, slots := 0, locals := 46 }) (va_Pc [.ref h, .long p1, .int p2] (fun U => U.heap.size = sz ∧ va_P D vwCl [(h, .inr (9, [.int h_code, .int h_taped, .ref h_tape, .int h_size, .ref h_text, .double h_value, .int h_out, .ref h_output, .int h_illAt, .ref h_format, .int h_sections, .int h_items, .ref h_kind, .ref h_what, .ref h_of, .ref h_relation, .ref h_bound, .int h_reads, .int h_readSections, .ref h_readKind, .ref h_readWhat, .ref h_readOf, .ref h_place, .ref h_readRelation, .ref h_readBound, .int h_stop, .ref h_meant, .ref h_row, .ref h_exact, .ref h_error, .ref h_bestError, .long h_m, .int h_e, .ref h_digits, .int h_whole])), (h_row, .inl (cI, 1420, .inl h_rowF))] U.heap ∧ va_K D vwCl (ty3 cI cD cJ) U ∧ va_D (fun _ => True) [(h, .inr (9, [.int h_code, .int h_taped, .ref h_tape, .int h_size, .ref h_text, .double h_value, .int h_out, .ref h_output, .int h_illAt, .ref h_format, .int h_sections, .int h_items, .ref h_kind, .ref h_what, .ref h_of, .ref h_relation, .ref h_bound, .int h_reads, .int h_readSections, .ref h_readKind, .ref h_readWhat, .ref h_readOf, .ref h_place, .ref h_readRelation, .ref h_readBound, .int h_stop, .ref h_meant, .ref h_row, .ref h_exact, .ref h_error, .ref h_bestError, .long h_m, .int h_e, .ref h_digits, .int h_whole])), (h_row, .inl (cI, 1420, .inl h_rowF))])) (va_Qv (fun (h_rowF2 : (Nat → Int32)) => (Exp p1 p2 h_rowF2)) (fun (h_rowF2 : (Nat → Int32)) (t : State) => va_P D vwCl [(h, .inr (9, [.int h_code, .int h_taped, .ref h_tape, .int h_size, .ref h_text, .double h_value, .int h_out, .ref h_output, .int h_illAt, .ref h_format, .int h_sections, .int h_items, .ref h_kind, .ref h_what, .ref h_of, .ref h_relation, .ref h_bound, .int h_reads, .int h_readSections, .ref h_readKind, .ref h_readWhat, .ref h_readOf, .ref h_place, .ref h_readRelation, .ref h_readBound, .int h_stop, .ref h_meant, .ref h_row, .ref h_exact, .ref h_error, .ref h_bestError, .long h_m, .int h_e, .ref h_digits, .int h_whole])), (h_row, .inl (cI, 1420, .inl h_rowF2))] t.heap ∧ va_K D vwCl (ty3 cI cD cJ) t ∧ va_D (va_A [(h, .inr (9, [.int h_code, .int h_taped, .ref h_tape, .int h_size, .ref h_text, .double h_value, .int h_out, .ref h_output, .int h_illAt, .ref h_format, .int h_sections, .int h_items, .ref h_kind, .ref h_what, .ref h_of, .ref h_relation, .ref h_bound, .int h_reads, .int h_readSections, .ref h_readKind, .ref h_readWhat, .ref h_readOf, .ref h_place, .ref h_readRelation, .ref h_readBound, .int h_stop, .ref h_meant, .ref h_row, .ref h_exact, .ref h_error, .ref h_bestError, .long h_m, .int h_e, .ref h_digits, .int h_whole])), (h_row, .inl (cI, 1420, .inl h_rowF))] sz) [(h, .inr (9, [.int h_code, .int h_taped, .ref h_tape, .int h_size, .ref h_text, .double h_value, .int h_out, .ref h_output, .int h_illAt, .ref h_format, .int h_sections, .int h_items, .ref h_kind, .ref h_what, .ref h_of, .ref h_relation, .ref h_bound, .int h_reads, .int h_readSections, .ref h_readKind, .ref h_readWhat, .ref h_readOf, .ref h_place, .ref h_readRelation, .ref h_readBound, .int h_stop, .ref h_meant, .ref h_row, .ref h_exact, .ref h_error, .ref h_bestError, .long h_m, .int h_e, .ref h_digits, .int h_whole])), (h_row, .inl (cI, 1420, .inl h_rowF2))]) (va_A [(h, .inr (9, [.int h_code, .int h_taped, .ref h_tape, .int h_size, .ref h_text, .double h_value, .int h_out, .ref h_output, .int h_illAt, .ref h_format, .int h_sections, .int h_items, .ref h_kind, .ref h_what, .ref h_of, .ref h_relation, .ref h_bound, .int h_reads, .int h_readSections, .ref h_readKind, .ref h_readWhat, .ref h_readOf, .ref h_place, .ref h_readRelation, .ref h_readBound, .int h_stop, .ref h_meant, .ref h_row, .ref h_exact, .ref h_error, .ref h_bestError, .long h_m, .int h_e, .ref h_digits, .int h_whole])), (h_row, .inl (cI, 1420, .inl h_rowF))] sz)) 0 0 (va_A [(h, .inr (9, [.int h_code, .int h_taped, .ref h_tape, .int h_size, .ref h_text, .double h_value, .int h_out, .ref h_output, .int h_illAt, .ref h_format, .int h_sections, .int h_items, .ref h_kind, .ref h_what, .ref h_of, .ref h_relation, .ref h_bound, .int h_reads, .int h_readSections, .ref h_readKind, .ref h_readWhat, .ref h_readOf, .ref h_place, .ref h_readRelation, .ref h_readBound, .int h_stop, .ref h_meant, .ref h_row, .ref h_exact, .ref h_error, .ref h_bestError, .long h_m, .int h_e, .ref h_digits, .int h_whole])), (h_row, .inl (cI, 1420, .inl h_rowF))] sz) := by
  refine Met.ofW (cc := cX12_expand) (maxL := 7) (ret := none) (by decide +kernel) rfl ?_
  intro p e s m args below meth c s₁ B hml hv
  obtain ⟨rfl, hsz, hP, hK, hD0⟩ := hv
  have hx := B.exec
  have hb := B.bytes
  have hr := B.returns
  have hts := atoms_spec (ws := pw_X12_expand) B.pre
  have hown : s.vm.findClass RX12 = some m.cls := findClass_of_methodNamed B.named
  have hlocks := B.notSynchronized
  subst hsz
  have hD := hD0.self (sz := s.heap.size)
  generalize hAe : va_A [(h, .inr (9, [.int h_code, .int h_taped, .ref h_tape, .int h_size, .ref h_text, .double h_value, .int h_out, .ref h_output, .int h_illAt, .ref h_format, .int h_sections, .int h_items, .ref h_kind, .ref h_what, .ref h_of, .ref h_relation, .ref h_bound, .int h_reads, .int h_readSections, .ref h_readKind, .ref h_readWhat, .ref h_readOf, .ref h_place, .ref h_readRelation, .ref h_readBound, .int h_stop, .ref h_meant, .ref h_row, .ref h_exact, .ref h_error, .ref h_bestError, .long h_m, .int h_e, .ref h_digits, .int h_whole])), (h_row, .inl (cI, 1420, .inl h_rowF))] s.heap.size = A at hD ⊢
  have hA : ∀ q : Nat, s.heap.size ≤ q → A q := fun q h => by rw [← hAe]; exact Or.inr h
  have hS : va_S A s.heap s.heap [] := va_S.rf
  have hw : ∀ (k : Nat) (w : Cond), ow_X12_expand[k]? = some w → w.before _ s = true := fun k w h => hts w (List.mem_cons_of_mem _ (have h9 := List.mem_of_getElem? h; List.mem_append_left _ h9))
  have i_X12_clear : ∀ w ∈ pw_X12_clear, w ∈ pw_X12_expand := fun w h9 => List.mem_cons_of_mem _ (List.mem_append_right _ (List.mem_append_left _ h9))
  have i_X12_part : ∀ w ∈ pw_X12_part, w ∈ pw_X12_expand := fun w h9 => List.mem_cons_of_mem _ (List.mem_append_right _ (List.mem_append_right _ (List.mem_append_left _ h9)))
  have i_X12_times : ∀ w ∈ pw_X12_times, w ∈ pw_X12_expand := fun w h9 => List.mem_cons_of_mem _ (List.mem_append_right _ (List.mem_append_right _ (List.mem_append_right _ (List.mem_append_left _ h9))))
  have iX12 : ∀ w ∈ u_ws RX12 TX12 35, w ∈ pw_X12_expand := fun w h9 => List.mem_cons_of_mem _ (List.mem_append_right _ (List.mem_append_right _ (List.mem_append_right _ (List.mem_append_right _ (h9)))))
  have n_m1 : (((-1) : Int32)).toInt = (-1) := by decide
  have n_m13 : (((-13) : Int32)).toInt = (-13) := by decide
  have n_0 : ((0 : Int32)).toInt = 0 := by decide
  have n_1 : ((1 : Int32)).toInt = 1 := by decide
  have n_13 : ((13 : Int32)).toInt = 13 := by decide
  have n_2 : ((2 : Int32)).toInt = 2 := by decide
  have n_319 : ((319 : Int32)).toInt = 319 := by decide
  have n_8192 : ((8192 : Int32)).toInt = 8192 := by decide
  have nl_0 : ((0 : Int64)).toInt = 0 := by decide
  have nl_10 : ((10 : Int64)).toInt = 10 := by decide
  have hl := lv_entry ([.ref h, .long p1, .int p2]) (n := 7) (Nat.le_of_ble_eq_true rfl)
  rw [lg_entry_eq]
  generalize (lg_sl ([.ref h, .long p1, .int p2]) ++ List.replicate (7 - (lg_sl ([.ref h, .long p1, .int p2])).length) Slot.unset).toArray = ls at hl ⊢
  have hl : lv_has ls 7 [(0, .ref h), (1, .long p1), (3, .int p2)] := hl
  have b_p2 := ti_b p2
  refine zz_cap (fun Z hZ1 hZ2 => ?_)
  refine lv_aload_n hx hb dX12_expand_0 rfl (lv_at hl 0 rfl) ?_
  refine va_get (D := D) (ci := 9) (v := .ref h_row) (C := RX12) (T := TX12) (N := 35) hx hb hts iX12 hown hK hP 0 rfl rfl 27 (by decide) (hw 0 (.fieldLink RX12 63 "NumberFormatsModel" "row" "[I") rfl) (fun _ h9 => h9) rfl dX12_expand_1 ?_
  have hPc := hP.sub (ws' := [(h_row, .inl (cI, 1420, .inl h_rowF))]) [1] rfl
  have hDc := hD.sub (ws' := [(h_row, .inl (cI, 1420, .inl h_rowF))]) [1] (by decide) rfl
  have hFc := va_free (wc := [(h_row, .inl (cI, 1420, .inl h_rowF))]) hD hS hA [1] rfl
  refine va_callv (va_runS (As := [.ref h_row]) (rest := []) ⟨hx, hb, hml, hown, hts⟩ (c_X12_clear l D cI cD cJ s.heap.size h_row h_rowF) (va_cwS 1 hts (goodIn_app (goodIn_r _ [2, 3, 4] rfl (by decide +kernel)) (goodIn_sub i_X12_clear k_X12_clear)) rfl rfl rfl (by decide +kernel) ⟨Nat.le_of_ble_eq_true rfl, Nat.le_of_ble_eq_true rfl⟩) ⟨fun a U g mk q => by obtain ⟨q0, q1, qP, qK, qD⟩ := q; exact ⟨q0, q1, qP, va_K.moved (u := U) (U := U.calling g mk a) (Vm.Alike.refl U.vm) qK, qD⟩, fun U hU hW => ⟨rfl, by rw [hU], by rw [hU]; exact hPc, va_K.moved hW.alike hK, hDc.weaken (fun _ _ _ _ => trivial)⟩⟩ rfl rfl hl.1 rfl (lv_room (Nat.le_of_ble_eq_true rfl)) dX12_expand_4 ⟨Nat.le_of_ble_eq_true rfl, Nat.le_of_ble_eq_true rfl⟩) hS (fun q _ h => hFc q h) hFc (fun u t H1 locs ht hvm w_1 hB hz1 hk1 hS => ?_)
  generalize u = u_2 at w_1 hB
  obtain ⟨hP1, hK1, hD1⟩ := hB
  rw [ht] at hP1
  try dsimp only at w_1
  obtain ⟨hP, hD⟩ := va_join (wr := [(h, .inr (9, [.int h_code, .int h_taped, .ref h_tape, .int h_size, .ref h_text, .double h_value, .int h_out, .ref h_output, .int h_illAt, .ref h_format, .int h_sections, .int h_items, .ref h_kind, .ref h_what, .ref h_of, .ref h_relation, .ref h_bound, .int h_reads, .int h_readSections, .ref h_readKind, .ref h_readWhat, .ref h_readOf, .ref h_place, .ref h_readRelation, .ref h_readBound, .int h_stop, .ref h_meant, .ref h_row, .ref h_exact, .ref h_error, .ref h_bestError, .long h_m, .int h_e, .ref h_digits, .int h_whole]))]) (w1 := [(h_row, .inl (cI, 1420, .inl u_2))]) hP hD [1] [0] rfl rfl (by decide) (by decide) hk1 hFc hP1 hD1
  generalize H1 = H at hP hS ⊢
  have hP : va_P D vwCl [(h, .inr (9, [.int h_code, .int h_taped, .ref h_tape, .int h_size, .ref h_text, .double h_value, .int h_out, .ref h_output, .int h_illAt, .ref h_format, .int h_sections, .int h_items, .ref h_kind, .ref h_what, .ref h_of, .ref h_relation, .ref h_bound, .int h_reads, .int h_readSections, .ref h_readKind, .ref h_readWhat, .ref h_readOf, .ref h_place, .ref h_readRelation, .ref h_readBound, .int h_stop, .ref h_meant, .ref h_row, .ref h_exact, .ref h_error, .ref h_bestError, .long h_m, .int h_e, .ref h_digits, .int h_whole])), (h_row, .inl (cI, 1420, .inl u_2))] H := hP
  have hD : va_D A [(h, .inr (9, [.int h_code, .int h_taped, .ref h_tape, .int h_size, .ref h_text, .double h_value, .int h_out, .ref h_output, .int h_illAt, .ref h_format, .int h_sections, .int h_items, .ref h_kind, .ref h_what, .ref h_of, .ref h_relation, .ref h_bound, .int h_reads, .int h_readSections, .ref h_readKind, .ref h_readWhat, .ref h_readOf, .ref h_place, .ref h_readRelation, .ref h_readBound, .int h_stop, .ref h_meant, .ref h_row, .ref h_exact, .ref h_error, .ref h_bestError, .long h_m, .int h_e, .ref h_digits, .int h_whole])), (h_row, .inl (cI, 1420, .inl u_2))] := hD
  have hzr := w_1
  refine lv_lload_n hx hb dX12_expand_7 rfl (lv_at hl 1 rfl) ?_
  refine lv_lstore (lv' := [(4, .long p1), (0, .ref h), (1, .long p1), (3, .int p2)]) hx hb dX12_expand_8 hl (by decide) rfl (fun ls hl => ?_)
  refine lv_sipush (v := 319) hx hb dX12_expand_10 (by decide) ?_
  refine lv_istore (lv' := [(6, .int 319), (4, .long p1), (0, .ref h), (1, .long p1), (3, .int p2)]) hx hb dX12_expand_13 hl (by decide) rfl (fun ls hl => ?_)
  have L_15 : ∀ (N : Nat) (x_3 : Int32) (y_4 : Int64) (f_5 : Nat → Int32) (H : Heap) (locs : List Loc) (ls : Array Slot), (EDg p1 y_4 f_5 x_3) → ((y_4 : Int64).toInt.toNat < N) → va_P D vwCl [(h, .inr (9, [.int h_code, .int h_taped, .ref h_tape, .int h_size, .ref h_text, .double h_value, .int h_out, .ref h_output, .int h_illAt, .ref h_format, .int h_sections, .int h_items, .ref h_kind, .ref h_what, .ref h_of, .ref h_relation, .ref h_bound, .int h_reads, .int h_readSections, .ref h_readKind, .ref h_readWhat, .ref h_readOf, .ref h_place, .ref h_readRelation, .ref h_readBound, .int h_stop, .ref h_meant, .ref h_row, .ref h_exact, .ref h_error, .ref h_bestError, .long h_m, .int h_e, .ref h_digits, .int h_whole])), (h_row, .inl (cI, 1420, .inl f_5))] H → va_D A [(h, .inr (9, [.int h_code, .int h_taped, .ref h_tape, .int h_size, .ref h_text, .double h_value, .int h_out, .ref h_output, .int h_illAt, .ref h_format, .int h_sections, .int h_items, .ref h_kind, .ref h_what, .ref h_of, .ref h_relation, .ref h_bound, .int h_reads, .int h_readSections, .ref h_readKind, .ref h_readWhat, .ref h_readOf, .ref h_place, .ref h_readRelation, .ref h_readBound, .int h_stop, .ref h_meant, .ref h_row, .ref h_exact, .ref h_error, .ref h_bestError, .long h_m, .int h_e, .ref h_digits, .int h_whole])), (h_row, .inl (cI, 1420, .inl f_5))] → va_S A s.heap H locs → lv_has ls 7 [(6, .int x_3), (4, .long y_4), (0, .ref h), (3, .int p2)] → Z 0 0 H locs (F0 m 15 ls []) := by
    intro N
    induction N with
    | zero => intro _ _ _ _ _ _ _ hmu; exact absurd hmu (Nat.not_lt_zero _)
    | succ N ih_15 =>
      intro x_3 y_4 f_5 H locs ls g15_0 hmu hP hD hS hl
      refine hZ2 ?_
      have hq9 := EDg_lin g15_0
      refine lv_lload hx hb dX12_expand_15 (lv_at hl 1 rfl) ?_
      refine lv_lconst (v := 0) hx hb dX12_expand_17 (by decide) ?_
      refine W.lcmp hx hb dX12_expand_18 ?_
      refine lv_topi (fun x_6 ex_6 => ?_)
      have tx_6 := ti_lcmp ex_6
      refine lv_if_le (tgt := 50) hx hb dX12_expand_19 (by decide) (fun c_7 => ?_) (fun c_7 => ?_)
      · have ic_7 : (x_6 : Int32).toInt ≤ (0 : Int32).toInt := (fa_le x_6 0).mp c_7
        have hx0 := EX0_of g15_0 (by omega)
        refine lv_iload_n hx hb dX12_expand_50 rfl (lv_at hl 3 rfl) ?_
        refine lv_istore (lv' := [(6, .int p2), (4, .long y_4), (0, .ref h), (3, .int p2)]) hx hb dX12_expand_51 hl (by decide) rfl (fun ls hl => ?_)
        have L_53 : ∀ (N : Nat) (x_8 : Int32) (f_9 : Nat → Int32) (H : Heap) (locs : List Loc) (ls : Array Slot), (EXm p1 p2 f_9 x_8) → ((x_8 : Int32).toInt.toNat < N) → va_P D vwCl [(h, .inr (9, [.int h_code, .int h_taped, .ref h_tape, .int h_size, .ref h_text, .double h_value, .int h_out, .ref h_output, .int h_illAt, .ref h_format, .int h_sections, .int h_items, .ref h_kind, .ref h_what, .ref h_of, .ref h_relation, .ref h_bound, .int h_reads, .int h_readSections, .ref h_readKind, .ref h_readWhat, .ref h_readOf, .ref h_place, .ref h_readRelation, .ref h_readBound, .int h_stop, .ref h_meant, .ref h_row, .ref h_exact, .ref h_error, .ref h_bestError, .long h_m, .int h_e, .ref h_digits, .int h_whole])), (h_row, .inl (cI, 1420, .inl f_9))] H → va_D A [(h, .inr (9, [.int h_code, .int h_taped, .ref h_tape, .int h_size, .ref h_text, .double h_value, .int h_out, .ref h_output, .int h_illAt, .ref h_format, .int h_sections, .int h_items, .ref h_kind, .ref h_what, .ref h_of, .ref h_relation, .ref h_bound, .int h_reads, .int h_readSections, .ref h_readKind, .ref h_readWhat, .ref h_readOf, .ref h_place, .ref h_readRelation, .ref h_readBound, .int h_stop, .ref h_meant, .ref h_row, .ref h_exact, .ref h_error, .ref h_bestError, .long h_m, .int h_e, .ref h_digits, .int h_whole])), (h_row, .inl (cI, 1420, .inl f_9))] → va_S A s.heap H locs → lv_has ls 7 [(6, .int x_8), (0, .ref h)] → Z 0 0 H locs (F0 m 53 ls []) := by
          intro N
          induction N with
          | zero => intro _ _ _ _ _ _ hmu; exact absurd hmu (Nat.not_lt_zero _)
          | succ N ih_53 =>
            intro x_8 f_9 H locs ls g53_0 hmu hP hD hS hl
            refine hZ2 ?_
            refine lv_iload hx hb dX12_expand_53 (lv_at hl 0 rfl) ?_
            refine lv_bipush (v := 13) hx hb dX12_expand_55 (by decide) ?_
            refine lv_icmp_lt (tgt := 76) hx hb dX12_expand_57 (by decide) (fun c_10 => ?_) (fun c_10 => ?_)
            · have ic_10 : (x_8 : Int32).toInt < (13 : Int32).toInt := (fa_lt x_8 13).mp c_10
              have L_76 : ∀ (N : Nat) (x_11 : Int32) (f_12 : Nat → Int32) (H : Heap) (locs : List Loc) (ls : Array Slot), (EXm p1 p2 f_12 x_11) → ((x_11 : Int32).toInt.toNat < N) → va_P D vwCl [(h, .inr (9, [.int h_code, .int h_taped, .ref h_tape, .int h_size, .ref h_text, .double h_value, .int h_out, .ref h_output, .int h_illAt, .ref h_format, .int h_sections, .int h_items, .ref h_kind, .ref h_what, .ref h_of, .ref h_relation, .ref h_bound, .int h_reads, .int h_readSections, .ref h_readKind, .ref h_readWhat, .ref h_readOf, .ref h_place, .ref h_readRelation, .ref h_readBound, .int h_stop, .ref h_meant, .ref h_row, .ref h_exact, .ref h_error, .ref h_bestError, .long h_m, .int h_e, .ref h_digits, .int h_whole])), (h_row, .inl (cI, 1420, .inl f_12))] H → va_D A [(h, .inr (9, [.int h_code, .int h_taped, .ref h_tape, .int h_size, .ref h_text, .double h_value, .int h_out, .ref h_output, .int h_illAt, .ref h_format, .int h_sections, .int h_items, .ref h_kind, .ref h_what, .ref h_of, .ref h_relation, .ref h_bound, .int h_reads, .int h_readSections, .ref h_readKind, .ref h_readWhat, .ref h_readOf, .ref h_place, .ref h_readRelation, .ref h_readBound, .int h_stop, .ref h_meant, .ref h_row, .ref h_exact, .ref h_error, .ref h_bestError, .long h_m, .int h_e, .ref h_digits, .int h_whole])), (h_row, .inl (cI, 1420, .inl f_12))] → va_S A s.heap H locs → lv_has ls 7 [(6, .int x_11), (0, .ref h)] → Z 0 0 H locs (F0 m 76 ls []) := by
                intro N
                induction N with
                | zero => intro _ _ _ _ _ _ hmu; exact absurd hmu (Nat.not_lt_zero _)
                | succ N ih_76 =>
                  intro x_11 f_12 H locs ls g76_0 hmu hP hD hS hl
                  refine hZ2 ?_
                  refine lv_iload hx hb dX12_expand_76 (lv_at hl 0 rfl) ?_
                  refine lv_if_le (tgt := 95) hx hb dX12_expand_78 (by decide) (fun c_13 => ?_) (fun c_13 => ?_)
                  · have ic_13 : (x_11 : Int32).toInt ≤ (0 : Int32).toInt := (fa_le x_11 0).mp c_13
                    have L_95 : ∀ (N : Nat) (x_14 : Int32) (f_15 : Nat → Int32) (H : Heap) (locs : List Loc) (ls : Array Slot), (EXm p1 p2 f_15 x_14) → ((x_14 : Int32).toInt ≤ 0) → ((-(x_14 : Int32).toInt).toNat < N) → va_P D vwCl [(h, .inr (9, [.int h_code, .int h_taped, .ref h_tape, .int h_size, .ref h_text, .double h_value, .int h_out, .ref h_output, .int h_illAt, .ref h_format, .int h_sections, .int h_items, .ref h_kind, .ref h_what, .ref h_of, .ref h_relation, .ref h_bound, .int h_reads, .int h_readSections, .ref h_readKind, .ref h_readWhat, .ref h_readOf, .ref h_place, .ref h_readRelation, .ref h_readBound, .int h_stop, .ref h_meant, .ref h_row, .ref h_exact, .ref h_error, .ref h_bestError, .long h_m, .int h_e, .ref h_digits, .int h_whole])), (h_row, .inl (cI, 1420, .inl f_15))] H → va_D A [(h, .inr (9, [.int h_code, .int h_taped, .ref h_tape, .int h_size, .ref h_text, .double h_value, .int h_out, .ref h_output, .int h_illAt, .ref h_format, .int h_sections, .int h_items, .ref h_kind, .ref h_what, .ref h_of, .ref h_relation, .ref h_bound, .int h_reads, .int h_readSections, .ref h_readKind, .ref h_readWhat, .ref h_readOf, .ref h_place, .ref h_readRelation, .ref h_readBound, .int h_stop, .ref h_meant, .ref h_row, .ref h_exact, .ref h_error, .ref h_bestError, .long h_m, .int h_e, .ref h_digits, .int h_whole])), (h_row, .inl (cI, 1420, .inl f_15))] → va_S A s.heap H locs → lv_has ls 7 [(6, .int x_14), (0, .ref h)] → Z 0 0 H locs (F0 m 95 ls []) := by
                      intro N
                      induction N with
                      | zero => intro _ _ _ _ _ _ _ hmu; exact absurd hmu (Nat.not_lt_zero _)
                      | succ N ih_95 =>
                        intro x_14 f_15 H locs ls g95_0 g95_1 hmu hP hD hS hl
                        refine hZ2 ?_
                        refine lv_iload hx hb dX12_expand_95 (lv_at hl 0 rfl) ?_
                        refine lv_bipush (v := (-13)) hx hb dX12_expand_97 (by decide) ?_
                        refine lv_icmp_gt (tgt := 115) hx hb dX12_expand_99 (by decide) (fun c_16 => ?_) (fun c_16 => ?_)
                        · have ic_16 : ((-13) : Int32).toInt < (x_14 : Int32).toInt := (fa_lt (-13) x_14).mp c_16
                          have L_115 : ∀ (N : Nat) (x_17 : Int32) (f_18 : Nat → Int32) (H : Heap) (locs : List Loc) (ls : Array Slot), (EXm p1 p2 f_18 x_17) → ((x_17 : Int32).toInt ≤ 0) → ((-(x_17 : Int32).toInt).toNat < N) → va_P D vwCl [(h, .inr (9, [.int h_code, .int h_taped, .ref h_tape, .int h_size, .ref h_text, .double h_value, .int h_out, .ref h_output, .int h_illAt, .ref h_format, .int h_sections, .int h_items, .ref h_kind, .ref h_what, .ref h_of, .ref h_relation, .ref h_bound, .int h_reads, .int h_readSections, .ref h_readKind, .ref h_readWhat, .ref h_readOf, .ref h_place, .ref h_readRelation, .ref h_readBound, .int h_stop, .ref h_meant, .ref h_row, .ref h_exact, .ref h_error, .ref h_bestError, .long h_m, .int h_e, .ref h_digits, .int h_whole])), (h_row, .inl (cI, 1420, .inl f_18))] H → va_D A [(h, .inr (9, [.int h_code, .int h_taped, .ref h_tape, .int h_size, .ref h_text, .double h_value, .int h_out, .ref h_output, .int h_illAt, .ref h_format, .int h_sections, .int h_items, .ref h_kind, .ref h_what, .ref h_of, .ref h_relation, .ref h_bound, .int h_reads, .int h_readSections, .ref h_readKind, .ref h_readWhat, .ref h_readOf, .ref h_place, .ref h_readRelation, .ref h_readBound, .int h_stop, .ref h_meant, .ref h_row, .ref h_exact, .ref h_error, .ref h_bestError, .long h_m, .int h_e, .ref h_digits, .int h_whole])), (h_row, .inl (cI, 1420, .inl f_18))] → va_S A s.heap H locs → lv_has ls 7 [(6, .int x_17), (0, .ref h)] → Z 0 0 H locs (F0 m 115 ls []) := by
                            intro N
                            induction N with
                            | zero => intro _ _ _ _ _ _ _ hmu; exact absurd hmu (Nat.not_lt_zero _)
                            | succ N ih_115 =>
                              intro x_17 f_18 H locs ls g115_0 g115_1 hmu hP hD hS hl
                              refine hZ2 ?_
                              refine lv_iload hx hb dX12_expand_115 (lv_at hl 0 rfl) ?_
                              refine lv_if_ge (tgt := 131) hx hb dX12_expand_117 (by decide) (fun c_19 => ?_) (fun c_19 => ?_)
                              · have ic_19 : (0 : Int32).toInt ≤ (x_17 : Int32).toInt := (fa_le 0 x_17).mp c_19
                                have hP9 := hP.sub (ws' := [(h, .inr (9, [.int h_code, .int h_taped, .ref h_tape, .int h_size, .ref h_text, .double h_value, .int h_out, .ref h_output, .int h_illAt, .ref h_format, .int h_sections, .int h_items, .ref h_kind, .ref h_what, .ref h_of, .ref h_relation, .ref h_bound, .int h_reads, .int h_readSections, .ref h_readKind, .ref h_readWhat, .ref h_readOf, .ref h_place, .ref h_readRelation, .ref h_readBound, .int h_stop, .ref h_meant, .ref h_row, .ref h_exact, .ref h_error, .ref h_bestError, .long h_m, .int h_e, .ref h_digits, .int h_whole])), (h_row, .inl (cI, 1420, .inl f_18))]) [0, 1] rfl
                                have hD9 := hD.sub (ws' := [(h, .inr (9, [.int h_code, .int h_taped, .ref h_tape, .int h_size, .ref h_text, .double h_value, .int h_out, .ref h_output, .int h_illAt, .ref h_format, .int h_sections, .int h_items, .ref h_kind, .ref h_what, .ref h_of, .ref h_relation, .ref h_bound, .int h_reads, .int h_readSections, .ref h_readKind, .ref h_readWhat, .ref h_readOf, .ref h_place, .ref h_readRelation, .ref h_readBound, .int h_stop, .ref h_meant, .ref h_row, .ref h_exact, .ref h_error, .ref h_bestError, .long h_m, .int h_e, .ref h_digits, .int h_whole])), (h_row, .inl (cI, 1420, .inl f_18))]) [0, 1] (by decide) rfl
                                exact W.vret hx hb hr (fun t ht hW => ⟨⟨(f_18), rfl, (by (try dsimp only); first | omega | assumption | exact Exp_of g115_0 (by omega) (by omega)), by rw [ht]; exact hP9, va_K.moved hW.alike hK, hD9⟩, hS.F ht⟩) hS.2.2 dX12_expand_131
                              · have ic_19 : ¬ ((0 : Int32).toInt ≤ (x_17 : Int32).toInt) := fun h9 => c_19 ((fa_le 0 x_17).mpr h9)
                                refine lv_aload_n hx hb dX12_expand_120 rfl (lv_at hl 1 rfl) ?_
                                refine lv_iconst (v := 2) hx hb dX12_expand_121 (by decide) ?_
                                have hPc := hP.sub (ws' := [(h, .inr (9, [.int h_code, .int h_taped, .ref h_tape, .int h_size, .ref h_text, .double h_value, .int h_out, .ref h_output, .int h_illAt, .ref h_format, .int h_sections, .int h_items, .ref h_kind, .ref h_what, .ref h_of, .ref h_relation, .ref h_bound, .int h_reads, .int h_readSections, .ref h_readKind, .ref h_readWhat, .ref h_readOf, .ref h_place, .ref h_readRelation, .ref h_readBound, .int h_stop, .ref h_meant, .ref h_row, .ref h_exact, .ref h_error, .ref h_bestError, .long h_m, .int h_e, .ref h_digits, .int h_whole])), (h_row, .inl (cI, 1420, .inl f_18))]) [0, 1] rfl
                                have hDc := hD.sub (ws' := [(h, .inr (9, [.int h_code, .int h_taped, .ref h_tape, .int h_size, .ref h_text, .double h_value, .int h_out, .ref h_output, .int h_illAt, .ref h_format, .int h_sections, .int h_items, .ref h_kind, .ref h_what, .ref h_of, .ref h_relation, .ref h_bound, .int h_reads, .int h_readSections, .ref h_readKind, .ref h_readWhat, .ref h_readOf, .ref h_place, .ref h_readRelation, .ref h_readBound, .int h_stop, .ref h_meant, .ref h_row, .ref h_exact, .ref h_error, .ref h_bestError, .long h_m, .int h_e, .ref h_digits, .int h_whole])), (h_row, .inl (cI, 1420, .inl f_18))]) [0, 1] (by decide) rfl
                                have hFc := va_free (wc := [(h, .inr (9, [.int h_code, .int h_taped, .ref h_tape, .int h_size, .ref h_text, .double h_value, .int h_out, .ref h_output, .int h_illAt, .ref h_format, .int h_sections, .int h_items, .ref h_kind, .ref h_what, .ref h_of, .ref h_relation, .ref h_bound, .int h_reads, .int h_readSections, .ref h_readKind, .ref h_readWhat, .ref h_readOf, .ref h_place, .ref h_readRelation, .ref h_readBound, .int h_stop, .ref h_meant, .ref h_row, .ref h_exact, .ref h_error, .ref h_bestError, .long h_m, .int h_e, .ref h_digits, .int h_whole])), (h_row, .inl (cI, 1420, .inl f_18))]) hD hS hA [0, 1] rfl
                                refine va_callv (va_runV (As := [.int 2]) (rest := []) ⟨hx, hb, hml, hown, hts⟩ (c_X12_part l D cI cD cJ H.size h h_code h_taped h_tape h_size h_text h_value h_out h_output h_illAt h_format h_sections h_items h_kind h_what h_of h_relation h_bound h_reads h_readSections h_readKind h_readWhat h_readOf h_place h_readRelation h_readBound h_stop h_meant h_row h_exact h_error h_bestError h_m h_e h_digits h_whole f_18 2 (by omega) (by omega) (by omega) (by assumption) (by omega) (by omega) (by omega) (by omega) (by omega) (by omega)) (cwV 1 hts (goodIn_app (goodIn_r _ [5, 6, 7, 4] rfl (by decide +kernel)) (goodIn_sub i_X12_part k_X12_part)) rfl rfl rfl (by decide +kernel) ⟨Nat.le_of_ble_eq_true rfl, Nat.le_of_ble_eq_true rfl⟩) ⟨fun a U g mk q => by obtain ⟨q0, q1, qP, qK, qD⟩ := q; exact ⟨q0, q1, qP, va_K.moved (u := U) (U := U.calling g mk a) (Vm.Alike.refl U.vm) qK, qD⟩, va_recv hK hPc (ci := 9) (q0 := 0) rfl rfl, fun U hU hW => ⟨rfl, by rw [hU], by rw [hU]; exact hPc, va_K.moved hW.alike hK, hDc.weaken (fun _ _ _ _ => trivial)⟩⟩ rfl rfl hl.1 rfl (lv_room (Nat.le_of_ble_eq_true rfl)) dX12_expand_122 ⟨Nat.le_of_ble_eq_true rfl, Nat.le_of_ble_eq_true rfl⟩) hS (fun q _ h => hFc q h) hFc (fun u t H1 locs ht hvm w_20 hB hz1 hk1 hS => ?_)
                                generalize u = u_21 at w_20 hB
                                obtain ⟨hP1, hK1, hD1⟩ := hB
                                rw [ht] at hP1
                                try dsimp only at w_20
                                obtain ⟨hP, hD⟩ := va_join (wr := []) (w1 := [(h, .inr (9, [.int h_code, .int h_taped, .ref h_tape, .int h_size, .ref h_text, .double h_value, .int h_out, .ref h_output, .int h_illAt, .ref h_format, .int h_sections, .int h_items, .ref h_kind, .ref h_what, .ref h_of, .ref h_relation, .ref h_bound, .int h_reads, .int h_readSections, .ref h_readKind, .ref h_readWhat, .ref h_readOf, .ref h_place, .ref h_readRelation, .ref h_readBound, .int h_stop, .ref h_meant, .ref h_row, .ref h_exact, .ref h_error, .ref h_bestError, .long h_m, .int h_e, .ref h_digits, .int h_whole])), (h_row, .inl (cI, 1420, .inl u_21))]) hP hD [0, 1] [] rfl rfl (by decide) (by decide) hk1 hFc hP1 hD1
                                generalize H1 = H at hP hS ⊢
                                have hP : va_P D vwCl [(h, .inr (9, [.int h_code, .int h_taped, .ref h_tape, .int h_size, .ref h_text, .double h_value, .int h_out, .ref h_output, .int h_illAt, .ref h_format, .int h_sections, .int h_items, .ref h_kind, .ref h_what, .ref h_of, .ref h_relation, .ref h_bound, .int h_reads, .int h_readSections, .ref h_readKind, .ref h_readWhat, .ref h_readOf, .ref h_place, .ref h_readRelation, .ref h_readBound, .int h_stop, .ref h_meant, .ref h_row, .ref h_exact, .ref h_error, .ref h_bestError, .long h_m, .int h_e, .ref h_digits, .int h_whole])), (h_row, .inl (cI, 1420, .inl u_21))] H := hP
                                have hD : va_D A [(h, .inr (9, [.int h_code, .int h_taped, .ref h_tape, .int h_size, .ref h_text, .double h_value, .int h_out, .ref h_output, .int h_illAt, .ref h_format, .int h_sections, .int h_items, .ref h_kind, .ref h_what, .ref h_of, .ref h_relation, .ref h_bound, .int h_reads, .int h_readSections, .ref h_readKind, .ref h_readWhat, .ref h_readOf, .ref h_place, .ref h_readRelation, .ref h_readBound, .int h_stop, .ref h_meant, .ref h_row, .ref h_exact, .ref h_error, .ref h_bestError, .long h_m, .int h_e, .ref h_digits, .int h_whole])), (h_row, .inl (cI, 1420, .inl u_21))] := hD
                                have ht9 := w_20
                                obtain ⟨x_22, ex_22⟩ : ∃ y : Int32, y = x_17 + 1 := ⟨_, rfl⟩
                                have b_x_17 := ti_b x_17
                                have tx_22 := ti_add ex_22
                                refine lv_iinc (v := x_22) (lv' := [(6, .int x_22), (0, .ref h)]) hx hb dX12_expand_125 hl (k := 0) rfl (by rw [ex_22]; rfl) (by decide) rfl (fun ls hl => ?_)
                                refine lv_goto (tgt := 115) hx hb dX12_expand_128 (by decide) ?_
                                exact hZ1 (ih_115 x_22 u_21 _ _ _ (EXm_part 1 g115_0 ht9 (by decide) (by decide) (by decide +kernel) (by omega) (by omega)) (by omega) (by omega) hP hD hS hl)
                          exact hZ1 (L_115 (((-(x_14 : Int32).toInt).toNat) + 1) x_14 f_15 _ _ _ g95_0 (by omega) (by omega) hP hD hS hl)
                        · have ic_16 : ¬ (((-13) : Int32).toInt < (x_14 : Int32).toInt) := fun h9 => c_16 ((fa_lt (-13) x_14).mpr h9)
                          refine lv_aload_n hx hb dX12_expand_102 rfl (lv_at hl 1 rfl) ?_
                          refine lv_sipush (v := 8192) hx hb dX12_expand_103 (by decide) ?_
                          have hPc := hP.sub (ws' := [(h, .inr (9, [.int h_code, .int h_taped, .ref h_tape, .int h_size, .ref h_text, .double h_value, .int h_out, .ref h_output, .int h_illAt, .ref h_format, .int h_sections, .int h_items, .ref h_kind, .ref h_what, .ref h_of, .ref h_relation, .ref h_bound, .int h_reads, .int h_readSections, .ref h_readKind, .ref h_readWhat, .ref h_readOf, .ref h_place, .ref h_readRelation, .ref h_readBound, .int h_stop, .ref h_meant, .ref h_row, .ref h_exact, .ref h_error, .ref h_bestError, .long h_m, .int h_e, .ref h_digits, .int h_whole])), (h_row, .inl (cI, 1420, .inl f_15))]) [0, 1] rfl
                          have hDc := hD.sub (ws' := [(h, .inr (9, [.int h_code, .int h_taped, .ref h_tape, .int h_size, .ref h_text, .double h_value, .int h_out, .ref h_output, .int h_illAt, .ref h_format, .int h_sections, .int h_items, .ref h_kind, .ref h_what, .ref h_of, .ref h_relation, .ref h_bound, .int h_reads, .int h_readSections, .ref h_readKind, .ref h_readWhat, .ref h_readOf, .ref h_place, .ref h_readRelation, .ref h_readBound, .int h_stop, .ref h_meant, .ref h_row, .ref h_exact, .ref h_error, .ref h_bestError, .long h_m, .int h_e, .ref h_digits, .int h_whole])), (h_row, .inl (cI, 1420, .inl f_15))]) [0, 1] (by decide) rfl
                          have hFc := va_free (wc := [(h, .inr (9, [.int h_code, .int h_taped, .ref h_tape, .int h_size, .ref h_text, .double h_value, .int h_out, .ref h_output, .int h_illAt, .ref h_format, .int h_sections, .int h_items, .ref h_kind, .ref h_what, .ref h_of, .ref h_relation, .ref h_bound, .int h_reads, .int h_readSections, .ref h_readKind, .ref h_readWhat, .ref h_readOf, .ref h_place, .ref h_readRelation, .ref h_readBound, .int h_stop, .ref h_meant, .ref h_row, .ref h_exact, .ref h_error, .ref h_bestError, .long h_m, .int h_e, .ref h_digits, .int h_whole])), (h_row, .inl (cI, 1420, .inl f_15))]) hD hS hA [0, 1] rfl
                          refine va_callv (va_runV (As := [.int 8192]) (rest := []) ⟨hx, hb, hml, hown, hts⟩ (c_X12_part l D cI cD cJ H.size h h_code h_taped h_tape h_size h_text h_value h_out h_output h_illAt h_format h_sections h_items h_kind h_what h_of h_relation h_bound h_reads h_readSections h_readKind h_readWhat h_readOf h_place h_readRelation h_readBound h_stop h_meant h_row h_exact h_error h_bestError h_m h_e h_digits h_whole f_15 8192 (by omega) (by omega) (by omega) (by assumption) (by omega) (by omega) (by omega) (by omega) (by omega) (by omega)) (cwV 1 hts (goodIn_app (goodIn_r _ [5, 6, 7, 4] rfl (by decide +kernel)) (goodIn_sub i_X12_part k_X12_part)) rfl rfl rfl (by decide +kernel) ⟨Nat.le_of_ble_eq_true rfl, Nat.le_of_ble_eq_true rfl⟩) ⟨fun a U g mk q => by obtain ⟨q0, q1, qP, qK, qD⟩ := q; exact ⟨q0, q1, qP, va_K.moved (u := U) (U := U.calling g mk a) (Vm.Alike.refl U.vm) qK, qD⟩, va_recv hK hPc (ci := 9) (q0 := 0) rfl rfl, fun U hU hW => ⟨rfl, by rw [hU], by rw [hU]; exact hPc, va_K.moved hW.alike hK, hDc.weaken (fun _ _ _ _ => trivial)⟩⟩ rfl rfl hl.1 rfl (lv_room (Nat.le_of_ble_eq_true rfl)) dX12_expand_106 ⟨Nat.le_of_ble_eq_true rfl, Nat.le_of_ble_eq_true rfl⟩) hS (fun q _ h => hFc q h) hFc (fun u t H1 locs ht hvm w_23 hB hz1 hk1 hS => ?_)
                          generalize u = u_24 at w_23 hB
                          obtain ⟨hP1, hK1, hD1⟩ := hB
                          rw [ht] at hP1
                          try dsimp only at w_23
                          obtain ⟨hP, hD⟩ := va_join (wr := []) (w1 := [(h, .inr (9, [.int h_code, .int h_taped, .ref h_tape, .int h_size, .ref h_text, .double h_value, .int h_out, .ref h_output, .int h_illAt, .ref h_format, .int h_sections, .int h_items, .ref h_kind, .ref h_what, .ref h_of, .ref h_relation, .ref h_bound, .int h_reads, .int h_readSections, .ref h_readKind, .ref h_readWhat, .ref h_readOf, .ref h_place, .ref h_readRelation, .ref h_readBound, .int h_stop, .ref h_meant, .ref h_row, .ref h_exact, .ref h_error, .ref h_bestError, .long h_m, .int h_e, .ref h_digits, .int h_whole])), (h_row, .inl (cI, 1420, .inl u_24))]) hP hD [0, 1] [] rfl rfl (by decide) (by decide) hk1 hFc hP1 hD1
                          generalize H1 = H at hP hS ⊢
                          have hP : va_P D vwCl [(h, .inr (9, [.int h_code, .int h_taped, .ref h_tape, .int h_size, .ref h_text, .double h_value, .int h_out, .ref h_output, .int h_illAt, .ref h_format, .int h_sections, .int h_items, .ref h_kind, .ref h_what, .ref h_of, .ref h_relation, .ref h_bound, .int h_reads, .int h_readSections, .ref h_readKind, .ref h_readWhat, .ref h_readOf, .ref h_place, .ref h_readRelation, .ref h_readBound, .int h_stop, .ref h_meant, .ref h_row, .ref h_exact, .ref h_error, .ref h_bestError, .long h_m, .int h_e, .ref h_digits, .int h_whole])), (h_row, .inl (cI, 1420, .inl u_24))] H := hP
                          have hD : va_D A [(h, .inr (9, [.int h_code, .int h_taped, .ref h_tape, .int h_size, .ref h_text, .double h_value, .int h_out, .ref h_output, .int h_illAt, .ref h_format, .int h_sections, .int h_items, .ref h_kind, .ref h_what, .ref h_of, .ref h_relation, .ref h_bound, .int h_reads, .int h_readSections, .ref h_readKind, .ref h_readWhat, .ref h_readOf, .ref h_place, .ref h_readRelation, .ref h_readBound, .int h_stop, .ref h_meant, .ref h_row, .ref h_exact, .ref h_error, .ref h_bestError, .long h_m, .int h_e, .ref h_digits, .int h_whole])), (h_row, .inl (cI, 1420, .inl u_24))] := hD
                          have ht9 := w_23
                          obtain ⟨x_25, ex_25⟩ : ∃ y : Int32, y = x_14 + 13 := ⟨_, rfl⟩
                          have b_x_14 := ti_b x_14
                          have tx_25 := ti_add ex_25
                          refine lv_iinc (v := x_25) (lv' := [(6, .int x_25), (0, .ref h)]) hx hb dX12_expand_109 hl (k := 0) rfl (by rw [ex_25]; rfl) (by decide) rfl (fun ls hl => ?_)
                          refine lv_goto (tgt := 95) hx hb dX12_expand_112 (by decide) ?_
                          exact hZ1 (ih_95 x_25 u_24 _ _ _ (EXm_part 13 g95_0 ht9 (by decide) (by decide) (by decide +kernel) (by omega) (by omega)) (by omega) (by omega) hP hD hS hl)
                    exact hZ1 (L_95 (((-(x_11 : Int32).toInt).toNat) + 1) x_11 f_12 _ _ _ g76_0 (by omega) (by omega) hP hD hS hl)
                  · have ic_13 : ¬ ((x_11 : Int32).toInt ≤ (0 : Int32).toInt) := fun h9 => c_13 ((fa_le x_11 0).mpr h9)
                    refine lv_aload_n hx hb dX12_expand_81 rfl (lv_at hl 1 rfl) ?_
                    refine va_get (D := D) (ci := 9) (v := .ref h_row) (C := RX12) (T := TX12) (N := 35) hx hb hts iX12 hown hK hP 0 rfl rfl 27 (by decide) (hw 0 (.fieldLink RX12 63 "NumberFormatsModel" "row" "[I") rfl) (fun _ h9 => h9) rfl dX12_expand_82 ?_
                    refine lv_iconst (v := 2) hx hb dX12_expand_85 (by decide) ?_
                    have hPc := hP.sub (ws' := [(h_row, .inl (cI, 1420, .inl f_12))]) [1] rfl
                    have hDc := hD.sub (ws' := [(h_row, .inl (cI, 1420, .inl f_12))]) [1] (by decide) rfl
                    have hFc := va_free (wc := [(h_row, .inl (cI, 1420, .inl f_12))]) hD hS hA [1] rfl
                    refine va_callv (va_runS (As := [.ref h_row, .int 2]) (rest := []) ⟨hx, hb, hml, hown, hts⟩ (c_X12_times l D cI cD cJ H.size h_row f_12 2) (va_cwS 2 hts (goodIn_app (goodIn_r _ [8, 9, 4] rfl (by decide +kernel)) (goodIn_sub i_X12_times k_X12_times)) rfl rfl rfl (by decide +kernel) ⟨Nat.le_of_ble_eq_true rfl, Nat.le_of_ble_eq_true rfl⟩) ⟨fun a U g mk q => by obtain ⟨q0, q1, qP, qK, qD⟩ := q; exact ⟨q0, q1, qP, va_K.moved (u := U) (U := U.calling g mk a) (Vm.Alike.refl U.vm) qK, qD⟩, fun U hU hW => ⟨rfl, by rw [hU], by rw [hU]; exact hPc, va_K.moved hW.alike hK, hDc.weaken (fun _ _ _ _ => trivial)⟩⟩ rfl rfl hl.1 rfl (lv_room (Nat.le_of_ble_eq_true rfl)) dX12_expand_86 ⟨Nat.le_of_ble_eq_true rfl, Nat.le_of_ble_eq_true rfl⟩) hS (fun q _ h => hFc q h) hFc (fun u t H1 locs ht hvm w_26 hB hz1 hk1 hS => ?_)
                    generalize u = u_27 at w_26 hB
                    obtain ⟨hP1, hK1, hD1⟩ := hB
                    rw [ht] at hP1
                    try dsimp only at w_26
                    obtain ⟨hP, hD⟩ := va_join (wr := [(h, .inr (9, [.int h_code, .int h_taped, .ref h_tape, .int h_size, .ref h_text, .double h_value, .int h_out, .ref h_output, .int h_illAt, .ref h_format, .int h_sections, .int h_items, .ref h_kind, .ref h_what, .ref h_of, .ref h_relation, .ref h_bound, .int h_reads, .int h_readSections, .ref h_readKind, .ref h_readWhat, .ref h_readOf, .ref h_place, .ref h_readRelation, .ref h_readBound, .int h_stop, .ref h_meant, .ref h_row, .ref h_exact, .ref h_error, .ref h_bestError, .long h_m, .int h_e, .ref h_digits, .int h_whole]))]) (w1 := [(h_row, .inl (cI, 1420, .inl u_27))]) hP hD [1] [0] rfl rfl (by decide) (by decide) hk1 hFc hP1 hD1
                    generalize H1 = H at hP hS ⊢
                    have hP : va_P D vwCl [(h, .inr (9, [.int h_code, .int h_taped, .ref h_tape, .int h_size, .ref h_text, .double h_value, .int h_out, .ref h_output, .int h_illAt, .ref h_format, .int h_sections, .int h_items, .ref h_kind, .ref h_what, .ref h_of, .ref h_relation, .ref h_bound, .int h_reads, .int h_readSections, .ref h_readKind, .ref h_readWhat, .ref h_readOf, .ref h_place, .ref h_readRelation, .ref h_readBound, .int h_stop, .ref h_meant, .ref h_row, .ref h_exact, .ref h_error, .ref h_bestError, .long h_m, .int h_e, .ref h_digits, .int h_whole])), (h_row, .inl (cI, 1420, .inl u_27))] H := hP
                    have hD : va_D A [(h, .inr (9, [.int h_code, .int h_taped, .ref h_tape, .int h_size, .ref h_text, .double h_value, .int h_out, .ref h_output, .int h_illAt, .ref h_format, .int h_sections, .int h_items, .ref h_kind, .ref h_what, .ref h_of, .ref h_relation, .ref h_bound, .int h_reads, .int h_readSections, .ref h_readKind, .ref h_readWhat, .ref h_readOf, .ref h_place, .ref h_readRelation, .ref h_readBound, .int h_stop, .ref h_meant, .ref h_row, .ref h_exact, .ref h_error, .ref h_bestError, .long h_m, .int h_e, .ref h_digits, .int h_whole])), (h_row, .inl (cI, 1420, .inl u_27))] := hD
                    have ht9 := w_26
                    obtain ⟨x_28, ex_28⟩ : ∃ y : Int32, y = x_11 + (-1) := ⟨_, rfl⟩
                    have b_x_11 := ti_b x_11
                    have tx_28 := ti_add ex_28
                    refine lv_iinc (v := x_28) (lv' := [(6, .int x_28), (0, .ref h)]) hx hb dX12_expand_89 hl (k := 0) rfl (by rw [ex_28]; rfl) (by decide) rfl (fun ls hl => ?_)
                    refine lv_goto (tgt := 76) hx hb dX12_expand_92 (by decide) ?_
                    exact hZ1 (ih_76 x_28 u_27 _ _ _ (EXm_times 1 g76_0 ht9 (by decide) (by decide +kernel) (by omega) (by omega) (by omega)) (by omega) hP hD hS hl)
              exact hZ1 (L_76 (((x_8 : Int32).toInt.toNat) + 1) x_8 f_9 _ _ _ g53_0 (by omega) hP hD hS hl)
            · have ic_10 : ¬ ((x_8 : Int32).toInt < (13 : Int32).toInt) := fun h9 => c_10 ((fa_lt x_8 13).mpr h9)
              refine lv_aload_n hx hb dX12_expand_60 rfl (lv_at hl 1 rfl) ?_
              refine va_get (D := D) (ci := 9) (v := .ref h_row) (C := RX12) (T := TX12) (N := 35) hx hb hts iX12 hown hK hP 0 rfl rfl 27 (by decide) (hw 0 (.fieldLink RX12 63 "NumberFormatsModel" "row" "[I") rfl) (fun _ h9 => h9) rfl dX12_expand_61 ?_
              refine lv_sipush (v := 8192) hx hb dX12_expand_64 (by decide) ?_
              have hPc := hP.sub (ws' := [(h_row, .inl (cI, 1420, .inl f_9))]) [1] rfl
              have hDc := hD.sub (ws' := [(h_row, .inl (cI, 1420, .inl f_9))]) [1] (by decide) rfl
              have hFc := va_free (wc := [(h_row, .inl (cI, 1420, .inl f_9))]) hD hS hA [1] rfl
              refine va_callv (va_runS (As := [.ref h_row, .int 8192]) (rest := []) ⟨hx, hb, hml, hown, hts⟩ (c_X12_times l D cI cD cJ H.size h_row f_9 8192) (va_cwS 2 hts (goodIn_app (goodIn_r _ [8, 9, 4] rfl (by decide +kernel)) (goodIn_sub i_X12_times k_X12_times)) rfl rfl rfl (by decide +kernel) ⟨Nat.le_of_ble_eq_true rfl, Nat.le_of_ble_eq_true rfl⟩) ⟨fun a U g mk q => by obtain ⟨q0, q1, qP, qK, qD⟩ := q; exact ⟨q0, q1, qP, va_K.moved (u := U) (U := U.calling g mk a) (Vm.Alike.refl U.vm) qK, qD⟩, fun U hU hW => ⟨rfl, by rw [hU], by rw [hU]; exact hPc, va_K.moved hW.alike hK, hDc.weaken (fun _ _ _ _ => trivial)⟩⟩ rfl rfl hl.1 rfl (lv_room (Nat.le_of_ble_eq_true rfl)) dX12_expand_67 ⟨Nat.le_of_ble_eq_true rfl, Nat.le_of_ble_eq_true rfl⟩) hS (fun q _ h => hFc q h) hFc (fun u t H1 locs ht hvm w_29 hB hz1 hk1 hS => ?_)
              generalize u = u_30 at w_29 hB
              obtain ⟨hP1, hK1, hD1⟩ := hB
              rw [ht] at hP1
              try dsimp only at w_29
              obtain ⟨hP, hD⟩ := va_join (wr := [(h, .inr (9, [.int h_code, .int h_taped, .ref h_tape, .int h_size, .ref h_text, .double h_value, .int h_out, .ref h_output, .int h_illAt, .ref h_format, .int h_sections, .int h_items, .ref h_kind, .ref h_what, .ref h_of, .ref h_relation, .ref h_bound, .int h_reads, .int h_readSections, .ref h_readKind, .ref h_readWhat, .ref h_readOf, .ref h_place, .ref h_readRelation, .ref h_readBound, .int h_stop, .ref h_meant, .ref h_row, .ref h_exact, .ref h_error, .ref h_bestError, .long h_m, .int h_e, .ref h_digits, .int h_whole]))]) (w1 := [(h_row, .inl (cI, 1420, .inl u_30))]) hP hD [1] [0] rfl rfl (by decide) (by decide) hk1 hFc hP1 hD1
              generalize H1 = H at hP hS ⊢
              have hP : va_P D vwCl [(h, .inr (9, [.int h_code, .int h_taped, .ref h_tape, .int h_size, .ref h_text, .double h_value, .int h_out, .ref h_output, .int h_illAt, .ref h_format, .int h_sections, .int h_items, .ref h_kind, .ref h_what, .ref h_of, .ref h_relation, .ref h_bound, .int h_reads, .int h_readSections, .ref h_readKind, .ref h_readWhat, .ref h_readOf, .ref h_place, .ref h_readRelation, .ref h_readBound, .int h_stop, .ref h_meant, .ref h_row, .ref h_exact, .ref h_error, .ref h_bestError, .long h_m, .int h_e, .ref h_digits, .int h_whole])), (h_row, .inl (cI, 1420, .inl u_30))] H := hP
              have hD : va_D A [(h, .inr (9, [.int h_code, .int h_taped, .ref h_tape, .int h_size, .ref h_text, .double h_value, .int h_out, .ref h_output, .int h_illAt, .ref h_format, .int h_sections, .int h_items, .ref h_kind, .ref h_what, .ref h_of, .ref h_relation, .ref h_bound, .int h_reads, .int h_readSections, .ref h_readKind, .ref h_readWhat, .ref h_readOf, .ref h_place, .ref h_readRelation, .ref h_readBound, .int h_stop, .ref h_meant, .ref h_row, .ref h_exact, .ref h_error, .ref h_bestError, .long h_m, .int h_e, .ref h_digits, .int h_whole])), (h_row, .inl (cI, 1420, .inl u_30))] := hD
              have ht9 := w_29
              obtain ⟨x_31, ex_31⟩ : ∃ y : Int32, y = x_8 + (-13) := ⟨_, rfl⟩
              have b_x_8 := ti_b x_8
              have tx_31 := ti_add ex_31
              refine lv_iinc (v := x_31) (lv' := [(6, .int x_31), (0, .ref h)]) hx hb dX12_expand_70 hl (k := 0) rfl (by rw [ex_31]; rfl) (by decide) rfl (fun ls hl => ?_)
              refine lv_goto (tgt := 53) hx hb dX12_expand_73 (by decide) ?_
              exact hZ1 (ih_53 x_31 u_30 _ _ _ (EXm_times 13 g53_0 ht9 (by decide) (by decide +kernel) (by omega) (by omega) (by omega)) (by omega) hP hD hS hl)
        exact hZ1 (L_53 (((p2 : Int32).toInt.toNat) + 1) p2 f_5 _ _ _ (EXm_0 hx0) (by omega) hP hD hS (lv_sub hl [0, 2] rfl))
      · have ic_7 : ¬ ((x_6 : Int32).toInt ≤ (0 : Int32).toInt) := fun h9 => c_7 ((fa_le x_6 0).mpr h9)
        refine lv_aload_n hx hb dX12_expand_22 rfl (lv_at hl 2 rfl) ?_
        refine va_get (D := D) (ci := 9) (v := .ref h_row) (C := RX12) (T := TX12) (N := 35) hx hb hts iX12 hown hK hP 0 rfl rfl 27 (by decide) (hw 0 (.fieldLink RX12 63 "NumberFormatsModel" "row" "[I") rfl) (fun _ h9 => h9) rfl dX12_expand_23 ?_
        refine lv_iload hx hb dX12_expand_26 (lv_at hl 0 rfl) ?_
        refine lv_lload hx hb dX12_expand_28 (lv_at hl 1 rfl) ?_
        refine lv_ldc2 (v := 10) hx hb hown (hw 9 (.constantLong RX12 114 (10)) rfl) dX12_expand_30 ?_
        refine lv_lrem hx hb dX12_expand_33 (by decide) ?_
        refine lv_topl (fun y_32 ey_32 => ?_)
        have ty_32 := tl_rem ey_32 (by decide)
        rw [nl_10] at ty_32
        try (have uy_32 := tl_remE ey_32 (by decide) (by omega); rw [nl_10] at uy_32)
        refine lv_l2i hx hb dX12_expand_34 rfl ?_
        refine lv_topi (fun x_33 ex_33 => ?_)
        have tx_33 := ti_l2i ex_33
        have h_35 : vp_in x_3 1420 := by rw [vp_in_iff]; omega
        refine va_iast hx hb hK hP hD hS 1 0 rfl rfl h_35 dX12_expand_35 (fun H locs hP hD hS => ?_)
        obtain ⟨f_34, ef_34⟩ : ∃ y : Nat → Int32, y = upd f_5 (x_3 : Int32).toNatClampNeg x_33 := ⟨_, rfl⟩
        rw [← ef_34] at hP hD
        have hP : va_P D vwCl [(h, .inr (9, [.int h_code, .int h_taped, .ref h_tape, .int h_size, .ref h_text, .double h_value, .int h_out, .ref h_output, .int h_illAt, .ref h_format, .int h_sections, .int h_items, .ref h_kind, .ref h_what, .ref h_of, .ref h_relation, .ref h_bound, .int h_reads, .int h_readSections, .ref h_readKind, .ref h_readWhat, .ref h_readOf, .ref h_place, .ref h_readRelation, .ref h_readBound, .int h_stop, .ref h_meant, .ref h_row, .ref h_exact, .ref h_error, .ref h_bestError, .long h_m, .int h_e, .ref h_digits, .int h_whole])), (h_row, .inl (cI, 1420, .inl f_34))] H := hP
        have hD : va_D A [(h, .inr (9, [.int h_code, .int h_taped, .ref h_tape, .int h_size, .ref h_text, .double h_value, .int h_out, .ref h_output, .int h_illAt, .ref h_format, .int h_sections, .int h_items, .ref h_kind, .ref h_what, .ref h_of, .ref h_relation, .ref h_bound, .int h_reads, .int h_readSections, .ref h_readKind, .ref h_readWhat, .ref h_readOf, .ref h_place, .ref h_readRelation, .ref h_readBound, .int h_stop, .ref h_meant, .ref h_row, .ref h_exact, .ref h_error, .ref h_bestError, .long h_m, .int h_e, .ref h_digits, .int h_whole])), (h_row, .inl (cI, 1420, .inl f_34))] := hD
        refine lv_lload hx hb dX12_expand_36 (lv_at hl 1 rfl) ?_
        refine lv_ldc2 (v := 10) hx hb hown (hw 9 (.constantLong RX12 114 (10)) rfl) dX12_expand_38 ?_
        refine lv_ldiv hx hb dX12_expand_41 (by decide) ?_
        refine lv_topl (fun y_35 ey_35 => ?_)
        have ty_35 := tl_div ey_35 (by decide)
        rw [nl_10] at ty_35
        try (have uy_35 := tl_divE ey_35 (by decide) (by omega); rw [nl_10] at uy_35)
        refine lv_lstore (lv' := [(4, .long y_35), (6, .int x_3), (0, .ref h), (3, .int p2)]) hx hb dX12_expand_42 hl (by decide) rfl (fun ls hl => ?_)
        obtain ⟨x_36, ex_36⟩ : ∃ y : Int32, y = x_3 + (-1) := ⟨_, rfl⟩
        have b_x_3 := ti_b x_3
        have tx_36 := ti_add ex_36
        refine lv_iinc (v := x_36) (lv' := [(6, .int x_36), (4, .long y_35), (0, .ref h), (3, .int p2)]) hx hb dX12_expand_44 hl (k := 1) rfl (by rw [ex_36]; rfl) (by decide) rfl (fun ls hl => ?_)
        refine lv_goto (tgt := 15) hx hb dX12_expand_47 (by decide) ?_
        exact hZ1 (ih_15 x_36 y_35 f_34 _ _ _ (EDg_step g15_0 (by omega) ey_32 ex_33 ef_34 ey_35 ex_36) (by omega) hP hD hS hl)
  exact hZ1 (L_15 (((p1 : Int64).toInt.toNat) + 1) 319 p1 u_2 _ _ _ (EDg_0 hzr) (by omega) hP hD hS (lv_sub hl [0, 1, 2, 4] rfl))

def ow_X12_wholeOf : List Cond := [Cond.constantLong RX12 114 (10)]
def pw_X12_wholeOf : List Cond := Cond.code yX12_wholeOf cX12_wholeOf 4 (some .long) :: (ow_X12_wholeOf)
set_option maxRecDepth 20000 in
theorem mo_X12_wholeOf : ∀ w ∈ ow_X12_wholeOf, w ∈ lw_tbl := by decide +kernel
set_option maxRecDepth 20000 in
theorem mc_X12_wholeOf : Cond.code yX12_wholeOf cX12_wholeOf 4 (some .long) ∈ lw_tbl := by decide +kernel
theorem m_X12_wholeOf : ∀ w ∈ pw_X12_wholeOf, w ∈ lw_tbl := List.forall_mem_cons.mpr ⟨mc_X12_wholeOf, mo_X12_wholeOf⟩
theorem ko_X12_wholeOf : ∀ w ∈ ow_X12_wholeOf, goodWord w = true := by decide +kernel
theorem k_X12_wholeOf : pw_X12_wholeOf.all goodWord = true := List.all_eq_true.mpr (List.forall_mem_cons.mpr ⟨by decide +kernel, ko_X12_wholeOf⟩)
set_option maxHeartbeats 400000 in
set_option maxRecDepth 100000 in
theorem c_X12_wholeOf (l : Launch) (D : va_G) (cI cD cJ : ClassId) (sz : Nat) (ar_r : Nat) (ar_rF : Nat → Int32) : Met l yX12_wholeOf pw_X12_wholeOf ({ frames := 0, cells := 0, slots := 0, locals := 0 }) (va_Pc [.ref ar_r] (fun U => va_P D vwCl [(ar_r, .inl (cI, 1420, .inl ar_rF))] U.heap ∧ va_K D vwCl (ty3 cI cD cJ) U)) (va_Ql (fun (r : Int64) (u : Unit) => True) (fun _ _ => True) (fun _ => False)) 0 0 (fun _ => False) := by
  refine Met.ofW (cc := cX12_wholeOf) (maxL := 4) (ret := (some .long)) (by decide +kernel) rfl ?_
  intro p e s m args below meth c s₁ B hml hv
  obtain ⟨rfl, hP, hK⟩ := hv
  have hx := B.exec
  have hb := B.bytes
  have hr := B.returns
  have hts := atoms_spec (ws := pw_X12_wholeOf) B.pre
  have hown : s.vm.findClass RX12 = some m.cls := findClass_of_methodNamed B.named
  have hlocks := B.notSynchronized
  have hS : va_S (fun _ => False) s.heap s.heap [] := va_S.rf
  have hw : ∀ (k : Nat) (w : Cond), ow_X12_wholeOf[k]? = some w → w.before _ s = true := fun k w h => hts w (List.mem_cons_of_mem _ (have h9 := List.mem_of_getElem? h; h9))
  have n_1 : ((1 : Int32)).toInt = 1 := by decide
  have n_302 : ((302 : Int32)).toInt = 302 := by decide
  have n_319 : ((319 : Int32)).toInt = 319 := by decide
  have nl_0 : ((0 : Int64)).toInt = 0 := by decide
  have nl_10 : ((10 : Int64)).toInt = 10 := by decide
  have hl := lv_entry ([.ref ar_r]) (n := 4) (Nat.le_of_ble_eq_true rfl)
  rw [lg_entry_eq]
  generalize (lg_sl ([.ref ar_r]) ++ List.replicate (4 - (lg_sl ([.ref ar_r])).length) Slot.unset).toArray = ls at hl ⊢
  have hl : lv_has ls 4 [(0, .ref ar_r)] := hl
  refine zz_cap (fun Z hZ1 hZ2 => ?_)
  refine lv_lconst (v := 0) hx hb dX12_wholeOf_0 (by decide) ?_
  refine lv_lstore_n (lv' := [(1, .long 0), (0, .ref ar_r)]) hx hb dX12_wholeOf_1 rfl hl (by decide) rfl (fun ls hl => ?_)
  refine lv_sipush (v := 302) hx hb dX12_wholeOf_2 (by decide) ?_
  refine lv_istore_n (lv' := [(3, .int 302), (1, .long 0), (0, .ref ar_r)]) hx hb dX12_wholeOf_5 rfl hl (by decide) rfl (fun ls hl => ?_)
  have L_6 : ∀ (N : Nat) (x_1 : Int32) (y_2 : Int64) (H : Heap) (locs : List Loc) (ls : Array Slot), (302 ≤ (x_1 : Int32).toInt) → ((2147483647 - (x_1 : Int32).toInt).toNat < N) → va_P D vwCl [(ar_r, .inl (cI, 1420, .inl ar_rF))] H → va_S (fun _ => False) s.heap H locs → lv_has ls 4 [(3, .int x_1), (1, .long y_2), (0, .ref ar_r)] → Z 0 0 H locs (F0 m 6 ls []) := by
    intro N
    induction N with
    | zero => intro _ _ _ _ _ _ hmu; exact absurd hmu (Nat.not_lt_zero _)
    | succ N ih_6 =>
      intro x_1 y_2 H locs ls g6_0 hmu hP hS hl
      refine hZ2 ?_
      refine lv_iload_n hx hb dX12_wholeOf_6 rfl (lv_at hl 0 rfl) ?_
      refine lv_sipush (v := 319) hx hb dX12_wholeOf_7 (by decide) ?_
      refine lv_icmp_gt (tgt := 30) hx hb dX12_wholeOf_10 (by decide) (fun c_3 => ?_) (fun c_3 => ?_)
      · have ic_3 : (319 : Int32).toInt < (x_1 : Int32).toInt := (fa_lt 319 x_1).mp c_3
        refine lv_lload_n hx hb dX12_wholeOf_30 rfl (lv_at hl 1 rfl) ?_
        exact W.lret (v := y_2) hx hb hr (fun t ht hW => ⟨⟨y_2, (), rfl, trivial, trivial⟩, hS.F ht⟩) hS.2.2 dX12_wholeOf_31
      · have ic_3 : ¬ ((319 : Int32).toInt < (x_1 : Int32).toInt) := fun h9 => c_3 ((fa_lt 319 x_1).mpr h9)
        refine lv_ldc2 (v := 10) hx hb hown (hw 0 (.constantLong RX12 114 (10)) rfl) dX12_wholeOf_13 ?_
        refine lv_lload_n hx hb dX12_wholeOf_16 rfl (lv_at hl 1 rfl) ?_
        refine lv_lmul hx hb dX12_wholeOf_17 ?_
        refine lv_topl (fun y_4 ey_4 => ?_)
        have ty_4 := tl_mul ey_4
        rw [nl_10] at ty_4
        refine lv_aload_n hx hb dX12_wholeOf_18 rfl (lv_at hl 2 rfl) ?_
        refine lv_iload_n hx hb dX12_wholeOf_19 rfl (lv_at hl 0 rfl) ?_
        have h_20 : vp_in x_1 1420 := by rw [vp_in_iff]; omega
        refine va_iald hx hb hK hP 0 0 rfl rfl h_20 dX12_wholeOf_20 ?_
        refine lv_topi (fun x_5 ex_5 => ?_)
        refine lv_i2l hx hb dX12_wholeOf_21 rfl ?_
        refine lv_topl (fun y_6 ey_6 => ?_)
        have ty_6 := tl_i2l ey_6
        refine lv_ladd hx hb dX12_wholeOf_22 ?_
        refine lv_topl (fun y_7 ey_7 => ?_)
        have b_y_4 := tl_b y_4
        have b_y_6 := tl_b y_6
        have ty_7 := tl_add ey_7
        refine lv_lstore_n (lv' := [(1, .long y_7), (3, .int x_1), (0, .ref ar_r)]) hx hb dX12_wholeOf_23 rfl hl (by decide) rfl (fun ls hl => ?_)
        obtain ⟨x_8, ex_8⟩ : ∃ y : Int32, y = x_1 + 1 := ⟨_, rfl⟩
        have b_x_1 := ti_b x_1
        have tx_8 := ti_add ex_8
        refine lv_iinc (v := x_8) (lv' := [(3, .int x_8), (1, .long y_7), (0, .ref ar_r)]) hx hb dX12_wholeOf_24 hl (k := 1) rfl (by rw [ex_8]; rfl) (by decide) rfl (fun ls hl => ?_)
        refine lv_goto (tgt := 6) hx hb dX12_wholeOf_27 (by decide) ?_
        exact hZ1 (ih_6 x_8 y_7 _ _ _ (by omega) (by omega) hP hS hl)
  exact hZ1 (L_6 (((2147483647 - (302 : Int32).toInt).toNat) + 1) 302 0 _ _ _ (by omega) (by omega) hP hS hl)

def ow_X12_dropWhole : List Cond := []
def pw_X12_dropWhole : List Cond := Cond.code yX12_dropWhole cX12_dropWhole 2 none :: (ow_X12_dropWhole)
set_option maxRecDepth 20000 in
theorem mo_X12_dropWhole : ∀ w ∈ ow_X12_dropWhole, w ∈ lw_tbl := by decide +kernel
set_option maxRecDepth 20000 in
theorem mc_X12_dropWhole : Cond.code yX12_dropWhole cX12_dropWhole 2 none ∈ lw_tbl := by decide +kernel
theorem m_X12_dropWhole : ∀ w ∈ pw_X12_dropWhole, w ∈ lw_tbl := List.forall_mem_cons.mpr ⟨mc_X12_dropWhole, mo_X12_dropWhole⟩
theorem ko_X12_dropWhole : ∀ w ∈ ow_X12_dropWhole, goodWord w = true := by decide +kernel
theorem k_X12_dropWhole : pw_X12_dropWhole.all goodWord = true := List.all_eq_true.mpr (List.forall_mem_cons.mpr ⟨by decide +kernel, ko_X12_dropWhole⟩)
set_option maxHeartbeats 400000 in
set_option maxRecDepth 100000 in
theorem c_X12_dropWhole (l : Launch) (D : va_G) (cI cD cJ : ClassId) (sz : Nat) (ar_r : Nat) (ar_rF : Nat → Int32) : Met l yX12_dropWhole pw_X12_dropWhole ({ frames := 0, cells := 0, slots := 0, locals := 0 }) (va_Pc [.ref ar_r] (fun U => U.heap.size = sz ∧ va_P D vwCl [(ar_r, .inl (cI, 1420, .inl ar_rF))] U.heap ∧ va_K D vwCl (ty3 cI cD cJ) U ∧ va_D (fun _ => True) [(ar_r, .inl (cI, 1420, .inl ar_rF))])) (va_Qv (fun (ar_rF2 : (Nat → Int32)) => True) (fun (ar_rF2 : (Nat → Int32)) (t : State) => va_P D vwCl [(ar_r, .inl (cI, 1420, .inl ar_rF2))] t.heap ∧ va_K D vwCl (ty3 cI cD cJ) t ∧ va_D (va_A [(ar_r, .inl (cI, 1420, .inl ar_rF))] sz) [(ar_r, .inl (cI, 1420, .inl ar_rF2))]) (va_A [(ar_r, .inl (cI, 1420, .inl ar_rF))] sz)) 0 0 (va_A [(ar_r, .inl (cI, 1420, .inl ar_rF))] sz) := by
  refine Met.ofW (cc := cX12_dropWhole) (maxL := 2) (ret := none) (by decide +kernel) rfl ?_
  intro p e s m args below meth c s₁ B hml hv
  obtain ⟨rfl, hsz, hP, hK, hD0⟩ := hv
  have hx := B.exec
  have hb := B.bytes
  have hr := B.returns
  have hts := atoms_spec (ws := pw_X12_dropWhole) B.pre
  have hown : s.vm.findClass RX12 = some m.cls := findClass_of_methodNamed B.named
  have hlocks := B.notSynchronized
  subst hsz
  have hD := hD0.self (sz := s.heap.size)
  generalize hAe : va_A [(ar_r, .inl (cI, 1420, .inl ar_rF))] s.heap.size = A at hD ⊢
  have hA : ∀ q : Nat, s.heap.size ≤ q → A q := fun q h => by rw [← hAe]; exact Or.inr h
  have hS : va_S A s.heap s.heap [] := va_S.rf
  have hw : ∀ (k : Nat) (w : Cond), ow_X12_dropWhole[k]? = some w → w.before _ s = true := fun k w h => hts w (List.mem_cons_of_mem _ (have h9 := List.mem_of_getElem? h; h9))
  have n_0 : ((0 : Int32)).toInt = 0 := by decide
  have n_1 : ((1 : Int32)).toInt = 1 := by decide
  have n_319 : ((319 : Int32)).toInt = 319 := by decide
  have hl := lv_entry ([.ref ar_r]) (n := 2) (Nat.le_of_ble_eq_true rfl)
  rw [lg_entry_eq]
  generalize (lg_sl ([.ref ar_r]) ++ List.replicate (2 - (lg_sl ([.ref ar_r])).length) Slot.unset).toArray = ls at hl ⊢
  have hl : lv_has ls 2 [(0, .ref ar_r)] := hl
  refine zz_cap (fun Z hZ1 hZ2 => ?_)
  refine lv_iconst (v := 0) hx hb dX12_dropWhole_0 (by decide) ?_
  refine lv_istore_n (lv' := [(1, .int 0), (0, .ref ar_r)]) hx hb dX12_dropWhole_1 rfl hl (by decide) rfl (fun ls hl => ?_)
  have L_2 : ∀ (N : Nat) (x_1 : Int32) (f_2 : Nat → Int32) (H : Heap) (locs : List Loc) (ls : Array Slot), (0 ≤ (x_1 : Int32).toInt) → ((2147483647 - (x_1 : Int32).toInt).toNat < N) → va_P D vwCl [(ar_r, .inl (cI, 1420, .inl f_2))] H → va_D A [(ar_r, .inl (cI, 1420, .inl f_2))] → va_S A s.heap H locs → lv_has ls 2 [(1, .int x_1), (0, .ref ar_r)] → Z 0 0 H locs (F0 m 2 ls []) := by
    intro N
    induction N with
    | zero => intro _ _ _ _ _ _ hmu; exact absurd hmu (Nat.not_lt_zero _)
    | succ N ih_2 =>
      intro x_1 f_2 H locs ls g2_0 hmu hP hD hS hl
      refine hZ2 ?_
      refine lv_iload_n hx hb dX12_dropWhole_2 rfl (lv_at hl 0 rfl) ?_
      refine lv_sipush (v := 319) hx hb dX12_dropWhole_3 (by decide) ?_
      refine lv_icmp_gt (tgt := 19) hx hb dX12_dropWhole_6 (by decide) (fun c_3 => ?_) (fun c_3 => ?_)
      · have ic_3 : (319 : Int32).toInt < (x_1 : Int32).toInt := (fa_lt 319 x_1).mp c_3
        have hP9 := hP.sub (ws' := [(ar_r, .inl (cI, 1420, .inl f_2))]) [0] rfl
        have hD9 := hD.sub (ws' := [(ar_r, .inl (cI, 1420, .inl f_2))]) [0] (by decide) rfl
        exact W.vret hx hb hr (fun t ht hW => ⟨⟨(f_2), rfl, trivial, by rw [ht]; exact hP9, va_K.moved hW.alike hK, hD9⟩, hS.F ht⟩) hS.2.2 dX12_dropWhole_19
      · have ic_3 : ¬ ((319 : Int32).toInt < (x_1 : Int32).toInt) := fun h9 => c_3 ((fa_lt 319 x_1).mpr h9)
        refine lv_aload_n hx hb dX12_dropWhole_9 rfl (lv_at hl 1 rfl) ?_
        refine lv_iload_n hx hb dX12_dropWhole_10 rfl (lv_at hl 0 rfl) ?_
        refine lv_iconst (v := 0) hx hb dX12_dropWhole_11 (by decide) ?_
        have h_12 : vp_in x_1 1420 := by rw [vp_in_iff]; omega
        refine va_iast hx hb hK hP hD hS 0 0 rfl rfl h_12 dX12_dropWhole_12 (fun H locs hP hD hS => ?_)
        obtain ⟨f_4, ef_4⟩ : ∃ y : Nat → Int32, y = upd f_2 (x_1 : Int32).toNatClampNeg 0 := ⟨_, rfl⟩
        rw [← ef_4] at hP hD
        have hP : va_P D vwCl [(ar_r, .inl (cI, 1420, .inl f_4))] H := hP
        have hD : va_D A [(ar_r, .inl (cI, 1420, .inl f_4))] := hD
        obtain ⟨x_5, ex_5⟩ : ∃ y : Int32, y = x_1 + 1 := ⟨_, rfl⟩
        have b_x_1 := ti_b x_1
        have tx_5 := ti_add ex_5
        refine lv_iinc (v := x_5) (lv' := [(1, .int x_5), (0, .ref ar_r)]) hx hb dX12_dropWhole_13 hl (k := 0) rfl (by rw [ex_5]; rfl) (by decide) rfl (fun ls hl => ?_)
        refine lv_goto (tgt := 2) hx hb dX12_dropWhole_16 (by decide) ?_
        exact hZ1 (ih_2 x_5 f_4 _ _ _ (by omega) (by omega) hP hD hS hl)
  exact hZ1 (L_2 (((2147483647 - (0 : Int32).toInt).toNat) + 1) 0 ar_rF _ _ _ (by omega) (by omega) hP hD hS hl)

def ow_X12_apart : List Cond := [Cond.fieldLink RX12 123 "NumberFormatsModel" "e" "I", Cond.constantDouble RX12 126 (4845873199050653696), Cond.constantDouble RX12 130 (4841369599423283200), Cond.fieldLink RX12 134 "NumberFormatsModel" "m" "J", Cond.constantDouble RX12 132 (4611686018427387904), Cond.constantDouble RX12 128 (4602678819172646912)]
def pw_X12_apart : List Cond := Cond.code yX12_apart cX12_apart 5 none :: (ow_X12_apart ++ (wsX120))
set_option maxRecDepth 20000 in
theorem mo_X12_apart : ∀ w ∈ ow_X12_apart, w ∈ lw_tbl := by decide +kernel
set_option maxRecDepth 20000 in
theorem mc_X12_apart : Cond.code yX12_apart cX12_apart 5 none ∈ lw_tbl := by decide +kernel
theorem m_X12_apart : ∀ w ∈ pw_X12_apart, w ∈ lw_tbl := List.forall_mem_cons.mpr ⟨mc_X12_apart, (List.forall_mem_append.mpr ⟨mo_X12_apart, inX12⟩)⟩
theorem ko_X12_apart : ∀ w ∈ ow_X12_apart, goodWord w = true := by decide +kernel
theorem k_X12_apart : pw_X12_apart.all goodWord = true := List.all_eq_true.mpr (List.forall_mem_cons.mpr ⟨by decide +kernel, (List.forall_mem_append.mpr ⟨ko_X12_apart, kX_X12⟩)⟩)
set_option maxHeartbeats 400000 in
set_option maxRecDepth 100000 in
theorem c_X12_apart (l : Launch) (D : va_G) (cI cD cJ : ClassId) (sz : Nat) (h : Nat) (h_code : Int32) (h_taped : Int32) (h_tape : Nat) (h_size : Int32) (h_text : Nat) (h_value : UInt64) (h_out : Int32) (h_output : Nat) (h_illAt : Int32) (h_format : Nat) (h_sections : Int32) (h_items : Int32) (h_kind : Nat) (h_what : Nat) (h_of : Nat) (h_relation : Nat) (h_bound : Nat) (h_reads : Int32) (h_readSections : Int32) (h_readKind : Nat) (h_readWhat : Nat) (h_readOf : Nat) (h_place : Nat) (h_readRelation : Nat) (h_readBound : Nat) (h_stop : Int32) (h_meant : Nat) (h_row : Nat) (h_exact : Nat) (h_error : Nat) (h_bestError : Nat) (h_m : Int64) (h_e : Int32) (h_digits : Nat) (h_whole : Int32) (p1 : UInt64) (hh0 : PF p1) (iv_h_taped : 0 ≤ (h_taped : Int32).toInt ∧ (h_taped : Int32).toInt ≤ 260) (iv_h_size : 0 ≤ (h_size : Int32).toInt ∧ (h_size : Int32).toInt ≤ 255) (iv_h_value : inR h_value) (iv_h_out : 0 ≤ (h_out : Int32).toInt ∧ (h_out : Int32).toInt ≤ 1024) (iv_h_sections : 0 ≤ (h_sections : Int32).toInt ∧ (h_sections : Int32).toInt ≤ 4) (iv_h_items : 0 ≤ (h_items : Int32).toInt ∧ (h_items : Int32).toInt ≤ 255) (iv_h_reads : 0 ≤ (h_reads : Int32).toInt ∧ (h_reads : Int32).toInt ≤ 255) (iv_h_readSections : 0 ≤ (h_readSections : Int32).toInt ∧ (h_readSections : Int32).toInt ≤ 4) (iv_h_whole : 0 ≤ (h_whole : Int32).toInt ∧ (h_whole : Int32).toInt ≤ 1001) : MetD lw_cs l yX12_apart pw_X12_apart ({ frames := 0, cells := 0, slots := 0, locals := 0 }) (va_Pc [.ref h, .double p1] (fun U => U.heap.size = sz ∧ va_P D vwCl [(h, .inr (9, [.int h_code, .int h_taped, .ref h_tape, .int h_size, .ref h_text, .double h_value, .int h_out, .ref h_output, .int h_illAt, .ref h_format, .int h_sections, .int h_items, .ref h_kind, .ref h_what, .ref h_of, .ref h_relation, .ref h_bound, .int h_reads, .int h_readSections, .ref h_readKind, .ref h_readWhat, .ref h_readOf, .ref h_place, .ref h_readRelation, .ref h_readBound, .int h_stop, .ref h_meant, .ref h_row, .ref h_exact, .ref h_error, .ref h_bestError, .long h_m, .int h_e, .ref h_digits, .int h_whole]))] U.heap ∧ va_K D vwCl (ty3 cI cD cJ) U ∧ va_D (fun _ => True) [(h, .inr (9, [.int h_code, .int h_taped, .ref h_tape, .int h_size, .ref h_text, .double h_value, .int h_out, .ref h_output, .int h_illAt, .ref h_format, .int h_sections, .int h_items, .ref h_kind, .ref h_what, .ref h_of, .ref h_relation, .ref h_bound, .int h_reads, .int h_readSections, .ref h_readKind, .ref h_readWhat, .ref h_readOf, .ref h_place, .ref h_readRelation, .ref h_readBound, .int h_stop, .ref h_meant, .ref h_row, .ref h_exact, .ref h_error, .ref h_bestError, .long h_m, .int h_e, .ref h_digits, .int h_whole]))])) (va_Qv (fun (u : Int64 × Int32) => match u with | (h_m2, h_e2) => (Apt p1 h_m2 h_e2)) (fun (u : Int64 × Int32) (t : State) => match u with | (h_m2, h_e2) => va_P D vwCl [(h, .inr (9, [.int h_code, .int h_taped, .ref h_tape, .int h_size, .ref h_text, .double h_value, .int h_out, .ref h_output, .int h_illAt, .ref h_format, .int h_sections, .int h_items, .ref h_kind, .ref h_what, .ref h_of, .ref h_relation, .ref h_bound, .int h_reads, .int h_readSections, .ref h_readKind, .ref h_readWhat, .ref h_readOf, .ref h_place, .ref h_readRelation, .ref h_readBound, .int h_stop, .ref h_meant, .ref h_row, .ref h_exact, .ref h_error, .ref h_bestError, .long h_m2, .int h_e2, .ref h_digits, .int h_whole]))] t.heap ∧ va_K D vwCl (ty3 cI cD cJ) t ∧ va_D (va_A [(h, .inr (9, [.int h_code, .int h_taped, .ref h_tape, .int h_size, .ref h_text, .double h_value, .int h_out, .ref h_output, .int h_illAt, .ref h_format, .int h_sections, .int h_items, .ref h_kind, .ref h_what, .ref h_of, .ref h_relation, .ref h_bound, .int h_reads, .int h_readSections, .ref h_readKind, .ref h_readWhat, .ref h_readOf, .ref h_place, .ref h_readRelation, .ref h_readBound, .int h_stop, .ref h_meant, .ref h_row, .ref h_exact, .ref h_error, .ref h_bestError, .long h_m, .int h_e, .ref h_digits, .int h_whole]))] sz) [(h, .inr (9, [.int h_code, .int h_taped, .ref h_tape, .int h_size, .ref h_text, .double h_value, .int h_out, .ref h_output, .int h_illAt, .ref h_format, .int h_sections, .int h_items, .ref h_kind, .ref h_what, .ref h_of, .ref h_relation, .ref h_bound, .int h_reads, .int h_readSections, .ref h_readKind, .ref h_readWhat, .ref h_readOf, .ref h_place, .ref h_readRelation, .ref h_readBound, .int h_stop, .ref h_meant, .ref h_row, .ref h_exact, .ref h_error, .ref h_bestError, .long h_m2, .int h_e2, .ref h_digits, .int h_whole]))]) (va_A [(h, .inr (9, [.int h_code, .int h_taped, .ref h_tape, .int h_size, .ref h_text, .double h_value, .int h_out, .ref h_output, .int h_illAt, .ref h_format, .int h_sections, .int h_items, .ref h_kind, .ref h_what, .ref h_of, .ref h_relation, .ref h_bound, .int h_reads, .int h_readSections, .ref h_readKind, .ref h_readWhat, .ref h_readOf, .ref h_place, .ref h_readRelation, .ref h_readBound, .int h_stop, .ref h_meant, .ref h_row, .ref h_exact, .ref h_error, .ref h_bestError, .long h_m, .int h_e, .ref h_digits, .int h_whole]))] sz)) 0 0 (va_A [(h, .inr (9, [.int h_code, .int h_taped, .ref h_tape, .int h_size, .ref h_text, .double h_value, .int h_out, .ref h_output, .int h_illAt, .ref h_format, .int h_sections, .int h_items, .ref h_kind, .ref h_what, .ref h_of, .ref h_relation, .ref h_bound, .int h_reads, .int h_readSections, .ref h_readKind, .ref h_readWhat, .ref h_readOf, .ref h_place, .ref h_readRelation, .ref h_readBound, .int h_stop, .ref h_meant, .ref h_row, .ref h_exact, .ref h_error, .ref h_bestError, .long h_m, .int h_e, .ref h_digits, .int h_whole]))] sz) := by
  refine MetD.ofW (cc := cX12_apart) (maxL := 5) (ret := none) (by decide +kernel) rfl ?_
  intro p e s m args below meth c s₁ B hml hv hd0
  obtain ⟨rfl, hsz, hP, hK, hD0⟩ := hv
  have hx := B.exec
  have hb := B.bytes
  have hr := B.returns
  have hts := atoms_spec (ws := pw_X12_apart) B.pre
  have hown : s.vm.findClass RX12 = some m.cls := findClass_of_methodNamed B.named
  have hlocks := B.notSynchronized
  subst hsz
  have hD := hD0.self (sz := s.heap.size)
  generalize hAe : va_A [(h, .inr (9, [.int h_code, .int h_taped, .ref h_tape, .int h_size, .ref h_text, .double h_value, .int h_out, .ref h_output, .int h_illAt, .ref h_format, .int h_sections, .int h_items, .ref h_kind, .ref h_what, .ref h_of, .ref h_relation, .ref h_bound, .int h_reads, .int h_readSections, .ref h_readKind, .ref h_readWhat, .ref h_readOf, .ref h_place, .ref h_readRelation, .ref h_readBound, .int h_stop, .ref h_meant, .ref h_row, .ref h_exact, .ref h_error, .ref h_bestError, .long h_m, .int h_e, .ref h_digits, .int h_whole]))] s.heap.size = A at hD ⊢
  have hA : ∀ q : Nat, s.heap.size ≤ q → A q := fun q h => by rw [← hAe]; exact Or.inr h
  have hS : va_S A s.heap s.heap [] := va_S.rf
  have hw : ∀ {d9 : Drawn} (k : Nat) (w : Cond), ow_X12_apart[k]? = some w → w.before _ (s.setDrawn d9) = true := fun k w h => dr_words hts _ w (List.mem_cons_of_mem _ (have h9 := List.mem_of_getElem? h; List.mem_append_left _ h9))
  have iX12 : ∀ w ∈ u_ws RX12 TX12 35, w ∈ pw_X12_apart := fun w h9 => List.mem_cons_of_mem _ (List.mem_append_right _ (h9))
  have n_m1074 : (((-1074) : Int32)).toInt = (-1074) := by decide
  have n_0 : ((0 : Int32)).toInt = 0 := by decide
  have n_1 : ((1 : Int32)).toInt = 1 := by decide
  have hl := lv_entry ([.ref h, .double p1]) (n := 5) (Nat.le_of_ble_eq_true rfl)
  rw [lg_entry_eq]
  generalize (lg_sl ([.ref h, .double p1]) ++ List.replicate (5 - (lg_sl ([.ref h, .double p1])).length) Slot.unset).toArray = ls at hl ⊢
  have hl : lv_has ls 5 [(0, .ref h), (1, .double p1)] := hl
  refine zz_capD (fun Z hZ1 hZ2 => ?_)
  refine lv_dload_n hx hb dX12_apart_0 rfl (lv_at hl 1 rfl) ?_
  refine lv_dstore_n (lv' := [(3, .double p1), (0, .ref h), (1, .double p1)]) hx hb dX12_apart_1 rfl hl (by decide) rfl (fun ls hl => ?_)
  refine lv_aload_n hx hb dX12_apart_2 rfl (lv_at hl 1 rfl) ?_
  refine lv_iconst (v := 0) hx hb dX12_apart_3 (by decide) ?_
  refine va_put (s := s.setDrawn s.drawn) (D := D) (ci := 9) (v := .int 0) (ty := .int) (C := RX12) (T := TX12) (N := 35) hx hb (dr_words hts _) iX12 tyX12 tyX12_ok nmX12 hown hK hP hD hS 0 rfl rfl 32 (by decide) (hw 0 (.fieldLink RX12 123 "NumberFormatsModel" "e" "I") rfl) (fun _ h9 => h9) rfl (by decide +kernel) rfl rfl (Nat.le_of_ble_eq_true rfl) dX12_apart_4 (fun H locs hP hD hS => ?_)
  have hP : va_P D vwCl [(h, .inr (9, [.int h_code, .int h_taped, .ref h_tape, .int h_size, .ref h_text, .double h_value, .int h_out, .ref h_output, .int h_illAt, .ref h_format, .int h_sections, .int h_items, .ref h_kind, .ref h_what, .ref h_of, .ref h_relation, .ref h_bound, .int h_reads, .int h_readSections, .ref h_readKind, .ref h_readWhat, .ref h_readOf, .ref h_place, .ref h_readRelation, .ref h_readBound, .int h_stop, .ref h_meant, .ref h_row, .ref h_exact, .ref h_error, .ref h_bestError, .long h_m, .int 0, .ref h_digits, .int h_whole]))] H := hP
  have hD : va_D A [(h, .inr (9, [.int h_code, .int h_taped, .ref h_tape, .int h_size, .ref h_text, .double h_value, .int h_out, .ref h_output, .int h_illAt, .ref h_format, .int h_sections, .int h_items, .ref h_kind, .ref h_what, .ref h_of, .ref h_relation, .ref h_bound, .int h_reads, .int h_readSections, .ref h_readKind, .ref h_readWhat, .ref h_readOf, .ref h_place, .ref h_readRelation, .ref h_readBound, .int h_stop, .ref h_meant, .ref h_row, .ref h_exact, .ref h_error, .ref h_bestError, .long h_m, .int 0, .ref h_digits, .int h_whole]))] := hD
  have L_7 : ∀ (N : Nat) (d_1 : UInt64) (x_2 : Int32) (H : Heap) (locs : List Loc) (ls : Array Slot) (dq7_3 : Drawn), s.drawn.sameBut dq7_3 lw_cs → (AP1 p1 d_1 x_2) → ((972 - (x_2 : Int32).toInt).toNat < N) → va_P D vwCl [(h, .inr (9, [.int h_code, .int h_taped, .ref h_tape, .int h_size, .ref h_text, .double h_value, .int h_out, .ref h_output, .int h_illAt, .ref h_format, .int h_sections, .int h_items, .ref h_kind, .ref h_what, .ref h_of, .ref h_relation, .ref h_bound, .int h_reads, .int h_readSections, .ref h_readKind, .ref h_readWhat, .ref h_readOf, .ref h_place, .ref h_readRelation, .ref h_readBound, .int h_stop, .ref h_meant, .ref h_row, .ref h_exact, .ref h_error, .ref h_bestError, .long h_m, .int x_2, .ref h_digits, .int h_whole]))] H → va_D A [(h, .inr (9, [.int h_code, .int h_taped, .ref h_tape, .int h_size, .ref h_text, .double h_value, .int h_out, .ref h_output, .int h_illAt, .ref h_format, .int h_sections, .int h_items, .ref h_kind, .ref h_what, .ref h_of, .ref h_relation, .ref h_bound, .int h_reads, .int h_readSections, .ref h_readKind, .ref h_readWhat, .ref h_readOf, .ref h_place, .ref h_readRelation, .ref h_readBound, .int h_stop, .ref h_meant, .ref h_row, .ref h_exact, .ref h_error, .ref h_bestError, .long h_m, .int x_2, .ref h_digits, .int h_whole]))] → va_S A s.heap H locs → lv_has ls 5 [(3, .double d_1), (0, .ref h)] → Z dq7_3 0 0 H locs (F0 m 7 ls []) := by
    intro N
    induction N with
    | zero => intro _ _ _ _ _ _ _ _ hmu; exact absurd hmu (Nat.not_lt_zero _)
    | succ N ih_7 =>
      intro d_1 x_2 H locs ls dq7_3 hdq7_3 g7_0 hmu hP hD hS hl
      refine hZ2 ?_
      have hq9 := AP1_lin g7_0 hh0
      refine lv_dload_n hx hb dX12_apart_7 rfl (lv_at hl 0 rfl) ?_
      refine lv_ldc2d (v := 4845873199050653696) hx hb hown (hw 1 (.constantDouble RX12 126 (4845873199050653696)) rfl) dX12_apart_8 ?_
      refine lv_dcmp hx hb dX12_apart_11 ?_
      refine lv_topi (fun x_4 ex_4 => ?_)
      refine lv_if_lt (tgt := 34) hx hb dX12_apart_12 (by decide) (fun c_5 => ?_) (fun c_5 => ?_)
      · have ic_5 : (x_4 : Int32).toInt < (0 : Int32).toInt := (fa_lt x_4 0).mp c_5
        have L_34 : ∀ (N : Nat) (d_6 : UInt64) (x_7 : Int32) (H : Heap) (locs : List Loc) (ls : Array Slot) (dq34_8 : Drawn), s.drawn.sameBut dq34_8 lw_cs → (AP2 p1 d_6 x_7) → (((x_7 : Int32).toInt + 1075).toNat < N) → va_P D vwCl [(h, .inr (9, [.int h_code, .int h_taped, .ref h_tape, .int h_size, .ref h_text, .double h_value, .int h_out, .ref h_output, .int h_illAt, .ref h_format, .int h_sections, .int h_items, .ref h_kind, .ref h_what, .ref h_of, .ref h_relation, .ref h_bound, .int h_reads, .int h_readSections, .ref h_readKind, .ref h_readWhat, .ref h_readOf, .ref h_place, .ref h_readRelation, .ref h_readBound, .int h_stop, .ref h_meant, .ref h_row, .ref h_exact, .ref h_error, .ref h_bestError, .long h_m, .int x_7, .ref h_digits, .int h_whole]))] H → va_D A [(h, .inr (9, [.int h_code, .int h_taped, .ref h_tape, .int h_size, .ref h_text, .double h_value, .int h_out, .ref h_output, .int h_illAt, .ref h_format, .int h_sections, .int h_items, .ref h_kind, .ref h_what, .ref h_of, .ref h_relation, .ref h_bound, .int h_reads, .int h_readSections, .ref h_readKind, .ref h_readWhat, .ref h_readOf, .ref h_place, .ref h_readRelation, .ref h_readBound, .int h_stop, .ref h_meant, .ref h_row, .ref h_exact, .ref h_error, .ref h_bestError, .long h_m, .int x_7, .ref h_digits, .int h_whole]))] → va_S A s.heap H locs → lv_has ls 5 [(3, .double d_6), (0, .ref h)] → Z dq34_8 0 0 H locs (F0 m 34 ls []) := by
          intro N
          induction N with
          | zero => intro _ _ _ _ _ _ _ _ hmu; exact absurd hmu (Nat.not_lt_zero _)
          | succ N ih_34 =>
            intro d_6 x_7 H locs ls dq34_8 hdq34_8 g34_0 hmu hP hD hS hl
            refine hZ2 ?_
            have hq8 := AP2_lin g34_0 hh0
            refine lv_dload_n hx hb dX12_apart_34 rfl (lv_at hl 0 rfl) ?_
            refine lv_ldc2d (v := 4841369599423283200) hx hb hown (hw 2 (.constantDouble RX12 130 (4841369599423283200)) rfl) dX12_apart_35 ?_
            refine lv_dcmp hx hb dX12_apart_38 ?_
            refine lv_topi (fun x_9 ex_9 => ?_)
            have K_71 : ∀ (H : Heap) (locs : List Loc) (ls : Array Slot) (dq71_10 : Drawn), s.drawn.sameBut dq71_10 lw_cs → (PF p1 → 2 ^ 1126 ≤ zn d_6 ∨ (x_7 : Int32).toInt ≤ -1074) → va_P D vwCl [(h, .inr (9, [.int h_code, .int h_taped, .ref h_tape, .int h_size, .ref h_text, .double h_value, .int h_out, .ref h_output, .int h_illAt, .ref h_format, .int h_sections, .int h_items, .ref h_kind, .ref h_what, .ref h_of, .ref h_relation, .ref h_bound, .int h_reads, .int h_readSections, .ref h_readKind, .ref h_readWhat, .ref h_readOf, .ref h_place, .ref h_readRelation, .ref h_readBound, .int h_stop, .ref h_meant, .ref h_row, .ref h_exact, .ref h_error, .ref h_bestError, .long h_m, .int x_7, .ref h_digits, .int h_whole]))] H → va_D A [(h, .inr (9, [.int h_code, .int h_taped, .ref h_tape, .int h_size, .ref h_text, .double h_value, .int h_out, .ref h_output, .int h_illAt, .ref h_format, .int h_sections, .int h_items, .ref h_kind, .ref h_what, .ref h_of, .ref h_relation, .ref h_bound, .int h_reads, .int h_readSections, .ref h_readKind, .ref h_readWhat, .ref h_readOf, .ref h_place, .ref h_readRelation, .ref h_readBound, .int h_stop, .ref h_meant, .ref h_row, .ref h_exact, .ref h_error, .ref h_bestError, .long h_m, .int x_7, .ref h_digits, .int h_whole]))] → va_S A s.heap H locs → lv_has ls 5 [(3, .double d_6), (0, .ref h)] → Z dq71_10 0 0 H locs (F0 m 71 ls []) := by
              intro  H locs ls dq71_10 hdq71_10 g71_0 hP hD hS hl
              refine hZ2 ?_
              refine lv_aload_n hx hb dX12_apart_71 rfl (lv_at hl 1 rfl) ?_
              refine lv_dload_n hx hb dX12_apart_72 rfl (lv_at hl 0 rfl) ?_
              refine lv_d2l hx hb dX12_apart_73 ?_
              refine lv_topl (fun y_11 ey_11 => ?_)
              refine va_put (s := s.setDrawn dq71_10) (D := D) (ci := 9) (v := .long y_11) (ty := .long) (C := RX12) (T := TX12) (N := 35) hx hb (dr_words hts _) iX12 tyX12 tyX12_ok nmX12 hown hK hP hD hS 0 rfl rfl 31 (by decide) (hw 3 (.fieldLink RX12 134 "NumberFormatsModel" "m" "J") rfl) (fun _ h9 => h9) rfl (by decide +kernel) rfl rfl (Nat.le_of_ble_eq_true rfl) dX12_apart_74 (fun H locs hP hD hS => ?_)
              have hP : va_P D vwCl [(h, .inr (9, [.int h_code, .int h_taped, .ref h_tape, .int h_size, .ref h_text, .double h_value, .int h_out, .ref h_output, .int h_illAt, .ref h_format, .int h_sections, .int h_items, .ref h_kind, .ref h_what, .ref h_of, .ref h_relation, .ref h_bound, .int h_reads, .int h_readSections, .ref h_readKind, .ref h_readWhat, .ref h_readOf, .ref h_place, .ref h_readRelation, .ref h_readBound, .int h_stop, .ref h_meant, .ref h_row, .ref h_exact, .ref h_error, .ref h_bestError, .long y_11, .int x_7, .ref h_digits, .int h_whole]))] H := hP
              have hD : va_D A [(h, .inr (9, [.int h_code, .int h_taped, .ref h_tape, .int h_size, .ref h_text, .double h_value, .int h_out, .ref h_output, .int h_illAt, .ref h_format, .int h_sections, .int h_items, .ref h_kind, .ref h_what, .ref h_of, .ref h_relation, .ref h_bound, .int h_reads, .int h_readSections, .ref h_readKind, .ref h_readWhat, .ref h_readOf, .ref h_place, .ref h_readRelation, .ref h_readBound, .int h_stop, .ref h_meant, .ref h_row, .ref h_exact, .ref h_error, .ref h_bestError, .long y_11, .int x_7, .ref h_digits, .int h_whole]))] := hD
              refine W.endD hdq71_10 ?_
              have hP9 := hP.sub (ws' := [(h, .inr (9, [.int h_code, .int h_taped, .ref h_tape, .int h_size, .ref h_text, .double h_value, .int h_out, .ref h_output, .int h_illAt, .ref h_format, .int h_sections, .int h_items, .ref h_kind, .ref h_what, .ref h_of, .ref h_relation, .ref h_bound, .int h_reads, .int h_readSections, .ref h_readKind, .ref h_readWhat, .ref h_readOf, .ref h_place, .ref h_readRelation, .ref h_readBound, .int h_stop, .ref h_meant, .ref h_row, .ref h_exact, .ref h_error, .ref h_bestError, .long y_11, .int x_7, .ref h_digits, .int h_whole]))]) [0] rfl
              have hD9 := hD.sub (ws' := [(h, .inr (9, [.int h_code, .int h_taped, .ref h_tape, .int h_size, .ref h_text, .double h_value, .int h_out, .ref h_output, .int h_illAt, .ref h_format, .int h_sections, .int h_items, .ref h_kind, .ref h_what, .ref h_of, .ref h_relation, .ref h_bound, .int h_reads, .int h_readSections, .ref h_readKind, .ref h_readWhat, .ref h_readOf, .ref h_place, .ref h_readRelation, .ref h_readBound, .int h_stop, .ref h_meant, .ref h_row, .ref h_exact, .ref h_error, .ref h_bestError, .long y_11, .int x_7, .ref h_digits, .int h_whole]))]) [0] (by decide) rfl
              exact W.vret hx hb hr (fun t ht hW => ⟨⟨(y_11, x_7), rfl, (by (try dsimp only); first | omega | assumption | exact Apt_of g34_0 g71_0 ey_11), by rw [ht]; exact hP9, va_K.moved hW.alike hK, hD9⟩, hS.F ht⟩) hS.2.2 dX12_apart_77
            refine lv_if_ge (tgt := 71) hx hb dX12_apart_39 (by decide) (fun c_12 => ?_) (fun c_12 => ?_)
            · have ic_12 : (0 : Int32).toInt ≤ (x_9 : Int32).toInt := (fa_le 0 x_9).mp c_12
              exact hZ1 (K_71  _ _ _ dq34_8 hdq34_8 (fun hv9 => Or.inl (ap_ge g34_0 hv9 ex_9 (by omega))) hP hD hS hl)
            · have ic_12 : ¬ ((0 : Int32).toInt ≤ (x_9 : Int32).toInt) := fun h9 => c_12 ((fa_le 0 x_9).mpr h9)
              refine lv_aload_n hx hb dX12_apart_42 rfl (lv_at hl 1 rfl) ?_
              refine va_get (s := s.setDrawn dq34_8) (D := D) (ci := 9) (v := .int x_7) (C := RX12) (T := TX12) (N := 35) hx hb (dr_words hts _) iX12 hown hK hP 0 rfl rfl 32 (by decide) (hw 0 (.fieldLink RX12 123 "NumberFormatsModel" "e" "I") rfl) (fun _ h9 => h9) rfl dX12_apart_43 ?_
              refine lv_sipush (v := (-1074)) hx hb dX12_apart_46 (by decide) ?_
              refine lv_icmp_le (tgt := 71) hx hb dX12_apart_49 (by decide) (fun c_13 => ?_) (fun c_13 => ?_)
              · have ic_13 : (x_7 : Int32).toInt ≤ ((-1074) : Int32).toInt := (fa_le x_7 (-1074)).mp c_13
                exact hZ1 (K_71  _ _ _ dq34_8 hdq34_8 (fun _ => Or.inr (by omega)) hP hD hS hl)
              · have ic_13 : ¬ ((x_7 : Int32).toInt ≤ ((-1074) : Int32).toInt) := fun h9 => c_13 ((fa_le x_7 (-1074)).mpr h9)
                refine lv_dload_n hx hb dX12_apart_52 rfl (lv_at hl 0 rfl) ?_
                refine lv_ldc2d (v := 4611686018427387904) hx hb hown (hw 4 (.constantDouble RX12 132 (4611686018427387904)) rfl) dX12_apart_53 ?_
                refine lv_dmul_any hdq34_8 lw_bits hx hb dX12_apart_56 (fun d_14 dhd_15 ad_14 hd_15 => ?_)
                refine lv_dstore_n (lv' := [(3, .double d_14), (0, .ref h)]) hx hb dX12_apart_57 rfl hl (by decide) rfl (fun ls hl => ?_)
                refine lv_aload_n hx hb dX12_apart_58 rfl (lv_at hl 1 rfl) ?_
                refine lv_dup hx hb dX12_apart_59 rfl ?_
                refine va_get (s := s.setDrawn dhd_15) (D := D) (ci := 9) (v := .int x_7) (C := RX12) (T := TX12) (N := 35) hx hb (dr_words hts _) iX12 hown hK hP 0 rfl rfl 32 (by decide) (hw 0 (.fieldLink RX12 123 "NumberFormatsModel" "e" "I") rfl) (fun _ h9 => h9) rfl dX12_apart_60 ?_
                refine lv_iconst (v := 1) hx hb dX12_apart_63 (by decide) ?_
                refine lv_isub hx hb dX12_apart_64 ?_
                refine lv_topi (fun x_16 ex_16 => ?_)
                have b_x_7 := ti_b x_7
                have tx_16 := ti_sub ex_16
                refine va_put (s := s.setDrawn dhd_15) (D := D) (ci := 9) (v := .int x_16) (ty := .int) (C := RX12) (T := TX12) (N := 35) hx hb (dr_words hts _) iX12 tyX12 tyX12_ok nmX12 hown hK hP hD hS 0 rfl rfl 32 (by decide) (hw 0 (.fieldLink RX12 123 "NumberFormatsModel" "e" "I") rfl) (fun _ h9 => h9) rfl (by decide +kernel) rfl rfl (Nat.le_of_ble_eq_true rfl) dX12_apart_65 (fun H locs hP hD hS => ?_)
                have hP : va_P D vwCl [(h, .inr (9, [.int h_code, .int h_taped, .ref h_tape, .int h_size, .ref h_text, .double h_value, .int h_out, .ref h_output, .int h_illAt, .ref h_format, .int h_sections, .int h_items, .ref h_kind, .ref h_what, .ref h_of, .ref h_relation, .ref h_bound, .int h_reads, .int h_readSections, .ref h_readKind, .ref h_readWhat, .ref h_readOf, .ref h_place, .ref h_readRelation, .ref h_readBound, .int h_stop, .ref h_meant, .ref h_row, .ref h_exact, .ref h_error, .ref h_bestError, .long h_m, .int x_16, .ref h_digits, .int h_whole]))] H := hP
                have hD : va_D A [(h, .inr (9, [.int h_code, .int h_taped, .ref h_tape, .int h_size, .ref h_text, .double h_value, .int h_out, .ref h_output, .int h_illAt, .ref h_format, .int h_sections, .int h_items, .ref h_kind, .ref h_what, .ref h_of, .ref h_relation, .ref h_bound, .int h_reads, .int h_readSections, .ref h_readKind, .ref h_readWhat, .ref h_readOf, .ref h_place, .ref h_readRelation, .ref h_readBound, .int h_stop, .ref h_meant, .ref h_row, .ref h_exact, .ref h_error, .ref h_bestError, .long h_m, .int x_16, .ref h_digits, .int h_whole]))] := hD
                refine lv_goto (tgt := 34) hx hb dX12_apart_68 (by decide) ?_
                exact hZ1 (ih_34 d_14 x_16 _ _ _ dhd_15 hd_15 (AP2_step g34_0 ex_9 (by omega) (by omega) ad_14 ex_16) (by omega) hP hD hS hl)
        exact hZ1 (L_34 ((((x_2 : Int32).toInt + 1075).toNat) + 1) d_1 x_2 _ _ _ dq7_3 hdq7_3 (AP2_of g7_0 ex_4 (by omega)) (by omega) hP hD hS hl)
      · have ic_5 : ¬ ((x_4 : Int32).toInt < (0 : Int32).toInt) := fun h9 => c_5 ((fa_lt x_4 0).mpr h9)
        refine lv_dload_n hx hb dX12_apart_15 rfl (lv_at hl 0 rfl) ?_
        refine lv_ldc2d (v := 4602678819172646912) hx hb hown (hw 5 (.constantDouble RX12 128 (4602678819172646912)) rfl) dX12_apart_16 ?_
        refine lv_dmul_any hdq7_3 lw_bits hx hb dX12_apart_19 (fun d_17 dhd_18 ad_17 hd_18 => ?_)
        refine lv_dstore_n (lv' := [(3, .double d_17), (0, .ref h)]) hx hb dX12_apart_20 rfl hl (by decide) rfl (fun ls hl => ?_)
        refine lv_aload_n hx hb dX12_apart_21 rfl (lv_at hl 1 rfl) ?_
        refine lv_dup hx hb dX12_apart_22 rfl ?_
        refine va_get (s := s.setDrawn dhd_18) (D := D) (ci := 9) (v := .int x_2) (C := RX12) (T := TX12) (N := 35) hx hb (dr_words hts _) iX12 hown hK hP 0 rfl rfl 32 (by decide) (hw 0 (.fieldLink RX12 123 "NumberFormatsModel" "e" "I") rfl) (fun _ h9 => h9) rfl dX12_apart_23 ?_
        refine lv_iconst (v := 1) hx hb dX12_apart_26 (by decide) ?_
        refine lv_iadd hx hb dX12_apart_27 ?_
        refine lv_topi (fun x_19 ex_19 => ?_)
        have b_x_2 := ti_b x_2
        have tx_19 := ti_add ex_19
        refine va_put (s := s.setDrawn dhd_18) (D := D) (ci := 9) (v := .int x_19) (ty := .int) (C := RX12) (T := TX12) (N := 35) hx hb (dr_words hts _) iX12 tyX12 tyX12_ok nmX12 hown hK hP hD hS 0 rfl rfl 32 (by decide) (hw 0 (.fieldLink RX12 123 "NumberFormatsModel" "e" "I") rfl) (fun _ h9 => h9) rfl (by decide +kernel) rfl rfl (Nat.le_of_ble_eq_true rfl) dX12_apart_28 (fun H locs hP hD hS => ?_)
        have hP : va_P D vwCl [(h, .inr (9, [.int h_code, .int h_taped, .ref h_tape, .int h_size, .ref h_text, .double h_value, .int h_out, .ref h_output, .int h_illAt, .ref h_format, .int h_sections, .int h_items, .ref h_kind, .ref h_what, .ref h_of, .ref h_relation, .ref h_bound, .int h_reads, .int h_readSections, .ref h_readKind, .ref h_readWhat, .ref h_readOf, .ref h_place, .ref h_readRelation, .ref h_readBound, .int h_stop, .ref h_meant, .ref h_row, .ref h_exact, .ref h_error, .ref h_bestError, .long h_m, .int x_19, .ref h_digits, .int h_whole]))] H := hP
        have hD : va_D A [(h, .inr (9, [.int h_code, .int h_taped, .ref h_tape, .int h_size, .ref h_text, .double h_value, .int h_out, .ref h_output, .int h_illAt, .ref h_format, .int h_sections, .int h_items, .ref h_kind, .ref h_what, .ref h_of, .ref h_relation, .ref h_bound, .int h_reads, .int h_readSections, .ref h_readKind, .ref h_readWhat, .ref h_readOf, .ref h_place, .ref h_readRelation, .ref h_readBound, .int h_stop, .ref h_meant, .ref h_row, .ref h_exact, .ref h_error, .ref h_bestError, .long h_m, .int x_19, .ref h_digits, .int h_whole]))] := hD
        refine lv_goto (tgt := 7) hx hb dX12_apart_31 (by decide) ?_
        exact hZ1 (ih_7 d_17 x_19 _ _ _ dhd_18 hd_18 (AP1_step g7_0 ex_4 (by omega) ad_17 ex_19) (by omega) hP hD hS hl)
  exact hZ1 (L_7 (((972 - (0 : Int32).toInt).toNat) + 1) p1 0 _ _ _ s.drawn hd0 AP1_0 (by omega) hP hD hS (lv_sub hl [0, 1] rfl))

def ow_X12_size : List Cond := []
def pw_X12_size : List Cond := Cond.code yX12_size cX12_size 2 (some .double) :: (ow_X12_size)
set_option maxRecDepth 20000 in
theorem mo_X12_size : ∀ w ∈ ow_X12_size, w ∈ lw_tbl := by decide +kernel
set_option maxRecDepth 20000 in
theorem mc_X12_size : Cond.code yX12_size cX12_size 2 (some .double) ∈ lw_tbl := by decide +kernel
theorem m_X12_size : ∀ w ∈ pw_X12_size, w ∈ lw_tbl := List.forall_mem_cons.mpr ⟨mc_X12_size, mo_X12_size⟩
theorem ko_X12_size : ∀ w ∈ ow_X12_size, goodWord w = true := by decide +kernel
theorem k_X12_size : pw_X12_size.all goodWord = true := List.all_eq_true.mpr (List.forall_mem_cons.mpr ⟨by decide +kernel, ko_X12_size⟩)
set_option maxHeartbeats 400000 in
set_option maxRecDepth 100000 in
theorem c_X12_size (l : Launch) (D : va_G) (cI cD cJ : ClassId) (sz : Nat) (p1 : UInt64) : Met l yX12_size pw_X12_size ({ frames := 0, cells := 0, slots := 0, locals := 0 }) (va_Pc [.double p1] (fun U => va_P D vwCl [] U.heap ∧ va_K D vwCl (ty3 cI cD cJ) U)) (va_Qd (fun (r : UInt64) (u : Unit) => (SZ p1 r)) (fun _ _ => True) (fun _ => False)) 0 0 (fun _ => False) := by
  refine Met.ofW (cc := cX12_size) (maxL := 2) (ret := (some .double)) (by decide +kernel) rfl ?_
  intro p e s m args below meth c s₁ B hml hv
  obtain ⟨rfl, hP, hK⟩ := hv
  have hx := B.exec
  have hb := B.bytes
  have hr := B.returns
  have hts := atoms_spec (ws := pw_X12_size) B.pre
  have hown : s.vm.findClass RX12 = some m.cls := findClass_of_methodNamed B.named
  have hlocks := B.notSynchronized
  have hS : va_S (fun _ => False) s.heap s.heap [] := va_S.rf
  have hw : ∀ (k : Nat) (w : Cond), ow_X12_size[k]? = some w → w.before _ s = true := fun k w h => hts w (List.mem_cons_of_mem _ (have h9 := List.mem_of_getElem? h; h9))
  have n_0 : ((0 : Int32)).toInt = 0 := by decide
  have hl := lv_entry ([.double p1]) (n := 2) (Nat.le_of_ble_eq_true rfl)
  rw [lg_entry_eq]
  generalize (lg_sl ([.double p1]) ++ List.replicate (2 - (lg_sl ([.double p1])).length) Slot.unset).toArray = ls at hl ⊢
  have hl : lv_has ls 2 [(0, .double p1)] := hl
  refine lv_dload_n hx hb dX12_size_0 rfl (lv_at hl 0 rfl) ?_
  refine lv_dconst0 hx hb dX12_size_1 ?_
  refine lv_dcmp hx hb dX12_size_2 ?_
  refine lv_topi (fun x_1 ex_1 => ?_)
  refine lv_if_ge (tgt := 11) hx hb dX12_size_3 (by decide) (fun c_2 => ?_) (fun c_2 => ?_)
  · have ic_2 : (0 : Int32).toInt ≤ (x_1 : Int32).toInt := (fa_le 0 x_1).mp c_2
    refine lv_dload_n hx hb dX12_size_11 rfl (lv_at hl 0 rfl) ?_
    exact W.dret (v := p1) hx hb hr (fun t ht hW => ⟨⟨p1, (), rfl, (by (try dsimp only); first | omega | assumption | exact size_neg2 ex_1 (by omega) missing_e7 | exact size_pos ex_1 (by omega)), trivial⟩, hS.F ht⟩) hS.2.2 dX12_size_12
  · have ic_2 : ¬ ((0 : Int32).toInt ≤ (x_1 : Int32).toInt) := fun h9 => c_2 ((fa_le 0 x_1).mpr h9)
    refine lv_dload_n hx hb dX12_size_6 rfl (lv_at hl 0 rfl) ?_
    refine lv_dneg hx hb dX12_size_7 ?_
    refine lv_topd (fun d_3 ed_3 => ?_)
    refine lv_goto (tgt := 12) hx hb dX12_size_8 (by decide) ?_
    exact W.dret (v := d_3) hx hb hr (fun t ht hW => ⟨⟨d_3, (), rfl, (by (try dsimp only); first | omega | assumption | exact size_neg2 ex_1 (by omega) ed_3 | exact size_pos ex_1 (by omega)), trivial⟩, hS.F ht⟩) hS.2.2 dX12_size_12

def ow_X12_takeApart : List Cond := [Cond.fieldLink RX12 95 "NumberFormatsModel" "value" "D", Cond.methodLink RX12 138 yX12_size, Cond.static yX12_size, Cond.initialized RX12, Cond.methodLink RX12 141 yX12_apart, Cond.instanceMethod yX12_apart, Cond.selects RX12 yX12_apart yX12_apart, Cond.fieldLink RX12 134 "NumberFormatsModel" "m" "J", Cond.fieldLink RX12 123 "NumberFormatsModel" "e" "I", Cond.methodLink RX12 145 yX12_expand, Cond.instanceMethod yX12_expand, Cond.selects RX12 yX12_expand yX12_expand, Cond.fieldLink RX12 63 "NumberFormatsModel" "row" "[I", Cond.fieldLink RX12 66 "NumberFormatsModel" "exact" "[I", Cond.methodLink RX12 149 yX12_copy, Cond.static yX12_copy, Cond.methodLink RX12 110 yX12_clear, Cond.static yX12_clear]
def pw_X12_takeApart : List Cond := Cond.code yX12_takeApart cX12_takeApart 1 none :: (ow_X12_takeApart ++ (pw_X12_size ++ (pw_X12_apart ++ (pw_X12_expand ++ (pw_X12_copy ++ (pw_X12_clear ++ (wsX120)))))))
set_option maxRecDepth 20000 in
theorem mo_X12_takeApart : ∀ w ∈ ow_X12_takeApart, w ∈ lw_tbl := by decide +kernel
set_option maxRecDepth 20000 in
theorem mc_X12_takeApart : Cond.code yX12_takeApart cX12_takeApart 1 none ∈ lw_tbl := by decide +kernel
theorem m_X12_takeApart : ∀ w ∈ pw_X12_takeApart, w ∈ lw_tbl := List.forall_mem_cons.mpr ⟨mc_X12_takeApart, (List.forall_mem_append.mpr ⟨mo_X12_takeApart, (List.forall_mem_append.mpr ⟨m_X12_size, (List.forall_mem_append.mpr ⟨m_X12_apart, (List.forall_mem_append.mpr ⟨m_X12_expand, (List.forall_mem_append.mpr ⟨m_X12_copy, (List.forall_mem_append.mpr ⟨m_X12_clear, inX12⟩)⟩)⟩)⟩)⟩)⟩)⟩
theorem ko_X12_takeApart : ∀ w ∈ ow_X12_takeApart, goodWord w = true := by decide +kernel
theorem k_X12_takeApart : pw_X12_takeApart.all goodWord = true := List.all_eq_true.mpr (List.forall_mem_cons.mpr ⟨by decide +kernel, (List.forall_mem_append.mpr ⟨ko_X12_takeApart, (List.forall_mem_append.mpr ⟨(List.all_eq_true.mp k_X12_size), (List.forall_mem_append.mpr ⟨(List.all_eq_true.mp k_X12_apart), (List.forall_mem_append.mpr ⟨(List.all_eq_true.mp k_X12_expand), (List.forall_mem_append.mpr ⟨(List.all_eq_true.mp k_X12_copy), (List.forall_mem_append.mpr ⟨(List.all_eq_true.mp k_X12_clear), kX_X12⟩)⟩)⟩)⟩)⟩)⟩)⟩)
set_option maxHeartbeats 400000 in
set_option maxRecDepth 100000 in
theorem c_X12_takeApart (l : Launch) (D : va_G) (cI cD cJ : ClassId) (sz : Nat) (h : Nat) (h_code : Int32) (h_taped : Int32) (h_tape : Nat) (h_size : Int32) (h_text : Nat) (h_value : UInt64) (h_out : Int32) (h_output : Nat) (h_illAt : Int32) (h_format : Nat) (h_sections : Int32) (h_items : Int32) (h_kind : Nat) (h_what : Nat) (h_of : Nat) (h_relation : Nat) (h_bound : Nat) (h_reads : Int32) (h_readSections : Int32) (h_readKind : Nat) (h_readWhat : Nat) (h_readOf : Nat) (h_place : Nat) (h_readRelation : Nat) (h_readBound : Nat) (h_stop : Int32) (h_meant : Nat) (h_row : Nat) (h_exact : Nat) (h_error : Nat) (h_bestError : Nat) (h_m : Int64) (h_e : Int32) (h_digits : Nat) (h_whole : Int32) (h_rowF : Nat → Int32) (h_exactF : Nat → Int32) (iv_h_taped : 0 ≤ (h_taped : Int32).toInt ∧ (h_taped : Int32).toInt ≤ 260) (iv_h_size : 0 ≤ (h_size : Int32).toInt ∧ (h_size : Int32).toInt ≤ 255) (iv_h_value : inR h_value) (iv_h_out : 0 ≤ (h_out : Int32).toInt ∧ (h_out : Int32).toInt ≤ 1024) (iv_h_sections : 0 ≤ (h_sections : Int32).toInt ∧ (h_sections : Int32).toInt ≤ 4) (iv_h_items : 0 ≤ (h_items : Int32).toInt ∧ (h_items : Int32).toInt ≤ 255) (iv_h_reads : 0 ≤ (h_reads : Int32).toInt ∧ (h_reads : Int32).toInt ≤ 255) (iv_h_readSections : 0 ≤ (h_readSections : Int32).toInt ∧ (h_readSections : Int32).toInt ≤ 4) (iv_h_whole : 0 ≤ (h_whole : Int32).toInt ∧ (h_whole : Int32).toInt ≤ 1001) : MetD lw_cs l yX12_takeApart pw_X12_takeApart ({ frames := 3, cells := 0, slots := 0, locals := 72 }) (va_Pc [.ref h] (fun U => U.heap.size = sz ∧ va_P D vwCl [(h, .inr (9, [.int h_code, .int h_taped, .ref h_tape, .int h_size, .ref h_text, .double h_value, .int h_out, .ref h_output, .int h_illAt, .ref h_format, .int h_sections, .int h_items, .ref h_kind, .ref h_what, .ref h_of, .ref h_relation, .ref h_bound, .int h_reads, .int h_readSections, .ref h_readKind, .ref h_readWhat, .ref h_readOf, .ref h_place, .ref h_readRelation, .ref h_readBound, .int h_stop, .ref h_meant, .ref h_row, .ref h_exact, .ref h_error, .ref h_bestError, .long h_m, .int h_e, .ref h_digits, .int h_whole])), (h_row, .inl (cI, 1420, .inl h_rowF)), (h_exact, .inl (cI, 1420, .inl h_exactF))] U.heap ∧ va_K D vwCl (ty3 cI cD cJ) U ∧ va_D (fun _ => True) [(h, .inr (9, [.int h_code, .int h_taped, .ref h_tape, .int h_size, .ref h_text, .double h_value, .int h_out, .ref h_output, .int h_illAt, .ref h_format, .int h_sections, .int h_items, .ref h_kind, .ref h_what, .ref h_of, .ref h_relation, .ref h_bound, .int h_reads, .int h_readSections, .ref h_readKind, .ref h_readWhat, .ref h_readOf, .ref h_place, .ref h_readRelation, .ref h_readBound, .int h_stop, .ref h_meant, .ref h_row, .ref h_exact, .ref h_error, .ref h_bestError, .long h_m, .int h_e, .ref h_digits, .int h_whole])), (h_row, .inl (cI, 1420, .inl h_rowF)), (h_exact, .inl (cI, 1420, .inl h_exactF))])) (va_Qv (fun (u : Int64 × Int32 × (Nat → Int32) × (Nat → Int32)) => match u with | (h_m2, h_e2, h_rowF2, h_exactF2) => (TA h_value h_exactF2)) (fun (u : Int64 × Int32 × (Nat → Int32) × (Nat → Int32)) (t : State) => match u with | (h_m2, h_e2, h_rowF2, h_exactF2) => va_P D vwCl [(h, .inr (9, [.int h_code, .int h_taped, .ref h_tape, .int h_size, .ref h_text, .double h_value, .int h_out, .ref h_output, .int h_illAt, .ref h_format, .int h_sections, .int h_items, .ref h_kind, .ref h_what, .ref h_of, .ref h_relation, .ref h_bound, .int h_reads, .int h_readSections, .ref h_readKind, .ref h_readWhat, .ref h_readOf, .ref h_place, .ref h_readRelation, .ref h_readBound, .int h_stop, .ref h_meant, .ref h_row, .ref h_exact, .ref h_error, .ref h_bestError, .long h_m2, .int h_e2, .ref h_digits, .int h_whole])), (h_row, .inl (cI, 1420, .inl h_rowF2)), (h_exact, .inl (cI, 1420, .inl h_exactF2))] t.heap ∧ va_K D vwCl (ty3 cI cD cJ) t ∧ va_D (va_A [(h, .inr (9, [.int h_code, .int h_taped, .ref h_tape, .int h_size, .ref h_text, .double h_value, .int h_out, .ref h_output, .int h_illAt, .ref h_format, .int h_sections, .int h_items, .ref h_kind, .ref h_what, .ref h_of, .ref h_relation, .ref h_bound, .int h_reads, .int h_readSections, .ref h_readKind, .ref h_readWhat, .ref h_readOf, .ref h_place, .ref h_readRelation, .ref h_readBound, .int h_stop, .ref h_meant, .ref h_row, .ref h_exact, .ref h_error, .ref h_bestError, .long h_m, .int h_e, .ref h_digits, .int h_whole])), (h_row, .inl (cI, 1420, .inl h_rowF)), (h_exact, .inl (cI, 1420, .inl h_exactF))] sz) [(h, .inr (9, [.int h_code, .int h_taped, .ref h_tape, .int h_size, .ref h_text, .double h_value, .int h_out, .ref h_output, .int h_illAt, .ref h_format, .int h_sections, .int h_items, .ref h_kind, .ref h_what, .ref h_of, .ref h_relation, .ref h_bound, .int h_reads, .int h_readSections, .ref h_readKind, .ref h_readWhat, .ref h_readOf, .ref h_place, .ref h_readRelation, .ref h_readBound, .int h_stop, .ref h_meant, .ref h_row, .ref h_exact, .ref h_error, .ref h_bestError, .long h_m2, .int h_e2, .ref h_digits, .int h_whole])), (h_row, .inl (cI, 1420, .inl h_rowF2)), (h_exact, .inl (cI, 1420, .inl h_exactF2))]) (va_A [(h, .inr (9, [.int h_code, .int h_taped, .ref h_tape, .int h_size, .ref h_text, .double h_value, .int h_out, .ref h_output, .int h_illAt, .ref h_format, .int h_sections, .int h_items, .ref h_kind, .ref h_what, .ref h_of, .ref h_relation, .ref h_bound, .int h_reads, .int h_readSections, .ref h_readKind, .ref h_readWhat, .ref h_readOf, .ref h_place, .ref h_readRelation, .ref h_readBound, .int h_stop, .ref h_meant, .ref h_row, .ref h_exact, .ref h_error, .ref h_bestError, .long h_m, .int h_e, .ref h_digits, .int h_whole])), (h_row, .inl (cI, 1420, .inl h_rowF)), (h_exact, .inl (cI, 1420, .inl h_exactF))] sz)) 0 0 (va_A [(h, .inr (9, [.int h_code, .int h_taped, .ref h_tape, .int h_size, .ref h_text, .double h_value, .int h_out, .ref h_output, .int h_illAt, .ref h_format, .int h_sections, .int h_items, .ref h_kind, .ref h_what, .ref h_of, .ref h_relation, .ref h_bound, .int h_reads, .int h_readSections, .ref h_readKind, .ref h_readWhat, .ref h_readOf, .ref h_place, .ref h_readRelation, .ref h_readBound, .int h_stop, .ref h_meant, .ref h_row, .ref h_exact, .ref h_error, .ref h_bestError, .long h_m, .int h_e, .ref h_digits, .int h_whole])), (h_row, .inl (cI, 1420, .inl h_rowF)), (h_exact, .inl (cI, 1420, .inl h_exactF))] sz) := by
  refine MetD.ofW (cc := cX12_takeApart) (maxL := 1) (ret := none) (by decide +kernel) rfl ?_
  intro p e s m args below meth c s₁ B hml hv hd0
  obtain ⟨rfl, hsz, hP, hK, hD0⟩ := hv
  have hx := B.exec
  have hb := B.bytes
  have hr := B.returns
  have hts := atoms_spec (ws := pw_X12_takeApart) B.pre
  have hown : s.vm.findClass RX12 = some m.cls := findClass_of_methodNamed B.named
  have hlocks := B.notSynchronized
  subst hsz
  have hD := hD0.self (sz := s.heap.size)
  generalize hAe : va_A [(h, .inr (9, [.int h_code, .int h_taped, .ref h_tape, .int h_size, .ref h_text, .double h_value, .int h_out, .ref h_output, .int h_illAt, .ref h_format, .int h_sections, .int h_items, .ref h_kind, .ref h_what, .ref h_of, .ref h_relation, .ref h_bound, .int h_reads, .int h_readSections, .ref h_readKind, .ref h_readWhat, .ref h_readOf, .ref h_place, .ref h_readRelation, .ref h_readBound, .int h_stop, .ref h_meant, .ref h_row, .ref h_exact, .ref h_error, .ref h_bestError, .long h_m, .int h_e, .ref h_digits, .int h_whole])), (h_row, .inl (cI, 1420, .inl h_rowF)), (h_exact, .inl (cI, 1420, .inl h_exactF))] s.heap.size = A at hD ⊢
  have hA : ∀ q : Nat, s.heap.size ≤ q → A q := fun q h => by rw [← hAe]; exact Or.inr h
  have hS : va_S A s.heap s.heap [] := va_S.rf
  have hw : ∀ {d9 : Drawn} (k : Nat) (w : Cond), ow_X12_takeApart[k]? = some w → w.before _ (s.setDrawn d9) = true := fun k w h => dr_words hts _ w (List.mem_cons_of_mem _ (have h9 := List.mem_of_getElem? h; List.mem_append_left _ h9))
  have i_X12_size : ∀ w ∈ pw_X12_size, w ∈ pw_X12_takeApart := fun w h9 => List.mem_cons_of_mem _ (List.mem_append_right _ (List.mem_append_left _ h9))
  have i_X12_apart : ∀ w ∈ pw_X12_apart, w ∈ pw_X12_takeApart := fun w h9 => List.mem_cons_of_mem _ (List.mem_append_right _ (List.mem_append_right _ (List.mem_append_left _ h9)))
  have i_X12_expand : ∀ w ∈ pw_X12_expand, w ∈ pw_X12_takeApart := fun w h9 => List.mem_cons_of_mem _ (List.mem_append_right _ (List.mem_append_right _ (List.mem_append_right _ (List.mem_append_left _ h9))))
  have i_X12_copy : ∀ w ∈ pw_X12_copy, w ∈ pw_X12_takeApart := fun w h9 => List.mem_cons_of_mem _ (List.mem_append_right _ (List.mem_append_right _ (List.mem_append_right _ (List.mem_append_right _ (List.mem_append_left _ h9)))))
  have i_X12_clear : ∀ w ∈ pw_X12_clear, w ∈ pw_X12_takeApart := fun w h9 => List.mem_cons_of_mem _ (List.mem_append_right _ (List.mem_append_right _ (List.mem_append_right _ (List.mem_append_right _ (List.mem_append_right _ (List.mem_append_left _ h9))))))
  have iX12 : ∀ w ∈ u_ws RX12 TX12 35, w ∈ pw_X12_takeApart := fun w h9 => List.mem_cons_of_mem _ (List.mem_append_right _ (List.mem_append_right _ (List.mem_append_right _ (List.mem_append_right _ (List.mem_append_right _ (List.mem_append_right _ (h9)))))))
  have n_0 : ((0 : Int32)).toInt = 0 := by decide
  have hl := lv_entry ([.ref h]) (n := 1) (Nat.le_of_ble_eq_true rfl)
  rw [lg_entry_eq]
  generalize (lg_sl ([.ref h]) ++ List.replicate (1 - (lg_sl ([.ref h])).length) Slot.unset).toArray = ls at hl ⊢
  have hl : lv_has ls 1 [(0, .ref h)] := hl
  refine lv_aload_n hx hb dX12_takeApart_0 rfl (lv_at hl 0 rfl) ?_
  refine va_get (s := s.setDrawn s.drawn) (D := D) (ci := 9) (v := .double h_value) (C := RX12) (T := TX12) (N := 35) hx hb (dr_words hts _) iX12 hown hK hP 0 rfl rfl 5 (by decide) (hw 0 (.fieldLink RX12 95 "NumberFormatsModel" "value" "D") rfl) (fun _ h9 => h9) rfl dX12_takeApart_1 ?_
  refine lv_dconst0 hx hb dX12_takeApart_4 ?_
  refine lv_dcmp hx hb dX12_takeApart_5 ?_
  refine lv_topi (fun x_1 ex_1 => ?_)
  have hz8 := ex_1
  refine lv_if_ne (tgt := 17) hx hb dX12_takeApart_6 (by decide) (fun c_2 => ?_) (fun c_2 => ?_)
  · have ic_2 : ¬ ((x_1 : Int32).toInt = (0 : Int32).toInt) := fun h9 => c_2 ((fa_eq x_1 0).mpr h9)
    have hNZ : NZ h_value := (by unfold NZ; rw [← hz8]; omega)
    refine lv_aload_n hx hb dX12_takeApart_17 rfl (lv_at hl 0 rfl) ?_
    refine lv_aload_n hx hb dX12_takeApart_18 rfl (lv_at hl 0 rfl) ?_
    refine va_get (s := s.setDrawn s.drawn) (D := D) (ci := 9) (v := .double h_value) (C := RX12) (T := TX12) (N := 35) hx hb (dr_words hts _) iX12 hown hK hP 0 rfl rfl 5 (by decide) (hw 0 (.fieldLink RX12 95 "NumberFormatsModel" "value" "D") rfl) (fun _ h9 => h9) rfl dX12_takeApart_19 ?_
    have hPc := hP.sub (ws' := []) [] rfl
    refine va_calld (va_runS (As := [.double h_value]) (rest := [.ref h]) ⟨hx, hb, hml, hown, (dr_words hts _)⟩ (c_X12_size l D cI cD cJ s.heap.size h_value) (va_cwS 1 (dr_words hts _) (goodIn_app (goodIn_r _ [2, 3, 4] rfl (by decide +kernel)) (goodIn_sub i_X12_size k_X12_size)) rfl rfl rfl (by decide +kernel) ⟨Nat.le_of_ble_eq_true rfl, Nat.le_of_ble_eq_true rfl⟩) ⟨fun a U g mk q => by obtain ⟨q0, qP, qK⟩ := q; exact ⟨q0, qP, va_K.moved (u := U) (U := U.calling g mk a) (Vm.Alike.refl U.vm) qK⟩, fun U hU hW => ⟨rfl, by rw [hU]; exact hPc, va_K.moved hW.alike hK⟩⟩ rfl rfl hl.1 rfl (lv_room (Nat.le_of_ble_eq_true rfl)) dX12_takeApart_22 ⟨Nat.le_of_ble_eq_true rfl, Nat.le_of_ble_eq_true rfl⟩) hS (fun q _ h => h.elim) (fun q h => h.elim) (fun d_3 u t H1 locs ht hvm w_4 hB hz1 hk1 hS => ?_)
    have hP : va_P D vwCl [(h, .inr (9, [.int h_code, .int h_taped, .ref h_tape, .int h_size, .ref h_text, .double h_value, .int h_out, .ref h_output, .int h_illAt, .ref h_format, .int h_sections, .int h_items, .ref h_kind, .ref h_what, .ref h_of, .ref h_relation, .ref h_bound, .int h_reads, .int h_readSections, .ref h_readKind, .ref h_readWhat, .ref h_readOf, .ref h_place, .ref h_readRelation, .ref h_readBound, .int h_stop, .ref h_meant, .ref h_row, .ref h_exact, .ref h_error, .ref h_bestError, .long h_m, .int h_e, .ref h_digits, .int h_whole])), (h_row, .inl (cI, 1420, .inl h_rowF)), (h_exact, .inl (cI, 1420, .inl h_exactF))] H1 := hP.kept (fun k9 q9 h9 => hk1 q9.1 (vx_lt hP h9) (fun h => h))
    generalize H1 = H at hP hS ⊢
    try dsimp only at w_4
    have hsz := w_4
    have hPc := hP.sub (ws' := [(h, .inr (9, [.int h_code, .int h_taped, .ref h_tape, .int h_size, .ref h_text, .double h_value, .int h_out, .ref h_output, .int h_illAt, .ref h_format, .int h_sections, .int h_items, .ref h_kind, .ref h_what, .ref h_of, .ref h_relation, .ref h_bound, .int h_reads, .int h_readSections, .ref h_readKind, .ref h_readWhat, .ref h_readOf, .ref h_place, .ref h_readRelation, .ref h_readBound, .int h_stop, .ref h_meant, .ref h_row, .ref h_exact, .ref h_error, .ref h_bestError, .long h_m, .int h_e, .ref h_digits, .int h_whole]))]) [0] rfl
    have hDc := hD.sub (ws' := [(h, .inr (9, [.int h_code, .int h_taped, .ref h_tape, .int h_size, .ref h_text, .double h_value, .int h_out, .ref h_output, .int h_illAt, .ref h_format, .int h_sections, .int h_items, .ref h_kind, .ref h_what, .ref h_of, .ref h_relation, .ref h_bound, .int h_reads, .int h_readSections, .ref h_readKind, .ref h_readWhat, .ref h_readOf, .ref h_place, .ref h_readRelation, .ref h_readBound, .int h_stop, .ref h_meant, .ref h_row, .ref h_exact, .ref h_error, .ref h_bestError, .long h_m, .int h_e, .ref h_digits, .int h_whole]))]) [0] (by decide) rfl
    have hFc := va_free (wc := [(h, .inr (9, [.int h_code, .int h_taped, .ref h_tape, .int h_size, .ref h_text, .double h_value, .int h_out, .ref h_output, .int h_illAt, .ref h_format, .int h_sections, .int h_items, .ref h_kind, .ref h_what, .ref h_of, .ref h_relation, .ref h_bound, .int h_reads, .int h_readSections, .ref h_readKind, .ref h_readWhat, .ref h_readOf, .ref h_place, .ref h_readRelation, .ref h_readBound, .int h_stop, .ref h_meant, .ref h_row, .ref h_exact, .ref h_error, .ref h_bestError, .long h_m, .int h_e, .ref h_digits, .int h_whole]))]) hD hS hA [0] rfl
    refine va_callvD hd0 (va_runV_D (As := [.double d_3]) (rest := []) ⟨hx, hb, hml, hown, (dr_words hts _)⟩ (c_X12_apart l D cI cD cJ H.size h h_code h_taped h_tape h_size h_text h_value h_out h_output h_illAt h_format h_sections h_items h_kind h_what h_of h_relation h_bound h_reads h_readSections h_readKind h_readWhat h_readOf h_place h_readRelation h_readBound h_stop h_meant h_row h_exact h_error h_bestError h_m h_e h_digits h_whole d_3 (hsz (by assumption) hNZ).1 (by omega) (by omega) (by assumption) (by omega) (by omega) (by omega) (by omega) (by omega) (by omega)) (cwV 1 (dr_words hts _) (goodIn_app (goodIn_r _ [5, 6, 7, 4] rfl (by decide +kernel)) (goodIn_sub i_X12_apart k_X12_apart)) rfl rfl rfl (by decide +kernel) ⟨Nat.le_of_ble_eq_true rfl, Nat.le_of_ble_eq_true rfl⟩) ⟨fun a U g mk q => by obtain ⟨q0, q1, qP, qK, qD⟩ := q; exact ⟨q0, q1, qP, va_K.moved (u := U) (U := U.calling g mk a) (Vm.Alike.refl U.vm) qK, qD⟩, va_recv hK hPc (ci := 9) (q0 := 0) rfl rfl, fun U hU hW => ⟨rfl, by rw [hU], by rw [hU]; exact hPc, va_K.moved hW.alike hK, hDc.weaken (fun _ _ _ _ => trivial)⟩⟩ rfl rfl hl.1 rfl (lv_room (Nat.le_of_ble_eq_true rfl)) dX12_takeApart_25 ⟨Nat.le_of_ble_eq_true rfl, Nat.le_of_ble_eq_true rfl⟩) hS (fun q _ h => hFc q h) hFc (fun u t H1 locs ht hvm w_5 hB hz1 hk1 hS dhd_6 hd_6 => ?_)
    obtain ⟨u_7, u_8⟩ := u
    obtain ⟨hP1, hK1, hD1⟩ := hB
    rw [ht] at hP1
    try dsimp only at w_5
    obtain ⟨hP, hD⟩ := va_join (wr := [(h_row, .inl (cI, 1420, .inl h_rowF)), (h_exact, .inl (cI, 1420, .inl h_exactF))]) (w1 := [(h, .inr (9, [.int h_code, .int h_taped, .ref h_tape, .int h_size, .ref h_text, .double h_value, .int h_out, .ref h_output, .int h_illAt, .ref h_format, .int h_sections, .int h_items, .ref h_kind, .ref h_what, .ref h_of, .ref h_relation, .ref h_bound, .int h_reads, .int h_readSections, .ref h_readKind, .ref h_readWhat, .ref h_readOf, .ref h_place, .ref h_readRelation, .ref h_readBound, .int h_stop, .ref h_meant, .ref h_row, .ref h_exact, .ref h_error, .ref h_bestError, .long u_7, .int u_8, .ref h_digits, .int h_whole]))]) hP hD [0] [1, 2] rfl rfl (by decide) (by decide) hk1 hFc hP1 hD1
    generalize H1 = H at hP hS ⊢
    have hP : va_P D vwCl [(h_row, .inl (cI, 1420, .inl h_rowF)), (h_exact, .inl (cI, 1420, .inl h_exactF)), (h, .inr (9, [.int h_code, .int h_taped, .ref h_tape, .int h_size, .ref h_text, .double h_value, .int h_out, .ref h_output, .int h_illAt, .ref h_format, .int h_sections, .int h_items, .ref h_kind, .ref h_what, .ref h_of, .ref h_relation, .ref h_bound, .int h_reads, .int h_readSections, .ref h_readKind, .ref h_readWhat, .ref h_readOf, .ref h_place, .ref h_readRelation, .ref h_readBound, .int h_stop, .ref h_meant, .ref h_row, .ref h_exact, .ref h_error, .ref h_bestError, .long u_7, .int u_8, .ref h_digits, .int h_whole]))] H := hP
    have hD : va_D A [(h_row, .inl (cI, 1420, .inl h_rowF)), (h_exact, .inl (cI, 1420, .inl h_exactF)), (h, .inr (9, [.int h_code, .int h_taped, .ref h_tape, .int h_size, .ref h_text, .double h_value, .int h_out, .ref h_output, .int h_illAt, .ref h_format, .int h_sections, .int h_items, .ref h_kind, .ref h_what, .ref h_of, .ref h_relation, .ref h_bound, .int h_reads, .int h_readSections, .ref h_readKind, .ref h_readWhat, .ref h_readOf, .ref h_place, .ref h_readRelation, .ref h_readBound, .int h_stop, .ref h_meant, .ref h_row, .ref h_exact, .ref h_error, .ref h_bestError, .long u_7, .int u_8, .ref h_digits, .int h_whole]))] := hD
    have hap := w_5
    refine lv_aload_n hx hb dX12_takeApart_28 rfl (lv_at hl 0 rfl) ?_
    refine lv_aload_n hx hb dX12_takeApart_29 rfl (lv_at hl 0 rfl) ?_
    refine va_get (s := s.setDrawn dhd_6) (D := D) (ci := 9) (v := .long u_7) (C := RX12) (T := TX12) (N := 35) hx hb (dr_words hts _) iX12 hown hK hP 2 rfl rfl 31 (by decide) (hw 7 (.fieldLink RX12 134 "NumberFormatsModel" "m" "J") rfl) (fun _ h9 => h9) rfl dX12_takeApart_30 ?_
    refine lv_aload_n hx hb dX12_takeApart_33 rfl (lv_at hl 0 rfl) ?_
    refine va_get (s := s.setDrawn dhd_6) (D := D) (ci := 9) (v := .int u_8) (C := RX12) (T := TX12) (N := 35) hx hb (dr_words hts _) iX12 hown hK hP 2 rfl rfl 32 (by decide) (hw 8 (.fieldLink RX12 123 "NumberFormatsModel" "e" "I") rfl) (fun _ h9 => h9) rfl dX12_takeApart_34 ?_
    have hPc := hP.sub (ws' := [(h, .inr (9, [.int h_code, .int h_taped, .ref h_tape, .int h_size, .ref h_text, .double h_value, .int h_out, .ref h_output, .int h_illAt, .ref h_format, .int h_sections, .int h_items, .ref h_kind, .ref h_what, .ref h_of, .ref h_relation, .ref h_bound, .int h_reads, .int h_readSections, .ref h_readKind, .ref h_readWhat, .ref h_readOf, .ref h_place, .ref h_readRelation, .ref h_readBound, .int h_stop, .ref h_meant, .ref h_row, .ref h_exact, .ref h_error, .ref h_bestError, .long u_7, .int u_8, .ref h_digits, .int h_whole])), (h_row, .inl (cI, 1420, .inl h_rowF))]) [2, 0] rfl
    have hDc := hD.sub (ws' := [(h, .inr (9, [.int h_code, .int h_taped, .ref h_tape, .int h_size, .ref h_text, .double h_value, .int h_out, .ref h_output, .int h_illAt, .ref h_format, .int h_sections, .int h_items, .ref h_kind, .ref h_what, .ref h_of, .ref h_relation, .ref h_bound, .int h_reads, .int h_readSections, .ref h_readKind, .ref h_readWhat, .ref h_readOf, .ref h_place, .ref h_readRelation, .ref h_readBound, .int h_stop, .ref h_meant, .ref h_row, .ref h_exact, .ref h_error, .ref h_bestError, .long u_7, .int u_8, .ref h_digits, .int h_whole])), (h_row, .inl (cI, 1420, .inl h_rowF))]) [2, 0] (by decide) rfl
    have hFc := va_free (wc := [(h, .inr (9, [.int h_code, .int h_taped, .ref h_tape, .int h_size, .ref h_text, .double h_value, .int h_out, .ref h_output, .int h_illAt, .ref h_format, .int h_sections, .int h_items, .ref h_kind, .ref h_what, .ref h_of, .ref h_relation, .ref h_bound, .int h_reads, .int h_readSections, .ref h_readKind, .ref h_readWhat, .ref h_readOf, .ref h_place, .ref h_readRelation, .ref h_readBound, .int h_stop, .ref h_meant, .ref h_row, .ref h_exact, .ref h_error, .ref h_bestError, .long u_7, .int u_8, .ref h_digits, .int h_whole])), (h_row, .inl (cI, 1420, .inl h_rowF))]) hD hS hA [2, 0] rfl
    refine va_callv (va_runV (As := [.long u_7, .int u_8]) (rest := []) ⟨hx, hb, hml, hown, (dr_words hts _)⟩ (c_X12_expand l D cI cD cJ H.size h h_code h_taped h_tape h_size h_text h_value h_out h_output h_illAt h_format h_sections h_items h_kind h_what h_of h_relation h_bound h_reads h_readSections h_readKind h_readWhat h_readOf h_place h_readRelation h_readBound h_stop h_meant h_row h_exact h_error h_bestError u_7 u_8 h_digits h_whole h_rowF u_7 u_8 (by omega) (by omega) (by assumption) (by omega) (by omega) (by omega) (by omega) (by omega) (by omega)) (cwV 2 (dr_words hts _) (goodIn_app (goodIn_r _ [10, 11, 12, 4] rfl (by decide +kernel)) (goodIn_sub i_X12_expand k_X12_expand)) rfl rfl rfl (by decide +kernel) ⟨Nat.le_of_ble_eq_true rfl, Nat.le_of_ble_eq_true rfl⟩) ⟨fun a U g mk q => by obtain ⟨q0, q1, qP, qK, qD⟩ := q; exact ⟨q0, q1, qP, va_K.moved (u := U) (U := U.calling g mk a) (Vm.Alike.refl U.vm) qK, qD⟩, va_recv hK hPc (ci := 9) (q0 := 0) rfl rfl, fun U hU hW => ⟨rfl, by rw [hU], by rw [hU]; exact hPc, va_K.moved hW.alike hK, hDc.weaken (fun _ _ _ _ => trivial)⟩⟩ rfl rfl hl.1 rfl (lv_room (Nat.le_of_ble_eq_true rfl)) dX12_takeApart_37 ⟨Nat.le_of_ble_eq_true rfl, Nat.le_of_ble_eq_true rfl⟩) hS (fun q _ h => hFc q h) hFc (fun u t H1 locs ht hvm w_9 hB hz1 hk1 hS => ?_)
    generalize u = u_10 at w_9 hB
    obtain ⟨hP1, hK1, hD1⟩ := hB
    rw [ht] at hP1
    try dsimp only at w_9
    obtain ⟨hP, hD⟩ := va_join (wr := [(h_exact, .inl (cI, 1420, .inl h_exactF))]) (w1 := [(h, .inr (9, [.int h_code, .int h_taped, .ref h_tape, .int h_size, .ref h_text, .double h_value, .int h_out, .ref h_output, .int h_illAt, .ref h_format, .int h_sections, .int h_items, .ref h_kind, .ref h_what, .ref h_of, .ref h_relation, .ref h_bound, .int h_reads, .int h_readSections, .ref h_readKind, .ref h_readWhat, .ref h_readOf, .ref h_place, .ref h_readRelation, .ref h_readBound, .int h_stop, .ref h_meant, .ref h_row, .ref h_exact, .ref h_error, .ref h_bestError, .long u_7, .int u_8, .ref h_digits, .int h_whole])), (h_row, .inl (cI, 1420, .inl u_10))]) hP hD [2, 0] [1] rfl rfl (by decide) (by decide) hk1 hFc hP1 hD1
    generalize H1 = H at hP hS ⊢
    have hP : va_P D vwCl [(h_exact, .inl (cI, 1420, .inl h_exactF)), (h, .inr (9, [.int h_code, .int h_taped, .ref h_tape, .int h_size, .ref h_text, .double h_value, .int h_out, .ref h_output, .int h_illAt, .ref h_format, .int h_sections, .int h_items, .ref h_kind, .ref h_what, .ref h_of, .ref h_relation, .ref h_bound, .int h_reads, .int h_readSections, .ref h_readKind, .ref h_readWhat, .ref h_readOf, .ref h_place, .ref h_readRelation, .ref h_readBound, .int h_stop, .ref h_meant, .ref h_row, .ref h_exact, .ref h_error, .ref h_bestError, .long u_7, .int u_8, .ref h_digits, .int h_whole])), (h_row, .inl (cI, 1420, .inl u_10))] H := hP
    have hD : va_D A [(h_exact, .inl (cI, 1420, .inl h_exactF)), (h, .inr (9, [.int h_code, .int h_taped, .ref h_tape, .int h_size, .ref h_text, .double h_value, .int h_out, .ref h_output, .int h_illAt, .ref h_format, .int h_sections, .int h_items, .ref h_kind, .ref h_what, .ref h_of, .ref h_relation, .ref h_bound, .int h_reads, .int h_readSections, .ref h_readKind, .ref h_readWhat, .ref h_readOf, .ref h_place, .ref h_readRelation, .ref h_readBound, .int h_stop, .ref h_meant, .ref h_row, .ref h_exact, .ref h_error, .ref h_bestError, .long u_7, .int u_8, .ref h_digits, .int h_whole])), (h_row, .inl (cI, 1420, .inl u_10))] := hD
    have hex := w_9
    refine lv_aload_n hx hb dX12_takeApart_40 rfl (lv_at hl 0 rfl) ?_
    refine va_get (s := s.setDrawn dhd_6) (D := D) (ci := 9) (v := .ref h_row) (C := RX12) (T := TX12) (N := 35) hx hb (dr_words hts _) iX12 hown hK hP 1 rfl rfl 27 (by decide) (hw 12 (.fieldLink RX12 63 "NumberFormatsModel" "row" "[I") rfl) (fun _ h9 => h9) rfl dX12_takeApart_41 ?_
    refine lv_aload_n hx hb dX12_takeApart_44 rfl (lv_at hl 0 rfl) ?_
    refine va_get (s := s.setDrawn dhd_6) (D := D) (ci := 9) (v := .ref h_exact) (C := RX12) (T := TX12) (N := 35) hx hb (dr_words hts _) iX12 hown hK hP 1 rfl rfl 28 (by decide) (hw 13 (.fieldLink RX12 66 "NumberFormatsModel" "exact" "[I") rfl) (fun _ h9 => h9) rfl dX12_takeApart_45 ?_
    have hPc := hP.sub (ws' := [(h_row, .inl (cI, 1420, .inl u_10)), (h_exact, .inl (cI, 1420, .inl h_exactF))]) [2, 0] rfl
    have hDc := hD.sub (ws' := [(h_row, .inl (cI, 1420, .inl u_10)), (h_exact, .inl (cI, 1420, .inl h_exactF))]) [2, 0] (by decide) rfl
    have hFc := va_free (wc := [(h_row, .inl (cI, 1420, .inl u_10)), (h_exact, .inl (cI, 1420, .inl h_exactF))]) hD hS hA [2, 0] rfl
    refine va_callv (va_runS (As := [.ref h_row, .ref h_exact]) (rest := []) ⟨hx, hb, hml, hown, (dr_words hts _)⟩ (c_X12_copy l D cI cD cJ H.size h_row u_10 h_exact h_exactF) (va_cwS 2 (dr_words hts _) (goodIn_app (goodIn_r _ [15, 16, 4] rfl (by decide +kernel)) (goodIn_sub i_X12_copy k_X12_copy)) rfl rfl rfl (by decide +kernel) ⟨Nat.le_of_ble_eq_true rfl, Nat.le_of_ble_eq_true rfl⟩) ⟨fun a U g mk q => by obtain ⟨q0, q1, qP, qK, qD⟩ := q; exact ⟨q0, q1, qP, va_K.moved (u := U) (U := U.calling g mk a) (Vm.Alike.refl U.vm) qK, qD⟩, fun U hU hW => ⟨rfl, by rw [hU], by rw [hU]; exact hPc, va_K.moved hW.alike hK, hDc.weaken (fun _ _ _ _ => trivial)⟩⟩ rfl rfl hl.1 rfl (lv_room (Nat.le_of_ble_eq_true rfl)) dX12_takeApart_48 ⟨Nat.le_of_ble_eq_true rfl, Nat.le_of_ble_eq_true rfl⟩) hS (fun q _ h => hFc q h) hFc (fun u t H1 locs ht hvm w_11 hB hz1 hk1 hS => ?_)
    generalize u = u_12 at w_11 hB
    obtain ⟨hP1, hK1, hD1⟩ := hB
    rw [ht] at hP1
    try dsimp only at w_11
    obtain ⟨hP, hD⟩ := va_join (wr := [(h, .inr (9, [.int h_code, .int h_taped, .ref h_tape, .int h_size, .ref h_text, .double h_value, .int h_out, .ref h_output, .int h_illAt, .ref h_format, .int h_sections, .int h_items, .ref h_kind, .ref h_what, .ref h_of, .ref h_relation, .ref h_bound, .int h_reads, .int h_readSections, .ref h_readKind, .ref h_readWhat, .ref h_readOf, .ref h_place, .ref h_readRelation, .ref h_readBound, .int h_stop, .ref h_meant, .ref h_row, .ref h_exact, .ref h_error, .ref h_bestError, .long u_7, .int u_8, .ref h_digits, .int h_whole]))]) (w1 := [(h_row, .inl (cI, 1420, .inl u_10)), (h_exact, .inl (cI, 1420, .inl u_12))]) hP hD [2, 0] [1] rfl rfl (by decide) (by decide) hk1 hFc hP1 hD1
    generalize H1 = H at hP hS ⊢
    have hP : va_P D vwCl [(h, .inr (9, [.int h_code, .int h_taped, .ref h_tape, .int h_size, .ref h_text, .double h_value, .int h_out, .ref h_output, .int h_illAt, .ref h_format, .int h_sections, .int h_items, .ref h_kind, .ref h_what, .ref h_of, .ref h_relation, .ref h_bound, .int h_reads, .int h_readSections, .ref h_readKind, .ref h_readWhat, .ref h_readOf, .ref h_place, .ref h_readRelation, .ref h_readBound, .int h_stop, .ref h_meant, .ref h_row, .ref h_exact, .ref h_error, .ref h_bestError, .long u_7, .int u_8, .ref h_digits, .int h_whole])), (h_row, .inl (cI, 1420, .inl u_10)), (h_exact, .inl (cI, 1420, .inl u_12))] H := hP
    have hD : va_D A [(h, .inr (9, [.int h_code, .int h_taped, .ref h_tape, .int h_size, .ref h_text, .double h_value, .int h_out, .ref h_output, .int h_illAt, .ref h_format, .int h_sections, .int h_items, .ref h_kind, .ref h_what, .ref h_of, .ref h_relation, .ref h_bound, .int h_reads, .int h_readSections, .ref h_readKind, .ref h_readWhat, .ref h_readOf, .ref h_place, .ref h_readRelation, .ref h_readBound, .int h_stop, .ref h_meant, .ref h_row, .ref h_exact, .ref h_error, .ref h_bestError, .long u_7, .int u_8, .ref h_digits, .int h_whole])), (h_row, .inl (cI, 1420, .inl u_10)), (h_exact, .inl (cI, 1420, .inl u_12))] := hD
    have hcp := w_11
    refine W.endD hd_6 ?_
    have hP9 := hP.sub (ws' := [(h, .inr (9, [.int h_code, .int h_taped, .ref h_tape, .int h_size, .ref h_text, .double h_value, .int h_out, .ref h_output, .int h_illAt, .ref h_format, .int h_sections, .int h_items, .ref h_kind, .ref h_what, .ref h_of, .ref h_relation, .ref h_bound, .int h_reads, .int h_readSections, .ref h_readKind, .ref h_readWhat, .ref h_readOf, .ref h_place, .ref h_readRelation, .ref h_readBound, .int h_stop, .ref h_meant, .ref h_row, .ref h_exact, .ref h_error, .ref h_bestError, .long u_7, .int u_8, .ref h_digits, .int h_whole])), (h_row, .inl (cI, 1420, .inl u_10)), (h_exact, .inl (cI, 1420, .inl u_12))]) [0, 1, 2] rfl
    have hD9 := hD.sub (ws' := [(h, .inr (9, [.int h_code, .int h_taped, .ref h_tape, .int h_size, .ref h_text, .double h_value, .int h_out, .ref h_output, .int h_illAt, .ref h_format, .int h_sections, .int h_items, .ref h_kind, .ref h_what, .ref h_of, .ref h_relation, .ref h_bound, .int h_reads, .int h_readSections, .ref h_readKind, .ref h_readWhat, .ref h_readOf, .ref h_place, .ref h_readRelation, .ref h_readBound, .int h_stop, .ref h_meant, .ref h_row, .ref h_exact, .ref h_error, .ref h_bestError, .long u_7, .int u_8, .ref h_digits, .int h_whole])), (h_row, .inl (cI, 1420, .inl u_10)), (h_exact, .inl (cI, 1420, .inl u_12))]) [0, 1, 2] (by decide) rfl
    exact W.vret hx hb hr (fun t ht hW => ⟨⟨(u_7, u_8, u_10, u_12), rfl, (by (try dsimp only); first | omega | assumption | exact TA_zero hz8 (by omega) | exact TA_of (by assumption) hsz hap hex hcp), by rw [ht]; exact hP9, va_K.moved hW.alike hK, hD9⟩, hS.F ht⟩) hS.2.2 dX12_takeApart_51
  · have ic_2 : (x_1 : Int32).toInt = (0 : Int32).toInt := (fa_eq x_1 0).mp c_2
    refine lv_aload_n hx hb dX12_takeApart_9 rfl (lv_at hl 0 rfl) ?_
    refine va_get (s := s.setDrawn s.drawn) (D := D) (ci := 9) (v := .ref h_exact) (C := RX12) (T := TX12) (N := 35) hx hb (dr_words hts _) iX12 hown hK hP 0 rfl rfl 28 (by decide) (hw 13 (.fieldLink RX12 66 "NumberFormatsModel" "exact" "[I") rfl) (fun _ h9 => h9) rfl dX12_takeApart_10 ?_
    have hPc := hP.sub (ws' := [(h_exact, .inl (cI, 1420, .inl h_exactF))]) [2] rfl
    have hDc := hD.sub (ws' := [(h_exact, .inl (cI, 1420, .inl h_exactF))]) [2] (by decide) rfl
    have hFc := va_free (wc := [(h_exact, .inl (cI, 1420, .inl h_exactF))]) hD hS hA [2] rfl
    refine va_callv (va_runS (As := [.ref h_exact]) (rest := []) ⟨hx, hb, hml, hown, (dr_words hts _)⟩ (c_X12_clear l D cI cD cJ s.heap.size h_exact h_exactF) (va_cwS 1 (dr_words hts _) (goodIn_app (goodIn_r _ [17, 18, 4] rfl (by decide +kernel)) (goodIn_sub i_X12_clear k_X12_clear)) rfl rfl rfl (by decide +kernel) ⟨Nat.le_of_ble_eq_true rfl, Nat.le_of_ble_eq_true rfl⟩) ⟨fun a U g mk q => by obtain ⟨q0, q1, qP, qK, qD⟩ := q; exact ⟨q0, q1, qP, va_K.moved (u := U) (U := U.calling g mk a) (Vm.Alike.refl U.vm) qK, qD⟩, fun U hU hW => ⟨rfl, by rw [hU], by rw [hU]; exact hPc, va_K.moved hW.alike hK, hDc.weaken (fun _ _ _ _ => trivial)⟩⟩ rfl rfl hl.1 rfl (lv_room (Nat.le_of_ble_eq_true rfl)) dX12_takeApart_13 ⟨Nat.le_of_ble_eq_true rfl, Nat.le_of_ble_eq_true rfl⟩) hS (fun q _ h => hFc q h) hFc (fun u t H1 locs ht hvm w_13 hB hz1 hk1 hS => ?_)
    generalize u = u_14 at w_13 hB
    obtain ⟨hP1, hK1, hD1⟩ := hB
    rw [ht] at hP1
    try dsimp only at w_13
    obtain ⟨hP, hD⟩ := va_join (wr := [(h, .inr (9, [.int h_code, .int h_taped, .ref h_tape, .int h_size, .ref h_text, .double h_value, .int h_out, .ref h_output, .int h_illAt, .ref h_format, .int h_sections, .int h_items, .ref h_kind, .ref h_what, .ref h_of, .ref h_relation, .ref h_bound, .int h_reads, .int h_readSections, .ref h_readKind, .ref h_readWhat, .ref h_readOf, .ref h_place, .ref h_readRelation, .ref h_readBound, .int h_stop, .ref h_meant, .ref h_row, .ref h_exact, .ref h_error, .ref h_bestError, .long h_m, .int h_e, .ref h_digits, .int h_whole])), (h_row, .inl (cI, 1420, .inl h_rowF))]) (w1 := [(h_exact, .inl (cI, 1420, .inl u_14))]) hP hD [2] [0, 1] rfl rfl (by decide) (by decide) hk1 hFc hP1 hD1
    generalize H1 = H at hP hS ⊢
    have hP : va_P D vwCl [(h, .inr (9, [.int h_code, .int h_taped, .ref h_tape, .int h_size, .ref h_text, .double h_value, .int h_out, .ref h_output, .int h_illAt, .ref h_format, .int h_sections, .int h_items, .ref h_kind, .ref h_what, .ref h_of, .ref h_relation, .ref h_bound, .int h_reads, .int h_readSections, .ref h_readKind, .ref h_readWhat, .ref h_readOf, .ref h_place, .ref h_readRelation, .ref h_readBound, .int h_stop, .ref h_meant, .ref h_row, .ref h_exact, .ref h_error, .ref h_bestError, .long h_m, .int h_e, .ref h_digits, .int h_whole])), (h_row, .inl (cI, 1420, .inl h_rowF)), (h_exact, .inl (cI, 1420, .inl u_14))] H := hP
    have hD : va_D A [(h, .inr (9, [.int h_code, .int h_taped, .ref h_tape, .int h_size, .ref h_text, .double h_value, .int h_out, .ref h_output, .int h_illAt, .ref h_format, .int h_sections, .int h_items, .ref h_kind, .ref h_what, .ref h_of, .ref h_relation, .ref h_bound, .int h_reads, .int h_readSections, .ref h_readKind, .ref h_readWhat, .ref h_readOf, .ref h_place, .ref h_readRelation, .ref h_readBound, .int h_stop, .ref h_meant, .ref h_row, .ref h_exact, .ref h_error, .ref h_bestError, .long h_m, .int h_e, .ref h_digits, .int h_whole])), (h_row, .inl (cI, 1420, .inl h_rowF)), (h_exact, .inl (cI, 1420, .inl u_14))] := hD
    refine W.endD hd0 ?_
    have hP9 := hP.sub (ws' := [(h, .inr (9, [.int h_code, .int h_taped, .ref h_tape, .int h_size, .ref h_text, .double h_value, .int h_out, .ref h_output, .int h_illAt, .ref h_format, .int h_sections, .int h_items, .ref h_kind, .ref h_what, .ref h_of, .ref h_relation, .ref h_bound, .int h_reads, .int h_readSections, .ref h_readKind, .ref h_readWhat, .ref h_readOf, .ref h_place, .ref h_readRelation, .ref h_readBound, .int h_stop, .ref h_meant, .ref h_row, .ref h_exact, .ref h_error, .ref h_bestError, .long h_m, .int h_e, .ref h_digits, .int h_whole])), (h_row, .inl (cI, 1420, .inl h_rowF)), (h_exact, .inl (cI, 1420, .inl u_14))]) [0, 1, 2] rfl
    have hD9 := hD.sub (ws' := [(h, .inr (9, [.int h_code, .int h_taped, .ref h_tape, .int h_size, .ref h_text, .double h_value, .int h_out, .ref h_output, .int h_illAt, .ref h_format, .int h_sections, .int h_items, .ref h_kind, .ref h_what, .ref h_of, .ref h_relation, .ref h_bound, .int h_reads, .int h_readSections, .ref h_readKind, .ref h_readWhat, .ref h_readOf, .ref h_place, .ref h_readRelation, .ref h_readBound, .int h_stop, .ref h_meant, .ref h_row, .ref h_exact, .ref h_error, .ref h_bestError, .long h_m, .int h_e, .ref h_digits, .int h_whole])), (h_row, .inl (cI, 1420, .inl h_rowF)), (h_exact, .inl (cI, 1420, .inl u_14))]) [0, 1, 2] (by decide) rfl
    exact W.vret hx hb hr (fun t ht hW => ⟨⟨(h_m, h_e, h_rowF, u_14), rfl, (by (try dsimp only); first | omega | assumption | exact TA_zero hz8 (by omega) | exact TA_of (by assumption) hsz hap hex hcp), by rw [ht]; exact hP9, va_K.moved hW.alike hK, hD9⟩, hS.F ht⟩) hS.2.2 dX12_takeApart_16

