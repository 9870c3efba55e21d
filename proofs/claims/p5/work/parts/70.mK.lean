def ow_X12_here : List Cond := [Cond.fieldLink RX12 88 "NumberFormatsModel" "size" "I", Cond.fieldLink RX12 13 "NumberFormatsModel" "text" "[I"]
def pw_X12_here : List Cond := Cond.code yX12_here cX12_here 2 (some .int) :: (ow_X12_here ++ (wsX120))
set_option maxRecDepth 20000 in
theorem mo_X12_here : ∀ w ∈ ow_X12_here, w ∈ lw_tbl := by decide +kernel
set_option maxRecDepth 20000 in
theorem mc_X12_here : Cond.code yX12_here cX12_here 2 (some .int) ∈ lw_tbl := by decide +kernel
theorem m_X12_here : ∀ w ∈ pw_X12_here, w ∈ lw_tbl := List.forall_mem_cons.mpr ⟨mc_X12_here, (List.forall_mem_append.mpr ⟨mo_X12_here, inX12⟩)⟩
theorem ko_X12_here : ∀ w ∈ ow_X12_here, goodWord w = true := by decide +kernel
theorem k_X12_here : pw_X12_here.all goodWord = true := List.all_eq_true.mpr (List.forall_mem_cons.mpr ⟨by decide +kernel, (List.forall_mem_append.mpr ⟨ko_X12_here, kX_X12⟩)⟩)
set_option maxHeartbeats 400000 in
set_option maxRecDepth 100000 in
theorem c_X12_here (l : Launch) (D : va_G) (cI cD cJ : ClassId) (sz : Nat) (h : Nat) (h_code : Int32) (h_taped : Int32) (h_tape : Nat) (h_size : Int32) (h_text : Nat) (h_value : UInt64) (h_out : Int32) (h_output : Nat) (h_illAt : Int32) (h_format : Nat) (h_sections : Int32) (h_items : Int32) (h_kind : Nat) (h_what : Nat) (h_of : Nat) (h_relation : Nat) (h_bound : Nat) (h_reads : Int32) (h_readSections : Int32) (h_readKind : Nat) (h_readWhat : Nat) (h_readOf : Nat) (h_place : Nat) (h_readRelation : Nat) (h_readBound : Nat) (h_stop : Int32) (h_meant : Nat) (h_row : Nat) (h_exact : Nat) (h_error : Nat) (h_bestError : Nat) (h_m : Int64) (h_e : Int32) (h_digits : Nat) (h_whole : Int32) (h_textF : Nat → Int32) (p1 : Int32) (hh0 : 0 ≤ p1.toInt) (iv_h_taped : 0 ≤ (h_taped : Int32).toInt ∧ (h_taped : Int32).toInt ≤ 260) (iv_h_size : 0 ≤ (h_size : Int32).toInt ∧ (h_size : Int32).toInt ≤ 255) (iv_h_value : inR h_value) (iv_h_out : 0 ≤ (h_out : Int32).toInt ∧ (h_out : Int32).toInt ≤ 1024) (iv_h_sections : 0 ≤ (h_sections : Int32).toInt ∧ (h_sections : Int32).toInt ≤ 4) (iv_h_items : 0 ≤ (h_items : Int32).toInt ∧ (h_items : Int32).toInt ≤ 255) (iv_h_reads : 0 ≤ (h_reads : Int32).toInt ∧ (h_reads : Int32).toInt ≤ 255) (iv_h_readSections : 0 ≤ (h_readSections : Int32).toInt ∧ (h_readSections : Int32).toInt ≤ 4) (iv_h_whole : 0 ≤ (h_whole : Int32).toInt ∧ (h_whole : Int32).toInt ≤ 1001) (iv_h_textF : ∀ k9 : Nat, k9 < 256 → 0 ≤ (h_textF k9).toInt ∧ (h_textF k9).toInt ≤ 255) : Met l yX12_here pw_X12_here ({ frames := 0, cells := 0, slots := 0, locals := 0 }) (va_Pc [.ref h, .int p1] (fun U => va_P D vwCl [(h, .inr (9, [.int h_code, .int h_taped, .ref h_tape, .int h_size, .ref h_text, .double h_value, .int h_out, .ref h_output, .int h_illAt, .ref h_format, .int h_sections, .int h_items, .ref h_kind, .ref h_what, .ref h_of, .ref h_relation, .ref h_bound, .int h_reads, .int h_readSections, .ref h_readKind, .ref h_readWhat, .ref h_readOf, .ref h_place, .ref h_readRelation, .ref h_readBound, .int h_stop, .ref h_meant, .ref h_row, .ref h_exact, .ref h_error, .ref h_bestError, .long h_m, .int h_e, .ref h_digits, .int h_whole])), (h_text, .inl (cI, 256, .inl h_textF))] U.heap ∧ va_K D vwCl (ty3 cI cD cJ) U)) (va_Qi (fun (r : Int32) (u : Unit) => (r = hereF h_textF h_size p1 ∧ 0 ≤ r.toInt ∧ r.toInt ≤ 255)) (fun _ _ => True) (fun _ => False)) 0 0 (fun _ => False) := by
  refine Met.ofW (cc := cX12_here) (maxL := 2) (ret := (some .int)) (by decide +kernel) rfl ?_
  intro p e s m args below meth c s₁ B hml hv
  obtain ⟨rfl, hP, hK⟩ := hv
  have hx := B.exec
  have hb := B.bytes
  have hr := B.returns
  have hts := atoms_spec (ws := pw_X12_here) B.pre
  have hown : s.vm.findClass RX12 = some m.cls := findClass_of_methodNamed B.named
  have hlocks := B.notSynchronized
  have hS : va_S (fun _ => False) s.heap s.heap [] := va_S.rf
  have hw : ∀ (k : Nat) (w : Cond), ow_X12_here[k]? = some w → w.before _ s = true := fun k w h => hts w (List.mem_cons_of_mem _ (have h9 := List.mem_of_getElem? h; List.mem_append_left _ h9))
  have iX12 : ∀ w ∈ u_ws RX12 TX12 35, w ∈ pw_X12_here := fun w h9 => List.mem_cons_of_mem _ (List.mem_append_right _ (h9))
  have n_0 : ((0 : Int32)).toInt = 0 := by decide
  have hl := lv_entry ([.ref h, .int p1]) (n := 2) (Nat.le_of_ble_eq_true rfl)
  rw [lg_entry_eq]
  generalize (lg_sl ([.ref h, .int p1]) ++ List.replicate (2 - (lg_sl ([.ref h, .int p1])).length) Slot.unset).toArray = ls at hl ⊢
  have hl : lv_has ls 2 [(0, .ref h), (1, .int p1)] := hl
  have b_p1 := ti_b p1
  refine lv_iload_n hx hb dX12_here_0 rfl (lv_at hl 1 rfl) ?_
  refine lv_aload_n hx hb dX12_here_1 rfl (lv_at hl 0 rfl) ?_
  refine va_get (D := D) (ci := 9) (v := .int h_size) (C := RX12) (T := TX12) (N := 35) hx hb hts iX12 hown hK hP 0 rfl rfl 3 (by decide) (hw 0 (.fieldLink RX12 88 "NumberFormatsModel" "size" "I") rfl) (fun _ h9 => h9) rfl dX12_here_2 ?_
  refine lv_icmp_ge (tgt := 17) hx hb dX12_here_5 (by decide) (fun c_1 => ?_) (fun c_1 => ?_)
  · have ic_1 : (h_size : Int32).toInt ≤ (p1 : Int32).toInt := (fa_le h_size p1).mp c_1
    refine lv_iconst (v := 0) hx hb dX12_here_17 (by decide) ?_
    exact W.iret (v := 0) hx hb hr (fun t ht hW => ⟨⟨0, (), rfl, (by (try dsimp only); first | omega | assumption | exact ⟨hereF_in (by omega) missing_e13, by omega, by omega⟩ | exact ⟨hereF_out (by omega), by omega, by omega⟩), trivial⟩, hS.F ht⟩) hS.2.2 dX12_here_18
  · have ic_1 : ¬ ((h_size : Int32).toInt ≤ (p1 : Int32).toInt) := fun h9 => c_1 ((fa_le h_size p1).mpr h9)
    refine lv_aload_n hx hb dX12_here_8 rfl (lv_at hl 0 rfl) ?_
    refine va_get (D := D) (ci := 9) (v := .ref h_text) (C := RX12) (T := TX12) (N := 35) hx hb hts iX12 hown hK hP 0 rfl rfl 4 (by decide) (hw 1 (.fieldLink RX12 13 "NumberFormatsModel" "text" "[I") rfl) (fun _ h9 => h9) rfl dX12_here_9 ?_
    refine lv_iload_n hx hb dX12_here_12 rfl (lv_at hl 1 rfl) ?_
    have h_13 : vp_in p1 256 := by rw [vp_in_iff]; omega
    refine va_iald hx hb hK hP 1 0 rfl rfl h_13 dX12_here_13 ?_
    refine lv_topi (fun x_2 ex_2 => ?_)
    have iv_x_2 := (‹∀ k9 : Nat, k9 < 256 → 0 ≤ (h_textF k9).toInt ∧ (h_textF k9).toInt ≤ 255›) _ (Nat.lt_of_not_le (fun h9 => h_13 (Or.inr h9)))
    rw [← ex_2] at iv_x_2
    refine lv_goto (tgt := 18) hx hb dX12_here_14 (by decide) ?_
    exact W.iret (v := x_2) hx hb hr (fun t ht hW => ⟨⟨x_2, (), rfl, (by (try dsimp only); first | omega | assumption | exact ⟨hereF_in (by omega) ex_2, by omega, by omega⟩ | exact ⟨hereF_out (by omega), by omega, by omega⟩), trivial⟩, hS.F ht⟩) hS.2.2 dX12_here_18

def ow_X12_small : List Cond := []
def pw_X12_small : List Cond := Cond.code yX12_small cX12_small 1 (some .int) :: (ow_X12_small)
set_option maxRecDepth 20000 in
theorem mo_X12_small : ∀ w ∈ ow_X12_small, w ∈ lw_tbl := by decide +kernel
set_option maxRecDepth 20000 in
theorem mc_X12_small : Cond.code yX12_small cX12_small 1 (some .int) ∈ lw_tbl := by decide +kernel
theorem m_X12_small : ∀ w ∈ pw_X12_small, w ∈ lw_tbl := List.forall_mem_cons.mpr ⟨mc_X12_small, mo_X12_small⟩
theorem ko_X12_small : ∀ w ∈ ow_X12_small, goodWord w = true := by decide +kernel
theorem k_X12_small : pw_X12_small.all goodWord = true := List.all_eq_true.mpr (List.forall_mem_cons.mpr ⟨by decide +kernel, ko_X12_small⟩)
set_option maxHeartbeats 400000 in
set_option maxRecDepth 100000 in
theorem c_X12_small (l : Launch) (D : va_G) (cI cD cJ : ClassId) (sz : Nat) (p1 : Int32) : Met l yX12_small pw_X12_small ({ frames := 0, cells := 0, slots := 0, locals := 0 }) (va_Pc [.int p1] (fun U => va_P D vwCl [] U.heap ∧ va_K D vwCl (ty3 cI cD cJ) U)) (va_Qi (fun (r : Int32) (u : Unit) => ((r.toInt = p1.toInt ∧ ¬ (65 ≤ p1.toInt ∧ p1.toInt ≤ 90)) ∨ (65 ≤ p1.toInt ∧ p1.toInt ≤ 90 ∧ r.toInt = p1.toInt + 32))) (fun _ _ => True) (fun _ => False)) 0 0 (fun _ => False) := by
  refine Met.ofW (cc := cX12_small) (maxL := 1) (ret := (some .int)) (by decide +kernel) rfl ?_
  intro p e s m args below meth c s₁ B hml hv
  obtain ⟨rfl, hP, hK⟩ := hv
  have hx := B.exec
  have hb := B.bytes
  have hr := B.returns
  have hts := atoms_spec (ws := pw_X12_small) B.pre
  have hown : s.vm.findClass RX12 = some m.cls := findClass_of_methodNamed B.named
  have hlocks := B.notSynchronized
  have hS : va_S (fun _ => False) s.heap s.heap [] := va_S.rf
  have hw : ∀ (k : Nat) (w : Cond), ow_X12_small[k]? = some w → w.before _ s = true := fun k w h => hts w (List.mem_cons_of_mem _ (have h9 := List.mem_of_getElem? h; h9))
  have n_32 : ((32 : Int32)).toInt = 32 := by decide
  have n_65 : ((65 : Int32)).toInt = 65 := by decide
  have n_90 : ((90 : Int32)).toInt = 90 := by decide
  have hl := lv_entry ([.int p1]) (n := 1) (Nat.le_of_ble_eq_true rfl)
  rw [lg_entry_eq]
  generalize (lg_sl ([.int p1]) ++ List.replicate (1 - (lg_sl ([.int p1])).length) Slot.unset).toArray = ls at hl ⊢
  have hl : lv_has ls 1 [(0, .int p1)] := hl
  have b_p1 := ti_b p1
  refine lv_iload_n hx hb dX12_small_0 rfl (lv_at hl 0 rfl) ?_
  refine lv_bipush (v := 65) hx hb dX12_small_1 (by decide) ?_
  refine lv_icmp_lt (tgt := 19) hx hb dX12_small_3 (by decide) (fun c_1 => ?_) (fun c_1 => ?_)
  · have ic_1 : (p1 : Int32).toInt < (65 : Int32).toInt := (fa_lt p1 65).mp c_1
    refine lv_iload_n hx hb dX12_small_19 rfl (lv_at hl 0 rfl) ?_
    exact W.iret (v := p1) hx hb hr (fun t ht hW => ⟨⟨p1, (), rfl, (by (try dsimp only); first | omega | assumption), trivial⟩, hS.F ht⟩) hS.2.2 dX12_small_20
  · have ic_1 : ¬ ((p1 : Int32).toInt < (65 : Int32).toInt) := fun h9 => c_1 ((fa_lt p1 65).mpr h9)
    refine lv_iload_n hx hb dX12_small_6 rfl (lv_at hl 0 rfl) ?_
    refine lv_bipush (v := 90) hx hb dX12_small_7 (by decide) ?_
    refine lv_icmp_gt (tgt := 19) hx hb dX12_small_9 (by decide) (fun c_2 => ?_) (fun c_2 => ?_)
    · have ic_2 : (90 : Int32).toInt < (p1 : Int32).toInt := (fa_lt 90 p1).mp c_2
      refine lv_iload_n hx hb dX12_small_19 rfl (lv_at hl 0 rfl) ?_
      exact W.iret (v := p1) hx hb hr (fun t ht hW => ⟨⟨p1, (), rfl, (by (try dsimp only); first | omega | assumption), trivial⟩, hS.F ht⟩) hS.2.2 dX12_small_20
    · have ic_2 : ¬ ((90 : Int32).toInt < (p1 : Int32).toInt) := fun h9 => c_2 ((fa_lt 90 p1).mpr h9)
      refine lv_iload_n hx hb dX12_small_12 rfl (lv_at hl 0 rfl) ?_
      refine lv_bipush (v := 32) hx hb dX12_small_13 (by decide) ?_
      refine lv_iadd hx hb dX12_small_15 ?_
      refine lv_topi (fun x_3 ex_3 => ?_)
      have b_p1 := ti_b p1
      have tx_3 := ti_add ex_3
      refine lv_goto (tgt := 20) hx hb dX12_small_16 (by decide) ?_
      exact W.iret (v := x_3) hx hb hr (fun t ht hW => ⟨⟨x_3, (), rfl, (by (try dsimp only); first | omega | assumption), trivial⟩, hS.F ht⟩) hS.2.2 dX12_small_20

def ow_X12_isDigit : List Cond := []
def pw_X12_isDigit : List Cond := Cond.code yX12_isDigit cX12_isDigit 1 (some .boolean) :: (ow_X12_isDigit)
set_option maxRecDepth 20000 in
theorem mo_X12_isDigit : ∀ w ∈ ow_X12_isDigit, w ∈ lw_tbl := by decide +kernel
set_option maxRecDepth 20000 in
theorem mc_X12_isDigit : Cond.code yX12_isDigit cX12_isDigit 1 (some .boolean) ∈ lw_tbl := by decide +kernel
theorem m_X12_isDigit : ∀ w ∈ pw_X12_isDigit, w ∈ lw_tbl := List.forall_mem_cons.mpr ⟨mc_X12_isDigit, mo_X12_isDigit⟩
theorem ko_X12_isDigit : ∀ w ∈ ow_X12_isDigit, goodWord w = true := by decide +kernel
theorem k_X12_isDigit : pw_X12_isDigit.all goodWord = true := List.all_eq_true.mpr (List.forall_mem_cons.mpr ⟨by decide +kernel, ko_X12_isDigit⟩)
set_option maxHeartbeats 400000 in
set_option maxRecDepth 100000 in
theorem c_X12_isDigit (l : Launch) (D : va_G) (cI cD cJ : ClassId) (sz : Nat) (p1 : Int32) : Met l yX12_isDigit pw_X12_isDigit ({ frames := 0, cells := 0, slots := 0, locals := 0 }) (va_Pc [.int p1] (fun U => va_P D vwCl [] U.heap ∧ va_K D vwCl (ty3 cI cD cJ) U)) (va_Qi (fun (r : Int32) (u : Unit) => (r.toInt = 0 ∨ r.toInt = 1) ∧ ((r.toInt = 1 ∧ 48 ≤ p1.toInt ∧ p1.toInt ≤ 57) ∨ (r.toInt = 0 ∧ (p1.toInt < 48 ∨ 57 < p1.toInt)))) (fun _ _ => True) (fun _ => False)) 0 0 (fun _ => False) := by
  refine Met.ofW (cc := cX12_isDigit) (maxL := 1) (ret := (some .boolean)) (by decide +kernel) rfl ?_
  intro p e s m args below meth c s₁ B hml hv
  obtain ⟨rfl, hP, hK⟩ := hv
  have hx := B.exec
  have hb := B.bytes
  have hr := B.returns
  have hts := atoms_spec (ws := pw_X12_isDigit) B.pre
  have hown : s.vm.findClass RX12 = some m.cls := findClass_of_methodNamed B.named
  have hlocks := B.notSynchronized
  have hS : va_S (fun _ => False) s.heap s.heap [] := va_S.rf
  have hw : ∀ (k : Nat) (w : Cond), ow_X12_isDigit[k]? = some w → w.before _ s = true := fun k w h => hts w (List.mem_cons_of_mem _ (have h9 := List.mem_of_getElem? h; h9))
  have n_0 : ((0 : Int32)).toInt = 0 := by decide
  have n_1 : ((1 : Int32)).toInt = 1 := by decide
  have n_48 : ((48 : Int32)).toInt = 48 := by decide
  have n_57 : ((57 : Int32)).toInt = 57 := by decide
  have hl := lv_entry ([.int p1]) (n := 1) (Nat.le_of_ble_eq_true rfl)
  rw [lg_entry_eq]
  generalize (lg_sl ([.int p1]) ++ List.replicate (1 - (lg_sl ([.int p1])).length) Slot.unset).toArray = ls at hl ⊢
  have hl : lv_has ls 1 [(0, .int p1)] := hl
  have b_p1 := ti_b p1
  refine lv_iload_n hx hb dX12_isDigit_0 rfl (lv_at hl 0 rfl) ?_
  refine lv_bipush (v := 48) hx hb dX12_isDigit_1 (by decide) ?_
  refine lv_icmp_lt (tgt := 16) hx hb dX12_isDigit_3 (by decide) (fun c_1 => ?_) (fun c_1 => ?_)
  · have ic_1 : (p1 : Int32).toInt < (48 : Int32).toInt := (fa_lt p1 48).mp c_1
    refine lv_iconst (v := 0) hx hb dX12_isDigit_16 (by decide) ?_
    exact W.zret (v := 0) hx hb hr rfl (fun t ht hW => ⟨⟨0, (), rfl, (by (try dsimp only); refine ⟨?_, ?_⟩ <;> first | omega | assumption), trivial⟩, hS.F ht⟩) hS.2.2 dX12_isDigit_17
  · have ic_1 : ¬ ((p1 : Int32).toInt < (48 : Int32).toInt) := fun h9 => c_1 ((fa_lt p1 48).mpr h9)
    refine lv_iload_n hx hb dX12_isDigit_6 rfl (lv_at hl 0 rfl) ?_
    refine lv_bipush (v := 57) hx hb dX12_isDigit_7 (by decide) ?_
    refine lv_icmp_gt (tgt := 16) hx hb dX12_isDigit_9 (by decide) (fun c_2 => ?_) (fun c_2 => ?_)
    · have ic_2 : (57 : Int32).toInt < (p1 : Int32).toInt := (fa_lt 57 p1).mp c_2
      refine lv_iconst (v := 0) hx hb dX12_isDigit_16 (by decide) ?_
      exact W.zret (v := 0) hx hb hr rfl (fun t ht hW => ⟨⟨0, (), rfl, (by (try dsimp only); refine ⟨?_, ?_⟩ <;> first | omega | assumption), trivial⟩, hS.F ht⟩) hS.2.2 dX12_isDigit_17
    · have ic_2 : ¬ ((57 : Int32).toInt < (p1 : Int32).toInt) := fun h9 => c_2 ((fa_lt 57 p1).mpr h9)
      refine lv_iconst (v := 1) hx hb dX12_isDigit_12 (by decide) ?_
      refine lv_goto (tgt := 17) hx hb dX12_isDigit_13 (by decide) ?_
      exact W.zret (v := 1) hx hb hr rfl (fun t ht hW => ⟨⟨1, (), rfl, (by (try dsimp only); refine ⟨?_, ?_⟩ <;> first | omega | assumption), trivial⟩, hS.F ht⟩) hS.2.2 dX12_isDigit_17

def ow_X12_follows : List Cond := [Cond.constantLong RX12 163 (255), Cond.methodLink RX12 165 yX12_here, Cond.instanceMethod yX12_here, Cond.selects RX12 yX12_here yX12_here, Cond.initialized RX12, Cond.methodLink RX12 169 yX12_small, Cond.static yX12_small]
def pw_X12_follows : List Cond := Cond.code yX12_follows cX12_follows 8 (some .boolean) :: (ow_X12_follows ++ (pw_X12_here ++ (pw_X12_small)))
set_option maxRecDepth 20000 in
theorem mo_X12_follows : ∀ w ∈ ow_X12_follows, w ∈ lw_tbl := by decide +kernel
set_option maxRecDepth 20000 in
theorem mc_X12_follows : Cond.code yX12_follows cX12_follows 8 (some .boolean) ∈ lw_tbl := by decide +kernel
theorem m_X12_follows : ∀ w ∈ pw_X12_follows, w ∈ lw_tbl := List.forall_mem_cons.mpr ⟨mc_X12_follows, (List.forall_mem_append.mpr ⟨mo_X12_follows, (List.forall_mem_append.mpr ⟨m_X12_here, m_X12_small⟩)⟩)⟩
theorem ko_X12_follows : ∀ w ∈ ow_X12_follows, goodWord w = true := by decide +kernel
theorem k_X12_follows : pw_X12_follows.all goodWord = true := List.all_eq_true.mpr (List.forall_mem_cons.mpr ⟨by decide +kernel, (List.forall_mem_append.mpr ⟨ko_X12_follows, (List.forall_mem_append.mpr ⟨(List.all_eq_true.mp k_X12_here), (List.all_eq_true.mp k_X12_small)⟩)⟩)⟩)
set_option maxHeartbeats 400000 in
set_option maxRecDepth 100000 in
theorem c_X12_follows (l : Launch) (D : va_G) (cI cD cJ : ClassId) (sz : Nat) (h : Nat) (h_code : Int32) (h_taped : Int32) (h_tape : Nat) (h_size : Int32) (h_text : Nat) (h_value : UInt64) (h_out : Int32) (h_output : Nat) (h_illAt : Int32) (h_format : Nat) (h_sections : Int32) (h_items : Int32) (h_kind : Nat) (h_what : Nat) (h_of : Nat) (h_relation : Nat) (h_bound : Nat) (h_reads : Int32) (h_readSections : Int32) (h_readKind : Nat) (h_readWhat : Nat) (h_readOf : Nat) (h_place : Nat) (h_readRelation : Nat) (h_readBound : Nat) (h_stop : Int32) (h_meant : Nat) (h_row : Nat) (h_exact : Nat) (h_error : Nat) (h_bestError : Nat) (h_m : Int64) (h_e : Int32) (h_digits : Nat) (h_whole : Int32) (h_textF : Nat → Int32) (p1 : Int32) (p2 : Int64) (hh0 : 0 ≤ p1.toInt) (hh1 : p1.toInt ≤ 255) (iv_h_taped : 0 ≤ (h_taped : Int32).toInt ∧ (h_taped : Int32).toInt ≤ 260) (iv_h_size : 0 ≤ (h_size : Int32).toInt ∧ (h_size : Int32).toInt ≤ 255) (iv_h_value : inR h_value) (iv_h_out : 0 ≤ (h_out : Int32).toInt ∧ (h_out : Int32).toInt ≤ 1024) (iv_h_sections : 0 ≤ (h_sections : Int32).toInt ∧ (h_sections : Int32).toInt ≤ 4) (iv_h_items : 0 ≤ (h_items : Int32).toInt ∧ (h_items : Int32).toInt ≤ 255) (iv_h_reads : 0 ≤ (h_reads : Int32).toInt ∧ (h_reads : Int32).toInt ≤ 255) (iv_h_readSections : 0 ≤ (h_readSections : Int32).toInt ∧ (h_readSections : Int32).toInt ≤ 4) (iv_h_whole : 0 ≤ (h_whole : Int32).toInt ∧ (h_whole : Int32).toInt ≤ 1001) (iv_h_textF : ∀ k9 : Nat, k9 < 256 → 0 ≤ (h_textF k9).toInt ∧ (h_textF k9).toInt ≤ 255) : Met l yX12_follows pw_X12_follows ({ frames := 1, cells := 0, slots := 0, locals := 21 }) (va_Pc [.ref h, .int p1, .long p2] (fun U => va_P D vwCl [(h, .inr (9, [.int h_code, .int h_taped, .ref h_tape, .int h_size, .ref h_text, .double h_value, .int h_out, .ref h_output, .int h_illAt, .ref h_format, .int h_sections, .int h_items, .ref h_kind, .ref h_what, .ref h_of, .ref h_relation, .ref h_bound, .int h_reads, .int h_readSections, .ref h_readKind, .ref h_readWhat, .ref h_readOf, .ref h_place, .ref h_readRelation, .ref h_readBound, .int h_stop, .ref h_meant, .ref h_row, .ref h_exact, .ref h_error, .ref h_bestError, .long h_m, .int h_e, .ref h_digits, .int h_whole])), (h_text, .inl (cI, 256, .inl h_textF))] U.heap ∧ va_K D vwCl (ty3 cI cD cJ) U)) (va_Qi (fun (r : Int32) (u : Unit) => (r.toInt = 0 ∨ r.toInt = 1)) (fun _ _ => True) (fun _ => False)) 0 0 (fun _ => False) := by
  refine Met.ofW (cc := cX12_follows) (maxL := 8) (ret := (some .boolean)) (by decide +kernel) rfl ?_
  intro p e s m args below meth c s₁ B hml hv
  obtain ⟨rfl, hP, hK⟩ := hv
  have hx := B.exec
  have hb := B.bytes
  have hr := B.returns
  have hts := atoms_spec (ws := pw_X12_follows) B.pre
  have hown : s.vm.findClass RX12 = some m.cls := findClass_of_methodNamed B.named
  have hlocks := B.notSynchronized
  have hS : va_S (fun _ => False) s.heap s.heap [] := va_S.rf
  have hw : ∀ (k : Nat) (w : Cond), ow_X12_follows[k]? = some w → w.before _ s = true := fun k w h => hts w (List.mem_cons_of_mem _ (have h9 := List.mem_of_getElem? h; List.mem_append_left _ h9))
  have i_X12_here : ∀ w ∈ pw_X12_here, w ∈ pw_X12_follows := fun w h9 => List.mem_cons_of_mem _ (List.mem_append_right _ (List.mem_append_left _ h9))
  have i_X12_small : ∀ w ∈ pw_X12_small, w ∈ pw_X12_follows := fun w h9 => List.mem_cons_of_mem _ (List.mem_append_right _ (List.mem_append_right _ (h9)))
  have n_m8 : (((-8) : Int32)).toInt = (-8) := by decide
  have n_0 : ((0 : Int32)).toInt = 0 := by decide
  have n_1 : ((1 : Int32)).toInt = 1 := by decide
  have n_56 : ((56 : Int32)).toInt = 56 := by decide
  have nl_255 : ((255 : Int64)).toInt = 255 := by decide
  have hl := lv_entry ([.ref h, .int p1, .long p2]) (n := 8) (Nat.le_of_ble_eq_true rfl)
  rw [lg_entry_eq]
  generalize (lg_sl ([.ref h, .int p1, .long p2]) ++ List.replicate (8 - (lg_sl ([.ref h, .int p1, .long p2])).length) Slot.unset).toArray = ls at hl ⊢
  have hl : lv_has ls 8 [(0, .ref h), (1, .int p1), (2, .long p2)] := hl
  have b_p1 := ti_b p1
  refine zz_cap (fun Z hZ1 hZ2 => ?_)
  refine lv_iload_n hx hb dX12_follows_0 rfl (lv_at hl 1 rfl) ?_
  refine lv_istore (lv' := [(4, .int p1), (0, .ref h), (1, .int p1), (2, .long p2)]) hx hb dX12_follows_1 hl (by decide) rfl (fun ls hl => ?_)
  refine lv_iconst (v := 1) hx hb dX12_follows_3 (by decide) ?_
  refine lv_istore (lv' := [(5, .int 1), (4, .int p1), (0, .ref h), (1, .int p1), (2, .long p2)]) hx hb dX12_follows_4 hl (by decide) rfl (fun ls hl => ?_)
  refine lv_bipush (v := 56) hx hb dX12_follows_6 (by decide) ?_
  refine lv_istore (lv' := [(6, .int 56), (5, .int 1), (4, .int p1), (0, .ref h), (1, .int p1), (2, .long p2)]) hx hb dX12_follows_8 hl (by decide) rfl (fun ls hl => ?_)
  have L_10 : ∀ (N : Nat) (x_1 : Int32) (x_2 : Int32) (x_3 : Int32) (H : Heap) (locs : List Loc) (ls : Array Slot), (0 ≤ (x_3 : Int32).toInt) → ((x_3 : Int32).toInt ≤ 600) → (8 * ((x_3 : Int32).toInt - p1.toInt) ≤ 56 - (x_1 : Int32).toInt) → (-8 ≤ (x_1 : Int32).toInt) → ((x_1 : Int32).toInt ≤ 56) → ((x_2 : Int32).toInt = 0 ∨ (x_2 : Int32).toInt = 1) → (((x_1 : Int32).toInt + 2147483648).toNat < N) → va_P D vwCl [(h, .inr (9, [.int h_code, .int h_taped, .ref h_tape, .int h_size, .ref h_text, .double h_value, .int h_out, .ref h_output, .int h_illAt, .ref h_format, .int h_sections, .int h_items, .ref h_kind, .ref h_what, .ref h_of, .ref h_relation, .ref h_bound, .int h_reads, .int h_readSections, .ref h_readKind, .ref h_readWhat, .ref h_readOf, .ref h_place, .ref h_readRelation, .ref h_readBound, .int h_stop, .ref h_meant, .ref h_row, .ref h_exact, .ref h_error, .ref h_bestError, .long h_m, .int h_e, .ref h_digits, .int h_whole])), (h_text, .inl (cI, 256, .inl h_textF))] H → va_S (fun _ => False) s.heap H locs → lv_has ls 8 [(6, .int x_1), (5, .int x_2), (4, .int x_3), (0, .ref h), (2, .long p2)] → Z 0 0 H locs (F0 m 10 ls []) := by
    intro N
    induction N with
    | zero => intro _ _ _ _ _ _ _ _ _ _ _ _ hmu; exact absurd hmu (Nat.not_lt_zero _)
    | succ N ih_10 =>
      intro x_1 x_2 x_3 H locs ls g10_0 g10_1 g10_2 g10_3 g10_4 g10_5 hmu hP hS hl
      refine hZ2 ?_
      refine lv_iload hx hb dX12_follows_10 (lv_at hl 0 rfl) ?_
      refine lv_if_lt (tgt := 69) hx hb dX12_follows_12 (by decide) (fun c_4 => ?_) (fun c_4 => ?_)
      · have ic_4 : (x_1 : Int32).toInt < (0 : Int32).toInt := (fa_lt x_1 0).mp c_4
        refine lv_iload hx hb dX12_follows_69 (lv_at hl 1 rfl) ?_
        exact W.zret (v := x_2) hx hb hr (nz01 (by omega)) (fun t ht hW => ⟨⟨x_2, (), rfl, (by (try dsimp only); first | omega | assumption), trivial⟩, hS.F ht⟩) hS.2.2 dX12_follows_71
      · have ic_4 : ¬ ((x_1 : Int32).toInt < (0 : Int32).toInt) := fun h9 => c_4 ((fa_lt x_1 0).mpr h9)
        refine lv_lload_n hx hb dX12_follows_15 rfl (lv_at hl 4 rfl) ?_
        refine lv_iload hx hb dX12_follows_16 (lv_at hl 0 rfl) ?_
        refine lv_lshr hx hb dX12_follows_18 rfl ?_
        refine lv_topl (fun y_5 ey_5 => ?_)
        refine lv_ldc2 (v := 255) hx hb hown (hw 0 (.constantLong RX12 163 (255)) rfl) dX12_follows_19 ?_
        refine lv_land hx hb dX12_follows_22 ?_
        refine lv_topl (fun y_6 ey_6 => ?_)
        refine lv_l2i hx hb dX12_follows_23 rfl ?_
        refine lv_topi (fun x_7 ex_7 => ?_)
        have tx_7 := ti_l2i ex_7
        refine lv_istore (lv' := [(7, .int x_7), (6, .int x_1), (5, .int x_2), (4, .int x_3), (0, .ref h), (2, .long p2)]) hx hb dX12_follows_24 hl (by decide) rfl (fun ls hl => ?_)
        refine lv_iload hx hb dX12_follows_26 (lv_at hl 0 rfl) ?_
        refine lv_if_ne (tgt := 34) hx hb dX12_follows_28 (by decide) (fun c_8 => ?_) (fun c_8 => ?_)
        · have ic_8 : ¬ ((x_7 : Int32).toInt = (0 : Int32).toInt) := fun h9 => c_8 ((fa_eq x_7 0).mpr h9)
          refine lv_iload hx hb dX12_follows_34 (lv_at hl 2 rfl) ?_
          have K_58 : ∀ (z_9 : Int32) (H : Heap) (locs : List Loc) (ls : Array Slot), ((z_9 : Int32).toInt = 0 ∨ (z_9 : Int32).toInt = 1) → va_P D vwCl [(h, .inr (9, [.int h_code, .int h_taped, .ref h_tape, .int h_size, .ref h_text, .double h_value, .int h_out, .ref h_output, .int h_illAt, .ref h_format, .int h_sections, .int h_items, .ref h_kind, .ref h_what, .ref h_of, .ref h_relation, .ref h_bound, .int h_reads, .int h_readSections, .ref h_readKind, .ref h_readWhat, .ref h_readOf, .ref h_place, .ref h_readRelation, .ref h_readBound, .int h_stop, .ref h_meant, .ref h_row, .ref h_exact, .ref h_error, .ref h_bestError, .long h_m, .int h_e, .ref h_digits, .int h_whole])), (h_text, .inl (cI, 256, .inl h_textF))] H → va_S (fun _ => False) s.heap H locs → lv_has ls 8 [(6, .int x_1), (4, .int x_3), (0, .ref h), (2, .long p2)] → Z 0 0 H locs (F0 m 58 ls [.int z_9]) := by
            intro z_9 H locs ls g58_0 hP hS hl
            refine hZ2 ?_
            refine lv_istore (lv' := [(5, .int z_9), (6, .int x_1), (4, .int x_3), (0, .ref h), (2, .long p2)]) hx hb dX12_follows_58 hl (by decide) rfl (fun ls hl => ?_)
            obtain ⟨x_10, ex_10⟩ : ∃ y : Int32, y = x_3 + 1 := ⟨_, rfl⟩
            have b_x_3 := ti_b x_3
            have tx_10 := ti_add ex_10
            refine lv_iinc (v := x_10) (lv' := [(4, .int x_10), (5, .int z_9), (6, .int x_1), (0, .ref h), (2, .long p2)]) hx hb dX12_follows_60 hl (k := 2) rfl (by rw [ex_10]; rfl) (by decide) rfl (fun ls hl => ?_)
            obtain ⟨x_11, ex_11⟩ : ∃ y : Int32, y = x_1 + (-8) := ⟨_, rfl⟩
            have b_x_1 := ti_b x_1
            have tx_11 := ti_add ex_11
            refine lv_iinc (v := x_11) (lv' := [(6, .int x_11), (4, .int x_10), (5, .int z_9), (0, .ref h), (2, .long p2)]) hx hb dX12_follows_63 hl (k := 2) rfl (by rw [ex_11]; rfl) (by decide) rfl (fun ls hl => ?_)
            refine lv_goto (tgt := 10) hx hb dX12_follows_66 (by decide) ?_
            exact hZ1 (ih_10 x_11 z_9 x_10 _ _ _ (by omega) (by omega) (by omega) (by omega) (by omega) (by omega) (by omega) hP hS (lv_sub hl [0, 2, 1, 3, 4] rfl))
          have K_57 : ∀ (H : Heap) (locs : List Loc) (ls : Array Slot), va_P D vwCl [(h, .inr (9, [.int h_code, .int h_taped, .ref h_tape, .int h_size, .ref h_text, .double h_value, .int h_out, .ref h_output, .int h_illAt, .ref h_format, .int h_sections, .int h_items, .ref h_kind, .ref h_what, .ref h_of, .ref h_relation, .ref h_bound, .int h_reads, .int h_readSections, .ref h_readKind, .ref h_readWhat, .ref h_readOf, .ref h_place, .ref h_readRelation, .ref h_readBound, .int h_stop, .ref h_meant, .ref h_row, .ref h_exact, .ref h_error, .ref h_bestError, .long h_m, .int h_e, .ref h_digits, .int h_whole])), (h_text, .inl (cI, 256, .inl h_textF))] H → va_S (fun _ => False) s.heap H locs → lv_has ls 8 [(6, .int x_1), (4, .int x_3), (0, .ref h), (2, .long p2)] → Z 0 0 H locs (F0 m 57 ls []) := by
            intro  H locs ls  hP hS hl
            refine hZ2 ?_
            refine lv_iconst (v := 0) hx hb dX12_follows_57 (by decide) ?_
            exact hZ1 (K_58 0 _ _ _ (by omega) hP hS hl)
          refine lv_if_eq (tgt := 57) hx hb dX12_follows_36 (by decide) (fun c_12 => ?_) (fun c_12 => ?_)
          · have ic_12 : (x_2 : Int32).toInt = (0 : Int32).toInt := (fa_eq x_2 0).mp c_12
            exact hZ1 (K_57  _ _ _ hP hS (lv_sub hl [1, 3, 4, 5] rfl))
          · have ic_12 : ¬ ((x_2 : Int32).toInt = (0 : Int32).toInt) := fun h9 => c_12 ((fa_eq x_2 0).mpr h9)
            refine lv_aload_n hx hb dX12_follows_39 rfl (lv_at hl 4 rfl) ?_
            refine lv_iload hx hb dX12_follows_40 (lv_at hl 3 rfl) ?_
            have hPc := hP.sub (ws' := [(h, .inr (9, [.int h_code, .int h_taped, .ref h_tape, .int h_size, .ref h_text, .double h_value, .int h_out, .ref h_output, .int h_illAt, .ref h_format, .int h_sections, .int h_items, .ref h_kind, .ref h_what, .ref h_of, .ref h_relation, .ref h_bound, .int h_reads, .int h_readSections, .ref h_readKind, .ref h_readWhat, .ref h_readOf, .ref h_place, .ref h_readRelation, .ref h_readBound, .int h_stop, .ref h_meant, .ref h_row, .ref h_exact, .ref h_error, .ref h_bestError, .long h_m, .int h_e, .ref h_digits, .int h_whole])), (h_text, .inl (cI, 256, .inl h_textF))]) [0, 1] rfl
            refine va_calli (va_runV (As := [.int x_3]) (rest := []) ⟨hx, hb, hml, hown, hts⟩ (c_X12_here l D cI cD cJ H.size h h_code h_taped h_tape h_size h_text h_value h_out h_output h_illAt h_format h_sections h_items h_kind h_what h_of h_relation h_bound h_reads h_readSections h_readKind h_readWhat h_readOf h_place h_readRelation h_readBound h_stop h_meant h_row h_exact h_error h_bestError h_m h_e h_digits h_whole h_textF x_3 (by omega) (by omega) (by omega) (by assumption) (by omega) (by omega) (by omega) (by omega) (by omega) (by omega) (by assumption)) (cwV 1 hts (goodIn_app (goodIn_r _ [2, 3, 4, 5] rfl (by decide +kernel)) (goodIn_sub i_X12_here k_X12_here)) rfl rfl rfl (by decide +kernel) ⟨Nat.le_of_ble_eq_true rfl, Nat.le_of_ble_eq_true rfl⟩) ⟨fun a U g mk q => by obtain ⟨q0, qP, qK⟩ := q; exact ⟨q0, qP, va_K.moved (u := U) (U := U.calling g mk a) (Vm.Alike.refl U.vm) qK⟩, va_recv hK hPc (ci := 9) (q0 := 0) rfl rfl, fun U hU hW => ⟨rfl, by rw [hU]; exact hPc, va_K.moved hW.alike hK⟩⟩ rfl rfl hl.1 rfl (lv_room (Nat.le_of_ble_eq_true rfl)) dX12_follows_42 ⟨Nat.le_of_ble_eq_true rfl, Nat.le_of_ble_eq_true rfl⟩) hS (fun q _ h => h.elim) (fun q h => h.elim) (fun x_13 u t H1 locs ht hvm w_14 hB hz1 hk1 hS => ?_)
            have hP : va_P D vwCl [(h, .inr (9, [.int h_code, .int h_taped, .ref h_tape, .int h_size, .ref h_text, .double h_value, .int h_out, .ref h_output, .int h_illAt, .ref h_format, .int h_sections, .int h_items, .ref h_kind, .ref h_what, .ref h_of, .ref h_relation, .ref h_bound, .int h_reads, .int h_readSections, .ref h_readKind, .ref h_readWhat, .ref h_readOf, .ref h_place, .ref h_readRelation, .ref h_readBound, .int h_stop, .ref h_meant, .ref h_row, .ref h_exact, .ref h_error, .ref h_bestError, .long h_m, .int h_e, .ref h_digits, .int h_whole])), (h_text, .inl (cI, 256, .inl h_textF))] H1 := hP.kept (fun k9 q9 h9 => hk1 q9.1 (vx_lt hP h9) (fun h => h))
            generalize H1 = H at hP hS ⊢
            try dsimp only at w_14
            have hPc := hP.sub (ws' := []) [] rfl
            refine va_calli (va_runS (As := [.int x_13]) (rest := []) ⟨hx, hb, hml, hown, hts⟩ (c_X12_small l D cI cD cJ H.size x_13) (va_cwS 1 hts (goodIn_app (goodIn_r _ [6, 7, 5] rfl (by decide +kernel)) (goodIn_sub i_X12_small k_X12_small)) rfl rfl rfl (by decide +kernel) ⟨Nat.le_of_ble_eq_true rfl, Nat.le_of_ble_eq_true rfl⟩) ⟨fun a U g mk q => by obtain ⟨q0, qP, qK⟩ := q; exact ⟨q0, qP, va_K.moved (u := U) (U := U.calling g mk a) (Vm.Alike.refl U.vm) qK⟩, fun U hU hW => ⟨rfl, by rw [hU]; exact hPc, va_K.moved hW.alike hK⟩⟩ rfl rfl hl.1 rfl (lv_room (Nat.le_of_ble_eq_true rfl)) dX12_follows_45 ⟨Nat.le_of_ble_eq_true rfl, Nat.le_of_ble_eq_true rfl⟩) hS (fun q _ h => h.elim) (fun q h => h.elim) (fun x_15 u t H1 locs ht hvm w_16 hB hz1 hk1 hS => ?_)
            have hP : va_P D vwCl [(h, .inr (9, [.int h_code, .int h_taped, .ref h_tape, .int h_size, .ref h_text, .double h_value, .int h_out, .ref h_output, .int h_illAt, .ref h_format, .int h_sections, .int h_items, .ref h_kind, .ref h_what, .ref h_of, .ref h_relation, .ref h_bound, .int h_reads, .int h_readSections, .ref h_readKind, .ref h_readWhat, .ref h_readOf, .ref h_place, .ref h_readRelation, .ref h_readBound, .int h_stop, .ref h_meant, .ref h_row, .ref h_exact, .ref h_error, .ref h_bestError, .long h_m, .int h_e, .ref h_digits, .int h_whole])), (h_text, .inl (cI, 256, .inl h_textF))] H1 := hP.kept (fun k9 q9 h9 => hk1 q9.1 (vx_lt hP h9) (fun h => h))
            generalize H1 = H at hP hS ⊢
            try dsimp only at w_16
            have b_x_15 := ti_b x_15
            refine lv_iload hx hb dX12_follows_48 (lv_at hl 0 rfl) ?_
            refine lv_icmp_ne (tgt := 57) hx hb dX12_follows_50 (by decide) (fun c_17 => ?_) (fun c_17 => ?_)
            · have ic_17 : ¬ ((x_15 : Int32).toInt = (x_7 : Int32).toInt) := fun h9 => c_17 ((fa_eq x_15 x_7).mpr h9)
              exact hZ1 (K_57  _ _ _ hP hS (lv_sub hl [1, 3, 4, 5] rfl))
            · have ic_17 : (x_15 : Int32).toInt = (x_7 : Int32).toInt := (fa_eq x_15 x_7).mp c_17
              refine lv_iconst (v := 1) hx hb dX12_follows_53 (by decide) ?_
              refine lv_goto (tgt := 58) hx hb dX12_follows_54 (by decide) ?_
              exact hZ1 (K_58 1 _ _ _ (by omega) hP hS (lv_sub hl [1, 3, 4, 5] rfl))
        · have ic_8 : (x_7 : Int32).toInt = (0 : Int32).toInt := (fa_eq x_7 0).mp c_8
          refine lv_goto (tgt := 63) hx hb dX12_follows_31 (by decide) ?_
          obtain ⟨x_18, ex_18⟩ : ∃ y : Int32, y = x_1 + (-8) := ⟨_, rfl⟩
          have b_x_1 := ti_b x_1
          have tx_18 := ti_add ex_18
          refine lv_iinc (v := x_18) (lv' := [(6, .int x_18), (7, .int x_7), (5, .int x_2), (4, .int x_3), (0, .ref h), (2, .long p2)]) hx hb dX12_follows_63 hl (k := 1) rfl (by rw [ex_18]; rfl) (by decide) rfl (fun ls hl => ?_)
          refine lv_goto (tgt := 10) hx hb dX12_follows_66 (by decide) ?_
          exact hZ1 (ih_10 x_18 x_2 x_3 _ _ _ (by omega) (by omega) (by omega) (by omega) (by omega) (by omega) (by omega) hP hS (lv_sub hl [0, 2, 3, 4, 5] rfl))
  exact hZ1 (L_10 ((((56 : Int32).toInt + 2147483648).toNat) + 1) 56 1 p1 _ _ _ (by omega) (by omega) (by omega) (by omega) (by omega) (by omega) (by omega) hP hS (lv_sub hl [0, 1, 2, 3, 5] rfl))

def ow_X12_item : List Cond := [Cond.fieldLink RX12 42 "NumberFormatsModel" "readKind" "[I", Cond.fieldLink RX12 172 "NumberFormatsModel" "reads" "I", Cond.fieldLink RX12 45 "NumberFormatsModel" "readWhat" "[I", Cond.fieldLink RX12 175 "NumberFormatsModel" "stop" "I"]
def pw_X12_item : List Cond := Cond.code yX12_item cX12_item 4 none :: (ow_X12_item ++ (wsX120))
set_option maxRecDepth 20000 in
theorem mo_X12_item : ∀ w ∈ ow_X12_item, w ∈ lw_tbl := by decide +kernel
set_option maxRecDepth 20000 in
theorem mc_X12_item : Cond.code yX12_item cX12_item 4 none ∈ lw_tbl := by decide +kernel
theorem m_X12_item : ∀ w ∈ pw_X12_item, w ∈ lw_tbl := List.forall_mem_cons.mpr ⟨mc_X12_item, (List.forall_mem_append.mpr ⟨mo_X12_item, inX12⟩)⟩
theorem ko_X12_item : ∀ w ∈ ow_X12_item, goodWord w = true := by decide +kernel
theorem k_X12_item : pw_X12_item.all goodWord = true := List.all_eq_true.mpr (List.forall_mem_cons.mpr ⟨by decide +kernel, (List.forall_mem_append.mpr ⟨ko_X12_item, kX_X12⟩)⟩)
set_option maxHeartbeats 400000 in
set_option maxRecDepth 100000 in
theorem c_X12_item (l : Launch) (D : va_G) (cI cD cJ : ClassId) (sz : Nat) (h : Nat) (h_code : Int32) (h_taped : Int32) (h_tape : Nat) (h_size : Int32) (h_text : Nat) (h_value : UInt64) (h_out : Int32) (h_output : Nat) (h_illAt : Int32) (h_format : Nat) (h_sections : Int32) (h_items : Int32) (h_kind : Nat) (h_what : Nat) (h_of : Nat) (h_relation : Nat) (h_bound : Nat) (h_reads : Int32) (h_readSections : Int32) (h_readKind : Nat) (h_readWhat : Nat) (h_readOf : Nat) (h_place : Nat) (h_readRelation : Nat) (h_readBound : Nat) (h_stop : Int32) (h_meant : Nat) (h_row : Nat) (h_exact : Nat) (h_error : Nat) (h_bestError : Nat) (h_m : Int64) (h_e : Int32) (h_digits : Nat) (h_whole : Int32) (h_readKindF : Nat → Int32) (h_readWhatF : Nat → Int32) (p1 : Int32) (p2 : Int32) (p3 : Int32) (hh0 : -100000 ≤ p2.toInt) (hh1 : p2.toInt ≤ 100000) (hh2 : p1.toInt = 14 → 0 ≤ p2.toInt ∧ p2.toInt / 256 + p2.toInt % 256 ≤ 256) (iv_h_taped : 0 ≤ (h_taped : Int32).toInt ∧ (h_taped : Int32).toInt ≤ 260) (iv_h_size : 0 ≤ (h_size : Int32).toInt ∧ (h_size : Int32).toInt ≤ 255) (iv_h_value : inR h_value) (iv_h_out : 0 ≤ (h_out : Int32).toInt ∧ (h_out : Int32).toInt ≤ 1024) (iv_h_sections : 0 ≤ (h_sections : Int32).toInt ∧ (h_sections : Int32).toInt ≤ 4) (iv_h_items : 0 ≤ (h_items : Int32).toInt ∧ (h_items : Int32).toInt ≤ 255) (iv_h_reads : 0 ≤ (h_reads : Int32).toInt ∧ (h_reads : Int32).toInt ≤ 255) (iv_h_readSections : 0 ≤ (h_readSections : Int32).toInt ∧ (h_readSections : Int32).toInt ≤ 4) (iv_h_whole : 0 ≤ (h_whole : Int32).toInt ∧ (h_whole : Int32).toInt ≤ 1001) (iv_h_readWhatF : ∀ k9 : Nat, k9 < 260 → -100000 ≤ (h_readWhatF k9).toInt ∧ (h_readWhatF k9).toInt ≤ 100000) (jv_h_readKindF : QK h_readKindF h_readWhatF) : Met l yX12_item pw_X12_item ({ frames := 0, cells := 0, slots := 0, locals := 0 }) (va_Pc [.ref h, .int p1, .int p2, .int p3] (fun U => U.heap.size = sz ∧ va_P D vwCl [(h, .inr (9, [.int h_code, .int h_taped, .ref h_tape, .int h_size, .ref h_text, .double h_value, .int h_out, .ref h_output, .int h_illAt, .ref h_format, .int h_sections, .int h_items, .ref h_kind, .ref h_what, .ref h_of, .ref h_relation, .ref h_bound, .int h_reads, .int h_readSections, .ref h_readKind, .ref h_readWhat, .ref h_readOf, .ref h_place, .ref h_readRelation, .ref h_readBound, .int h_stop, .ref h_meant, .ref h_row, .ref h_exact, .ref h_error, .ref h_bestError, .long h_m, .int h_e, .ref h_digits, .int h_whole])), (h_readKind, .inl (cI, 260, .inl h_readKindF)), (h_readWhat, .inl (cI, 260, .inl h_readWhatF))] U.heap ∧ va_K D vwCl (ty3 cI cD cJ) U ∧ va_D (fun _ => True) [(h, .inr (9, [.int h_code, .int h_taped, .ref h_tape, .int h_size, .ref h_text, .double h_value, .int h_out, .ref h_output, .int h_illAt, .ref h_format, .int h_sections, .int h_items, .ref h_kind, .ref h_what, .ref h_of, .ref h_relation, .ref h_bound, .int h_reads, .int h_readSections, .ref h_readKind, .ref h_readWhat, .ref h_readOf, .ref h_place, .ref h_readRelation, .ref h_readBound, .int h_stop, .ref h_meant, .ref h_row, .ref h_exact, .ref h_error, .ref h_bestError, .long h_m, .int h_e, .ref h_digits, .int h_whole])), (h_readKind, .inl (cI, 260, .inl h_readKindF)), (h_readWhat, .inl (cI, 260, .inl h_readWhatF))])) (va_Qv (fun (u : Int32 × (Nat → Int32) × (Nat → Int32)) => match u with | (h_stop2, h_readKindF2, h_readWhatF2) => (h_stop2.toInt = p3.toInt) ∧ (∀ k9 : Nat, k9 < 260 → -100000 ≤ (h_readWhatF2 k9).toInt ∧ (h_readWhatF2 k9).toInt ≤ 100000) ∧ (QK h_readKindF2 h_readWhatF2)) (fun (u : Int32 × (Nat → Int32) × (Nat → Int32)) (t : State) => match u with | (h_stop2, h_readKindF2, h_readWhatF2) => va_P D vwCl [(h, .inr (9, [.int h_code, .int h_taped, .ref h_tape, .int h_size, .ref h_text, .double h_value, .int h_out, .ref h_output, .int h_illAt, .ref h_format, .int h_sections, .int h_items, .ref h_kind, .ref h_what, .ref h_of, .ref h_relation, .ref h_bound, .int h_reads, .int h_readSections, .ref h_readKind, .ref h_readWhat, .ref h_readOf, .ref h_place, .ref h_readRelation, .ref h_readBound, .int h_stop2, .ref h_meant, .ref h_row, .ref h_exact, .ref h_error, .ref h_bestError, .long h_m, .int h_e, .ref h_digits, .int h_whole])), (h_readKind, .inl (cI, 260, .inl h_readKindF2)), (h_readWhat, .inl (cI, 260, .inl h_readWhatF2))] t.heap ∧ va_K D vwCl (ty3 cI cD cJ) t ∧ va_D (va_A [(h, .inr (9, [.int h_code, .int h_taped, .ref h_tape, .int h_size, .ref h_text, .double h_value, .int h_out, .ref h_output, .int h_illAt, .ref h_format, .int h_sections, .int h_items, .ref h_kind, .ref h_what, .ref h_of, .ref h_relation, .ref h_bound, .int h_reads, .int h_readSections, .ref h_readKind, .ref h_readWhat, .ref h_readOf, .ref h_place, .ref h_readRelation, .ref h_readBound, .int h_stop, .ref h_meant, .ref h_row, .ref h_exact, .ref h_error, .ref h_bestError, .long h_m, .int h_e, .ref h_digits, .int h_whole])), (h_readKind, .inl (cI, 260, .inl h_readKindF)), (h_readWhat, .inl (cI, 260, .inl h_readWhatF))] sz) [(h, .inr (9, [.int h_code, .int h_taped, .ref h_tape, .int h_size, .ref h_text, .double h_value, .int h_out, .ref h_output, .int h_illAt, .ref h_format, .int h_sections, .int h_items, .ref h_kind, .ref h_what, .ref h_of, .ref h_relation, .ref h_bound, .int h_reads, .int h_readSections, .ref h_readKind, .ref h_readWhat, .ref h_readOf, .ref h_place, .ref h_readRelation, .ref h_readBound, .int h_stop2, .ref h_meant, .ref h_row, .ref h_exact, .ref h_error, .ref h_bestError, .long h_m, .int h_e, .ref h_digits, .int h_whole])), (h_readKind, .inl (cI, 260, .inl h_readKindF2)), (h_readWhat, .inl (cI, 260, .inl h_readWhatF2))]) (va_A [(h, .inr (9, [.int h_code, .int h_taped, .ref h_tape, .int h_size, .ref h_text, .double h_value, .int h_out, .ref h_output, .int h_illAt, .ref h_format, .int h_sections, .int h_items, .ref h_kind, .ref h_what, .ref h_of, .ref h_relation, .ref h_bound, .int h_reads, .int h_readSections, .ref h_readKind, .ref h_readWhat, .ref h_readOf, .ref h_place, .ref h_readRelation, .ref h_readBound, .int h_stop, .ref h_meant, .ref h_row, .ref h_exact, .ref h_error, .ref h_bestError, .long h_m, .int h_e, .ref h_digits, .int h_whole])), (h_readKind, .inl (cI, 260, .inl h_readKindF)), (h_readWhat, .inl (cI, 260, .inl h_readWhatF))] sz)) 0 0 (va_A [(h, .inr (9, [.int h_code, .int h_taped, .ref h_tape, .int h_size, .ref h_text, .double h_value, .int h_out, .ref h_output, .int h_illAt, .ref h_format, .int h_sections, .int h_items, .ref h_kind, .ref h_what, .ref h_of, .ref h_relation, .ref h_bound, .int h_reads, .int h_readSections, .ref h_readKind, .ref h_readWhat, .ref h_readOf, .ref h_place, .ref h_readRelation, .ref h_readBound, .int h_stop, .ref h_meant, .ref h_row, .ref h_exact, .ref h_error, .ref h_bestError, .long h_m, .int h_e, .ref h_digits, .int h_whole])), (h_readKind, .inl (cI, 260, .inl h_readKindF)), (h_readWhat, .inl (cI, 260, .inl h_readWhatF))] sz) := by
  refine Met.ofW (cc := cX12_item) (maxL := 4) (ret := none) (by decide +kernel) rfl ?_
  intro p e s m args below meth c s₁ B hml hv
  obtain ⟨rfl, hsz, hP, hK, hD0⟩ := hv
  have hx := B.exec
  have hb := B.bytes
  have hr := B.returns
  have hts := atoms_spec (ws := pw_X12_item) B.pre
  have hown : s.vm.findClass RX12 = some m.cls := findClass_of_methodNamed B.named
  have hlocks := B.notSynchronized
  subst hsz
  have hD := hD0.self (sz := s.heap.size)
  generalize hAe : va_A [(h, .inr (9, [.int h_code, .int h_taped, .ref h_tape, .int h_size, .ref h_text, .double h_value, .int h_out, .ref h_output, .int h_illAt, .ref h_format, .int h_sections, .int h_items, .ref h_kind, .ref h_what, .ref h_of, .ref h_relation, .ref h_bound, .int h_reads, .int h_readSections, .ref h_readKind, .ref h_readWhat, .ref h_readOf, .ref h_place, .ref h_readRelation, .ref h_readBound, .int h_stop, .ref h_meant, .ref h_row, .ref h_exact, .ref h_error, .ref h_bestError, .long h_m, .int h_e, .ref h_digits, .int h_whole])), (h_readKind, .inl (cI, 260, .inl h_readKindF)), (h_readWhat, .inl (cI, 260, .inl h_readWhatF))] s.heap.size = A at hD ⊢
  have hA : ∀ q : Nat, s.heap.size ≤ q → A q := fun q h => by rw [← hAe]; exact Or.inr h
  have hS : va_S A s.heap s.heap [] := va_S.rf
  have hw : ∀ (k : Nat) (w : Cond), ow_X12_item[k]? = some w → w.before _ s = true := fun k w h => hts w (List.mem_cons_of_mem _ (have h9 := List.mem_of_getElem? h; List.mem_append_left _ h9))
  have iX12 : ∀ w ∈ u_ws RX12 TX12 35, w ∈ pw_X12_item := fun w h9 => List.mem_cons_of_mem _ (List.mem_append_right _ (h9))
  have hl := lv_entry ([.ref h, .int p1, .int p2, .int p3]) (n := 4) (Nat.le_of_ble_eq_true rfl)
  rw [lg_entry_eq]
  generalize (lg_sl ([.ref h, .int p1, .int p2, .int p3]) ++ List.replicate (4 - (lg_sl ([.ref h, .int p1, .int p2, .int p3])).length) Slot.unset).toArray = ls at hl ⊢
  have hl : lv_has ls 4 [(0, .ref h), (1, .int p1), (2, .int p2), (3, .int p3)] := hl
  have b_p1 := ti_b p1
  have b_p2 := ti_b p2
  have b_p3 := ti_b p3
  refine lv_aload_n hx hb dX12_item_0 rfl (lv_at hl 0 rfl) ?_
  refine va_get (D := D) (ci := 9) (v := .ref h_readKind) (C := RX12) (T := TX12) (N := 35) hx hb hts iX12 hown hK hP 0 rfl rfl 19 (by decide) (hw 0 (.fieldLink RX12 42 "NumberFormatsModel" "readKind" "[I") rfl) (fun _ h9 => h9) rfl dX12_item_1 ?_
  refine lv_aload_n hx hb dX12_item_4 rfl (lv_at hl 0 rfl) ?_
  refine va_get (D := D) (ci := 9) (v := .int h_reads) (C := RX12) (T := TX12) (N := 35) hx hb hts iX12 hown hK hP 0 rfl rfl 17 (by decide) (hw 1 (.fieldLink RX12 172 "NumberFormatsModel" "reads" "I") rfl) (fun _ h9 => h9) rfl dX12_item_5 ?_
  refine lv_iload_n hx hb dX12_item_8 rfl (lv_at hl 1 rfl) ?_
  have h_9 : vp_in h_reads 260 := by rw [vp_in_iff]; omega
  refine va_iast hx hb hK hP hD hS 1 0 rfl rfl h_9 dX12_item_9 (fun H locs hP hD hS => ?_)
  obtain ⟨f_1, ef_1⟩ : ∃ y : Nat → Int32, y = upd h_readKindF (h_reads : Int32).toNatClampNeg p1 := ⟨_, rfl⟩
  rw [← ef_1] at hP hD
  have hP : va_P D vwCl [(h, .inr (9, [.int h_code, .int h_taped, .ref h_tape, .int h_size, .ref h_text, .double h_value, .int h_out, .ref h_output, .int h_illAt, .ref h_format, .int h_sections, .int h_items, .ref h_kind, .ref h_what, .ref h_of, .ref h_relation, .ref h_bound, .int h_reads, .int h_readSections, .ref h_readKind, .ref h_readWhat, .ref h_readOf, .ref h_place, .ref h_readRelation, .ref h_readBound, .int h_stop, .ref h_meant, .ref h_row, .ref h_exact, .ref h_error, .ref h_bestError, .long h_m, .int h_e, .ref h_digits, .int h_whole])), (h_readKind, .inl (cI, 260, .inl f_1)), (h_readWhat, .inl (cI, 260, .inl h_readWhatF))] H := hP
  have hD : va_D A [(h, .inr (9, [.int h_code, .int h_taped, .ref h_tape, .int h_size, .ref h_text, .double h_value, .int h_out, .ref h_output, .int h_illAt, .ref h_format, .int h_sections, .int h_items, .ref h_kind, .ref h_what, .ref h_of, .ref h_relation, .ref h_bound, .int h_reads, .int h_readSections, .ref h_readKind, .ref h_readWhat, .ref h_readOf, .ref h_place, .ref h_readRelation, .ref h_readBound, .int h_stop, .ref h_meant, .ref h_row, .ref h_exact, .ref h_error, .ref h_bestError, .long h_m, .int h_e, .ref h_digits, .int h_whole])), (h_readKind, .inl (cI, 260, .inl f_1)), (h_readWhat, .inl (cI, 260, .inl h_readWhatF))] := hD
  refine lv_aload_n hx hb dX12_item_10 rfl (lv_at hl 0 rfl) ?_
  refine va_get (D := D) (ci := 9) (v := .ref h_readWhat) (C := RX12) (T := TX12) (N := 35) hx hb hts iX12 hown hK hP 0 rfl rfl 20 (by decide) (hw 2 (.fieldLink RX12 45 "NumberFormatsModel" "readWhat" "[I") rfl) (fun _ h9 => h9) rfl dX12_item_11 ?_
  refine lv_aload_n hx hb dX12_item_14 rfl (lv_at hl 0 rfl) ?_
  refine va_get (D := D) (ci := 9) (v := .int h_reads) (C := RX12) (T := TX12) (N := 35) hx hb hts iX12 hown hK hP 0 rfl rfl 17 (by decide) (hw 1 (.fieldLink RX12 172 "NumberFormatsModel" "reads" "I") rfl) (fun _ h9 => h9) rfl dX12_item_15 ?_
  refine lv_iload_n hx hb dX12_item_18 rfl (lv_at hl 2 rfl) ?_
  have h_19 : vp_in h_reads 260 := by rw [vp_in_iff]; omega
  refine va_iast hx hb hK hP hD hS 2 0 rfl rfl h_19 dX12_item_19 (fun H locs hP hD hS => ?_)
  obtain ⟨f_2, ef_2⟩ : ∃ y : Nat → Int32, y = upd h_readWhatF (h_reads : Int32).toNatClampNeg p2 := ⟨_, rfl⟩
  rw [← ef_2] at hP hD
  have hP : va_P D vwCl [(h, .inr (9, [.int h_code, .int h_taped, .ref h_tape, .int h_size, .ref h_text, .double h_value, .int h_out, .ref h_output, .int h_illAt, .ref h_format, .int h_sections, .int h_items, .ref h_kind, .ref h_what, .ref h_of, .ref h_relation, .ref h_bound, .int h_reads, .int h_readSections, .ref h_readKind, .ref h_readWhat, .ref h_readOf, .ref h_place, .ref h_readRelation, .ref h_readBound, .int h_stop, .ref h_meant, .ref h_row, .ref h_exact, .ref h_error, .ref h_bestError, .long h_m, .int h_e, .ref h_digits, .int h_whole])), (h_readKind, .inl (cI, 260, .inl f_1)), (h_readWhat, .inl (cI, 260, .inl f_2))] H := hP
  have hD : va_D A [(h, .inr (9, [.int h_code, .int h_taped, .ref h_tape, .int h_size, .ref h_text, .double h_value, .int h_out, .ref h_output, .int h_illAt, .ref h_format, .int h_sections, .int h_items, .ref h_kind, .ref h_what, .ref h_of, .ref h_relation, .ref h_bound, .int h_reads, .int h_readSections, .ref h_readKind, .ref h_readWhat, .ref h_readOf, .ref h_place, .ref h_readRelation, .ref h_readBound, .int h_stop, .ref h_meant, .ref h_row, .ref h_exact, .ref h_error, .ref h_bestError, .long h_m, .int h_e, .ref h_digits, .int h_whole])), (h_readKind, .inl (cI, 260, .inl f_1)), (h_readWhat, .inl (cI, 260, .inl f_2))] := hD
  have iv_f_2 : ∀ k9 : Nat, k9 < 260 → -100000 ≤ (f_2 k9).toInt ∧ (f_2 k9).toInt ≤ 100000 := by intro k9 h9; rw [ef_2]; unfold upd; split <;> first | omega | exact (‹∀ k9 : Nat, k9 < 260 → -100000 ≤ (h_readWhatF k9).toInt ∧ (h_readWhatF k9).toInt ≤ 100000›) k9 h9
  refine lv_aload_n hx hb dX12_item_20 rfl (lv_at hl 0 rfl) ?_
  refine lv_iload_n hx hb dX12_item_21 rfl (lv_at hl 3 rfl) ?_
  refine va_put (D := D) (ci := 9) (v := .int p3) (ty := .int) (C := RX12) (T := TX12) (N := 35) hx hb hts iX12 tyX12 tyX12_ok nmX12 hown hK hP hD hS 0 rfl rfl 25 (by decide) (hw 3 (.fieldLink RX12 175 "NumberFormatsModel" "stop" "I") rfl) (fun _ h9 => h9) rfl (by decide +kernel) rfl rfl (Nat.le_of_ble_eq_true rfl) dX12_item_22 (fun H locs hP hD hS => ?_)
  have hP : va_P D vwCl [(h, .inr (9, [.int h_code, .int h_taped, .ref h_tape, .int h_size, .ref h_text, .double h_value, .int h_out, .ref h_output, .int h_illAt, .ref h_format, .int h_sections, .int h_items, .ref h_kind, .ref h_what, .ref h_of, .ref h_relation, .ref h_bound, .int h_reads, .int h_readSections, .ref h_readKind, .ref h_readWhat, .ref h_readOf, .ref h_place, .ref h_readRelation, .ref h_readBound, .int p3, .ref h_meant, .ref h_row, .ref h_exact, .ref h_error, .ref h_bestError, .long h_m, .int h_e, .ref h_digits, .int h_whole])), (h_readKind, .inl (cI, 260, .inl f_1)), (h_readWhat, .inl (cI, 260, .inl f_2))] H := hP
  have hD : va_D A [(h, .inr (9, [.int h_code, .int h_taped, .ref h_tape, .int h_size, .ref h_text, .double h_value, .int h_out, .ref h_output, .int h_illAt, .ref h_format, .int h_sections, .int h_items, .ref h_kind, .ref h_what, .ref h_of, .ref h_relation, .ref h_bound, .int h_reads, .int h_readSections, .ref h_readKind, .ref h_readWhat, .ref h_readOf, .ref h_place, .ref h_readRelation, .ref h_readBound, .int p3, .ref h_meant, .ref h_row, .ref h_exact, .ref h_error, .ref h_bestError, .long h_m, .int h_e, .ref h_digits, .int h_whole])), (h_readKind, .inl (cI, 260, .inl f_1)), (h_readWhat, .inl (cI, 260, .inl f_2))] := hD
  have hP9 := hP.sub (ws' := [(h, .inr (9, [.int h_code, .int h_taped, .ref h_tape, .int h_size, .ref h_text, .double h_value, .int h_out, .ref h_output, .int h_illAt, .ref h_format, .int h_sections, .int h_items, .ref h_kind, .ref h_what, .ref h_of, .ref h_relation, .ref h_bound, .int h_reads, .int h_readSections, .ref h_readKind, .ref h_readWhat, .ref h_readOf, .ref h_place, .ref h_readRelation, .ref h_readBound, .int p3, .ref h_meant, .ref h_row, .ref h_exact, .ref h_error, .ref h_bestError, .long h_m, .int h_e, .ref h_digits, .int h_whole])), (h_readKind, .inl (cI, 260, .inl f_1)), (h_readWhat, .inl (cI, 260, .inl f_2))]) [0, 1, 2] rfl
  have hD9 := hD.sub (ws' := [(h, .inr (9, [.int h_code, .int h_taped, .ref h_tape, .int h_size, .ref h_text, .double h_value, .int h_out, .ref h_output, .int h_illAt, .ref h_format, .int h_sections, .int h_items, .ref h_kind, .ref h_what, .ref h_of, .ref h_relation, .ref h_bound, .int h_reads, .int h_readSections, .ref h_readKind, .ref h_readWhat, .ref h_readOf, .ref h_place, .ref h_readRelation, .ref h_readBound, .int p3, .ref h_meant, .ref h_row, .ref h_exact, .ref h_error, .ref h_bestError, .long h_m, .int h_e, .ref h_digits, .int h_whole])), (h_readKind, .inl (cI, 260, .inl f_1)), (h_readWhat, .inl (cI, 260, .inl f_2))]) [0, 1, 2] (by decide) rfl
  exact W.vret hx hb hr (fun t ht hW => ⟨⟨(p3, f_1, f_2), rfl, (by (try dsimp only); refine ⟨?_, ?_, ?_⟩ <;> first | omega | assumption | exact QK_set ef_1 ef_2 jv_h_readKindF hh2), by rw [ht]; exact hP9, va_K.moved hW.alike hK, hD9⟩, hS.F ht⟩) hS.2.2 dX12_item_25

def ow_X12_isItself : List Cond := []
def pw_X12_isItself : List Cond := Cond.code yX12_isItself cX12_isItself 1 (some .boolean) :: (ow_X12_isItself)
set_option maxRecDepth 20000 in
theorem mo_X12_isItself : ∀ w ∈ ow_X12_isItself, w ∈ lw_tbl := by decide +kernel
set_option maxRecDepth 20000 in
theorem mc_X12_isItself : Cond.code yX12_isItself cX12_isItself 1 (some .boolean) ∈ lw_tbl := by decide +kernel
theorem m_X12_isItself : ∀ w ∈ pw_X12_isItself, w ∈ lw_tbl := List.forall_mem_cons.mpr ⟨mc_X12_isItself, mo_X12_isItself⟩
theorem ko_X12_isItself : ∀ w ∈ ow_X12_isItself, goodWord w = true := by decide +kernel
theorem k_X12_isItself : pw_X12_isItself.all goodWord = true := List.all_eq_true.mpr (List.forall_mem_cons.mpr ⟨by decide +kernel, ko_X12_isItself⟩)
set_option maxHeartbeats 400000 in
set_option maxRecDepth 100000 in
theorem c_X12_isItself (l : Launch) (D : va_G) (cI cD cJ : ClassId) (sz : Nat) (p1 : Int32) : Met l yX12_isItself pw_X12_isItself ({ frames := 0, cells := 0, slots := 0, locals := 0 }) (va_Pc [.int p1] (fun U => va_P D vwCl [] U.heap ∧ va_K D vwCl (ty3 cI cD cJ) U)) (va_Qi (fun (r : Int32) (u : Unit) => (r.toInt = 0 ∨ r.toInt = 1)) (fun _ _ => True) (fun _ => False)) 0 0 (fun _ => False) := by
  refine Met.ofW (cc := cX12_isItself) (maxL := 1) (ret := (some .boolean)) (by decide +kernel) rfl ?_
  intro p e s m args below meth c s₁ B hml hv
  obtain ⟨rfl, hP, hK⟩ := hv
  have hx := B.exec
  have hb := B.bytes
  have hr := B.returns
  have hts := atoms_spec (ws := pw_X12_isItself) B.pre
  have hown : s.vm.findClass RX12 = some m.cls := findClass_of_methodNamed B.named
  have hlocks := B.notSynchronized
  have hS : va_S (fun _ => False) s.heap s.heap [] := va_S.rf
  have hw : ∀ (k : Nat) (w : Cond), ow_X12_isItself[k]? = some w → w.before _ s = true := fun k w h => hts w (List.mem_cons_of_mem _ (have h9 := List.mem_of_getElem? h; h9))
  have n_0 : ((0 : Int32)).toInt = 0 := by decide
  have n_1 : ((1 : Int32)).toInt = 1 := by decide
  have n_123 : ((123 : Int32)).toInt = 123 := by decide
  have n_126 : ((126 : Int32)).toInt = 126 := by decide
  have n_32 : ((32 : Int32)).toInt = 32 := by decide
  have n_33 : ((33 : Int32)).toInt = 33 := by decide
  have n_36 : ((36 : Int32)).toInt = 36 := by decide
  have n_37 : ((37 : Int32)).toInt = 37 := by decide
  have n_38 : ((38 : Int32)).toInt = 38 := by decide
  have n_43 : ((43 : Int32)).toInt = 43 := by decide
  have n_45 : ((45 : Int32)).toInt = 45 := by decide
  have n_58 : ((58 : Int32)).toInt = 58 := by decide
  have n_60 : ((60 : Int32)).toInt = 60 := by decide
  have n_62 : ((62 : Int32)).toInt = 62 := by decide
  have n_94 : ((94 : Int32)).toInt = 94 := by decide
  have hl := lv_entry ([.int p1]) (n := 1) (Nat.le_of_ble_eq_true rfl)
  rw [lg_entry_eq]
  generalize (lg_sl ([.int p1]) ++ List.replicate (1 - (lg_sl ([.int p1])).length) Slot.unset).toArray = ls at hl ⊢
  have hl : lv_has ls 1 [(0, .int p1)] := hl
  have b_p1 := ti_b p1
  refine zz_cap (fun Z hZ1 hZ2 => ?_)
  refine lv_iload_n hx hb dX12_isItself_0 rfl (lv_at hl 0 rfl) ?_
  refine lv_bipush (v := 32) hx hb dX12_isItself_1 (by decide) ?_
  have K_84 : ∀ (H : Heap) (locs : List Loc) (ls : Array Slot), va_P D vwCl [] H → va_S (fun _ => False) s.heap H locs → lv_has ls 1 [] → Z 0 0 H locs (F0 m 84 ls []) := by
    intro  H locs ls  hP hS hl
    refine hZ2 ?_
    refine lv_iconst (v := 1) hx hb dX12_isItself_84 (by decide) ?_
    refine lv_goto (tgt := 89) hx hb dX12_isItself_85 (by decide) ?_
    exact W.zret (v := 1) hx hb hr rfl (fun t ht hW => ⟨⟨1, (), rfl, (by (try dsimp only); first | omega | assumption), trivial⟩, hS.F ht⟩) hS.2.2 dX12_isItself_89
  refine lv_icmp_eq (tgt := 84) hx hb dX12_isItself_3 (by decide) (fun c_1 => ?_) (fun c_1 => ?_)
  · have ic_1 : (p1 : Int32).toInt = (32 : Int32).toInt := (fa_eq p1 32).mp c_1
    exact hZ1 (K_84  _ _ _ hP hS (lv_sub hl [] rfl))
  · have ic_1 : ¬ ((p1 : Int32).toInt = (32 : Int32).toInt) := fun h9 => c_1 ((fa_eq p1 32).mpr h9)
    refine lv_iload_n hx hb dX12_isItself_6 rfl (lv_at hl 0 rfl) ?_
    refine lv_bipush (v := 33) hx hb dX12_isItself_7 (by decide) ?_
    refine lv_icmp_eq (tgt := 84) hx hb dX12_isItself_9 (by decide) (fun c_2 => ?_) (fun c_2 => ?_)
    · have ic_2 : (p1 : Int32).toInt = (33 : Int32).toInt := (fa_eq p1 33).mp c_2
      exact hZ1 (K_84  _ _ _ hP hS (lv_sub hl [] rfl))
    · have ic_2 : ¬ ((p1 : Int32).toInt = (33 : Int32).toInt) := fun h9 => c_2 ((fa_eq p1 33).mpr h9)
      refine lv_iload_n hx hb dX12_isItself_12 rfl (lv_at hl 0 rfl) ?_
      refine lv_bipush (v := 36) hx hb dX12_isItself_13 (by decide) ?_
      refine lv_icmp_eq (tgt := 84) hx hb dX12_isItself_15 (by decide) (fun c_3 => ?_) (fun c_3 => ?_)
      · have ic_3 : (p1 : Int32).toInt = (36 : Int32).toInt := (fa_eq p1 36).mp c_3
        exact hZ1 (K_84  _ _ _ hP hS (lv_sub hl [] rfl))
      · have ic_3 : ¬ ((p1 : Int32).toInt = (36 : Int32).toInt) := fun h9 => c_3 ((fa_eq p1 36).mpr h9)
        refine lv_iload_n hx hb dX12_isItself_18 rfl (lv_at hl 0 rfl) ?_
        refine lv_bipush (v := 38) hx hb dX12_isItself_19 (by decide) ?_
        have K_36 : ∀ (H : Heap) (locs : List Loc) (ls : Array Slot), va_P D vwCl [] H → va_S (fun _ => False) s.heap H locs → lv_has ls 1 [(0, .int p1)] → Z 0 0 H locs (F0 m 36 ls []) := by
          intro  H locs ls  hP hS hl
          refine hZ2 ?_
          refine lv_iload_n hx hb dX12_isItself_36 rfl (lv_at hl 0 rfl) ?_
          refine lv_bipush (v := 45) hx hb dX12_isItself_37 (by decide) ?_
          refine lv_icmp_eq (tgt := 84) hx hb dX12_isItself_39 (by decide) (fun c_4 => ?_) (fun c_4 => ?_)
          · have ic_4 : (p1 : Int32).toInt = (45 : Int32).toInt := (fa_eq p1 45).mp c_4
            exact hZ1 (K_84  _ _ _ hP hS (lv_sub hl [] rfl))
          · have ic_4 : ¬ ((p1 : Int32).toInt = (45 : Int32).toInt) := fun h9 => c_4 ((fa_eq p1 45).mpr h9)
            refine lv_iload_n hx hb dX12_isItself_42 rfl (lv_at hl 0 rfl) ?_
            refine lv_bipush (v := 58) hx hb dX12_isItself_43 (by decide) ?_
            refine lv_icmp_eq (tgt := 84) hx hb dX12_isItself_45 (by decide) (fun c_5 => ?_) (fun c_5 => ?_)
            · have ic_5 : (p1 : Int32).toInt = (58 : Int32).toInt := (fa_eq p1 58).mp c_5
              exact hZ1 (K_84  _ _ _ hP hS (lv_sub hl [] rfl))
            · have ic_5 : ¬ ((p1 : Int32).toInt = (58 : Int32).toInt) := fun h9 => c_5 ((fa_eq p1 58).mpr h9)
              refine lv_iload_n hx hb dX12_isItself_48 rfl (lv_at hl 0 rfl) ?_
              refine lv_bipush (v := 60) hx hb dX12_isItself_49 (by decide) ?_
              have K_60 : ∀ (H : Heap) (locs : List Loc) (ls : Array Slot), va_P D vwCl [] H → va_S (fun _ => False) s.heap H locs → lv_has ls 1 [(0, .int p1)] → Z 0 0 H locs (F0 m 60 ls []) := by
                intro  H locs ls  hP hS hl
                refine hZ2 ?_
                refine lv_iload_n hx hb dX12_isItself_60 rfl (lv_at hl 0 rfl) ?_
                refine lv_bipush (v := 94) hx hb dX12_isItself_61 (by decide) ?_
                refine lv_icmp_eq (tgt := 84) hx hb dX12_isItself_63 (by decide) (fun c_6 => ?_) (fun c_6 => ?_)
                · have ic_6 : (p1 : Int32).toInt = (94 : Int32).toInt := (fa_eq p1 94).mp c_6
                  exact hZ1 (K_84  _ _ _ hP hS (lv_sub hl [] rfl))
                · have ic_6 : ¬ ((p1 : Int32).toInt = (94 : Int32).toInt) := fun h9 => c_6 ((fa_eq p1 94).mpr h9)
                  refine lv_iload_n hx hb dX12_isItself_66 rfl (lv_at hl 0 rfl) ?_
                  refine lv_bipush (v := 123) hx hb dX12_isItself_67 (by decide) ?_
                  have K_78 : ∀ (H : Heap) (locs : List Loc) (ls : Array Slot), va_P D vwCl [] H → va_S (fun _ => False) s.heap H locs → lv_has ls 1 [(0, .int p1)] → Z 0 0 H locs (F0 m 78 ls []) := by
                    intro  H locs ls  hP hS hl
                    refine hZ2 ?_
                    refine lv_iload_n hx hb dX12_isItself_78 rfl (lv_at hl 0 rfl) ?_
                    refine lv_bipush (v := 126) hx hb dX12_isItself_79 (by decide) ?_
                    refine lv_icmp_le (tgt := 88) hx hb dX12_isItself_81 (by decide) (fun c_7 => ?_) (fun c_7 => ?_)
                    · have ic_7 : (p1 : Int32).toInt ≤ (126 : Int32).toInt := (fa_le p1 126).mp c_7
                      refine lv_iconst (v := 0) hx hb dX12_isItself_88 (by decide) ?_
                      exact W.zret (v := 0) hx hb hr rfl (fun t ht hW => ⟨⟨0, (), rfl, (by (try dsimp only); first | omega | assumption), trivial⟩, hS.F ht⟩) hS.2.2 dX12_isItself_89
                    · have ic_7 : ¬ ((p1 : Int32).toInt ≤ (126 : Int32).toInt) := fun h9 => c_7 ((fa_le p1 126).mpr h9)
                      exact hZ1 (K_84  _ _ _ hP hS (lv_sub hl [] rfl))
                  refine lv_icmp_lt (tgt := 78) hx hb dX12_isItself_69 (by decide) (fun c_8 => ?_) (fun c_8 => ?_)
                  · have ic_8 : (p1 : Int32).toInt < (123 : Int32).toInt := (fa_lt p1 123).mp c_8
                    exact hZ1 (K_78  _ _ _ hP hS hl)
                  · have ic_8 : ¬ ((p1 : Int32).toInt < (123 : Int32).toInt) := fun h9 => c_8 ((fa_lt p1 123).mpr h9)
                    refine lv_iload_n hx hb dX12_isItself_72 rfl (lv_at hl 0 rfl) ?_
                    refine lv_bipush (v := 126) hx hb dX12_isItself_73 (by decide) ?_
                    refine lv_icmp_le (tgt := 84) hx hb dX12_isItself_75 (by decide) (fun c_9 => ?_) (fun c_9 => ?_)
                    · have ic_9 : (p1 : Int32).toInt ≤ (126 : Int32).toInt := (fa_le p1 126).mp c_9
                      exact hZ1 (K_84  _ _ _ hP hS (lv_sub hl [] rfl))
                    · have ic_9 : ¬ ((p1 : Int32).toInt ≤ (126 : Int32).toInt) := fun h9 => c_9 ((fa_le p1 126).mpr h9)
                      exact hZ1 (K_78  _ _ _ hP hS hl)
              refine lv_icmp_lt (tgt := 60) hx hb dX12_isItself_51 (by decide) (fun c_10 => ?_) (fun c_10 => ?_)
              · have ic_10 : (p1 : Int32).toInt < (60 : Int32).toInt := (fa_lt p1 60).mp c_10
                exact hZ1 (K_60  _ _ _ hP hS hl)
              · have ic_10 : ¬ ((p1 : Int32).toInt < (60 : Int32).toInt) := fun h9 => c_10 ((fa_lt p1 60).mpr h9)
                refine lv_iload_n hx hb dX12_isItself_54 rfl (lv_at hl 0 rfl) ?_
                refine lv_bipush (v := 62) hx hb dX12_isItself_55 (by decide) ?_
                refine lv_icmp_le (tgt := 84) hx hb dX12_isItself_57 (by decide) (fun c_11 => ?_) (fun c_11 => ?_)
                · have ic_11 : (p1 : Int32).toInt ≤ (62 : Int32).toInt := (fa_le p1 62).mp c_11
                  exact hZ1 (K_84  _ _ _ hP hS (lv_sub hl [] rfl))
                · have ic_11 : ¬ ((p1 : Int32).toInt ≤ (62 : Int32).toInt) := fun h9 => c_11 ((fa_le p1 62).mpr h9)
                  exact hZ1 (K_60  _ _ _ hP hS hl)
        refine lv_icmp_lt (tgt := 36) hx hb dX12_isItself_21 (by decide) (fun c_12 => ?_) (fun c_12 => ?_)
        · have ic_12 : (p1 : Int32).toInt < (38 : Int32).toInt := (fa_lt p1 38).mp c_12
          exact hZ1 (K_36  _ _ _ hP hS hl)
        · have ic_12 : ¬ ((p1 : Int32).toInt < (38 : Int32).toInt) := fun h9 => c_12 ((fa_lt p1 38).mpr h9)
          refine lv_iload_n hx hb dX12_isItself_24 rfl (lv_at hl 0 rfl) ?_
          refine lv_bipush (v := 43) hx hb dX12_isItself_25 (by decide) ?_
          refine lv_icmp_gt (tgt := 36) hx hb dX12_isItself_27 (by decide) (fun c_13 => ?_) (fun c_13 => ?_)
          · have ic_13 : (43 : Int32).toInt < (p1 : Int32).toInt := (fa_lt 43 p1).mp c_13
            exact hZ1 (K_36  _ _ _ hP hS hl)
          · have ic_13 : ¬ ((43 : Int32).toInt < (p1 : Int32).toInt) := fun h9 => c_13 ((fa_lt 43 p1).mpr h9)
            refine lv_iload_n hx hb dX12_isItself_30 rfl (lv_at hl 0 rfl) ?_
            refine lv_bipush (v := 37) hx hb dX12_isItself_31 (by decide) ?_
            refine lv_icmp_ne (tgt := 84) hx hb dX12_isItself_33 (by decide) (fun c_14 => ?_) (fun c_14 => ?_)
            · have ic_14 : ¬ ((p1 : Int32).toInt = (37 : Int32).toInt) := fun h9 => c_14 ((fa_eq p1 37).mpr h9)
              exact hZ1 (K_84  _ _ _ hP hS (lv_sub hl [] rfl))
            · have ic_14 : (p1 : Int32).toInt = (37 : Int32).toInt := (fa_eq p1 37).mp c_14
              exact hZ1 (K_36  _ _ _ hP hS hl)

def ow_X12_readQuote : List Cond := [Cond.fieldLink RX12 88 "NumberFormatsModel" "size" "I", Cond.methodLink RX12 181 yX12_item, Cond.instanceMethod yX12_item, Cond.selects RX12 yX12_item yX12_item, Cond.initialized RX12, Cond.fieldLink RX12 13 "NumberFormatsModel" "text" "[I"]
def pw_X12_readQuote : List Cond := Cond.code yX12_readQuote cX12_readQuote 3 none :: (ow_X12_readQuote ++ (pw_X12_item ++ (wsX120)))
set_option maxRecDepth 20000 in
theorem mo_X12_readQuote : ∀ w ∈ ow_X12_readQuote, w ∈ lw_tbl := by decide +kernel
set_option maxRecDepth 20000 in
theorem mc_X12_readQuote : Cond.code yX12_readQuote cX12_readQuote 3 none ∈ lw_tbl := by decide +kernel
theorem m_X12_readQuote : ∀ w ∈ pw_X12_readQuote, w ∈ lw_tbl := List.forall_mem_cons.mpr ⟨mc_X12_readQuote, (List.forall_mem_append.mpr ⟨mo_X12_readQuote, (List.forall_mem_append.mpr ⟨m_X12_item, inX12⟩)⟩)⟩
theorem ko_X12_readQuote : ∀ w ∈ ow_X12_readQuote, goodWord w = true := by decide +kernel
theorem k_X12_readQuote : pw_X12_readQuote.all goodWord = true := List.all_eq_true.mpr (List.forall_mem_cons.mpr ⟨by decide +kernel, (List.forall_mem_append.mpr ⟨ko_X12_readQuote, (List.forall_mem_append.mpr ⟨(List.all_eq_true.mp k_X12_item), kX_X12⟩)⟩)⟩)
set_option maxHeartbeats 400000 in
set_option maxRecDepth 100000 in
theorem c_X12_readQuote (l : Launch) (D : va_G) (cI cD cJ : ClassId) (sz : Nat) (h : Nat) (h_code : Int32) (h_taped : Int32) (h_tape : Nat) (h_size : Int32) (h_text : Nat) (h_value : UInt64) (h_out : Int32) (h_output : Nat) (h_illAt : Int32) (h_format : Nat) (h_sections : Int32) (h_items : Int32) (h_kind : Nat) (h_what : Nat) (h_of : Nat) (h_relation : Nat) (h_bound : Nat) (h_reads : Int32) (h_readSections : Int32) (h_readKind : Nat) (h_readWhat : Nat) (h_readOf : Nat) (h_place : Nat) (h_readRelation : Nat) (h_readBound : Nat) (h_stop : Int32) (h_meant : Nat) (h_row : Nat) (h_exact : Nat) (h_error : Nat) (h_bestError : Nat) (h_m : Int64) (h_e : Int32) (h_digits : Nat) (h_whole : Int32) (h_textF : Nat → Int32) (h_readKindF : Nat → Int32) (h_readWhatF : Nat → Int32) (p1 : Int32) (hh0 : 0 ≤ p1.toInt) (hh1 : p1.toInt ≤ 255) (iv_h_taped : 0 ≤ (h_taped : Int32).toInt ∧ (h_taped : Int32).toInt ≤ 260) (iv_h_size : 0 ≤ (h_size : Int32).toInt ∧ (h_size : Int32).toInt ≤ 255) (iv_h_value : inR h_value) (iv_h_out : 0 ≤ (h_out : Int32).toInt ∧ (h_out : Int32).toInt ≤ 1024) (iv_h_sections : 0 ≤ (h_sections : Int32).toInt ∧ (h_sections : Int32).toInt ≤ 4) (iv_h_items : 0 ≤ (h_items : Int32).toInt ∧ (h_items : Int32).toInt ≤ 255) (iv_h_reads : 0 ≤ (h_reads : Int32).toInt ∧ (h_reads : Int32).toInt ≤ 255) (iv_h_readSections : 0 ≤ (h_readSections : Int32).toInt ∧ (h_readSections : Int32).toInt ≤ 4) (iv_h_whole : 0 ≤ (h_whole : Int32).toInt ∧ (h_whole : Int32).toInt ≤ 1001) (iv_h_textF : ∀ k9 : Nat, k9 < 256 → 0 ≤ (h_textF k9).toInt ∧ (h_textF k9).toInt ≤ 255) (iv_h_readWhatF : ∀ k9 : Nat, k9 < 260 → -100000 ≤ (h_readWhatF k9).toInt ∧ (h_readWhatF k9).toInt ≤ 100000) (jv_h_readKindF : QK h_readKindF h_readWhatF) : Met l yX12_readQuote pw_X12_readQuote ({ frames := 1, cells := 0, slots := 0, locals := 23 }) (va_Pc [.ref h, .int p1] (fun U => U.heap.size = sz ∧ va_P D vwCl [(h, .inr (9, [.int h_code, .int h_taped, .ref h_tape, .int h_size, .ref h_text, .double h_value, .int h_out, .ref h_output, .int h_illAt, .ref h_format, .int h_sections, .int h_items, .ref h_kind, .ref h_what, .ref h_of, .ref h_relation, .ref h_bound, .int h_reads, .int h_readSections, .ref h_readKind, .ref h_readWhat, .ref h_readOf, .ref h_place, .ref h_readRelation, .ref h_readBound, .int h_stop, .ref h_meant, .ref h_row, .ref h_exact, .ref h_error, .ref h_bestError, .long h_m, .int h_e, .ref h_digits, .int h_whole])), (h_text, .inl (cI, 256, .inl h_textF)), (h_readKind, .inl (cI, 260, .inl h_readKindF)), (h_readWhat, .inl (cI, 260, .inl h_readWhatF))] U.heap ∧ va_K D vwCl (ty3 cI cD cJ) U ∧ va_D (fun _ => True) [(h, .inr (9, [.int h_code, .int h_taped, .ref h_tape, .int h_size, .ref h_text, .double h_value, .int h_out, .ref h_output, .int h_illAt, .ref h_format, .int h_sections, .int h_items, .ref h_kind, .ref h_what, .ref h_of, .ref h_relation, .ref h_bound, .int h_reads, .int h_readSections, .ref h_readKind, .ref h_readWhat, .ref h_readOf, .ref h_place, .ref h_readRelation, .ref h_readBound, .int h_stop, .ref h_meant, .ref h_row, .ref h_exact, .ref h_error, .ref h_bestError, .long h_m, .int h_e, .ref h_digits, .int h_whole])), (h_text, .inl (cI, 256, .inl h_textF)), (h_readKind, .inl (cI, 260, .inl h_readKindF)), (h_readWhat, .inl (cI, 260, .inl h_readWhatF))])) (va_Qv (fun (u : Int32 × (Nat → Int32) × (Nat → Int32)) => match u with | (h_stop2, h_readKindF2, h_readWhatF2) => (p1.toInt < h_stop2.toInt ∧ h_stop2.toInt ≤ 600) ∧ (∀ k9 : Nat, k9 < 260 → -100000 ≤ (h_readWhatF2 k9).toInt ∧ (h_readWhatF2 k9).toInt ≤ 100000) ∧ (QK h_readKindF2 h_readWhatF2)) (fun (u : Int32 × (Nat → Int32) × (Nat → Int32)) (t : State) => match u with | (h_stop2, h_readKindF2, h_readWhatF2) => va_P D vwCl [(h, .inr (9, [.int h_code, .int h_taped, .ref h_tape, .int h_size, .ref h_text, .double h_value, .int h_out, .ref h_output, .int h_illAt, .ref h_format, .int h_sections, .int h_items, .ref h_kind, .ref h_what, .ref h_of, .ref h_relation, .ref h_bound, .int h_reads, .int h_readSections, .ref h_readKind, .ref h_readWhat, .ref h_readOf, .ref h_place, .ref h_readRelation, .ref h_readBound, .int h_stop2, .ref h_meant, .ref h_row, .ref h_exact, .ref h_error, .ref h_bestError, .long h_m, .int h_e, .ref h_digits, .int h_whole])), (h_text, .inl (cI, 256, .inl h_textF)), (h_readKind, .inl (cI, 260, .inl h_readKindF2)), (h_readWhat, .inl (cI, 260, .inl h_readWhatF2))] t.heap ∧ va_K D vwCl (ty3 cI cD cJ) t ∧ va_D (va_A [(h, .inr (9, [.int h_code, .int h_taped, .ref h_tape, .int h_size, .ref h_text, .double h_value, .int h_out, .ref h_output, .int h_illAt, .ref h_format, .int h_sections, .int h_items, .ref h_kind, .ref h_what, .ref h_of, .ref h_relation, .ref h_bound, .int h_reads, .int h_readSections, .ref h_readKind, .ref h_readWhat, .ref h_readOf, .ref h_place, .ref h_readRelation, .ref h_readBound, .int h_stop, .ref h_meant, .ref h_row, .ref h_exact, .ref h_error, .ref h_bestError, .long h_m, .int h_e, .ref h_digits, .int h_whole])), (h_text, .inl (cI, 256, .inl h_textF)), (h_readKind, .inl (cI, 260, .inl h_readKindF)), (h_readWhat, .inl (cI, 260, .inl h_readWhatF))] sz) [(h, .inr (9, [.int h_code, .int h_taped, .ref h_tape, .int h_size, .ref h_text, .double h_value, .int h_out, .ref h_output, .int h_illAt, .ref h_format, .int h_sections, .int h_items, .ref h_kind, .ref h_what, .ref h_of, .ref h_relation, .ref h_bound, .int h_reads, .int h_readSections, .ref h_readKind, .ref h_readWhat, .ref h_readOf, .ref h_place, .ref h_readRelation, .ref h_readBound, .int h_stop2, .ref h_meant, .ref h_row, .ref h_exact, .ref h_error, .ref h_bestError, .long h_m, .int h_e, .ref h_digits, .int h_whole])), (h_text, .inl (cI, 256, .inl h_textF)), (h_readKind, .inl (cI, 260, .inl h_readKindF2)), (h_readWhat, .inl (cI, 260, .inl h_readWhatF2))]) (va_A [(h, .inr (9, [.int h_code, .int h_taped, .ref h_tape, .int h_size, .ref h_text, .double h_value, .int h_out, .ref h_output, .int h_illAt, .ref h_format, .int h_sections, .int h_items, .ref h_kind, .ref h_what, .ref h_of, .ref h_relation, .ref h_bound, .int h_reads, .int h_readSections, .ref h_readKind, .ref h_readWhat, .ref h_readOf, .ref h_place, .ref h_readRelation, .ref h_readBound, .int h_stop, .ref h_meant, .ref h_row, .ref h_exact, .ref h_error, .ref h_bestError, .long h_m, .int h_e, .ref h_digits, .int h_whole])), (h_text, .inl (cI, 256, .inl h_textF)), (h_readKind, .inl (cI, 260, .inl h_readKindF)), (h_readWhat, .inl (cI, 260, .inl h_readWhatF))] sz)) 0 0 (va_A [(h, .inr (9, [.int h_code, .int h_taped, .ref h_tape, .int h_size, .ref h_text, .double h_value, .int h_out, .ref h_output, .int h_illAt, .ref h_format, .int h_sections, .int h_items, .ref h_kind, .ref h_what, .ref h_of, .ref h_relation, .ref h_bound, .int h_reads, .int h_readSections, .ref h_readKind, .ref h_readWhat, .ref h_readOf, .ref h_place, .ref h_readRelation, .ref h_readBound, .int h_stop, .ref h_meant, .ref h_row, .ref h_exact, .ref h_error, .ref h_bestError, .long h_m, .int h_e, .ref h_digits, .int h_whole])), (h_text, .inl (cI, 256, .inl h_textF)), (h_readKind, .inl (cI, 260, .inl h_readKindF)), (h_readWhat, .inl (cI, 260, .inl h_readWhatF))] sz) := by
  refine Met.ofW (cc := cX12_readQuote) (maxL := 3) (ret := none) (by decide +kernel) rfl ?_
  intro p e s m args below meth c s₁ B hml hv
  obtain ⟨rfl, hsz, hP, hK, hD0⟩ := hv
  have hx := B.exec
  have hb := B.bytes
  have hr := B.returns
  have hts := atoms_spec (ws := pw_X12_readQuote) B.pre
  have hown : s.vm.findClass RX12 = some m.cls := findClass_of_methodNamed B.named
  have hlocks := B.notSynchronized
  subst hsz
  have hD := hD0.self (sz := s.heap.size)
  generalize hAe : va_A [(h, .inr (9, [.int h_code, .int h_taped, .ref h_tape, .int h_size, .ref h_text, .double h_value, .int h_out, .ref h_output, .int h_illAt, .ref h_format, .int h_sections, .int h_items, .ref h_kind, .ref h_what, .ref h_of, .ref h_relation, .ref h_bound, .int h_reads, .int h_readSections, .ref h_readKind, .ref h_readWhat, .ref h_readOf, .ref h_place, .ref h_readRelation, .ref h_readBound, .int h_stop, .ref h_meant, .ref h_row, .ref h_exact, .ref h_error, .ref h_bestError, .long h_m, .int h_e, .ref h_digits, .int h_whole])), (h_text, .inl (cI, 256, .inl h_textF)), (h_readKind, .inl (cI, 260, .inl h_readKindF)), (h_readWhat, .inl (cI, 260, .inl h_readWhatF))] s.heap.size = A at hD ⊢
  have hA : ∀ q : Nat, s.heap.size ≤ q → A q := fun q h => by rw [← hAe]; exact Or.inr h
  have hS : va_S A s.heap s.heap [] := va_S.rf
  have hw : ∀ (k : Nat) (w : Cond), ow_X12_readQuote[k]? = some w → w.before _ s = true := fun k w h => hts w (List.mem_cons_of_mem _ (have h9 := List.mem_of_getElem? h; List.mem_append_left _ h9))
  have i_X12_item : ∀ w ∈ pw_X12_item, w ∈ pw_X12_readQuote := fun w h9 => List.mem_cons_of_mem _ (List.mem_append_right _ (List.mem_append_left _ h9))
  have iX12 : ∀ w ∈ u_ws RX12 TX12 35, w ∈ pw_X12_readQuote := fun w h9 => List.mem_cons_of_mem _ (List.mem_append_right _ (List.mem_append_right _ (h9)))
  have n_0 : ((0 : Int32)).toInt = 0 := by decide
  have n_1 : ((1 : Int32)).toInt = 1 := by decide
  have n_14 : ((14 : Int32)).toInt = 14 := by decide
  have n_15 : ((15 : Int32)).toInt = 15 := by decide
  have n_16 : ((16 : Int32)).toInt = 16 := by decide
  have n_256 : ((256 : Int32)).toInt = 256 := by decide
  have n_34 : ((34 : Int32)).toInt = 34 := by decide
  have hl := lv_entry ([.ref h, .int p1]) (n := 3) (Nat.le_of_ble_eq_true rfl)
  rw [lg_entry_eq]
  generalize (lg_sl ([.ref h, .int p1]) ++ List.replicate (3 - (lg_sl ([.ref h, .int p1])).length) Slot.unset).toArray = ls at hl ⊢
  have hl : lv_has ls 3 [(0, .ref h), (1, .int p1)] := hl
  have b_p1 := ti_b p1
  refine zz_cap (fun Z hZ1 hZ2 => ?_)
  refine lv_iload_n hx hb dX12_readQuote_0 rfl (lv_at hl 1 rfl) ?_
  refine lv_iconst (v := 1) hx hb dX12_readQuote_1 (by decide) ?_
  refine lv_iadd hx hb dX12_readQuote_2 ?_
  refine lv_topi (fun x_1 ex_1 => ?_)
  have b_p1 := ti_b p1
  have tx_1 := ti_add ex_1
  refine lv_istore_n (lv' := [(2, .int x_1), (0, .ref h), (1, .int p1)]) hx hb dX12_readQuote_3 rfl hl (by decide) rfl (fun ls hl => ?_)
  have L_4 : ∀ (N : Nat) (x_2 : Int32) (H : Heap) (locs : List Loc) (ls : Array Slot), (p1.toInt < (x_2 : Int32).toInt) → ((x_2 : Int32).toInt ≤ 256) → ((2147483647 - (x_2 : Int32).toInt).toNat < N) → va_P D vwCl [(h, .inr (9, [.int h_code, .int h_taped, .ref h_tape, .int h_size, .ref h_text, .double h_value, .int h_out, .ref h_output, .int h_illAt, .ref h_format, .int h_sections, .int h_items, .ref h_kind, .ref h_what, .ref h_of, .ref h_relation, .ref h_bound, .int h_reads, .int h_readSections, .ref h_readKind, .ref h_readWhat, .ref h_readOf, .ref h_place, .ref h_readRelation, .ref h_readBound, .int h_stop, .ref h_meant, .ref h_row, .ref h_exact, .ref h_error, .ref h_bestError, .long h_m, .int h_e, .ref h_digits, .int h_whole])), (h_text, .inl (cI, 256, .inl h_textF)), (h_readKind, .inl (cI, 260, .inl h_readKindF)), (h_readWhat, .inl (cI, 260, .inl h_readWhatF))] H → va_D A [(h, .inr (9, [.int h_code, .int h_taped, .ref h_tape, .int h_size, .ref h_text, .double h_value, .int h_out, .ref h_output, .int h_illAt, .ref h_format, .int h_sections, .int h_items, .ref h_kind, .ref h_what, .ref h_of, .ref h_relation, .ref h_bound, .int h_reads, .int h_readSections, .ref h_readKind, .ref h_readWhat, .ref h_readOf, .ref h_place, .ref h_readRelation, .ref h_readBound, .int h_stop, .ref h_meant, .ref h_row, .ref h_exact, .ref h_error, .ref h_bestError, .long h_m, .int h_e, .ref h_digits, .int h_whole])), (h_text, .inl (cI, 256, .inl h_textF)), (h_readKind, .inl (cI, 260, .inl h_readKindF)), (h_readWhat, .inl (cI, 260, .inl h_readWhatF))] → va_S A s.heap H locs → lv_has ls 3 [(2, .int x_2), (0, .ref h), (1, .int p1)] → Z 0 0 H locs (F0 m 4 ls []) := by
    intro N
    induction N with
    | zero => intro _ _ _ _ _ _ hmu; exact absurd hmu (Nat.not_lt_zero _)
    | succ N ih_4 =>
      intro x_2 H locs ls g4_0 g4_1 hmu hP hD hS hl
      refine hZ2 ?_
      refine lv_iload_n hx hb dX12_readQuote_4 rfl (lv_at hl 0 rfl) ?_
      refine lv_aload_n hx hb dX12_readQuote_5 rfl (lv_at hl 1 rfl) ?_
      refine va_get (D := D) (ci := 9) (v := .int h_size) (C := RX12) (T := TX12) (N := 35) hx hb hts iX12 hown hK hP 0 rfl rfl 3 (by decide) (hw 0 (.fieldLink RX12 88 "NumberFormatsModel" "size" "I") rfl) (fun _ h9 => h9) rfl dX12_readQuote_6 ?_
      have K_29 : ∀ (H : Heap) (locs : List Loc) (ls : Array Slot), va_P D vwCl [(h, .inr (9, [.int h_code, .int h_taped, .ref h_tape, .int h_size, .ref h_text, .double h_value, .int h_out, .ref h_output, .int h_illAt, .ref h_format, .int h_sections, .int h_items, .ref h_kind, .ref h_what, .ref h_of, .ref h_relation, .ref h_bound, .int h_reads, .int h_readSections, .ref h_readKind, .ref h_readWhat, .ref h_readOf, .ref h_place, .ref h_readRelation, .ref h_readBound, .int h_stop, .ref h_meant, .ref h_row, .ref h_exact, .ref h_error, .ref h_bestError, .long h_m, .int h_e, .ref h_digits, .int h_whole])), (h_text, .inl (cI, 256, .inl h_textF)), (h_readKind, .inl (cI, 260, .inl h_readKindF)), (h_readWhat, .inl (cI, 260, .inl h_readWhatF))] H → va_D A [(h, .inr (9, [.int h_code, .int h_taped, .ref h_tape, .int h_size, .ref h_text, .double h_value, .int h_out, .ref h_output, .int h_illAt, .ref h_format, .int h_sections, .int h_items, .ref h_kind, .ref h_what, .ref h_of, .ref h_relation, .ref h_bound, .int h_reads, .int h_readSections, .ref h_readKind, .ref h_readWhat, .ref h_readOf, .ref h_place, .ref h_readRelation, .ref h_readBound, .int h_stop, .ref h_meant, .ref h_row, .ref h_exact, .ref h_error, .ref h_bestError, .long h_m, .int h_e, .ref h_digits, .int h_whole])), (h_text, .inl (cI, 256, .inl h_textF)), (h_readKind, .inl (cI, 260, .inl h_readKindF)), (h_readWhat, .inl (cI, 260, .inl h_readWhatF))] → va_S A s.heap H locs → lv_has ls 3 [(2, .int x_2), (0, .ref h), (1, .int p1)] → Z 0 0 H locs (F0 m 29 ls []) := by
        intro  H locs ls  hP hD hS hl
        refine hZ2 ?_
        refine lv_iload_n hx hb dX12_readQuote_29 rfl (lv_at hl 0 rfl) ?_
        refine lv_aload_n hx hb dX12_readQuote_30 rfl (lv_at hl 1 rfl) ?_
        refine va_get (D := D) (ci := 9) (v := .int h_size) (C := RX12) (T := TX12) (N := 35) hx hb hts iX12 hown hK hP 0 rfl rfl 3 (by decide) (hw 0 (.fieldLink RX12 88 "NumberFormatsModel" "size" "I") rfl) (fun _ h9 => h9) rfl dX12_readQuote_31 ?_
        refine lv_icmp_ge (tgt := 74) hx hb dX12_readQuote_34 (by decide) (fun c_3 => ?_) (fun c_3 => ?_)
        · have ic_3 : (h_size : Int32).toInt ≤ (x_2 : Int32).toInt := (fa_le h_size x_2).mp c_3
          refine lv_aload_n hx hb dX12_readQuote_74 rfl (lv_at hl 1 rfl) ?_
          refine lv_bipush (v := 15) hx hb dX12_readQuote_75 (by decide) ?_
          refine lv_iconst (v := 0) hx hb dX12_readQuote_77 (by decide) ?_
          refine lv_iload_n hx hb dX12_readQuote_78 rfl (lv_at hl 2 rfl) ?_
          refine lv_iconst (v := 1) hx hb dX12_readQuote_79 (by decide) ?_
          refine lv_iadd hx hb dX12_readQuote_80 ?_
          refine lv_topi (fun x_4 ex_4 => ?_)
          have b_p1 := ti_b p1
          have tx_4 := ti_add ex_4
          have hPc := hP.sub (ws' := [(h, .inr (9, [.int h_code, .int h_taped, .ref h_tape, .int h_size, .ref h_text, .double h_value, .int h_out, .ref h_output, .int h_illAt, .ref h_format, .int h_sections, .int h_items, .ref h_kind, .ref h_what, .ref h_of, .ref h_relation, .ref h_bound, .int h_reads, .int h_readSections, .ref h_readKind, .ref h_readWhat, .ref h_readOf, .ref h_place, .ref h_readRelation, .ref h_readBound, .int h_stop, .ref h_meant, .ref h_row, .ref h_exact, .ref h_error, .ref h_bestError, .long h_m, .int h_e, .ref h_digits, .int h_whole])), (h_readKind, .inl (cI, 260, .inl h_readKindF)), (h_readWhat, .inl (cI, 260, .inl h_readWhatF))]) [0, 2, 3] rfl
          have hDc := hD.sub (ws' := [(h, .inr (9, [.int h_code, .int h_taped, .ref h_tape, .int h_size, .ref h_text, .double h_value, .int h_out, .ref h_output, .int h_illAt, .ref h_format, .int h_sections, .int h_items, .ref h_kind, .ref h_what, .ref h_of, .ref h_relation, .ref h_bound, .int h_reads, .int h_readSections, .ref h_readKind, .ref h_readWhat, .ref h_readOf, .ref h_place, .ref h_readRelation, .ref h_readBound, .int h_stop, .ref h_meant, .ref h_row, .ref h_exact, .ref h_error, .ref h_bestError, .long h_m, .int h_e, .ref h_digits, .int h_whole])), (h_readKind, .inl (cI, 260, .inl h_readKindF)), (h_readWhat, .inl (cI, 260, .inl h_readWhatF))]) [0, 2, 3] (by decide) rfl
          have hFc := va_free (wc := [(h, .inr (9, [.int h_code, .int h_taped, .ref h_tape, .int h_size, .ref h_text, .double h_value, .int h_out, .ref h_output, .int h_illAt, .ref h_format, .int h_sections, .int h_items, .ref h_kind, .ref h_what, .ref h_of, .ref h_relation, .ref h_bound, .int h_reads, .int h_readSections, .ref h_readKind, .ref h_readWhat, .ref h_readOf, .ref h_place, .ref h_readRelation, .ref h_readBound, .int h_stop, .ref h_meant, .ref h_row, .ref h_exact, .ref h_error, .ref h_bestError, .long h_m, .int h_e, .ref h_digits, .int h_whole])), (h_readKind, .inl (cI, 260, .inl h_readKindF)), (h_readWhat, .inl (cI, 260, .inl h_readWhatF))]) hD hS hA [0, 2, 3] rfl
          refine va_callv (va_runV (As := [.int 15, .int 0, .int x_4]) (rest := []) ⟨hx, hb, hml, hown, hts⟩ (c_X12_item l D cI cD cJ H.size h h_code h_taped h_tape h_size h_text h_value h_out h_output h_illAt h_format h_sections h_items h_kind h_what h_of h_relation h_bound h_reads h_readSections h_readKind h_readWhat h_readOf h_place h_readRelation h_readBound h_stop h_meant h_row h_exact h_error h_bestError h_m h_e h_digits h_whole h_readKindF h_readWhatF 15 0 x_4 (by omega) (by omega) (by omega) (by omega) (by omega) (by assumption) (by omega) (by omega) (by omega) (by omega) (by omega) (by omega) (by assumption) (by assumption)) (cwV 3 hts (goodIn_app (goodIn_r _ [2, 3, 4, 5] rfl (by decide +kernel)) (goodIn_sub i_X12_item k_X12_item)) rfl rfl rfl (by decide +kernel) ⟨Nat.le_of_ble_eq_true rfl, Nat.le_of_ble_eq_true rfl⟩) ⟨fun a U g mk q => by obtain ⟨q0, q1, qP, qK, qD⟩ := q; exact ⟨q0, q1, qP, va_K.moved (u := U) (U := U.calling g mk a) (Vm.Alike.refl U.vm) qK, qD⟩, va_recv hK hPc (ci := 9) (q0 := 0) rfl rfl, fun U hU hW => ⟨rfl, by rw [hU], by rw [hU]; exact hPc, va_K.moved hW.alike hK, hDc.weaken (fun _ _ _ _ => trivial)⟩⟩ rfl rfl hl.1 rfl (lv_room (Nat.le_of_ble_eq_true rfl)) dX12_readQuote_81 ⟨Nat.le_of_ble_eq_true rfl, Nat.le_of_ble_eq_true rfl⟩) hS (fun q _ h => hFc q h) hFc (fun u t H1 locs ht hvm w_5 hB hz1 hk1 hS => ?_)
          obtain ⟨u_6, u_7, u_8⟩ := u
          obtain ⟨hP1, hK1, hD1⟩ := hB
          rw [ht] at hP1
          try dsimp only at w_5
          obtain ⟨hP, hD⟩ := va_join (wr := [(h_text, .inl (cI, 256, .inl h_textF))]) (w1 := [(h, .inr (9, [.int h_code, .int h_taped, .ref h_tape, .int h_size, .ref h_text, .double h_value, .int h_out, .ref h_output, .int h_illAt, .ref h_format, .int h_sections, .int h_items, .ref h_kind, .ref h_what, .ref h_of, .ref h_relation, .ref h_bound, .int h_reads, .int h_readSections, .ref h_readKind, .ref h_readWhat, .ref h_readOf, .ref h_place, .ref h_readRelation, .ref h_readBound, .int u_6, .ref h_meant, .ref h_row, .ref h_exact, .ref h_error, .ref h_bestError, .long h_m, .int h_e, .ref h_digits, .int h_whole])), (h_readKind, .inl (cI, 260, .inl u_7)), (h_readWhat, .inl (cI, 260, .inl u_8))]) hP hD [0, 2, 3] [1] rfl rfl (by decide) (by decide) hk1 hFc hP1 hD1
          generalize H1 = H at hP hS ⊢
          have hP : va_P D vwCl [(h_text, .inl (cI, 256, .inl h_textF)), (h, .inr (9, [.int h_code, .int h_taped, .ref h_tape, .int h_size, .ref h_text, .double h_value, .int h_out, .ref h_output, .int h_illAt, .ref h_format, .int h_sections, .int h_items, .ref h_kind, .ref h_what, .ref h_of, .ref h_relation, .ref h_bound, .int h_reads, .int h_readSections, .ref h_readKind, .ref h_readWhat, .ref h_readOf, .ref h_place, .ref h_readRelation, .ref h_readBound, .int u_6, .ref h_meant, .ref h_row, .ref h_exact, .ref h_error, .ref h_bestError, .long h_m, .int h_e, .ref h_digits, .int h_whole])), (h_readKind, .inl (cI, 260, .inl u_7)), (h_readWhat, .inl (cI, 260, .inl u_8))] H := hP
          have hD : va_D A [(h_text, .inl (cI, 256, .inl h_textF)), (h, .inr (9, [.int h_code, .int h_taped, .ref h_tape, .int h_size, .ref h_text, .double h_value, .int h_out, .ref h_output, .int h_illAt, .ref h_format, .int h_sections, .int h_items, .ref h_kind, .ref h_what, .ref h_of, .ref h_relation, .ref h_bound, .int h_reads, .int h_readSections, .ref h_readKind, .ref h_readWhat, .ref h_readOf, .ref h_place, .ref h_readRelation, .ref h_readBound, .int u_6, .ref h_meant, .ref h_row, .ref h_exact, .ref h_error, .ref h_bestError, .long h_m, .int h_e, .ref h_digits, .int h_whole])), (h_readKind, .inl (cI, 260, .inl u_7)), (h_readWhat, .inl (cI, 260, .inl u_8))] := hD
          obtain ⟨w_5_0, w_5_1, w_5_2⟩ := w_5
          have hP9 := hP.sub (ws' := [(h, .inr (9, [.int h_code, .int h_taped, .ref h_tape, .int h_size, .ref h_text, .double h_value, .int h_out, .ref h_output, .int h_illAt, .ref h_format, .int h_sections, .int h_items, .ref h_kind, .ref h_what, .ref h_of, .ref h_relation, .ref h_bound, .int h_reads, .int h_readSections, .ref h_readKind, .ref h_readWhat, .ref h_readOf, .ref h_place, .ref h_readRelation, .ref h_readBound, .int u_6, .ref h_meant, .ref h_row, .ref h_exact, .ref h_error, .ref h_bestError, .long h_m, .int h_e, .ref h_digits, .int h_whole])), (h_text, .inl (cI, 256, .inl h_textF)), (h_readKind, .inl (cI, 260, .inl u_7)), (h_readWhat, .inl (cI, 260, .inl u_8))]) [1, 0, 2, 3] rfl
          have hD9 := hD.sub (ws' := [(h, .inr (9, [.int h_code, .int h_taped, .ref h_tape, .int h_size, .ref h_text, .double h_value, .int h_out, .ref h_output, .int h_illAt, .ref h_format, .int h_sections, .int h_items, .ref h_kind, .ref h_what, .ref h_of, .ref h_relation, .ref h_bound, .int h_reads, .int h_readSections, .ref h_readKind, .ref h_readWhat, .ref h_readOf, .ref h_place, .ref h_readRelation, .ref h_readBound, .int u_6, .ref h_meant, .ref h_row, .ref h_exact, .ref h_error, .ref h_bestError, .long h_m, .int h_e, .ref h_digits, .int h_whole])), (h_text, .inl (cI, 256, .inl h_textF)), (h_readKind, .inl (cI, 260, .inl u_7)), (h_readWhat, .inl (cI, 260, .inl u_8))]) [1, 0, 2, 3] (by decide) rfl
          exact W.vret hx hb hr (fun t ht hW => ⟨⟨(u_6, u_7, u_8), rfl, (by (try dsimp only); refine ⟨?_, ?_, ?_⟩ <;> first | omega | assumption), by rw [ht]; exact hP9, va_K.moved hW.alike hK, hD9⟩, hS.F ht⟩) hS.2.2 dX12_readQuote_84
        · have ic_3 : ¬ ((h_size : Int32).toInt ≤ (x_2 : Int32).toInt) := fun h9 => c_3 ((fa_le h_size x_2).mpr h9)
          refine lv_aload_n hx hb dX12_readQuote_37 rfl (lv_at hl 1 rfl) ?_
          refine lv_iload_n hx hb dX12_readQuote_38 rfl (lv_at hl 0 rfl) ?_
          refine lv_iload_n hx hb dX12_readQuote_39 rfl (lv_at hl 2 rfl) ?_
          refine lv_iconst (v := 1) hx hb dX12_readQuote_40 (by decide) ?_
          refine lv_iadd hx hb dX12_readQuote_41 ?_
          refine lv_topi (fun x_9 ex_9 => ?_)
          have b_p1 := ti_b p1
          have tx_9 := ti_add ex_9
          have K_52 : ∀ (z_10 : Int32) (H : Heap) (locs : List Loc) (ls : Array Slot), ((z_10 : Int32).toInt = 16 ∨ (z_10 : Int32).toInt = 14) → va_P D vwCl [(h, .inr (9, [.int h_code, .int h_taped, .ref h_tape, .int h_size, .ref h_text, .double h_value, .int h_out, .ref h_output, .int h_illAt, .ref h_format, .int h_sections, .int h_items, .ref h_kind, .ref h_what, .ref h_of, .ref h_relation, .ref h_bound, .int h_reads, .int h_readSections, .ref h_readKind, .ref h_readWhat, .ref h_readOf, .ref h_place, .ref h_readRelation, .ref h_readBound, .int h_stop, .ref h_meant, .ref h_row, .ref h_exact, .ref h_error, .ref h_bestError, .long h_m, .int h_e, .ref h_digits, .int h_whole])), (h_text, .inl (cI, 256, .inl h_textF)), (h_readKind, .inl (cI, 260, .inl h_readKindF)), (h_readWhat, .inl (cI, 260, .inl h_readWhatF))] H → va_D A [(h, .inr (9, [.int h_code, .int h_taped, .ref h_tape, .int h_size, .ref h_text, .double h_value, .int h_out, .ref h_output, .int h_illAt, .ref h_format, .int h_sections, .int h_items, .ref h_kind, .ref h_what, .ref h_of, .ref h_relation, .ref h_bound, .int h_reads, .int h_readSections, .ref h_readKind, .ref h_readWhat, .ref h_readOf, .ref h_place, .ref h_readRelation, .ref h_readBound, .int h_stop, .ref h_meant, .ref h_row, .ref h_exact, .ref h_error, .ref h_bestError, .long h_m, .int h_e, .ref h_digits, .int h_whole])), (h_text, .inl (cI, 256, .inl h_textF)), (h_readKind, .inl (cI, 260, .inl h_readKindF)), (h_readWhat, .inl (cI, 260, .inl h_readWhatF))] → va_S A s.heap H locs → lv_has ls 3 [(2, .int x_2), (1, .int p1)] → Z 0 0 H locs (F0 m 52 ls [.int z_10, .ref h]) := by
            intro z_10 H locs ls g52_0 hP hD hS hl
            refine hZ2 ?_
            refine lv_sipush (v := 256) hx hb dX12_readQuote_52 (by decide) ?_
            refine lv_iload_n hx hb dX12_readQuote_55 rfl (lv_at hl 1 rfl) ?_
            refine lv_iconst (v := 1) hx hb dX12_readQuote_56 (by decide) ?_
            refine lv_iadd hx hb dX12_readQuote_57 ?_
            refine lv_topi (fun x_11 ex_11 => ?_)
            have b_p1 := ti_b p1
            have tx_11 := ti_add ex_11
            refine lv_imul hx hb dX12_readQuote_58 ?_
            refine lv_topi (fun x_12 ex_12 => ?_)
            have tx_12 := ti_mul ex_12
            rw [n_256] at tx_12
            refine lv_iload_n hx hb dX12_readQuote_59 rfl (lv_at hl 0 rfl) ?_
            refine lv_iadd hx hb dX12_readQuote_60 ?_
            refine lv_topi (fun x_13 ex_13 => ?_)
            have b_x_12 := ti_b x_12
            have b_x_2 := ti_b x_2
            have tx_13 := ti_add ex_13
            refine lv_iload_n hx hb dX12_readQuote_61 rfl (lv_at hl 1 rfl) ?_
            refine lv_isub hx hb dX12_readQuote_62 ?_
            refine lv_topi (fun x_14 ex_14 => ?_)
            have b_p1 := ti_b p1
            have tx_14 := ti_sub ex_14
            refine lv_iconst (v := 1) hx hb dX12_readQuote_63 (by decide) ?_
            refine lv_isub hx hb dX12_readQuote_64 ?_
            refine lv_topi (fun x_15 ex_15 => ?_)
            have tx_15 := ti_sub ex_15
            refine lv_iload_n hx hb dX12_readQuote_65 rfl (lv_at hl 0 rfl) ?_
            refine lv_iconst (v := 1) hx hb dX12_readQuote_66 (by decide) ?_
            refine lv_iadd hx hb dX12_readQuote_67 ?_
            refine lv_topi (fun x_16 ex_16 => ?_)
            have b_x_2 := ti_b x_2
            have tx_16 := ti_add ex_16
            have hPc := hP.sub (ws' := [(h, .inr (9, [.int h_code, .int h_taped, .ref h_tape, .int h_size, .ref h_text, .double h_value, .int h_out, .ref h_output, .int h_illAt, .ref h_format, .int h_sections, .int h_items, .ref h_kind, .ref h_what, .ref h_of, .ref h_relation, .ref h_bound, .int h_reads, .int h_readSections, .ref h_readKind, .ref h_readWhat, .ref h_readOf, .ref h_place, .ref h_readRelation, .ref h_readBound, .int h_stop, .ref h_meant, .ref h_row, .ref h_exact, .ref h_error, .ref h_bestError, .long h_m, .int h_e, .ref h_digits, .int h_whole])), (h_readKind, .inl (cI, 260, .inl h_readKindF)), (h_readWhat, .inl (cI, 260, .inl h_readWhatF))]) [0, 2, 3] rfl
            have hDc := hD.sub (ws' := [(h, .inr (9, [.int h_code, .int h_taped, .ref h_tape, .int h_size, .ref h_text, .double h_value, .int h_out, .ref h_output, .int h_illAt, .ref h_format, .int h_sections, .int h_items, .ref h_kind, .ref h_what, .ref h_of, .ref h_relation, .ref h_bound, .int h_reads, .int h_readSections, .ref h_readKind, .ref h_readWhat, .ref h_readOf, .ref h_place, .ref h_readRelation, .ref h_readBound, .int h_stop, .ref h_meant, .ref h_row, .ref h_exact, .ref h_error, .ref h_bestError, .long h_m, .int h_e, .ref h_digits, .int h_whole])), (h_readKind, .inl (cI, 260, .inl h_readKindF)), (h_readWhat, .inl (cI, 260, .inl h_readWhatF))]) [0, 2, 3] (by decide) rfl
            have hFc := va_free (wc := [(h, .inr (9, [.int h_code, .int h_taped, .ref h_tape, .int h_size, .ref h_text, .double h_value, .int h_out, .ref h_output, .int h_illAt, .ref h_format, .int h_sections, .int h_items, .ref h_kind, .ref h_what, .ref h_of, .ref h_relation, .ref h_bound, .int h_reads, .int h_readSections, .ref h_readKind, .ref h_readWhat, .ref h_readOf, .ref h_place, .ref h_readRelation, .ref h_readBound, .int h_stop, .ref h_meant, .ref h_row, .ref h_exact, .ref h_error, .ref h_bestError, .long h_m, .int h_e, .ref h_digits, .int h_whole])), (h_readKind, .inl (cI, 260, .inl h_readKindF)), (h_readWhat, .inl (cI, 260, .inl h_readWhatF))]) hD hS hA [0, 2, 3] rfl
            refine va_callv (va_runV (As := [.int z_10, .int x_15, .int x_16]) (rest := []) ⟨hx, hb, hml, hown, hts⟩ (c_X12_item l D cI cD cJ H.size h h_code h_taped h_tape h_size h_text h_value h_out h_output h_illAt h_format h_sections h_items h_kind h_what h_of h_relation h_bound h_reads h_readSections h_readKind h_readWhat h_readOf h_place h_readRelation h_readBound h_stop h_meant h_row h_exact h_error h_bestError h_m h_e h_digits h_whole h_readKindF h_readWhatF z_10 x_15 x_16 (by omega) (by omega) (by omega) (by omega) (by omega) (by assumption) (by omega) (by omega) (by omega) (by omega) (by omega) (by omega) (by assumption) (by assumption)) (cwV 3 hts (goodIn_app (goodIn_r _ [2, 3, 4, 5] rfl (by decide +kernel)) (goodIn_sub i_X12_item k_X12_item)) rfl rfl rfl (by decide +kernel) ⟨Nat.le_of_ble_eq_true rfl, Nat.le_of_ble_eq_true rfl⟩) ⟨fun a U g mk q => by obtain ⟨q0, q1, qP, qK, qD⟩ := q; exact ⟨q0, q1, qP, va_K.moved (u := U) (U := U.calling g mk a) (Vm.Alike.refl U.vm) qK, qD⟩, va_recv hK hPc (ci := 9) (q0 := 0) rfl rfl, fun U hU hW => ⟨rfl, by rw [hU], by rw [hU]; exact hPc, va_K.moved hW.alike hK, hDc.weaken (fun _ _ _ _ => trivial)⟩⟩ rfl rfl hl.1 rfl (lv_room (Nat.le_of_ble_eq_true rfl)) dX12_readQuote_68 ⟨Nat.le_of_ble_eq_true rfl, Nat.le_of_ble_eq_true rfl⟩) hS (fun q _ h => hFc q h) hFc (fun u t H1 locs ht hvm w_17 hB hz1 hk1 hS => ?_)
            obtain ⟨u_18, u_19, u_20⟩ := u
            obtain ⟨hP1, hK1, hD1⟩ := hB
            rw [ht] at hP1
            try dsimp only at w_17
            obtain ⟨hP, hD⟩ := va_join (wr := [(h_text, .inl (cI, 256, .inl h_textF))]) (w1 := [(h, .inr (9, [.int h_code, .int h_taped, .ref h_tape, .int h_size, .ref h_text, .double h_value, .int h_out, .ref h_output, .int h_illAt, .ref h_format, .int h_sections, .int h_items, .ref h_kind, .ref h_what, .ref h_of, .ref h_relation, .ref h_bound, .int h_reads, .int h_readSections, .ref h_readKind, .ref h_readWhat, .ref h_readOf, .ref h_place, .ref h_readRelation, .ref h_readBound, .int u_18, .ref h_meant, .ref h_row, .ref h_exact, .ref h_error, .ref h_bestError, .long h_m, .int h_e, .ref h_digits, .int h_whole])), (h_readKind, .inl (cI, 260, .inl u_19)), (h_readWhat, .inl (cI, 260, .inl u_20))]) hP hD [0, 2, 3] [1] rfl rfl (by decide) (by decide) hk1 hFc hP1 hD1
            generalize H1 = H at hP hS ⊢
            have hP : va_P D vwCl [(h_text, .inl (cI, 256, .inl h_textF)), (h, .inr (9, [.int h_code, .int h_taped, .ref h_tape, .int h_size, .ref h_text, .double h_value, .int h_out, .ref h_output, .int h_illAt, .ref h_format, .int h_sections, .int h_items, .ref h_kind, .ref h_what, .ref h_of, .ref h_relation, .ref h_bound, .int h_reads, .int h_readSections, .ref h_readKind, .ref h_readWhat, .ref h_readOf, .ref h_place, .ref h_readRelation, .ref h_readBound, .int u_18, .ref h_meant, .ref h_row, .ref h_exact, .ref h_error, .ref h_bestError, .long h_m, .int h_e, .ref h_digits, .int h_whole])), (h_readKind, .inl (cI, 260, .inl u_19)), (h_readWhat, .inl (cI, 260, .inl u_20))] H := hP
            have hD : va_D A [(h_text, .inl (cI, 256, .inl h_textF)), (h, .inr (9, [.int h_code, .int h_taped, .ref h_tape, .int h_size, .ref h_text, .double h_value, .int h_out, .ref h_output, .int h_illAt, .ref h_format, .int h_sections, .int h_items, .ref h_kind, .ref h_what, .ref h_of, .ref h_relation, .ref h_bound, .int h_reads, .int h_readSections, .ref h_readKind, .ref h_readWhat, .ref h_readOf, .ref h_place, .ref h_readRelation, .ref h_readBound, .int u_18, .ref h_meant, .ref h_row, .ref h_exact, .ref h_error, .ref h_bestError, .long h_m, .int h_e, .ref h_digits, .int h_whole])), (h_readKind, .inl (cI, 260, .inl u_19)), (h_readWhat, .inl (cI, 260, .inl u_20))] := hD
            obtain ⟨w_17_0, w_17_1, w_17_2⟩ := w_17
            refine lv_goto (tgt := 84) hx hb dX12_readQuote_71 (by decide) ?_
            have hP9 := hP.sub (ws' := [(h, .inr (9, [.int h_code, .int h_taped, .ref h_tape, .int h_size, .ref h_text, .double h_value, .int h_out, .ref h_output, .int h_illAt, .ref h_format, .int h_sections, .int h_items, .ref h_kind, .ref h_what, .ref h_of, .ref h_relation, .ref h_bound, .int h_reads, .int h_readSections, .ref h_readKind, .ref h_readWhat, .ref h_readOf, .ref h_place, .ref h_readRelation, .ref h_readBound, .int u_18, .ref h_meant, .ref h_row, .ref h_exact, .ref h_error, .ref h_bestError, .long h_m, .int h_e, .ref h_digits, .int h_whole])), (h_text, .inl (cI, 256, .inl h_textF)), (h_readKind, .inl (cI, 260, .inl u_19)), (h_readWhat, .inl (cI, 260, .inl u_20))]) [1, 0, 2, 3] rfl
            have hD9 := hD.sub (ws' := [(h, .inr (9, [.int h_code, .int h_taped, .ref h_tape, .int h_size, .ref h_text, .double h_value, .int h_out, .ref h_output, .int h_illAt, .ref h_format, .int h_sections, .int h_items, .ref h_kind, .ref h_what, .ref h_of, .ref h_relation, .ref h_bound, .int h_reads, .int h_readSections, .ref h_readKind, .ref h_readWhat, .ref h_readOf, .ref h_place, .ref h_readRelation, .ref h_readBound, .int u_18, .ref h_meant, .ref h_row, .ref h_exact, .ref h_error, .ref h_bestError, .long h_m, .int h_e, .ref h_digits, .int h_whole])), (h_text, .inl (cI, 256, .inl h_textF)), (h_readKind, .inl (cI, 260, .inl u_19)), (h_readWhat, .inl (cI, 260, .inl u_20))]) [1, 0, 2, 3] (by decide) rfl
            exact W.vret hx hb hr (fun t ht hW => ⟨⟨(u_18, u_19, u_20), rfl, (by (try dsimp only); refine ⟨?_, ?_, ?_⟩ <;> first | omega | assumption), by rw [ht]; exact hP9, va_K.moved hW.alike hK, hD9⟩, hS.F ht⟩) hS.2.2 dX12_readQuote_84
          refine lv_icmp_ne (tgt := 50) hx hb dX12_readQuote_42 (by decide) (fun c_21 => ?_) (fun c_21 => ?_)
          · have ic_21 : ¬ ((x_2 : Int32).toInt = (x_9 : Int32).toInt) := fun h9 => c_21 ((fa_eq x_2 x_9).mpr h9)
            refine lv_bipush (v := 14) hx hb dX12_readQuote_50 (by decide) ?_
            exact hZ1 (K_52 14 _ _ _ (by omega) hP hD hS (lv_sub hl [0, 2] rfl))
          · have ic_21 : (x_2 : Int32).toInt = (x_9 : Int32).toInt := (fa_eq x_2 x_9).mp c_21
            refine lv_bipush (v := 16) hx hb dX12_readQuote_45 (by decide) ?_
            refine lv_goto (tgt := 52) hx hb dX12_readQuote_47 (by decide) ?_
            exact hZ1 (K_52 16 _ _ _ (by omega) hP hD hS (lv_sub hl [0, 2] rfl))
      refine lv_icmp_ge (tgt := 29) hx hb dX12_readQuote_9 (by decide) (fun c_22 => ?_) (fun c_22 => ?_)
      · have ic_22 : (h_size : Int32).toInt ≤ (x_2 : Int32).toInt := (fa_le h_size x_2).mp c_22
        exact hZ1 (K_29  _ _ _ hP hD hS hl)
      · have ic_22 : ¬ ((h_size : Int32).toInt ≤ (x_2 : Int32).toInt) := fun h9 => c_22 ((fa_le h_size x_2).mpr h9)
        refine lv_aload_n hx hb dX12_readQuote_12 rfl (lv_at hl 1 rfl) ?_
        refine va_get (D := D) (ci := 9) (v := .ref h_text) (C := RX12) (T := TX12) (N := 35) hx hb hts iX12 hown hK hP 0 rfl rfl 4 (by decide) (hw 5 (.fieldLink RX12 13 "NumberFormatsModel" "text" "[I") rfl) (fun _ h9 => h9) rfl dX12_readQuote_13 ?_
        refine lv_iload_n hx hb dX12_readQuote_16 rfl (lv_at hl 0 rfl) ?_
        have h_17 : vp_in x_2 256 := by rw [vp_in_iff]; omega
        refine va_iald hx hb hK hP 1 0 rfl rfl h_17 dX12_readQuote_17 ?_
        refine lv_topi (fun x_23 ex_23 => ?_)
        have iv_x_23 := (‹∀ k9 : Nat, k9 < 256 → 0 ≤ (h_textF k9).toInt ∧ (h_textF k9).toInt ≤ 255›) _ (Nat.lt_of_not_le (fun h9 => h_17 (Or.inr h9)))
        rw [← ex_23] at iv_x_23
        refine lv_bipush (v := 34) hx hb dX12_readQuote_18 (by decide) ?_
        refine lv_icmp_eq (tgt := 29) hx hb dX12_readQuote_20 (by decide) (fun c_24 => ?_) (fun c_24 => ?_)
        · have ic_24 : (x_23 : Int32).toInt = (34 : Int32).toInt := (fa_eq x_23 34).mp c_24
          exact hZ1 (K_29  _ _ _ hP hD hS hl)
        · have ic_24 : ¬ ((x_23 : Int32).toInt = (34 : Int32).toInt) := fun h9 => c_24 ((fa_eq x_23 34).mpr h9)
          obtain ⟨x_25, ex_25⟩ : ∃ y : Int32, y = x_2 + 1 := ⟨_, rfl⟩
          have b_x_2 := ti_b x_2
          have tx_25 := ti_add ex_25
          refine lv_iinc (v := x_25) (lv' := [(2, .int x_25), (0, .ref h), (1, .int p1)]) hx hb dX12_readQuote_23 hl (k := 0) rfl (by rw [ex_25]; rfl) (by decide) rfl (fun ls hl => ?_)
          refine lv_goto (tgt := 4) hx hb dX12_readQuote_26 (by decide) ?_
          exact hZ1 (ih_4 x_25 _ _ _ (by omega) (by omega) (by omega) hP hD hS hl)
  exact hZ1 (L_4 (((2147483647 - (x_1 : Int32).toInt).toNat) + 1) x_1 _ _ _ (by omega) (by omega) (by omega) hP hD hS hl)

def ow_X12_readDivisor : List Cond := [Cond.methodLink RX12 181 yX12_item, Cond.instanceMethod yX12_item, Cond.selects RX12 yX12_item yX12_item, Cond.initialized RX12, Cond.methodLink RX12 165 yX12_here, Cond.instanceMethod yX12_here, Cond.selects RX12 yX12_here yX12_here, Cond.methodLink RX12 212 yX12_isDigit, Cond.static yX12_isDigit]
def pw_X12_readDivisor : List Cond := Cond.code yX12_readDivisor cX12_readDivisor 4 none :: (ow_X12_readDivisor ++ (pw_X12_item ++ (pw_X12_here ++ (pw_X12_isDigit))))
set_option maxRecDepth 20000 in
theorem mo_X12_readDivisor : ∀ w ∈ ow_X12_readDivisor, w ∈ lw_tbl := by decide +kernel
set_option maxRecDepth 20000 in
theorem mc_X12_readDivisor : Cond.code yX12_readDivisor cX12_readDivisor 4 none ∈ lw_tbl := by decide +kernel
theorem m_X12_readDivisor : ∀ w ∈ pw_X12_readDivisor, w ∈ lw_tbl := List.forall_mem_cons.mpr ⟨mc_X12_readDivisor, (List.forall_mem_append.mpr ⟨mo_X12_readDivisor, (List.forall_mem_append.mpr ⟨m_X12_item, (List.forall_mem_append.mpr ⟨m_X12_here, m_X12_isDigit⟩)⟩)⟩)⟩
theorem ko_X12_readDivisor : ∀ w ∈ ow_X12_readDivisor, goodWord w = true := by decide +kernel
theorem k_X12_readDivisor : pw_X12_readDivisor.all goodWord = true := List.all_eq_true.mpr (List.forall_mem_cons.mpr ⟨by decide +kernel, (List.forall_mem_append.mpr ⟨ko_X12_readDivisor, (List.forall_mem_append.mpr ⟨(List.all_eq_true.mp k_X12_item), (List.forall_mem_append.mpr ⟨(List.all_eq_true.mp k_X12_here), (List.all_eq_true.mp k_X12_isDigit)⟩)⟩)⟩)⟩)
set_option maxHeartbeats 400000 in
set_option maxRecDepth 100000 in
theorem c_X12_readDivisor (l : Launch) (D : va_G) (cI cD cJ : ClassId) (sz : Nat) (h : Nat) (h_code : Int32) (h_taped : Int32) (h_tape : Nat) (h_size : Int32) (h_text : Nat) (h_value : UInt64) (h_out : Int32) (h_output : Nat) (h_illAt : Int32) (h_format : Nat) (h_sections : Int32) (h_items : Int32) (h_kind : Nat) (h_what : Nat) (h_of : Nat) (h_relation : Nat) (h_bound : Nat) (h_reads : Int32) (h_readSections : Int32) (h_readKind : Nat) (h_readWhat : Nat) (h_readOf : Nat) (h_place : Nat) (h_readRelation : Nat) (h_readBound : Nat) (h_stop : Int32) (h_meant : Nat) (h_row : Nat) (h_exact : Nat) (h_error : Nat) (h_bestError : Nat) (h_m : Int64) (h_e : Int32) (h_digits : Nat) (h_whole : Int32) (h_textF : Nat → Int32) (h_readKindF : Nat → Int32) (h_readWhatF : Nat → Int32) (p1 : Int32) (hh0 : 0 ≤ p1.toInt) (hh1 : p1.toInt ≤ 255) (hh2 : 49 ≤ (hereF h_textF h_size p1).toInt) (hh3 : (hereF h_textF h_size p1).toInt ≤ 57) (iv_h_taped : 0 ≤ (h_taped : Int32).toInt ∧ (h_taped : Int32).toInt ≤ 260) (iv_h_size : 0 ≤ (h_size : Int32).toInt ∧ (h_size : Int32).toInt ≤ 255) (iv_h_value : inR h_value) (iv_h_out : 0 ≤ (h_out : Int32).toInt ∧ (h_out : Int32).toInt ≤ 1024) (iv_h_sections : 0 ≤ (h_sections : Int32).toInt ∧ (h_sections : Int32).toInt ≤ 4) (iv_h_items : 0 ≤ (h_items : Int32).toInt ∧ (h_items : Int32).toInt ≤ 255) (iv_h_reads : 0 ≤ (h_reads : Int32).toInt ∧ (h_reads : Int32).toInt ≤ 255) (iv_h_readSections : 0 ≤ (h_readSections : Int32).toInt ∧ (h_readSections : Int32).toInt ≤ 4) (iv_h_whole : 0 ≤ (h_whole : Int32).toInt ∧ (h_whole : Int32).toInt ≤ 1001) (iv_h_textF : ∀ k9 : Nat, k9 < 256 → 0 ≤ (h_textF k9).toInt ∧ (h_textF k9).toInt ≤ 255) (iv_h_readWhatF : ∀ k9 : Nat, k9 < 260 → -100000 ≤ (h_readWhatF k9).toInt ∧ (h_readWhatF k9).toInt ≤ 100000) (jv_h_readKindF : QK h_readKindF h_readWhatF) : Met l yX12_readDivisor pw_X12_readDivisor ({ frames := 1, cells := 0, slots := 0, locals := 23 }) (va_Pc [.ref h, .int p1] (fun U => U.heap.size = sz ∧ va_P D vwCl [(h, .inr (9, [.int h_code, .int h_taped, .ref h_tape, .int h_size, .ref h_text, .double h_value, .int h_out, .ref h_output, .int h_illAt, .ref h_format, .int h_sections, .int h_items, .ref h_kind, .ref h_what, .ref h_of, .ref h_relation, .ref h_bound, .int h_reads, .int h_readSections, .ref h_readKind, .ref h_readWhat, .ref h_readOf, .ref h_place, .ref h_readRelation, .ref h_readBound, .int h_stop, .ref h_meant, .ref h_row, .ref h_exact, .ref h_error, .ref h_bestError, .long h_m, .int h_e, .ref h_digits, .int h_whole])), (h_text, .inl (cI, 256, .inl h_textF)), (h_readKind, .inl (cI, 260, .inl h_readKindF)), (h_readWhat, .inl (cI, 260, .inl h_readWhatF))] U.heap ∧ va_K D vwCl (ty3 cI cD cJ) U ∧ va_D (fun _ => True) [(h, .inr (9, [.int h_code, .int h_taped, .ref h_tape, .int h_size, .ref h_text, .double h_value, .int h_out, .ref h_output, .int h_illAt, .ref h_format, .int h_sections, .int h_items, .ref h_kind, .ref h_what, .ref h_of, .ref h_relation, .ref h_bound, .int h_reads, .int h_readSections, .ref h_readKind, .ref h_readWhat, .ref h_readOf, .ref h_place, .ref h_readRelation, .ref h_readBound, .int h_stop, .ref h_meant, .ref h_row, .ref h_exact, .ref h_error, .ref h_bestError, .long h_m, .int h_e, .ref h_digits, .int h_whole])), (h_text, .inl (cI, 256, .inl h_textF)), (h_readKind, .inl (cI, 260, .inl h_readKindF)), (h_readWhat, .inl (cI, 260, .inl h_readWhatF))])) (va_Qv (fun (u : Int32 × (Nat → Int32) × (Nat → Int32)) => match u with | (h_stop2, h_readKindF2, h_readWhatF2) => (p1.toInt < h_stop2.toInt ∧ h_stop2.toInt ≤ 600) ∧ (∀ k9 : Nat, k9 < 260 → -100000 ≤ (h_readWhatF2 k9).toInt ∧ (h_readWhatF2 k9).toInt ≤ 100000) ∧ (QK h_readKindF2 h_readWhatF2)) (fun (u : Int32 × (Nat → Int32) × (Nat → Int32)) (t : State) => match u with | (h_stop2, h_readKindF2, h_readWhatF2) => va_P D vwCl [(h, .inr (9, [.int h_code, .int h_taped, .ref h_tape, .int h_size, .ref h_text, .double h_value, .int h_out, .ref h_output, .int h_illAt, .ref h_format, .int h_sections, .int h_items, .ref h_kind, .ref h_what, .ref h_of, .ref h_relation, .ref h_bound, .int h_reads, .int h_readSections, .ref h_readKind, .ref h_readWhat, .ref h_readOf, .ref h_place, .ref h_readRelation, .ref h_readBound, .int h_stop2, .ref h_meant, .ref h_row, .ref h_exact, .ref h_error, .ref h_bestError, .long h_m, .int h_e, .ref h_digits, .int h_whole])), (h_text, .inl (cI, 256, .inl h_textF)), (h_readKind, .inl (cI, 260, .inl h_readKindF2)), (h_readWhat, .inl (cI, 260, .inl h_readWhatF2))] t.heap ∧ va_K D vwCl (ty3 cI cD cJ) t ∧ va_D (va_A [(h, .inr (9, [.int h_code, .int h_taped, .ref h_tape, .int h_size, .ref h_text, .double h_value, .int h_out, .ref h_output, .int h_illAt, .ref h_format, .int h_sections, .int h_items, .ref h_kind, .ref h_what, .ref h_of, .ref h_relation, .ref h_bound, .int h_reads, .int h_readSections, .ref h_readKind, .ref h_readWhat, .ref h_readOf, .ref h_place, .ref h_readRelation, .ref h_readBound, .int h_stop, .ref h_meant, .ref h_row, .ref h_exact, .ref h_error, .ref h_bestError, .long h_m, .int h_e, .ref h_digits, .int h_whole])), (h_text, .inl (cI, 256, .inl h_textF)), (h_readKind, .inl (cI, 260, .inl h_readKindF)), (h_readWhat, .inl (cI, 260, .inl h_readWhatF))] sz) [(h, .inr (9, [.int h_code, .int h_taped, .ref h_tape, .int h_size, .ref h_text, .double h_value, .int h_out, .ref h_output, .int h_illAt, .ref h_format, .int h_sections, .int h_items, .ref h_kind, .ref h_what, .ref h_of, .ref h_relation, .ref h_bound, .int h_reads, .int h_readSections, .ref h_readKind, .ref h_readWhat, .ref h_readOf, .ref h_place, .ref h_readRelation, .ref h_readBound, .int h_stop2, .ref h_meant, .ref h_row, .ref h_exact, .ref h_error, .ref h_bestError, .long h_m, .int h_e, .ref h_digits, .int h_whole])), (h_text, .inl (cI, 256, .inl h_textF)), (h_readKind, .inl (cI, 260, .inl h_readKindF2)), (h_readWhat, .inl (cI, 260, .inl h_readWhatF2))]) (va_A [(h, .inr (9, [.int h_code, .int h_taped, .ref h_tape, .int h_size, .ref h_text, .double h_value, .int h_out, .ref h_output, .int h_illAt, .ref h_format, .int h_sections, .int h_items, .ref h_kind, .ref h_what, .ref h_of, .ref h_relation, .ref h_bound, .int h_reads, .int h_readSections, .ref h_readKind, .ref h_readWhat, .ref h_readOf, .ref h_place, .ref h_readRelation, .ref h_readBound, .int h_stop, .ref h_meant, .ref h_row, .ref h_exact, .ref h_error, .ref h_bestError, .long h_m, .int h_e, .ref h_digits, .int h_whole])), (h_text, .inl (cI, 256, .inl h_textF)), (h_readKind, .inl (cI, 260, .inl h_readKindF)), (h_readWhat, .inl (cI, 260, .inl h_readWhatF))] sz)) 0 0 (va_A [(h, .inr (9, [.int h_code, .int h_taped, .ref h_tape, .int h_size, .ref h_text, .double h_value, .int h_out, .ref h_output, .int h_illAt, .ref h_format, .int h_sections, .int h_items, .ref h_kind, .ref h_what, .ref h_of, .ref h_relation, .ref h_bound, .int h_reads, .int h_readSections, .ref h_readKind, .ref h_readWhat, .ref h_readOf, .ref h_place, .ref h_readRelation, .ref h_readBound, .int h_stop, .ref h_meant, .ref h_row, .ref h_exact, .ref h_error, .ref h_bestError, .long h_m, .int h_e, .ref h_digits, .int h_whole])), (h_text, .inl (cI, 256, .inl h_textF)), (h_readKind, .inl (cI, 260, .inl h_readKindF)), (h_readWhat, .inl (cI, 260, .inl h_readWhatF))] sz) := by
  refine Met.ofW (cc := cX12_readDivisor) (maxL := 4) (ret := none) (by decide +kernel) rfl ?_
  intro p e s m args below meth c s₁ B hml hv
  obtain ⟨rfl, hsz, hP, hK, hD0⟩ := hv
  have hx := B.exec
  have hb := B.bytes
  have hr := B.returns
  have hts := atoms_spec (ws := pw_X12_readDivisor) B.pre
  have hown : s.vm.findClass RX12 = some m.cls := findClass_of_methodNamed B.named
  have hlocks := B.notSynchronized
  subst hsz
  have hD := hD0.self (sz := s.heap.size)
  generalize hAe : va_A [(h, .inr (9, [.int h_code, .int h_taped, .ref h_tape, .int h_size, .ref h_text, .double h_value, .int h_out, .ref h_output, .int h_illAt, .ref h_format, .int h_sections, .int h_items, .ref h_kind, .ref h_what, .ref h_of, .ref h_relation, .ref h_bound, .int h_reads, .int h_readSections, .ref h_readKind, .ref h_readWhat, .ref h_readOf, .ref h_place, .ref h_readRelation, .ref h_readBound, .int h_stop, .ref h_meant, .ref h_row, .ref h_exact, .ref h_error, .ref h_bestError, .long h_m, .int h_e, .ref h_digits, .int h_whole])), (h_text, .inl (cI, 256, .inl h_textF)), (h_readKind, .inl (cI, 260, .inl h_readKindF)), (h_readWhat, .inl (cI, 260, .inl h_readWhatF))] s.heap.size = A at hD ⊢
  have hA : ∀ q : Nat, s.heap.size ≤ q → A q := fun q h => by rw [← hAe]; exact Or.inr h
  have hS : va_S A s.heap s.heap [] := va_S.rf
  have hw : ∀ (k : Nat) (w : Cond), ow_X12_readDivisor[k]? = some w → w.before _ s = true := fun k w h => hts w (List.mem_cons_of_mem _ (have h9 := List.mem_of_getElem? h; List.mem_append_left _ h9))
  have i_X12_item : ∀ w ∈ pw_X12_item, w ∈ pw_X12_readDivisor := fun w h9 => List.mem_cons_of_mem _ (List.mem_append_right _ (List.mem_append_left _ h9))
  have i_X12_here : ∀ w ∈ pw_X12_here, w ∈ pw_X12_readDivisor := fun w h9 => List.mem_cons_of_mem _ (List.mem_append_right _ (List.mem_append_right _ (List.mem_append_left _ h9)))
  have i_X12_isDigit : ∀ w ∈ pw_X12_isDigit, w ∈ pw_X12_readDivisor := fun w h9 => List.mem_cons_of_mem _ (List.mem_append_right _ (List.mem_append_right _ (List.mem_append_right _ (h9))))
  have n_0 : ((0 : Int32)).toInt = 0 := by decide
  have n_1 : ((1 : Int32)).toInt = 1 := by decide
  have n_10 : ((10 : Int32)).toInt = 10 := by decide
  have n_13 : ((13 : Int32)).toInt = 13 := by decide
  have n_3 : ((3 : Int32)).toInt = 3 := by decide
  have n_48 : ((48 : Int32)).toInt = 48 := by decide
  have hl := lv_entry ([.ref h, .int p1]) (n := 4) (Nat.le_of_ble_eq_true rfl)
  rw [lg_entry_eq]
  generalize (lg_sl ([.ref h, .int p1]) ++ List.replicate (4 - (lg_sl ([.ref h, .int p1])).length) Slot.unset).toArray = ls at hl ⊢
  have hl : lv_has ls 4 [(0, .ref h), (1, .int p1)] := hl
  have b_p1 := ti_b p1
  refine zz_cap (fun Z hZ1 hZ2 => ?_)
  refine lv_iconst (v := 0) hx hb dX12_readDivisor_0 (by decide) ?_
  refine lv_istore_n (lv' := [(2, .int 0), (0, .ref h), (1, .int p1)]) hx hb dX12_readDivisor_1 rfl hl (by decide) rfl (fun ls hl => ?_)
  refine lv_iconst (v := 0) hx hb dX12_readDivisor_2 (by decide) ?_
  refine lv_istore_n (lv' := [(3, .int 0), (2, .int 0), (0, .ref h), (1, .int p1)]) hx hb dX12_readDivisor_3 rfl hl (by decide) rfl (fun ls hl => ?_)
  have L_4 : ∀ (N : Nat) (x_1 : Int32) (x_2 : Int32) (H : Heap) (locs : List Loc) (ls : Array Slot), (0 ≤ (x_1 : Int32).toInt) → ((x_1 : Int32).toInt ≤ 3) → ((x_1 : Int32).toInt = 0 → 0 ≤ (x_2 : Int32).toInt ∧ (x_2 : Int32).toInt ≤ 0) → ((x_1 : Int32).toInt = 1 → -48 ≤ (x_2 : Int32).toInt ∧ (x_2 : Int32).toInt ≤ 207) → ((x_1 : Int32).toInt = 2 → -528 ≤ (x_2 : Int32).toInt ∧ (x_2 : Int32).toInt ≤ 2277) → ((x_1 : Int32).toInt = 3 → -5328 ≤ (x_2 : Int32).toInt ∧ (x_2 : Int32).toInt ≤ 22977) → ((2147483647 - (x_1 : Int32).toInt).toNat < N) → va_P D vwCl [(h, .inr (9, [.int h_code, .int h_taped, .ref h_tape, .int h_size, .ref h_text, .double h_value, .int h_out, .ref h_output, .int h_illAt, .ref h_format, .int h_sections, .int h_items, .ref h_kind, .ref h_what, .ref h_of, .ref h_relation, .ref h_bound, .int h_reads, .int h_readSections, .ref h_readKind, .ref h_readWhat, .ref h_readOf, .ref h_place, .ref h_readRelation, .ref h_readBound, .int h_stop, .ref h_meant, .ref h_row, .ref h_exact, .ref h_error, .ref h_bestError, .long h_m, .int h_e, .ref h_digits, .int h_whole])), (h_text, .inl (cI, 256, .inl h_textF)), (h_readKind, .inl (cI, 260, .inl h_readKindF)), (h_readWhat, .inl (cI, 260, .inl h_readWhatF))] H → va_D A [(h, .inr (9, [.int h_code, .int h_taped, .ref h_tape, .int h_size, .ref h_text, .double h_value, .int h_out, .ref h_output, .int h_illAt, .ref h_format, .int h_sections, .int h_items, .ref h_kind, .ref h_what, .ref h_of, .ref h_relation, .ref h_bound, .int h_reads, .int h_readSections, .ref h_readKind, .ref h_readWhat, .ref h_readOf, .ref h_place, .ref h_readRelation, .ref h_readBound, .int h_stop, .ref h_meant, .ref h_row, .ref h_exact, .ref h_error, .ref h_bestError, .long h_m, .int h_e, .ref h_digits, .int h_whole])), (h_text, .inl (cI, 256, .inl h_textF)), (h_readKind, .inl (cI, 260, .inl h_readKindF)), (h_readWhat, .inl (cI, 260, .inl h_readWhatF))] → va_S A s.heap H locs → lv_has ls 4 [(3, .int x_1), (2, .int x_2), (0, .ref h), (1, .int p1)] → Z 0 0 H locs (F0 m 4 ls []) := by
    intro N
    induction N with
    | zero => intro _ _ _ _ _ _ _ _ _ _ _ hmu; exact absurd hmu (Nat.not_lt_zero _)
    | succ N ih_4 =>
      intro x_1 x_2 H locs ls g4_0 g4_1 g4_2 g4_3 g4_4 g4_5 hmu hP hD hS hl
      refine hZ2 ?_
      refine lv_iload_n hx hb dX12_readDivisor_4 rfl (lv_at hl 0 rfl) ?_
      refine lv_iconst (v := 3) hx hb dX12_readDivisor_5 (by decide) ?_
      have K_44 : ∀ (H : Heap) (locs : List Loc) (ls : Array Slot), (1 ≤ (x_1 : Int32).toInt) → ((x_1 : Int32).toInt ≤ 3) → (-100000 ≤ (x_2 : Int32).toInt) → ((x_2 : Int32).toInt ≤ 100000) → va_P D vwCl [(h, .inr (9, [.int h_code, .int h_taped, .ref h_tape, .int h_size, .ref h_text, .double h_value, .int h_out, .ref h_output, .int h_illAt, .ref h_format, .int h_sections, .int h_items, .ref h_kind, .ref h_what, .ref h_of, .ref h_relation, .ref h_bound, .int h_reads, .int h_readSections, .ref h_readKind, .ref h_readWhat, .ref h_readOf, .ref h_place, .ref h_readRelation, .ref h_readBound, .int h_stop, .ref h_meant, .ref h_row, .ref h_exact, .ref h_error, .ref h_bestError, .long h_m, .int h_e, .ref h_digits, .int h_whole])), (h_text, .inl (cI, 256, .inl h_textF)), (h_readKind, .inl (cI, 260, .inl h_readKindF)), (h_readWhat, .inl (cI, 260, .inl h_readWhatF))] H → va_D A [(h, .inr (9, [.int h_code, .int h_taped, .ref h_tape, .int h_size, .ref h_text, .double h_value, .int h_out, .ref h_output, .int h_illAt, .ref h_format, .int h_sections, .int h_items, .ref h_kind, .ref h_what, .ref h_of, .ref h_relation, .ref h_bound, .int h_reads, .int h_readSections, .ref h_readKind, .ref h_readWhat, .ref h_readOf, .ref h_place, .ref h_readRelation, .ref h_readBound, .int h_stop, .ref h_meant, .ref h_row, .ref h_exact, .ref h_error, .ref h_bestError, .long h_m, .int h_e, .ref h_digits, .int h_whole])), (h_text, .inl (cI, 256, .inl h_textF)), (h_readKind, .inl (cI, 260, .inl h_readKindF)), (h_readWhat, .inl (cI, 260, .inl h_readWhatF))] → va_S A s.heap H locs → lv_has ls 4 [(3, .int x_1), (2, .int x_2), (0, .ref h), (1, .int p1)] → Z 0 0 H locs (F0 m 44 ls []) := by
        intro  H locs ls g44_0 g44_1 g44_2 g44_3 hP hD hS hl
        refine hZ2 ?_
        refine lv_aload_n hx hb dX12_readDivisor_44 rfl (lv_at hl 2 rfl) ?_
        refine lv_bipush (v := 13) hx hb dX12_readDivisor_45 (by decide) ?_
        refine lv_iload_n hx hb dX12_readDivisor_47 rfl (lv_at hl 1 rfl) ?_
        refine lv_iload_n hx hb dX12_readDivisor_48 rfl (lv_at hl 3 rfl) ?_
        refine lv_iload_n hx hb dX12_readDivisor_49 rfl (lv_at hl 0 rfl) ?_
        refine lv_iadd hx hb dX12_readDivisor_50 ?_
        refine lv_topi (fun x_3 ex_3 => ?_)
        have b_p1 := ti_b p1
        have b_x_1 := ti_b x_1
        have tx_3 := ti_add ex_3
        have hPc := hP.sub (ws' := [(h, .inr (9, [.int h_code, .int h_taped, .ref h_tape, .int h_size, .ref h_text, .double h_value, .int h_out, .ref h_output, .int h_illAt, .ref h_format, .int h_sections, .int h_items, .ref h_kind, .ref h_what, .ref h_of, .ref h_relation, .ref h_bound, .int h_reads, .int h_readSections, .ref h_readKind, .ref h_readWhat, .ref h_readOf, .ref h_place, .ref h_readRelation, .ref h_readBound, .int h_stop, .ref h_meant, .ref h_row, .ref h_exact, .ref h_error, .ref h_bestError, .long h_m, .int h_e, .ref h_digits, .int h_whole])), (h_readKind, .inl (cI, 260, .inl h_readKindF)), (h_readWhat, .inl (cI, 260, .inl h_readWhatF))]) [0, 2, 3] rfl
        have hDc := hD.sub (ws' := [(h, .inr (9, [.int h_code, .int h_taped, .ref h_tape, .int h_size, .ref h_text, .double h_value, .int h_out, .ref h_output, .int h_illAt, .ref h_format, .int h_sections, .int h_items, .ref h_kind, .ref h_what, .ref h_of, .ref h_relation, .ref h_bound, .int h_reads, .int h_readSections, .ref h_readKind, .ref h_readWhat, .ref h_readOf, .ref h_place, .ref h_readRelation, .ref h_readBound, .int h_stop, .ref h_meant, .ref h_row, .ref h_exact, .ref h_error, .ref h_bestError, .long h_m, .int h_e, .ref h_digits, .int h_whole])), (h_readKind, .inl (cI, 260, .inl h_readKindF)), (h_readWhat, .inl (cI, 260, .inl h_readWhatF))]) [0, 2, 3] (by decide) rfl
        have hFc := va_free (wc := [(h, .inr (9, [.int h_code, .int h_taped, .ref h_tape, .int h_size, .ref h_text, .double h_value, .int h_out, .ref h_output, .int h_illAt, .ref h_format, .int h_sections, .int h_items, .ref h_kind, .ref h_what, .ref h_of, .ref h_relation, .ref h_bound, .int h_reads, .int h_readSections, .ref h_readKind, .ref h_readWhat, .ref h_readOf, .ref h_place, .ref h_readRelation, .ref h_readBound, .int h_stop, .ref h_meant, .ref h_row, .ref h_exact, .ref h_error, .ref h_bestError, .long h_m, .int h_e, .ref h_digits, .int h_whole])), (h_readKind, .inl (cI, 260, .inl h_readKindF)), (h_readWhat, .inl (cI, 260, .inl h_readWhatF))]) hD hS hA [0, 2, 3] rfl
        refine va_callv (va_runV (As := [.int 13, .int x_2, .int x_3]) (rest := []) ⟨hx, hb, hml, hown, hts⟩ (c_X12_item l D cI cD cJ H.size h h_code h_taped h_tape h_size h_text h_value h_out h_output h_illAt h_format h_sections h_items h_kind h_what h_of h_relation h_bound h_reads h_readSections h_readKind h_readWhat h_readOf h_place h_readRelation h_readBound h_stop h_meant h_row h_exact h_error h_bestError h_m h_e h_digits h_whole h_readKindF h_readWhatF 13 x_2 x_3 (by omega) (by omega) (by omega) (by omega) (by omega) (by assumption) (by omega) (by omega) (by omega) (by omega) (by omega) (by omega) (by assumption) (by assumption)) (cwV 3 hts (goodIn_app (goodIn_r _ [1, 2, 3, 4] rfl (by decide +kernel)) (goodIn_sub i_X12_item k_X12_item)) rfl rfl rfl (by decide +kernel) ⟨Nat.le_of_ble_eq_true rfl, Nat.le_of_ble_eq_true rfl⟩) ⟨fun a U g mk q => by obtain ⟨q0, q1, qP, qK, qD⟩ := q; exact ⟨q0, q1, qP, va_K.moved (u := U) (U := U.calling g mk a) (Vm.Alike.refl U.vm) qK, qD⟩, va_recv hK hPc (ci := 9) (q0 := 0) rfl rfl, fun U hU hW => ⟨rfl, by rw [hU], by rw [hU]; exact hPc, va_K.moved hW.alike hK, hDc.weaken (fun _ _ _ _ => trivial)⟩⟩ rfl rfl hl.1 rfl (lv_room (Nat.le_of_ble_eq_true rfl)) dX12_readDivisor_51 ⟨Nat.le_of_ble_eq_true rfl, Nat.le_of_ble_eq_true rfl⟩) hS (fun q _ h => hFc q h) hFc (fun u t H1 locs ht hvm w_4 hB hz1 hk1 hS => ?_)
        obtain ⟨u_5, u_6, u_7⟩ := u
        obtain ⟨hP1, hK1, hD1⟩ := hB
        rw [ht] at hP1
        try dsimp only at w_4
        obtain ⟨hP, hD⟩ := va_join (wr := [(h_text, .inl (cI, 256, .inl h_textF))]) (w1 := [(h, .inr (9, [.int h_code, .int h_taped, .ref h_tape, .int h_size, .ref h_text, .double h_value, .int h_out, .ref h_output, .int h_illAt, .ref h_format, .int h_sections, .int h_items, .ref h_kind, .ref h_what, .ref h_of, .ref h_relation, .ref h_bound, .int h_reads, .int h_readSections, .ref h_readKind, .ref h_readWhat, .ref h_readOf, .ref h_place, .ref h_readRelation, .ref h_readBound, .int u_5, .ref h_meant, .ref h_row, .ref h_exact, .ref h_error, .ref h_bestError, .long h_m, .int h_e, .ref h_digits, .int h_whole])), (h_readKind, .inl (cI, 260, .inl u_6)), (h_readWhat, .inl (cI, 260, .inl u_7))]) hP hD [0, 2, 3] [1] rfl rfl (by decide) (by decide) hk1 hFc hP1 hD1
        generalize H1 = H at hP hS ⊢
        have hP : va_P D vwCl [(h_text, .inl (cI, 256, .inl h_textF)), (h, .inr (9, [.int h_code, .int h_taped, .ref h_tape, .int h_size, .ref h_text, .double h_value, .int h_out, .ref h_output, .int h_illAt, .ref h_format, .int h_sections, .int h_items, .ref h_kind, .ref h_what, .ref h_of, .ref h_relation, .ref h_bound, .int h_reads, .int h_readSections, .ref h_readKind, .ref h_readWhat, .ref h_readOf, .ref h_place, .ref h_readRelation, .ref h_readBound, .int u_5, .ref h_meant, .ref h_row, .ref h_exact, .ref h_error, .ref h_bestError, .long h_m, .int h_e, .ref h_digits, .int h_whole])), (h_readKind, .inl (cI, 260, .inl u_6)), (h_readWhat, .inl (cI, 260, .inl u_7))] H := hP
        have hD : va_D A [(h_text, .inl (cI, 256, .inl h_textF)), (h, .inr (9, [.int h_code, .int h_taped, .ref h_tape, .int h_size, .ref h_text, .double h_value, .int h_out, .ref h_output, .int h_illAt, .ref h_format, .int h_sections, .int h_items, .ref h_kind, .ref h_what, .ref h_of, .ref h_relation, .ref h_bound, .int h_reads, .int h_readSections, .ref h_readKind, .ref h_readWhat, .ref h_readOf, .ref h_place, .ref h_readRelation, .ref h_readBound, .int u_5, .ref h_meant, .ref h_row, .ref h_exact, .ref h_error, .ref h_bestError, .long h_m, .int h_e, .ref h_digits, .int h_whole])), (h_readKind, .inl (cI, 260, .inl u_6)), (h_readWhat, .inl (cI, 260, .inl u_7))] := hD
        obtain ⟨w_4_0, w_4_1, w_4_2⟩ := w_4
        have hP9 := hP.sub (ws' := [(h, .inr (9, [.int h_code, .int h_taped, .ref h_tape, .int h_size, .ref h_text, .double h_value, .int h_out, .ref h_output, .int h_illAt, .ref h_format, .int h_sections, .int h_items, .ref h_kind, .ref h_what, .ref h_of, .ref h_relation, .ref h_bound, .int h_reads, .int h_readSections, .ref h_readKind, .ref h_readWhat, .ref h_readOf, .ref h_place, .ref h_readRelation, .ref h_readBound, .int u_5, .ref h_meant, .ref h_row, .ref h_exact, .ref h_error, .ref h_bestError, .long h_m, .int h_e, .ref h_digits, .int h_whole])), (h_text, .inl (cI, 256, .inl h_textF)), (h_readKind, .inl (cI, 260, .inl u_6)), (h_readWhat, .inl (cI, 260, .inl u_7))]) [1, 0, 2, 3] rfl
        have hD9 := hD.sub (ws' := [(h, .inr (9, [.int h_code, .int h_taped, .ref h_tape, .int h_size, .ref h_text, .double h_value, .int h_out, .ref h_output, .int h_illAt, .ref h_format, .int h_sections, .int h_items, .ref h_kind, .ref h_what, .ref h_of, .ref h_relation, .ref h_bound, .int h_reads, .int h_readSections, .ref h_readKind, .ref h_readWhat, .ref h_readOf, .ref h_place, .ref h_readRelation, .ref h_readBound, .int u_5, .ref h_meant, .ref h_row, .ref h_exact, .ref h_error, .ref h_bestError, .long h_m, .int h_e, .ref h_digits, .int h_whole])), (h_text, .inl (cI, 256, .inl h_textF)), (h_readKind, .inl (cI, 260, .inl u_6)), (h_readWhat, .inl (cI, 260, .inl u_7))]) [1, 0, 2, 3] (by decide) rfl
        exact W.vret hx hb hr (fun t ht hW => ⟨⟨(u_5, u_6, u_7), rfl, (by (try dsimp only); refine ⟨?_, ?_, ?_⟩ <;> first | omega | assumption), by rw [ht]; exact hP9, va_K.moved hW.alike hK, hD9⟩, hS.F ht⟩) hS.2.2 dX12_readDivisor_54
      refine lv_icmp_ge (tgt := 44) hx hb dX12_readDivisor_6 (by decide) (fun c_8 => ?_) (fun c_8 => ?_)
      · have ic_8 : (3 : Int32).toInt ≤ (x_1 : Int32).toInt := (fa_le 3 x_1).mp c_8
        exact hZ1 (K_44  _ _ _ (by omega) (by omega) (by omega) (by omega) hP hD hS hl)
      · have ic_8 : ¬ ((3 : Int32).toInt ≤ (x_1 : Int32).toInt) := fun h9 => c_8 ((fa_le 3 x_1).mpr h9)
        refine lv_aload_n hx hb dX12_readDivisor_9 rfl (lv_at hl 2 rfl) ?_
        refine lv_iload_n hx hb dX12_readDivisor_10 rfl (lv_at hl 3 rfl) ?_
        refine lv_iload_n hx hb dX12_readDivisor_11 rfl (lv_at hl 0 rfl) ?_
        refine lv_iadd hx hb dX12_readDivisor_12 ?_
        refine lv_topi (fun x_9 ex_9 => ?_)
        have b_p1 := ti_b p1
        have b_x_1 := ti_b x_1
        have tx_9 := ti_add ex_9
        have hPc := hP.sub (ws' := [(h, .inr (9, [.int h_code, .int h_taped, .ref h_tape, .int h_size, .ref h_text, .double h_value, .int h_out, .ref h_output, .int h_illAt, .ref h_format, .int h_sections, .int h_items, .ref h_kind, .ref h_what, .ref h_of, .ref h_relation, .ref h_bound, .int h_reads, .int h_readSections, .ref h_readKind, .ref h_readWhat, .ref h_readOf, .ref h_place, .ref h_readRelation, .ref h_readBound, .int h_stop, .ref h_meant, .ref h_row, .ref h_exact, .ref h_error, .ref h_bestError, .long h_m, .int h_e, .ref h_digits, .int h_whole])), (h_text, .inl (cI, 256, .inl h_textF))]) [0, 1] rfl
        refine va_calli (va_runV (As := [.int x_9]) (rest := []) ⟨hx, hb, hml, hown, hts⟩ (c_X12_here l D cI cD cJ H.size h h_code h_taped h_tape h_size h_text h_value h_out h_output h_illAt h_format h_sections h_items h_kind h_what h_of h_relation h_bound h_reads h_readSections h_readKind h_readWhat h_readOf h_place h_readRelation h_readBound h_stop h_meant h_row h_exact h_error h_bestError h_m h_e h_digits h_whole h_textF x_9 (by omega) (by omega) (by omega) (by assumption) (by omega) (by omega) (by omega) (by omega) (by omega) (by omega) (by assumption)) (cwV 1 hts (goodIn_app (goodIn_r _ [5, 6, 7, 4] rfl (by decide +kernel)) (goodIn_sub i_X12_here k_X12_here)) rfl rfl rfl (by decide +kernel) ⟨Nat.le_of_ble_eq_true rfl, Nat.le_of_ble_eq_true rfl⟩) ⟨fun a U g mk q => by obtain ⟨q0, qP, qK⟩ := q; exact ⟨q0, qP, va_K.moved (u := U) (U := U.calling g mk a) (Vm.Alike.refl U.vm) qK⟩, va_recv hK hPc (ci := 9) (q0 := 0) rfl rfl, fun U hU hW => ⟨rfl, by rw [hU]; exact hPc, va_K.moved hW.alike hK⟩⟩ rfl rfl hl.1 rfl (lv_room (Nat.le_of_ble_eq_true rfl)) dX12_readDivisor_13 ⟨Nat.le_of_ble_eq_true rfl, Nat.le_of_ble_eq_true rfl⟩) hS (fun q _ h => h.elim) (fun q h => h.elim) (fun x_10 u t H1 locs ht hvm w_11 hB hz1 hk1 hS => ?_)
        have hP : va_P D vwCl [(h, .inr (9, [.int h_code, .int h_taped, .ref h_tape, .int h_size, .ref h_text, .double h_value, .int h_out, .ref h_output, .int h_illAt, .ref h_format, .int h_sections, .int h_items, .ref h_kind, .ref h_what, .ref h_of, .ref h_relation, .ref h_bound, .int h_reads, .int h_readSections, .ref h_readKind, .ref h_readWhat, .ref h_readOf, .ref h_place, .ref h_readRelation, .ref h_readBound, .int h_stop, .ref h_meant, .ref h_row, .ref h_exact, .ref h_error, .ref h_bestError, .long h_m, .int h_e, .ref h_digits, .int h_whole])), (h_text, .inl (cI, 256, .inl h_textF)), (h_readKind, .inl (cI, 260, .inl h_readKindF)), (h_readWhat, .inl (cI, 260, .inl h_readWhatF))] H1 := hP.kept (fun k9 q9 h9 => hk1 q9.1 (vx_lt hP h9) (fun h => h))
        generalize H1 = H at hP hS ⊢
        try dsimp only at w_11
        have hA9 := w_11.1
        have hA8 : x_1.toInt = 0 → (x_10 : Int32).toInt = (hereF h_textF h_size p1).toInt := fun h9 => hereF_eq hA9 rfl (by omega)
        have hPc := hP.sub (ws' := []) [] rfl
        refine va_calli (va_runS (As := [.int x_10]) (rest := []) ⟨hx, hb, hml, hown, hts⟩ (c_X12_isDigit l D cI cD cJ H.size x_10) (va_cwS 1 hts (goodIn_app (goodIn_r _ [8, 9, 4] rfl (by decide +kernel)) (goodIn_sub i_X12_isDigit k_X12_isDigit)) rfl rfl rfl (by decide +kernel) ⟨Nat.le_of_ble_eq_true rfl, Nat.le_of_ble_eq_true rfl⟩) ⟨fun a U g mk q => by obtain ⟨q0, qP, qK⟩ := q; exact ⟨q0, qP, va_K.moved (u := U) (U := U.calling g mk a) (Vm.Alike.refl U.vm) qK⟩, fun U hU hW => ⟨rfl, by rw [hU]; exact hPc, va_K.moved hW.alike hK⟩⟩ rfl rfl hl.1 rfl (lv_room (Nat.le_of_ble_eq_true rfl)) dX12_readDivisor_16 ⟨Nat.le_of_ble_eq_true rfl, Nat.le_of_ble_eq_true rfl⟩) hS (fun q _ h => h.elim) (fun q h => h.elim) (fun x_12 u t H1 locs ht hvm w_13 hB hz1 hk1 hS => ?_)
        have hP : va_P D vwCl [(h, .inr (9, [.int h_code, .int h_taped, .ref h_tape, .int h_size, .ref h_text, .double h_value, .int h_out, .ref h_output, .int h_illAt, .ref h_format, .int h_sections, .int h_items, .ref h_kind, .ref h_what, .ref h_of, .ref h_relation, .ref h_bound, .int h_reads, .int h_readSections, .ref h_readKind, .ref h_readWhat, .ref h_readOf, .ref h_place, .ref h_readRelation, .ref h_readBound, .int h_stop, .ref h_meant, .ref h_row, .ref h_exact, .ref h_error, .ref h_bestError, .long h_m, .int h_e, .ref h_digits, .int h_whole])), (h_text, .inl (cI, 256, .inl h_textF)), (h_readKind, .inl (cI, 260, .inl h_readKindF)), (h_readWhat, .inl (cI, 260, .inl h_readWhatF))] H1 := hP.kept (fun k9 q9 h9 => hk1 q9.1 (vx_lt hP h9) (fun h => h))
        generalize H1 = H at hP hS ⊢
        try dsimp only at w_13
        obtain ⟨w_13_0, w_13_1⟩ := w_13
        have b_x_12 := ti_b x_12
        refine lv_if_eq (tgt := 44) hx hb dX12_readDivisor_19 (by decide) (fun c_14 => ?_) (fun c_14 => ?_)
        · have ic_14 : (x_12 : Int32).toInt = (0 : Int32).toInt := (fa_eq x_12 0).mp c_14
          exact hZ1 (K_44  _ _ _ (by omega) (by omega) (by omega) (by omega) hP hD hS hl)
        · have ic_14 : ¬ ((x_12 : Int32).toInt = (0 : Int32).toInt) := fun h9 => c_14 ((fa_eq x_12 0).mpr h9)
          refine lv_bipush (v := 10) hx hb dX12_readDivisor_22 (by decide) ?_
          refine lv_iload_n hx hb dX12_readDivisor_24 rfl (lv_at hl 1 rfl) ?_
          refine lv_imul hx hb dX12_readDivisor_25 ?_
          refine lv_topi (fun x_15 ex_15 => ?_)
          have tx_15 := ti_mul ex_15
          rw [n_10] at tx_15
          refine lv_aload_n hx hb dX12_readDivisor_26 rfl (lv_at hl 2 rfl) ?_
          refine lv_iload_n hx hb dX12_readDivisor_27 rfl (lv_at hl 3 rfl) ?_
          refine lv_iload_n hx hb dX12_readDivisor_28 rfl (lv_at hl 0 rfl) ?_
          refine lv_iadd hx hb dX12_readDivisor_29 ?_
          refine lv_topi (fun x_16 ex_16 => ?_)
          have b_p1 := ti_b p1
          have b_x_1 := ti_b x_1
          have tx_16 := ti_add ex_16
          have hPc := hP.sub (ws' := [(h, .inr (9, [.int h_code, .int h_taped, .ref h_tape, .int h_size, .ref h_text, .double h_value, .int h_out, .ref h_output, .int h_illAt, .ref h_format, .int h_sections, .int h_items, .ref h_kind, .ref h_what, .ref h_of, .ref h_relation, .ref h_bound, .int h_reads, .int h_readSections, .ref h_readKind, .ref h_readWhat, .ref h_readOf, .ref h_place, .ref h_readRelation, .ref h_readBound, .int h_stop, .ref h_meant, .ref h_row, .ref h_exact, .ref h_error, .ref h_bestError, .long h_m, .int h_e, .ref h_digits, .int h_whole])), (h_text, .inl (cI, 256, .inl h_textF))]) [0, 1] rfl
          refine va_calli (va_runV (As := [.int x_16]) (rest := [.int x_15]) ⟨hx, hb, hml, hown, hts⟩ (c_X12_here l D cI cD cJ H.size h h_code h_taped h_tape h_size h_text h_value h_out h_output h_illAt h_format h_sections h_items h_kind h_what h_of h_relation h_bound h_reads h_readSections h_readKind h_readWhat h_readOf h_place h_readRelation h_readBound h_stop h_meant h_row h_exact h_error h_bestError h_m h_e h_digits h_whole h_textF x_16 (by omega) (by omega) (by omega) (by assumption) (by omega) (by omega) (by omega) (by omega) (by omega) (by omega) (by assumption)) (cwV 1 hts (goodIn_app (goodIn_r _ [5, 6, 7, 4] rfl (by decide +kernel)) (goodIn_sub i_X12_here k_X12_here)) rfl rfl rfl (by decide +kernel) ⟨Nat.le_of_ble_eq_true rfl, Nat.le_of_ble_eq_true rfl⟩) ⟨fun a U g mk q => by obtain ⟨q0, qP, qK⟩ := q; exact ⟨q0, qP, va_K.moved (u := U) (U := U.calling g mk a) (Vm.Alike.refl U.vm) qK⟩, va_recv hK hPc (ci := 9) (q0 := 0) rfl rfl, fun U hU hW => ⟨rfl, by rw [hU]; exact hPc, va_K.moved hW.alike hK⟩⟩ rfl rfl hl.1 rfl (lv_room (Nat.le_of_ble_eq_true rfl)) dX12_readDivisor_30 ⟨Nat.le_of_ble_eq_true rfl, Nat.le_of_ble_eq_true rfl⟩) hS (fun q _ h => h.elim) (fun q h => h.elim) (fun x_17 u t H1 locs ht hvm w_18 hB hz1 hk1 hS => ?_)
          have hP : va_P D vwCl [(h, .inr (9, [.int h_code, .int h_taped, .ref h_tape, .int h_size, .ref h_text, .double h_value, .int h_out, .ref h_output, .int h_illAt, .ref h_format, .int h_sections, .int h_items, .ref h_kind, .ref h_what, .ref h_of, .ref h_relation, .ref h_bound, .int h_reads, .int h_readSections, .ref h_readKind, .ref h_readWhat, .ref h_readOf, .ref h_place, .ref h_readRelation, .ref h_readBound, .int h_stop, .ref h_meant, .ref h_row, .ref h_exact, .ref h_error, .ref h_bestError, .long h_m, .int h_e, .ref h_digits, .int h_whole])), (h_text, .inl (cI, 256, .inl h_textF)), (h_readKind, .inl (cI, 260, .inl h_readKindF)), (h_readWhat, .inl (cI, 260, .inl h_readWhatF))] H1 := hP.kept (fun k9 q9 h9 => hk1 q9.1 (vx_lt hP h9) (fun h => h))
          generalize H1 = H at hP hS ⊢
          try dsimp only at w_18
          refine lv_iadd hx hb dX12_readDivisor_33 ?_
          refine lv_topi (fun x_19 ex_19 => ?_)
          have b_x_15 := ti_b x_15
          have b_x_17 := ti_b x_17
          have tx_19 := ti_add ex_19
          refine lv_bipush (v := 48) hx hb dX12_readDivisor_34 (by decide) ?_
          refine lv_isub hx hb dX12_readDivisor_36 ?_
          refine lv_topi (fun x_20 ex_20 => ?_)
          have tx_20 := ti_sub ex_20
          refine lv_istore_n (lv' := [(2, .int x_20), (3, .int x_1), (0, .ref h), (1, .int p1)]) hx hb dX12_readDivisor_37 rfl hl (by decide) rfl (fun ls hl => ?_)
          obtain ⟨x_21, ex_21⟩ : ∃ y : Int32, y = x_1 + 1 := ⟨_, rfl⟩
          have b_x_1 := ti_b x_1
          have tx_21 := ti_add ex_21
          refine lv_iinc (v := x_21) (lv' := [(3, .int x_21), (2, .int x_20), (0, .ref h), (1, .int p1)]) hx hb dX12_readDivisor_38 hl (k := 1) rfl (by rw [ex_21]; rfl) (by decide) rfl (fun ls hl => ?_)
          refine lv_goto (tgt := 4) hx hb dX12_readDivisor_41 (by decide) ?_
          exact hZ1 (ih_4 x_21 x_20 _ _ _ (by omega) (by omega) (by omega) (by omega) (by omega) (by omega) (by omega) hP hD hS hl)
  exact hZ1 (L_4 (((2147483647 - (0 : Int32).toInt).toNat) + 1) 0 0 _ _ _ (by omega) (by omega) (by omega) (by omega) (by omega) (by omega) (by omega) hP hD hS hl)

def ow_X12_readLetters : List Cond := [Cond.methodLink RX12 165 yX12_here, Cond.instanceMethod yX12_here, Cond.selects RX12 yX12_here yX12_here, Cond.initialized RX12, Cond.methodLink RX12 169 yX12_small, Cond.static yX12_small, Cond.methodLink RX12 181 yX12_item, Cond.instanceMethod yX12_item, Cond.selects RX12 yX12_item yX12_item]
def pw_X12_readLetters : List Cond := Cond.code yX12_readLetters cX12_readLetters 5 none :: (ow_X12_readLetters ++ (pw_X12_here ++ (pw_X12_small ++ (pw_X12_item))))
set_option maxRecDepth 20000 in
theorem mo_X12_readLetters : ∀ w ∈ ow_X12_readLetters, w ∈ lw_tbl := by decide +kernel
set_option maxRecDepth 20000 in
theorem mc_X12_readLetters : Cond.code yX12_readLetters cX12_readLetters 5 none ∈ lw_tbl := by decide +kernel
theorem m_X12_readLetters : ∀ w ∈ pw_X12_readLetters, w ∈ lw_tbl := List.forall_mem_cons.mpr ⟨mc_X12_readLetters, (List.forall_mem_append.mpr ⟨mo_X12_readLetters, (List.forall_mem_append.mpr ⟨m_X12_here, (List.forall_mem_append.mpr ⟨m_X12_small, m_X12_item⟩)⟩)⟩)⟩
theorem ko_X12_readLetters : ∀ w ∈ ow_X12_readLetters, goodWord w = true := by decide +kernel
theorem k_X12_readLetters : pw_X12_readLetters.all goodWord = true := List.all_eq_true.mpr (List.forall_mem_cons.mpr ⟨by decide +kernel, (List.forall_mem_append.mpr ⟨ko_X12_readLetters, (List.forall_mem_append.mpr ⟨(List.all_eq_true.mp k_X12_here), (List.forall_mem_append.mpr ⟨(List.all_eq_true.mp k_X12_small), (List.all_eq_true.mp k_X12_item)⟩)⟩)⟩)⟩)
set_option maxHeartbeats 400000 in
set_option maxRecDepth 100000 in
theorem c_X12_readLetters (l : Launch) (D : va_G) (cI cD cJ : ClassId) (sz : Nat) (h : Nat) (h_code : Int32) (h_taped : Int32) (h_tape : Nat) (h_size : Int32) (h_text : Nat) (h_value : UInt64) (h_out : Int32) (h_output : Nat) (h_illAt : Int32) (h_format : Nat) (h_sections : Int32) (h_items : Int32) (h_kind : Nat) (h_what : Nat) (h_of : Nat) (h_relation : Nat) (h_bound : Nat) (h_reads : Int32) (h_readSections : Int32) (h_readKind : Nat) (h_readWhat : Nat) (h_readOf : Nat) (h_place : Nat) (h_readRelation : Nat) (h_readBound : Nat) (h_stop : Int32) (h_meant : Nat) (h_row : Nat) (h_exact : Nat) (h_error : Nat) (h_bestError : Nat) (h_m : Int64) (h_e : Int32) (h_digits : Nat) (h_whole : Int32) (h_textF : Nat → Int32) (h_readKindF : Nat → Int32) (h_readWhatF : Nat → Int32) (p1 : Int32) (p2 : Int32) (hh0 : 0 ≤ p1.toInt) (hh1 : p1.toInt ≤ 255) (hh2 : 1 ≤ p2.toInt) (hh3 : p2.toInt ≤ 300) (hh4 : 1 ≤ (hereF h_textF h_size p1).toInt) (hh5 : ((hereF h_textF h_size p1).toInt = p2.toInt ∧ ¬ (65 ≤ (hereF h_textF h_size p1).toInt ∧ (hereF h_textF h_size p1).toInt ≤ 90)) ∨ (65 ≤ (hereF h_textF h_size p1).toInt ∧ (hereF h_textF h_size p1).toInt ≤ 90 ∧ p2.toInt = (hereF h_textF h_size p1).toInt + 32)) (iv_h_taped : 0 ≤ (h_taped : Int32).toInt ∧ (h_taped : Int32).toInt ≤ 260) (iv_h_size : 0 ≤ (h_size : Int32).toInt ∧ (h_size : Int32).toInt ≤ 255) (iv_h_value : inR h_value) (iv_h_out : 0 ≤ (h_out : Int32).toInt ∧ (h_out : Int32).toInt ≤ 1024) (iv_h_sections : 0 ≤ (h_sections : Int32).toInt ∧ (h_sections : Int32).toInt ≤ 4) (iv_h_items : 0 ≤ (h_items : Int32).toInt ∧ (h_items : Int32).toInt ≤ 255) (iv_h_reads : 0 ≤ (h_reads : Int32).toInt ∧ (h_reads : Int32).toInt ≤ 255) (iv_h_readSections : 0 ≤ (h_readSections : Int32).toInt ∧ (h_readSections : Int32).toInt ≤ 4) (iv_h_whole : 0 ≤ (h_whole : Int32).toInt ∧ (h_whole : Int32).toInt ≤ 1001) (iv_h_textF : ∀ k9 : Nat, k9 < 256 → 0 ≤ (h_textF k9).toInt ∧ (h_textF k9).toInt ≤ 255) (iv_h_readWhatF : ∀ k9 : Nat, k9 < 260 → -100000 ≤ (h_readWhatF k9).toInt ∧ (h_readWhatF k9).toInt ≤ 100000) (jv_h_readKindF : QK h_readKindF h_readWhatF) : Met l yX12_readLetters pw_X12_readLetters ({ frames := 1, cells := 0, slots := 0, locals := 23 }) (va_Pc [.ref h, .int p1, .int p2] (fun U => U.heap.size = sz ∧ va_P D vwCl [(h, .inr (9, [.int h_code, .int h_taped, .ref h_tape, .int h_size, .ref h_text, .double h_value, .int h_out, .ref h_output, .int h_illAt, .ref h_format, .int h_sections, .int h_items, .ref h_kind, .ref h_what, .ref h_of, .ref h_relation, .ref h_bound, .int h_reads, .int h_readSections, .ref h_readKind, .ref h_readWhat, .ref h_readOf, .ref h_place, .ref h_readRelation, .ref h_readBound, .int h_stop, .ref h_meant, .ref h_row, .ref h_exact, .ref h_error, .ref h_bestError, .long h_m, .int h_e, .ref h_digits, .int h_whole])), (h_text, .inl (cI, 256, .inl h_textF)), (h_readKind, .inl (cI, 260, .inl h_readKindF)), (h_readWhat, .inl (cI, 260, .inl h_readWhatF))] U.heap ∧ va_K D vwCl (ty3 cI cD cJ) U ∧ va_D (fun _ => True) [(h, .inr (9, [.int h_code, .int h_taped, .ref h_tape, .int h_size, .ref h_text, .double h_value, .int h_out, .ref h_output, .int h_illAt, .ref h_format, .int h_sections, .int h_items, .ref h_kind, .ref h_what, .ref h_of, .ref h_relation, .ref h_bound, .int h_reads, .int h_readSections, .ref h_readKind, .ref h_readWhat, .ref h_readOf, .ref h_place, .ref h_readRelation, .ref h_readBound, .int h_stop, .ref h_meant, .ref h_row, .ref h_exact, .ref h_error, .ref h_bestError, .long h_m, .int h_e, .ref h_digits, .int h_whole])), (h_text, .inl (cI, 256, .inl h_textF)), (h_readKind, .inl (cI, 260, .inl h_readKindF)), (h_readWhat, .inl (cI, 260, .inl h_readWhatF))])) (va_Qv (fun (u : Int32 × (Nat → Int32) × (Nat → Int32)) => match u with | (h_stop2, h_readKindF2, h_readWhatF2) => (p1.toInt < h_stop2.toInt ∧ h_stop2.toInt ≤ 600) ∧ (∀ k9 : Nat, k9 < 260 → -100000 ≤ (h_readWhatF2 k9).toInt ∧ (h_readWhatF2 k9).toInt ≤ 100000) ∧ (QK h_readKindF2 h_readWhatF2)) (fun (u : Int32 × (Nat → Int32) × (Nat → Int32)) (t : State) => match u with | (h_stop2, h_readKindF2, h_readWhatF2) => va_P D vwCl [(h, .inr (9, [.int h_code, .int h_taped, .ref h_tape, .int h_size, .ref h_text, .double h_value, .int h_out, .ref h_output, .int h_illAt, .ref h_format, .int h_sections, .int h_items, .ref h_kind, .ref h_what, .ref h_of, .ref h_relation, .ref h_bound, .int h_reads, .int h_readSections, .ref h_readKind, .ref h_readWhat, .ref h_readOf, .ref h_place, .ref h_readRelation, .ref h_readBound, .int h_stop2, .ref h_meant, .ref h_row, .ref h_exact, .ref h_error, .ref h_bestError, .long h_m, .int h_e, .ref h_digits, .int h_whole])), (h_text, .inl (cI, 256, .inl h_textF)), (h_readKind, .inl (cI, 260, .inl h_readKindF2)), (h_readWhat, .inl (cI, 260, .inl h_readWhatF2))] t.heap ∧ va_K D vwCl (ty3 cI cD cJ) t ∧ va_D (va_A [(h, .inr (9, [.int h_code, .int h_taped, .ref h_tape, .int h_size, .ref h_text, .double h_value, .int h_out, .ref h_output, .int h_illAt, .ref h_format, .int h_sections, .int h_items, .ref h_kind, .ref h_what, .ref h_of, .ref h_relation, .ref h_bound, .int h_reads, .int h_readSections, .ref h_readKind, .ref h_readWhat, .ref h_readOf, .ref h_place, .ref h_readRelation, .ref h_readBound, .int h_stop, .ref h_meant, .ref h_row, .ref h_exact, .ref h_error, .ref h_bestError, .long h_m, .int h_e, .ref h_digits, .int h_whole])), (h_text, .inl (cI, 256, .inl h_textF)), (h_readKind, .inl (cI, 260, .inl h_readKindF)), (h_readWhat, .inl (cI, 260, .inl h_readWhatF))] sz) [(h, .inr (9, [.int h_code, .int h_taped, .ref h_tape, .int h_size, .ref h_text, .double h_value, .int h_out, .ref h_output, .int h_illAt, .ref h_format, .int h_sections, .int h_items, .ref h_kind, .ref h_what, .ref h_of, .ref h_relation, .ref h_bound, .int h_reads, .int h_readSections, .ref h_readKind, .ref h_readWhat, .ref h_readOf, .ref h_place, .ref h_readRelation, .ref h_readBound, .int h_stop2, .ref h_meant, .ref h_row, .ref h_exact, .ref h_error, .ref h_bestError, .long h_m, .int h_e, .ref h_digits, .int h_whole])), (h_text, .inl (cI, 256, .inl h_textF)), (h_readKind, .inl (cI, 260, .inl h_readKindF2)), (h_readWhat, .inl (cI, 260, .inl h_readWhatF2))]) (va_A [(h, .inr (9, [.int h_code, .int h_taped, .ref h_tape, .int h_size, .ref h_text, .double h_value, .int h_out, .ref h_output, .int h_illAt, .ref h_format, .int h_sections, .int h_items, .ref h_kind, .ref h_what, .ref h_of, .ref h_relation, .ref h_bound, .int h_reads, .int h_readSections, .ref h_readKind, .ref h_readWhat, .ref h_readOf, .ref h_place, .ref h_readRelation, .ref h_readBound, .int h_stop, .ref h_meant, .ref h_row, .ref h_exact, .ref h_error, .ref h_bestError, .long h_m, .int h_e, .ref h_digits, .int h_whole])), (h_text, .inl (cI, 256, .inl h_textF)), (h_readKind, .inl (cI, 260, .inl h_readKindF)), (h_readWhat, .inl (cI, 260, .inl h_readWhatF))] sz)) 0 0 (va_A [(h, .inr (9, [.int h_code, .int h_taped, .ref h_tape, .int h_size, .ref h_text, .double h_value, .int h_out, .ref h_output, .int h_illAt, .ref h_format, .int h_sections, .int h_items, .ref h_kind, .ref h_what, .ref h_of, .ref h_relation, .ref h_bound, .int h_reads, .int h_readSections, .ref h_readKind, .ref h_readWhat, .ref h_readOf, .ref h_place, .ref h_readRelation, .ref h_readBound, .int h_stop, .ref h_meant, .ref h_row, .ref h_exact, .ref h_error, .ref h_bestError, .long h_m, .int h_e, .ref h_digits, .int h_whole])), (h_text, .inl (cI, 256, .inl h_textF)), (h_readKind, .inl (cI, 260, .inl h_readKindF)), (h_readWhat, .inl (cI, 260, .inl h_readWhatF))] sz) := by
  refine Met.ofW (cc := cX12_readLetters) (maxL := 5) (ret := none) (by decide +kernel) rfl ?_
  intro p e s m args below meth c s₁ B hml hv
  obtain ⟨rfl, hsz, hP, hK, hD0⟩ := hv
  have hx := B.exec
  have hb := B.bytes
  have hr := B.returns
  have hts := atoms_spec (ws := pw_X12_readLetters) B.pre
  have hown : s.vm.findClass RX12 = some m.cls := findClass_of_methodNamed B.named
  have hlocks := B.notSynchronized
  subst hsz
  have hD := hD0.self (sz := s.heap.size)
  generalize hAe : va_A [(h, .inr (9, [.int h_code, .int h_taped, .ref h_tape, .int h_size, .ref h_text, .double h_value, .int h_out, .ref h_output, .int h_illAt, .ref h_format, .int h_sections, .int h_items, .ref h_kind, .ref h_what, .ref h_of, .ref h_relation, .ref h_bound, .int h_reads, .int h_readSections, .ref h_readKind, .ref h_readWhat, .ref h_readOf, .ref h_place, .ref h_readRelation, .ref h_readBound, .int h_stop, .ref h_meant, .ref h_row, .ref h_exact, .ref h_error, .ref h_bestError, .long h_m, .int h_e, .ref h_digits, .int h_whole])), (h_text, .inl (cI, 256, .inl h_textF)), (h_readKind, .inl (cI, 260, .inl h_readKindF)), (h_readWhat, .inl (cI, 260, .inl h_readWhatF))] s.heap.size = A at hD ⊢
  have hA : ∀ q : Nat, s.heap.size ≤ q → A q := fun q h => by rw [← hAe]; exact Or.inr h
  have hS : va_S A s.heap s.heap [] := va_S.rf
  have hw : ∀ (k : Nat) (w : Cond), ow_X12_readLetters[k]? = some w → w.before _ s = true := fun k w h => hts w (List.mem_cons_of_mem _ (have h9 := List.mem_of_getElem? h; List.mem_append_left _ h9))
  have i_X12_here : ∀ w ∈ pw_X12_here, w ∈ pw_X12_readLetters := fun w h9 => List.mem_cons_of_mem _ (List.mem_append_right _ (List.mem_append_left _ h9))
  have i_X12_small : ∀ w ∈ pw_X12_small, w ∈ pw_X12_readLetters := fun w h9 => List.mem_cons_of_mem _ (List.mem_append_right _ (List.mem_append_right _ (List.mem_append_left _ h9)))
  have i_X12_item : ∀ w ∈ pw_X12_item, w ∈ pw_X12_readLetters := fun w h9 => List.mem_cons_of_mem _ (List.mem_append_right _ (List.mem_append_right _ (List.mem_append_right _ (h9))))
  have n_0 : ((0 : Int32)).toInt = 0 := by decide
  have n_1 : ((1 : Int32)).toInt = 1 := by decide
  have n_10 : ((10 : Int32)).toInt = 10 := by decide
  have n_104 : ((104 : Int32)).toInt = 104 := by decide
  have n_109 : ((109 : Int32)).toInt = 109 := by decide
  have n_115 : ((115 : Int32)).toInt = 115 := by decide
  have n_15 : ((15 : Int32)).toInt = 15 := by decide
  have n_2 : ((2 : Int32)).toInt = 2 := by decide
  have n_4 : ((4 : Int32)).toInt = 4 := by decide
  have n_5 : ((5 : Int32)).toInt = 5 := by decide
  have n_8 : ((8 : Int32)).toInt = 8 := by decide
  have hl := lv_entry ([.ref h, .int p1, .int p2]) (n := 5) (Nat.le_of_ble_eq_true rfl)
  rw [lg_entry_eq]
  generalize (lg_sl ([.ref h, .int p1, .int p2]) ++ List.replicate (5 - (lg_sl ([.ref h, .int p1, .int p2])).length) Slot.unset).toArray = ls at hl ⊢
  have hl : lv_has ls 5 [(0, .ref h), (1, .int p1), (2, .int p2)] := hl
  have b_p1 := ti_b p1
  have b_p2 := ti_b p2
  refine zz_cap (fun Z hZ1 hZ2 => ?_)
  refine lv_iconst (v := 0) hx hb dX12_readLetters_0 (by decide) ?_
  refine lv_istore_n (lv' := [(3, .int 0), (0, .ref h), (1, .int p1), (2, .int p2)]) hx hb dX12_readLetters_1 rfl hl (by decide) rfl (fun ls hl => ?_)
  have L_2 : ∀ (N : Nat) (x_1 : Int32) (H : Heap) (locs : List Loc) (ls : Array Slot), (0 ≤ (x_1 : Int32).toInt) → ((x_1 : Int32).toInt ≤ 256) → ((400 - (x_1 : Int32).toInt).toNat < N) → va_P D vwCl [(h, .inr (9, [.int h_code, .int h_taped, .ref h_tape, .int h_size, .ref h_text, .double h_value, .int h_out, .ref h_output, .int h_illAt, .ref h_format, .int h_sections, .int h_items, .ref h_kind, .ref h_what, .ref h_of, .ref h_relation, .ref h_bound, .int h_reads, .int h_readSections, .ref h_readKind, .ref h_readWhat, .ref h_readOf, .ref h_place, .ref h_readRelation, .ref h_readBound, .int h_stop, .ref h_meant, .ref h_row, .ref h_exact, .ref h_error, .ref h_bestError, .long h_m, .int h_e, .ref h_digits, .int h_whole])), (h_text, .inl (cI, 256, .inl h_textF)), (h_readKind, .inl (cI, 260, .inl h_readKindF)), (h_readWhat, .inl (cI, 260, .inl h_readWhatF))] H → va_D A [(h, .inr (9, [.int h_code, .int h_taped, .ref h_tape, .int h_size, .ref h_text, .double h_value, .int h_out, .ref h_output, .int h_illAt, .ref h_format, .int h_sections, .int h_items, .ref h_kind, .ref h_what, .ref h_of, .ref h_relation, .ref h_bound, .int h_reads, .int h_readSections, .ref h_readKind, .ref h_readWhat, .ref h_readOf, .ref h_place, .ref h_readRelation, .ref h_readBound, .int h_stop, .ref h_meant, .ref h_row, .ref h_exact, .ref h_error, .ref h_bestError, .long h_m, .int h_e, .ref h_digits, .int h_whole])), (h_text, .inl (cI, 256, .inl h_textF)), (h_readKind, .inl (cI, 260, .inl h_readKindF)), (h_readWhat, .inl (cI, 260, .inl h_readWhatF))] → va_S A s.heap H locs → lv_has ls 5 [(3, .int x_1), (0, .ref h), (1, .int p1), (2, .int p2)] → Z 0 0 H locs (F0 m 2 ls []) := by
    intro N
    induction N with
    | zero => intro _ _ _ _ _ _ hmu; exact absurd hmu (Nat.not_lt_zero _)
    | succ N ih_2 =>
      intro x_1 H locs ls g2_0 g2_1 hmu hP hD hS hl
      refine hZ2 ?_
      refine lv_aload_n hx hb dX12_readLetters_2 rfl (lv_at hl 1 rfl) ?_
      refine lv_iload_n hx hb dX12_readLetters_3 rfl (lv_at hl 2 rfl) ?_
      refine lv_iload_n hx hb dX12_readLetters_4 rfl (lv_at hl 0 rfl) ?_
      refine lv_iadd hx hb dX12_readLetters_5 ?_
      refine lv_topi (fun x_2 ex_2 => ?_)
      have b_p1 := ti_b p1
      have b_x_1 := ti_b x_1
      have tx_2 := ti_add ex_2
      have hPc := hP.sub (ws' := [(h, .inr (9, [.int h_code, .int h_taped, .ref h_tape, .int h_size, .ref h_text, .double h_value, .int h_out, .ref h_output, .int h_illAt, .ref h_format, .int h_sections, .int h_items, .ref h_kind, .ref h_what, .ref h_of, .ref h_relation, .ref h_bound, .int h_reads, .int h_readSections, .ref h_readKind, .ref h_readWhat, .ref h_readOf, .ref h_place, .ref h_readRelation, .ref h_readBound, .int h_stop, .ref h_meant, .ref h_row, .ref h_exact, .ref h_error, .ref h_bestError, .long h_m, .int h_e, .ref h_digits, .int h_whole])), (h_text, .inl (cI, 256, .inl h_textF))]) [0, 1] rfl
      refine va_calli (va_runV (As := [.int x_2]) (rest := []) ⟨hx, hb, hml, hown, hts⟩ (c_X12_here l D cI cD cJ H.size h h_code h_taped h_tape h_size h_text h_value h_out h_output h_illAt h_format h_sections h_items h_kind h_what h_of h_relation h_bound h_reads h_readSections h_readKind h_readWhat h_readOf h_place h_readRelation h_readBound h_stop h_meant h_row h_exact h_error h_bestError h_m h_e h_digits h_whole h_textF x_2 (by omega) (by omega) (by omega) (by assumption) (by omega) (by omega) (by omega) (by omega) (by omega) (by omega) (by assumption)) (cwV 1 hts (goodIn_app (goodIn_r _ [1, 2, 3, 4] rfl (by decide +kernel)) (goodIn_sub i_X12_here k_X12_here)) rfl rfl rfl (by decide +kernel) ⟨Nat.le_of_ble_eq_true rfl, Nat.le_of_ble_eq_true rfl⟩) ⟨fun a U g mk q => by obtain ⟨q0, qP, qK⟩ := q; exact ⟨q0, qP, va_K.moved (u := U) (U := U.calling g mk a) (Vm.Alike.refl U.vm) qK⟩, va_recv hK hPc (ci := 9) (q0 := 0) rfl rfl, fun U hU hW => ⟨rfl, by rw [hU]; exact hPc, va_K.moved hW.alike hK⟩⟩ rfl rfl hl.1 rfl (lv_room (Nat.le_of_ble_eq_true rfl)) dX12_readLetters_6 ⟨Nat.le_of_ble_eq_true rfl, Nat.le_of_ble_eq_true rfl⟩) hS (fun q _ h => h.elim) (fun q h => h.elim) (fun x_3 u t H1 locs ht hvm w_4 hB hz1 hk1 hS => ?_)
      have hP : va_P D vwCl [(h, .inr (9, [.int h_code, .int h_taped, .ref h_tape, .int h_size, .ref h_text, .double h_value, .int h_out, .ref h_output, .int h_illAt, .ref h_format, .int h_sections, .int h_items, .ref h_kind, .ref h_what, .ref h_of, .ref h_relation, .ref h_bound, .int h_reads, .int h_readSections, .ref h_readKind, .ref h_readWhat, .ref h_readOf, .ref h_place, .ref h_readRelation, .ref h_readBound, .int h_stop, .ref h_meant, .ref h_row, .ref h_exact, .ref h_error, .ref h_bestError, .long h_m, .int h_e, .ref h_digits, .int h_whole])), (h_text, .inl (cI, 256, .inl h_textF)), (h_readKind, .inl (cI, 260, .inl h_readKindF)), (h_readWhat, .inl (cI, 260, .inl h_readWhatF))] H1 := hP.kept (fun k9 q9 h9 => hk1 q9.1 (vx_lt hP h9) (fun h => h))
      generalize H1 = H at hP hS ⊢
      try dsimp only at w_4
      have hA9 := w_4.1
      have hA7 := hereF_end hA9
      have hA8 : x_1.toInt = 0 → (x_3 : Int32).toInt = (hereF h_textF h_size p1).toInt := fun h9 => hereF_eq hA9 rfl (by omega)
      have hPc := hP.sub (ws' := []) [] rfl
      refine va_calli (va_runS (As := [.int x_3]) (rest := []) ⟨hx, hb, hml, hown, hts⟩ (c_X12_small l D cI cD cJ H.size x_3) (va_cwS 1 hts (goodIn_app (goodIn_r _ [5, 6, 4] rfl (by decide +kernel)) (goodIn_sub i_X12_small k_X12_small)) rfl rfl rfl (by decide +kernel) ⟨Nat.le_of_ble_eq_true rfl, Nat.le_of_ble_eq_true rfl⟩) ⟨fun a U g mk q => by obtain ⟨q0, qP, qK⟩ := q; exact ⟨q0, qP, va_K.moved (u := U) (U := U.calling g mk a) (Vm.Alike.refl U.vm) qK⟩, fun U hU hW => ⟨rfl, by rw [hU]; exact hPc, va_K.moved hW.alike hK⟩⟩ rfl rfl hl.1 rfl (lv_room (Nat.le_of_ble_eq_true rfl)) dX12_readLetters_9 ⟨Nat.le_of_ble_eq_true rfl, Nat.le_of_ble_eq_true rfl⟩) hS (fun q _ h => h.elim) (fun q h => h.elim) (fun x_5 u t H1 locs ht hvm w_6 hB hz1 hk1 hS => ?_)
      have hP : va_P D vwCl [(h, .inr (9, [.int h_code, .int h_taped, .ref h_tape, .int h_size, .ref h_text, .double h_value, .int h_out, .ref h_output, .int h_illAt, .ref h_format, .int h_sections, .int h_items, .ref h_kind, .ref h_what, .ref h_of, .ref h_relation, .ref h_bound, .int h_reads, .int h_readSections, .ref h_readKind, .ref h_readWhat, .ref h_readOf, .ref h_place, .ref h_readRelation, .ref h_readBound, .int h_stop, .ref h_meant, .ref h_row, .ref h_exact, .ref h_error, .ref h_bestError, .long h_m, .int h_e, .ref h_digits, .int h_whole])), (h_text, .inl (cI, 256, .inl h_textF)), (h_readKind, .inl (cI, 260, .inl h_readKindF)), (h_readWhat, .inl (cI, 260, .inl h_readWhatF))] H1 := hP.kept (fun k9 q9 h9 => hk1 q9.1 (vx_lt hP h9) (fun h => h))
      generalize H1 = H at hP hS ⊢
      try dsimp only at w_6
      have b_x_5 := ti_b x_5
      refine lv_iload_n hx hb dX12_readLetters_12 rfl (lv_at hl 3 rfl) ?_
      refine lv_icmp_ne (tgt := 22) hx hb dX12_readLetters_13 (by decide) (fun c_7 => ?_) (fun c_7 => ?_)
      · have ic_7 : ¬ ((x_5 : Int32).toInt = (p2 : Int32).toInt) := fun h9 => c_7 ((fa_eq x_5 p2).mpr h9)
        refine lv_iload_n hx hb dX12_readLetters_22 rfl (lv_at hl 3 rfl) ?_
        refine lv_bipush (v := 109) hx hb dX12_readLetters_23 (by decide) ?_
        have K_49 : ∀ (z_8 : Int32) (H : Heap) (locs : List Loc) (ls : Array Slot), va_P D vwCl [(h, .inr (9, [.int h_code, .int h_taped, .ref h_tape, .int h_size, .ref h_text, .double h_value, .int h_out, .ref h_output, .int h_illAt, .ref h_format, .int h_sections, .int h_items, .ref h_kind, .ref h_what, .ref h_of, .ref h_relation, .ref h_bound, .int h_reads, .int h_readSections, .ref h_readKind, .ref h_readWhat, .ref h_readOf, .ref h_place, .ref h_readRelation, .ref h_readBound, .int h_stop, .ref h_meant, .ref h_row, .ref h_exact, .ref h_error, .ref h_bestError, .long h_m, .int h_e, .ref h_digits, .int h_whole])), (h_text, .inl (cI, 256, .inl h_textF)), (h_readKind, .inl (cI, 260, .inl h_readKindF)), (h_readWhat, .inl (cI, 260, .inl h_readWhatF))] H → va_D A [(h, .inr (9, [.int h_code, .int h_taped, .ref h_tape, .int h_size, .ref h_text, .double h_value, .int h_out, .ref h_output, .int h_illAt, .ref h_format, .int h_sections, .int h_items, .ref h_kind, .ref h_what, .ref h_of, .ref h_relation, .ref h_bound, .int h_reads, .int h_readSections, .ref h_readKind, .ref h_readWhat, .ref h_readOf, .ref h_place, .ref h_readRelation, .ref h_readBound, .int h_stop, .ref h_meant, .ref h_row, .ref h_exact, .ref h_error, .ref h_bestError, .long h_m, .int h_e, .ref h_digits, .int h_whole])), (h_text, .inl (cI, 256, .inl h_textF)), (h_readKind, .inl (cI, 260, .inl h_readKindF)), (h_readWhat, .inl (cI, 260, .inl h_readWhatF))] → va_S A s.heap H locs → lv_has ls 5 [(3, .int x_1), (0, .ref h), (1, .int p1), (2, .int p2)] → Z 0 0 H locs (F0 m 49 ls [.int z_8]) := by
          intro z_8 H locs ls  hP hD hS hl
          refine hZ2 ?_
          refine lv_istore (lv' := [(4, .int z_8), (3, .int x_1), (0, .ref h), (1, .int p1), (2, .int p2)]) hx hb dX12_readLetters_49 hl (by decide) rfl (fun ls hl => ?_)
          refine lv_aload_n hx hb dX12_readLetters_51 rfl (lv_at hl 2 rfl) ?_
          refine lv_iload_n hx hb dX12_readLetters_52 rfl (lv_at hl 1 rfl) ?_
          refine lv_iload hx hb dX12_readLetters_53 (lv_at hl 0 rfl) ?_
          have K_65 : ∀ (z_9 : Int32) (H : Heap) (locs : List Loc) (ls : Array Slot), ((z_9 : Int32).toInt = 15 ∨ (z_9 : Int32).toInt = 10) → va_P D vwCl [(h, .inr (9, [.int h_code, .int h_taped, .ref h_tape, .int h_size, .ref h_text, .double h_value, .int h_out, .ref h_output, .int h_illAt, .ref h_format, .int h_sections, .int h_items, .ref h_kind, .ref h_what, .ref h_of, .ref h_relation, .ref h_bound, .int h_reads, .int h_readSections, .ref h_readKind, .ref h_readWhat, .ref h_readOf, .ref h_place, .ref h_readRelation, .ref h_readBound, .int h_stop, .ref h_meant, .ref h_row, .ref h_exact, .ref h_error, .ref h_bestError, .long h_m, .int h_e, .ref h_digits, .int h_whole])), (h_text, .inl (cI, 256, .inl h_textF)), (h_readKind, .inl (cI, 260, .inl h_readKindF)), (h_readWhat, .inl (cI, 260, .inl h_readWhatF))] H → va_D A [(h, .inr (9, [.int h_code, .int h_taped, .ref h_tape, .int h_size, .ref h_text, .double h_value, .int h_out, .ref h_output, .int h_illAt, .ref h_format, .int h_sections, .int h_items, .ref h_kind, .ref h_what, .ref h_of, .ref h_relation, .ref h_bound, .int h_reads, .int h_readSections, .ref h_readKind, .ref h_readWhat, .ref h_readOf, .ref h_place, .ref h_readRelation, .ref h_readBound, .int h_stop, .ref h_meant, .ref h_row, .ref h_exact, .ref h_error, .ref h_bestError, .long h_m, .int h_e, .ref h_digits, .int h_whole])), (h_text, .inl (cI, 256, .inl h_textF)), (h_readKind, .inl (cI, 260, .inl h_readKindF)), (h_readWhat, .inl (cI, 260, .inl h_readWhatF))] → va_S A s.heap H locs → lv_has ls 5 [(3, .int x_1), (1, .int p1), (2, .int p2)] → Z 0 0 H locs (F0 m 65 ls [.int z_9, .ref h]) := by
            intro z_9 H locs ls g65_0 hP hD hS hl
            refine hZ2 ?_
            refine lv_bipush (v := 8) hx hb dX12_readLetters_65 (by decide) ?_
            refine lv_iload_n hx hb dX12_readLetters_67 rfl (lv_at hl 2 rfl) ?_
            refine lv_imul hx hb dX12_readLetters_68 ?_
            refine lv_topi (fun x_10 ex_10 => ?_)
            have tx_10 := ti_mul ex_10
            rw [n_8] at tx_10
            refine lv_iload_n hx hb dX12_readLetters_69 rfl (lv_at hl 0 rfl) ?_
            refine lv_iadd hx hb dX12_readLetters_70 ?_
            refine lv_topi (fun x_11 ex_11 => ?_)
            have b_x_10 := ti_b x_10
            have b_x_1 := ti_b x_1
            have tx_11 := ti_add ex_11
            refine lv_iload_n hx hb dX12_readLetters_71 rfl (lv_at hl 1 rfl) ?_
            refine lv_iload_n hx hb dX12_readLetters_72 rfl (lv_at hl 0 rfl) ?_
            refine lv_iadd hx hb dX12_readLetters_73 ?_
            refine lv_topi (fun x_12 ex_12 => ?_)
            have b_p1 := ti_b p1
            have b_x_1 := ti_b x_1
            have tx_12 := ti_add ex_12
            have hPc := hP.sub (ws' := [(h, .inr (9, [.int h_code, .int h_taped, .ref h_tape, .int h_size, .ref h_text, .double h_value, .int h_out, .ref h_output, .int h_illAt, .ref h_format, .int h_sections, .int h_items, .ref h_kind, .ref h_what, .ref h_of, .ref h_relation, .ref h_bound, .int h_reads, .int h_readSections, .ref h_readKind, .ref h_readWhat, .ref h_readOf, .ref h_place, .ref h_readRelation, .ref h_readBound, .int h_stop, .ref h_meant, .ref h_row, .ref h_exact, .ref h_error, .ref h_bestError, .long h_m, .int h_e, .ref h_digits, .int h_whole])), (h_readKind, .inl (cI, 260, .inl h_readKindF)), (h_readWhat, .inl (cI, 260, .inl h_readWhatF))]) [0, 2, 3] rfl
            have hDc := hD.sub (ws' := [(h, .inr (9, [.int h_code, .int h_taped, .ref h_tape, .int h_size, .ref h_text, .double h_value, .int h_out, .ref h_output, .int h_illAt, .ref h_format, .int h_sections, .int h_items, .ref h_kind, .ref h_what, .ref h_of, .ref h_relation, .ref h_bound, .int h_reads, .int h_readSections, .ref h_readKind, .ref h_readWhat, .ref h_readOf, .ref h_place, .ref h_readRelation, .ref h_readBound, .int h_stop, .ref h_meant, .ref h_row, .ref h_exact, .ref h_error, .ref h_bestError, .long h_m, .int h_e, .ref h_digits, .int h_whole])), (h_readKind, .inl (cI, 260, .inl h_readKindF)), (h_readWhat, .inl (cI, 260, .inl h_readWhatF))]) [0, 2, 3] (by decide) rfl
            have hFc := va_free (wc := [(h, .inr (9, [.int h_code, .int h_taped, .ref h_tape, .int h_size, .ref h_text, .double h_value, .int h_out, .ref h_output, .int h_illAt, .ref h_format, .int h_sections, .int h_items, .ref h_kind, .ref h_what, .ref h_of, .ref h_relation, .ref h_bound, .int h_reads, .int h_readSections, .ref h_readKind, .ref h_readWhat, .ref h_readOf, .ref h_place, .ref h_readRelation, .ref h_readBound, .int h_stop, .ref h_meant, .ref h_row, .ref h_exact, .ref h_error, .ref h_bestError, .long h_m, .int h_e, .ref h_digits, .int h_whole])), (h_readKind, .inl (cI, 260, .inl h_readKindF)), (h_readWhat, .inl (cI, 260, .inl h_readWhatF))]) hD hS hA [0, 2, 3] rfl
            refine va_callv (va_runV (As := [.int z_9, .int x_11, .int x_12]) (rest := []) ⟨hx, hb, hml, hown, hts⟩ (c_X12_item l D cI cD cJ H.size h h_code h_taped h_tape h_size h_text h_value h_out h_output h_illAt h_format h_sections h_items h_kind h_what h_of h_relation h_bound h_reads h_readSections h_readKind h_readWhat h_readOf h_place h_readRelation h_readBound h_stop h_meant h_row h_exact h_error h_bestError h_m h_e h_digits h_whole h_readKindF h_readWhatF z_9 x_11 x_12 (by omega) (by omega) (by omega) (by omega) (by omega) (by assumption) (by omega) (by omega) (by omega) (by omega) (by omega) (by omega) (by assumption) (by assumption)) (cwV 3 hts (goodIn_app (goodIn_r _ [7, 8, 9, 4] rfl (by decide +kernel)) (goodIn_sub i_X12_item k_X12_item)) rfl rfl rfl (by decide +kernel) ⟨Nat.le_of_ble_eq_true rfl, Nat.le_of_ble_eq_true rfl⟩) ⟨fun a U g mk q => by obtain ⟨q0, q1, qP, qK, qD⟩ := q; exact ⟨q0, q1, qP, va_K.moved (u := U) (U := U.calling g mk a) (Vm.Alike.refl U.vm) qK, qD⟩, va_recv hK hPc (ci := 9) (q0 := 0) rfl rfl, fun U hU hW => ⟨rfl, by rw [hU], by rw [hU]; exact hPc, va_K.moved hW.alike hK, hDc.weaken (fun _ _ _ _ => trivial)⟩⟩ rfl rfl hl.1 rfl (lv_room (Nat.le_of_ble_eq_true rfl)) dX12_readLetters_74 ⟨Nat.le_of_ble_eq_true rfl, Nat.le_of_ble_eq_true rfl⟩) hS (fun q _ h => hFc q h) hFc (fun u t H1 locs ht hvm w_13 hB hz1 hk1 hS => ?_)
            obtain ⟨u_14, u_15, u_16⟩ := u
            obtain ⟨hP1, hK1, hD1⟩ := hB
            rw [ht] at hP1
            try dsimp only at w_13
            obtain ⟨hP, hD⟩ := va_join (wr := [(h_text, .inl (cI, 256, .inl h_textF))]) (w1 := [(h, .inr (9, [.int h_code, .int h_taped, .ref h_tape, .int h_size, .ref h_text, .double h_value, .int h_out, .ref h_output, .int h_illAt, .ref h_format, .int h_sections, .int h_items, .ref h_kind, .ref h_what, .ref h_of, .ref h_relation, .ref h_bound, .int h_reads, .int h_readSections, .ref h_readKind, .ref h_readWhat, .ref h_readOf, .ref h_place, .ref h_readRelation, .ref h_readBound, .int u_14, .ref h_meant, .ref h_row, .ref h_exact, .ref h_error, .ref h_bestError, .long h_m, .int h_e, .ref h_digits, .int h_whole])), (h_readKind, .inl (cI, 260, .inl u_15)), (h_readWhat, .inl (cI, 260, .inl u_16))]) hP hD [0, 2, 3] [1] rfl rfl (by decide) (by decide) hk1 hFc hP1 hD1
            generalize H1 = H at hP hS ⊢
            have hP : va_P D vwCl [(h_text, .inl (cI, 256, .inl h_textF)), (h, .inr (9, [.int h_code, .int h_taped, .ref h_tape, .int h_size, .ref h_text, .double h_value, .int h_out, .ref h_output, .int h_illAt, .ref h_format, .int h_sections, .int h_items, .ref h_kind, .ref h_what, .ref h_of, .ref h_relation, .ref h_bound, .int h_reads, .int h_readSections, .ref h_readKind, .ref h_readWhat, .ref h_readOf, .ref h_place, .ref h_readRelation, .ref h_readBound, .int u_14, .ref h_meant, .ref h_row, .ref h_exact, .ref h_error, .ref h_bestError, .long h_m, .int h_e, .ref h_digits, .int h_whole])), (h_readKind, .inl (cI, 260, .inl u_15)), (h_readWhat, .inl (cI, 260, .inl u_16))] H := hP
            have hD : va_D A [(h_text, .inl (cI, 256, .inl h_textF)), (h, .inr (9, [.int h_code, .int h_taped, .ref h_tape, .int h_size, .ref h_text, .double h_value, .int h_out, .ref h_output, .int h_illAt, .ref h_format, .int h_sections, .int h_items, .ref h_kind, .ref h_what, .ref h_of, .ref h_relation, .ref h_bound, .int h_reads, .int h_readSections, .ref h_readKind, .ref h_readWhat, .ref h_readOf, .ref h_place, .ref h_readRelation, .ref h_readBound, .int u_14, .ref h_meant, .ref h_row, .ref h_exact, .ref h_error, .ref h_bestError, .long h_m, .int h_e, .ref h_digits, .int h_whole])), (h_readKind, .inl (cI, 260, .inl u_15)), (h_readWhat, .inl (cI, 260, .inl u_16))] := hD
            obtain ⟨w_13_0, w_13_1, w_13_2⟩ := w_13
            have hP9 := hP.sub (ws' := [(h, .inr (9, [.int h_code, .int h_taped, .ref h_tape, .int h_size, .ref h_text, .double h_value, .int h_out, .ref h_output, .int h_illAt, .ref h_format, .int h_sections, .int h_items, .ref h_kind, .ref h_what, .ref h_of, .ref h_relation, .ref h_bound, .int h_reads, .int h_readSections, .ref h_readKind, .ref h_readWhat, .ref h_readOf, .ref h_place, .ref h_readRelation, .ref h_readBound, .int u_14, .ref h_meant, .ref h_row, .ref h_exact, .ref h_error, .ref h_bestError, .long h_m, .int h_e, .ref h_digits, .int h_whole])), (h_text, .inl (cI, 256, .inl h_textF)), (h_readKind, .inl (cI, 260, .inl u_15)), (h_readWhat, .inl (cI, 260, .inl u_16))]) [1, 0, 2, 3] rfl
            have hD9 := hD.sub (ws' := [(h, .inr (9, [.int h_code, .int h_taped, .ref h_tape, .int h_size, .ref h_text, .double h_value, .int h_out, .ref h_output, .int h_illAt, .ref h_format, .int h_sections, .int h_items, .ref h_kind, .ref h_what, .ref h_of, .ref h_relation, .ref h_bound, .int h_reads, .int h_readSections, .ref h_readKind, .ref h_readWhat, .ref h_readOf, .ref h_place, .ref h_readRelation, .ref h_readBound, .int u_14, .ref h_meant, .ref h_row, .ref h_exact, .ref h_error, .ref h_bestError, .long h_m, .int h_e, .ref h_digits, .int h_whole])), (h_text, .inl (cI, 256, .inl h_textF)), (h_readKind, .inl (cI, 260, .inl u_15)), (h_readWhat, .inl (cI, 260, .inl u_16))]) [1, 0, 2, 3] (by decide) rfl
            exact W.vret hx hb hr (fun t ht hW => ⟨⟨(u_14, u_15, u_16), rfl, (by (try dsimp only); refine ⟨?_, ?_, ?_⟩ <;> first | omega | assumption), by rw [ht]; exact hP9, va_K.moved hW.alike hK, hD9⟩, hS.F ht⟩) hS.2.2 dX12_readLetters_77
          refine lv_icmp_le (tgt := 63) hx hb dX12_readLetters_55 (by decide) (fun c_17 => ?_) (fun c_17 => ?_)
          · have ic_17 : (x_1 : Int32).toInt ≤ (z_8 : Int32).toInt := (fa_le x_1 z_8).mp c_17
            refine lv_bipush (v := 10) hx hb dX12_readLetters_63 (by decide) ?_
            exact hZ1 (K_65 10 _ _ _ (by omega) hP hD hS (lv_sub hl [1, 3, 4] rfl))
          · have ic_17 : ¬ ((x_1 : Int32).toInt ≤ (z_8 : Int32).toInt) := fun h9 => c_17 ((fa_le x_1 z_8).mpr h9)
            refine lv_bipush (v := 15) hx hb dX12_readLetters_58 (by decide) ?_
            refine lv_goto (tgt := 65) hx hb dX12_readLetters_60 (by decide) ?_
            exact hZ1 (K_65 15 _ _ _ (by omega) hP hD hS (lv_sub hl [1, 3, 4] rfl))
        refine lv_icmp_ne (tgt := 32) hx hb dX12_readLetters_25 (by decide) (fun c_18 => ?_) (fun c_18 => ?_)
        · have ic_18 : ¬ ((p2 : Int32).toInt = (109 : Int32).toInt) := fun h9 => c_18 ((fa_eq p2 109).mpr h9)
          refine lv_iload_n hx hb dX12_readLetters_32 rfl (lv_at hl 3 rfl) ?_
          refine lv_bipush (v := 104) hx hb dX12_readLetters_33 (by decide) ?_
          have K_44 : ∀ (H : Heap) (locs : List Loc) (ls : Array Slot), va_P D vwCl [(h, .inr (9, [.int h_code, .int h_taped, .ref h_tape, .int h_size, .ref h_text, .double h_value, .int h_out, .ref h_output, .int h_illAt, .ref h_format, .int h_sections, .int h_items, .ref h_kind, .ref h_what, .ref h_of, .ref h_relation, .ref h_bound, .int h_reads, .int h_readSections, .ref h_readKind, .ref h_readWhat, .ref h_readOf, .ref h_place, .ref h_readRelation, .ref h_readBound, .int h_stop, .ref h_meant, .ref h_row, .ref h_exact, .ref h_error, .ref h_bestError, .long h_m, .int h_e, .ref h_digits, .int h_whole])), (h_text, .inl (cI, 256, .inl h_textF)), (h_readKind, .inl (cI, 260, .inl h_readKindF)), (h_readWhat, .inl (cI, 260, .inl h_readWhatF))] H → va_D A [(h, .inr (9, [.int h_code, .int h_taped, .ref h_tape, .int h_size, .ref h_text, .double h_value, .int h_out, .ref h_output, .int h_illAt, .ref h_format, .int h_sections, .int h_items, .ref h_kind, .ref h_what, .ref h_of, .ref h_relation, .ref h_bound, .int h_reads, .int h_readSections, .ref h_readKind, .ref h_readWhat, .ref h_readOf, .ref h_place, .ref h_readRelation, .ref h_readBound, .int h_stop, .ref h_meant, .ref h_row, .ref h_exact, .ref h_error, .ref h_bestError, .long h_m, .int h_e, .ref h_digits, .int h_whole])), (h_text, .inl (cI, 256, .inl h_textF)), (h_readKind, .inl (cI, 260, .inl h_readKindF)), (h_readWhat, .inl (cI, 260, .inl h_readWhatF))] → va_S A s.heap H locs → lv_has ls 5 [(3, .int x_1), (0, .ref h), (1, .int p1), (2, .int p2)] → Z 0 0 H locs (F0 m 44 ls []) := by
            intro  H locs ls  hP hD hS hl
            refine hZ2 ?_
            refine lv_iconst (v := 2) hx hb dX12_readLetters_44 (by decide) ?_
            refine lv_goto (tgt := 49) hx hb dX12_readLetters_45 (by decide) ?_
            exact hZ1 (K_49 2 _ _ _ hP hD hS hl)
          refine lv_icmp_eq (tgt := 44) hx hb dX12_readLetters_35 (by decide) (fun c_19 => ?_) (fun c_19 => ?_)
          · have ic_19 : (p2 : Int32).toInt = (104 : Int32).toInt := (fa_eq p2 104).mp c_19
            exact hZ1 (K_44  _ _ _ hP hD hS hl)
          · have ic_19 : ¬ ((p2 : Int32).toInt = (104 : Int32).toInt) := fun h9 => c_19 ((fa_eq p2 104).mpr h9)
            refine lv_iload_n hx hb dX12_readLetters_38 rfl (lv_at hl 3 rfl) ?_
            refine lv_bipush (v := 115) hx hb dX12_readLetters_39 (by decide) ?_
            refine lv_icmp_ne (tgt := 48) hx hb dX12_readLetters_41 (by decide) (fun c_20 => ?_) (fun c_20 => ?_)
            · have ic_20 : ¬ ((p2 : Int32).toInt = (115 : Int32).toInt) := fun h9 => c_20 ((fa_eq p2 115).mpr h9)
              refine lv_iconst (v := 4) hx hb dX12_readLetters_48 (by decide) ?_
              exact hZ1 (K_49 4 _ _ _ hP hD hS hl)
            · have ic_20 : (p2 : Int32).toInt = (115 : Int32).toInt := (fa_eq p2 115).mp c_20
              exact hZ1 (K_44  _ _ _ hP hD hS hl)
        · have ic_18 : (p2 : Int32).toInt = (109 : Int32).toInt := (fa_eq p2 109).mp c_18
          refine lv_iconst (v := 5) hx hb dX12_readLetters_28 (by decide) ?_
          refine lv_goto (tgt := 49) hx hb dX12_readLetters_29 (by decide) ?_
          exact hZ1 (K_49 5 _ _ _ hP hD hS hl)
      · have ic_7 : (x_5 : Int32).toInt = (p2 : Int32).toInt := (fa_eq x_5 p2).mp c_7
        obtain ⟨x_21, ex_21⟩ : ∃ y : Int32, y = x_1 + 1 := ⟨_, rfl⟩
        have b_x_1 := ti_b x_1
        have tx_21 := ti_add ex_21
        refine lv_iinc (v := x_21) (lv' := [(3, .int x_21), (0, .ref h), (1, .int p1), (2, .int p2)]) hx hb dX12_readLetters_16 hl (k := 0) rfl (by rw [ex_21]; rfl) (by decide) rfl (fun ls hl => ?_)
        refine lv_goto (tgt := 2) hx hb dX12_readLetters_19 (by decide) ?_
        exact hZ1 (ih_2 x_21 _ _ _ (by omega) (by omega) (by omega) hP hD hS hl)
  exact hZ1 (L_2 (((400 - (0 : Int32).toInt).toNat) + 1) 0 _ _ _ (by omega) (by omega) (by omega) hP hD hS hl)

