def ow_X2_sections : List Cond := [Cond.fieldLink RX2 38 "NumberFormats$Format" "sections" "I"]
def pw_X2_sections : List Cond := Cond.code yX2_sections cX2_sections 1 (some .int) :: (ow_X2_sections ++ (wsX20))
set_option maxRecDepth 20000 in
theorem mo_X2_sections : ∀ w ∈ ow_X2_sections, w ∈ lw_tbl := by decide +kernel
set_option maxRecDepth 20000 in
theorem mc_X2_sections : Cond.code yX2_sections cX2_sections 1 (some .int) ∈ lw_tbl := by decide +kernel
theorem m_X2_sections : ∀ w ∈ pw_X2_sections, w ∈ lw_tbl := List.forall_mem_cons.mpr ⟨mc_X2_sections, (List.forall_mem_append.mpr ⟨mo_X2_sections, inX2⟩)⟩
theorem ko_X2_sections : ∀ w ∈ ow_X2_sections, goodWord w = true := by decide +kernel
theorem k_X2_sections : pw_X2_sections.all goodWord = true := List.all_eq_true.mpr (List.forall_mem_cons.mpr ⟨by decide +kernel, (List.forall_mem_append.mpr ⟨ko_X2_sections, kX_X2⟩)⟩)
set_option maxHeartbeats 400000 in
set_option maxRecDepth 100000 in
theorem c_X2_sections (l : Launch) (D : va_G) (cI cD cJ : ClassId) (sz : Nat) (f : Nat) (f_kinds : Nat) (f_signs : Nat) (f_sizes : Nat) (f_places : Nat) (f_limits : Nat) (f_starts : Nat) (f_sorts : Nat) (f_count : Int32) (f_sections : Int32) (f_fifth : Int32) (iv_f_count : 0 ≤ (f_count : Int32).toInt ∧ (f_count : Int32).toInt ≤ 255) (iv_f_sections : 0 ≤ (f_sections : Int32).toInt ∧ (f_sections : Int32).toInt ≤ 4) : Met l yX2_sections pw_X2_sections ({ frames := 0, cells := 0, slots := 0, locals := 0 }) (va_Pc [.ref f] (fun U => va_P D vwCl [(f, .inr (2, [.ref f_kinds, .ref f_signs, .ref f_sizes, .ref f_places, .ref f_limits, .ref f_starts, .ref f_sorts, .int f_count, .int f_sections, .int f_fifth]))] U.heap ∧ va_K D vwCl (ty3 cI cD cJ) U)) (va_Qi (fun (r : Int32) (u : Unit) => (0 ≤ r.toInt ∧ r.toInt ≤ 4)) (fun _ _ => True) (fun _ => False)) 0 0 (fun _ => False) := by
  refine Met.ofW (cc := cX2_sections) (maxL := 1) (ret := (some .int)) (by decide +kernel) rfl ?_
  intro p e s m args below meth c s₁ B hml hv
  obtain ⟨rfl, hP, hK⟩ := hv
  have hx := B.exec
  have hb := B.bytes
  have hr := B.returns
  have hts := atoms_spec (ws := pw_X2_sections) B.pre
  have hown : s.vm.findClass RX2 = some m.cls := findClass_of_methodNamed B.named
  have hlocks := B.notSynchronized
  have hS : va_S (fun _ => False) s.heap s.heap [] := va_S.rf
  have hw : ∀ (k : Nat) (w : Cond), ow_X2_sections[k]? = some w → w.before _ s = true := fun k w h => hts w (List.mem_cons_of_mem _ (have h9 := List.mem_of_getElem? h; List.mem_append_left _ h9))
  have iX2 : ∀ w ∈ u_ws RX2 TX2 10, w ∈ pw_X2_sections := fun w h9 => List.mem_cons_of_mem _ (List.mem_append_right _ (h9))
  have hl := lv_entry ([.ref f]) (n := 1) (Nat.le_of_ble_eq_true rfl)
  rw [lg_entry_eq]
  generalize (lg_sl ([.ref f]) ++ List.replicate (1 - (lg_sl ([.ref f])).length) Slot.unset).toArray = ls at hl ⊢
  have hl : lv_has ls 1 [(0, .ref f)] := hl
  refine lv_aload_n hx hb dX2_sections_0 rfl (lv_at hl 0 rfl) ?_
  refine va_get (D := D) (ci := 2) (v := .int f_sections) (C := RX2) (T := TX2) (N := 10) hx hb hts iX2 hown hK hP 0 rfl rfl 8 (by decide) (hw 0 (.fieldLink RX2 38 "NumberFormats$Format" "sections" "I") rfl) (fun _ h9 => h9) rfl dX2_sections_1 ?_
  exact W.iret (v := f_sections) hx hb hr (fun t ht hW => ⟨⟨f_sections, (), rfl, (by (try dsimp only); first | omega | assumption), trivial⟩, hS.F ht⟩) hS.2.2 dX2_sections_4

def ow_X2_fifthPlace : List Cond := [Cond.fieldLink RX2 41 "NumberFormats$Format" "fifth" "I"]
def pw_X2_fifthPlace : List Cond := Cond.code yX2_fifthPlace cX2_fifthPlace 1 (some .int) :: (ow_X2_fifthPlace ++ (wsX20))
set_option maxRecDepth 20000 in
theorem mo_X2_fifthPlace : ∀ w ∈ ow_X2_fifthPlace, w ∈ lw_tbl := by decide +kernel
set_option maxRecDepth 20000 in
theorem mc_X2_fifthPlace : Cond.code yX2_fifthPlace cX2_fifthPlace 1 (some .int) ∈ lw_tbl := by decide +kernel
theorem m_X2_fifthPlace : ∀ w ∈ pw_X2_fifthPlace, w ∈ lw_tbl := List.forall_mem_cons.mpr ⟨mc_X2_fifthPlace, (List.forall_mem_append.mpr ⟨mo_X2_fifthPlace, inX2⟩)⟩
theorem ko_X2_fifthPlace : ∀ w ∈ ow_X2_fifthPlace, goodWord w = true := by decide +kernel
theorem k_X2_fifthPlace : pw_X2_fifthPlace.all goodWord = true := List.all_eq_true.mpr (List.forall_mem_cons.mpr ⟨by decide +kernel, (List.forall_mem_append.mpr ⟨ko_X2_fifthPlace, kX_X2⟩)⟩)
set_option maxHeartbeats 400000 in
set_option maxRecDepth 100000 in
theorem c_X2_fifthPlace (l : Launch) (D : va_G) (cI cD cJ : ClassId) (sz : Nat) (f : Nat) (f_kinds : Nat) (f_signs : Nat) (f_sizes : Nat) (f_places : Nat) (f_limits : Nat) (f_starts : Nat) (f_sorts : Nat) (f_count : Int32) (f_sections : Int32) (f_fifth : Int32) (iv_f_count : 0 ≤ (f_count : Int32).toInt ∧ (f_count : Int32).toInt ≤ 255) (iv_f_sections : 0 ≤ (f_sections : Int32).toInt ∧ (f_sections : Int32).toInt ≤ 4) : Met l yX2_fifthPlace pw_X2_fifthPlace ({ frames := 0, cells := 0, slots := 0, locals := 0 }) (va_Pc [.ref f] (fun U => va_P D vwCl [(f, .inr (2, [.ref f_kinds, .ref f_signs, .ref f_sizes, .ref f_places, .ref f_limits, .ref f_starts, .ref f_sorts, .int f_count, .int f_sections, .int f_fifth]))] U.heap ∧ va_K D vwCl (ty3 cI cD cJ) U)) (va_Qi (fun (r : Int32) (u : Unit) => True) (fun _ _ => True) (fun _ => False)) 0 0 (fun _ => False) := by
  refine Met.ofW (cc := cX2_fifthPlace) (maxL := 1) (ret := (some .int)) (by decide +kernel) rfl ?_
  intro p e s m args below meth c s₁ B hml hv
  obtain ⟨rfl, hP, hK⟩ := hv
  have hx := B.exec
  have hb := B.bytes
  have hr := B.returns
  have hts := atoms_spec (ws := pw_X2_fifthPlace) B.pre
  have hown : s.vm.findClass RX2 = some m.cls := findClass_of_methodNamed B.named
  have hlocks := B.notSynchronized
  have hS : va_S (fun _ => False) s.heap s.heap [] := va_S.rf
  have hw : ∀ (k : Nat) (w : Cond), ow_X2_fifthPlace[k]? = some w → w.before _ s = true := fun k w h => hts w (List.mem_cons_of_mem _ (have h9 := List.mem_of_getElem? h; List.mem_append_left _ h9))
  have iX2 : ∀ w ∈ u_ws RX2 TX2 10, w ∈ pw_X2_fifthPlace := fun w h9 => List.mem_cons_of_mem _ (List.mem_append_right _ (h9))
  have hl := lv_entry ([.ref f]) (n := 1) (Nat.le_of_ble_eq_true rfl)
  rw [lg_entry_eq]
  generalize (lg_sl ([.ref f]) ++ List.replicate (1 - (lg_sl ([.ref f])).length) Slot.unset).toArray = ls at hl ⊢
  have hl : lv_has ls 1 [(0, .ref f)] := hl
  refine lv_aload_n hx hb dX2_fifthPlace_0 rfl (lv_at hl 0 rfl) ?_
  refine va_get (D := D) (ci := 2) (v := .int f_fifth) (C := RX2) (T := TX2) (N := 10) hx hb hts iX2 hown hK hP 0 rfl rfl 9 (by decide) (hw 0 (.fieldLink RX2 41 "NumberFormats$Format" "fifth" "I") rfl) (fun _ h9 => h9) rfl dX2_fifthPlace_1 ?_
  exact W.iret (v := f_fifth) hx hb hr (fun t ht hW => ⟨⟨f_fifth, (), rfl, trivial, trivial⟩, hS.F ht⟩) hS.2.2 dX2_fifthPlace_4

def ow_X2_from : List Cond := [Cond.fieldLink RX2 34 "NumberFormats$Format" "count" "I", Cond.fieldLink RX2 38 "NumberFormats$Format" "sections" "I", Cond.fieldLink RX2 28 "NumberFormats$Format" "starts" "[I"]
def pw_X2_from : List Cond := Cond.code yX2_from cX2_from 2 (some .int) :: (ow_X2_from ++ (wsX20))
set_option maxRecDepth 20000 in
theorem mo_X2_from : ∀ w ∈ ow_X2_from, w ∈ lw_tbl := by decide +kernel
set_option maxRecDepth 20000 in
theorem mc_X2_from : Cond.code yX2_from cX2_from 2 (some .int) ∈ lw_tbl := by decide +kernel
theorem m_X2_from : ∀ w ∈ pw_X2_from, w ∈ lw_tbl := List.forall_mem_cons.mpr ⟨mc_X2_from, (List.forall_mem_append.mpr ⟨mo_X2_from, inX2⟩)⟩
theorem ko_X2_from : ∀ w ∈ ow_X2_from, goodWord w = true := by decide +kernel
theorem k_X2_from : pw_X2_from.all goodWord = true := List.all_eq_true.mpr (List.forall_mem_cons.mpr ⟨by decide +kernel, (List.forall_mem_append.mpr ⟨ko_X2_from, kX_X2⟩)⟩)
set_option maxHeartbeats 400000 in
set_option maxRecDepth 100000 in
theorem c_X2_from (l : Launch) (D : va_G) (cI cD cJ : ClassId) (sz : Nat) (f : Nat) (f_kinds : Nat) (f_signs : Nat) (f_sizes : Nat) (f_places : Nat) (f_limits : Nat) (f_starts : Nat) (f_sorts : Nat) (f_count : Int32) (f_sections : Int32) (f_fifth : Int32) (f_startsF : Nat → Int32) (p1 : Int32) (iv_f_count : 0 ≤ (f_count : Int32).toInt ∧ (f_count : Int32).toInt ≤ 255) (iv_f_sections : 0 ≤ (f_sections : Int32).toInt ∧ (f_sections : Int32).toInt ≤ 4) (iv_f_startsF : ∀ k9 : Nat, k9 < 4 → 0 ≤ (f_startsF k9).toInt ∧ (f_startsF k9).toInt ≤ 255) : Met l yX2_from pw_X2_from ({ frames := 0, cells := 0, slots := 0, locals := 0 }) (va_Pc [.ref f, .int p1] (fun U => va_P D vwCl [(f, .inr (2, [.ref f_kinds, .ref f_signs, .ref f_sizes, .ref f_places, .ref f_limits, .ref f_starts, .ref f_sorts, .int f_count, .int f_sections, .int f_fifth])), (f_starts, .inl (cI, 4, .inl f_startsF))] U.heap ∧ va_K D vwCl (ty3 cI cD cJ) U)) (va_Qi (fun (r : Int32) (u : Unit) => (0 ≤ r.toInt ∧ r.toInt ≤ 255)) (fun _ _ => True) (fun _ => False)) 0 0 (fun _ => False) := by
  refine Met.ofW (cc := cX2_from) (maxL := 2) (ret := (some .int)) (by decide +kernel) rfl ?_
  intro p e s m args below meth c s₁ B hml hv
  obtain ⟨rfl, hP, hK⟩ := hv
  have hx := B.exec
  have hb := B.bytes
  have hr := B.returns
  have hts := atoms_spec (ws := pw_X2_from) B.pre
  have hown : s.vm.findClass RX2 = some m.cls := findClass_of_methodNamed B.named
  have hlocks := B.notSynchronized
  have hS : va_S (fun _ => False) s.heap s.heap [] := va_S.rf
  have hw : ∀ (k : Nat) (w : Cond), ow_X2_from[k]? = some w → w.before _ s = true := fun k w h => hts w (List.mem_cons_of_mem _ (have h9 := List.mem_of_getElem? h; List.mem_append_left _ h9))
  have iX2 : ∀ w ∈ u_ws RX2 TX2 10, w ∈ pw_X2_from := fun w h9 => List.mem_cons_of_mem _ (List.mem_append_right _ (h9))
  have n_0 : ((0 : Int32)).toInt = 0 := by decide
  have n_4 : ((4 : Int32)).toInt = 4 := by decide
  have hl := lv_entry ([.ref f, .int p1]) (n := 2) (Nat.le_of_ble_eq_true rfl)
  rw [lg_entry_eq]
  generalize (lg_sl ([.ref f, .int p1]) ++ List.replicate (2 - (lg_sl ([.ref f, .int p1])).length) Slot.unset).toArray = ls at hl ⊢
  have hl : lv_has ls 2 [(0, .ref f), (1, .int p1)] := hl
  have b_p1 := ti_b p1
  refine lv_iload_n hx hb dX2_from_0 rfl (lv_at hl 1 rfl) ?_
  refine lv_if_lt (tgt := 30) hx hb dX2_from_1 (by decide) (fun c_1 => ?_) (fun c_1 => ?_)
  · have ic_1 : (p1 : Int32).toInt < (0 : Int32).toInt := (fa_lt p1 0).mp c_1
    refine lv_aload_n hx hb dX2_from_30 rfl (lv_at hl 0 rfl) ?_
    refine va_get (D := D) (ci := 2) (v := .int f_count) (C := RX2) (T := TX2) (N := 10) hx hb hts iX2 hown hK hP 0 rfl rfl 7 (by decide) (hw 0 (.fieldLink RX2 34 "NumberFormats$Format" "count" "I") rfl) (fun _ h9 => h9) rfl dX2_from_31 ?_
    exact W.iret (v := f_count) hx hb hr (fun t ht hW => ⟨⟨f_count, (), rfl, (by (try dsimp only); first | omega | assumption), trivial⟩, hS.F ht⟩) hS.2.2 dX2_from_34
  · have ic_1 : ¬ ((p1 : Int32).toInt < (0 : Int32).toInt) := fun h9 => c_1 ((fa_lt p1 0).mpr h9)
    refine lv_iload_n hx hb dX2_from_4 rfl (lv_at hl 1 rfl) ?_
    refine lv_aload_n hx hb dX2_from_5 rfl (lv_at hl 0 rfl) ?_
    refine va_get (D := D) (ci := 2) (v := .int f_sections) (C := RX2) (T := TX2) (N := 10) hx hb hts iX2 hown hK hP 0 rfl rfl 8 (by decide) (hw 1 (.fieldLink RX2 38 "NumberFormats$Format" "sections" "I") rfl) (fun _ h9 => h9) rfl dX2_from_6 ?_
    refine lv_icmp_ge (tgt := 30) hx hb dX2_from_9 (by decide) (fun c_2 => ?_) (fun c_2 => ?_)
    · have ic_2 : (f_sections : Int32).toInt ≤ (p1 : Int32).toInt := (fa_le f_sections p1).mp c_2
      refine lv_aload_n hx hb dX2_from_30 rfl (lv_at hl 0 rfl) ?_
      refine va_get (D := D) (ci := 2) (v := .int f_count) (C := RX2) (T := TX2) (N := 10) hx hb hts iX2 hown hK hP 0 rfl rfl 7 (by decide) (hw 0 (.fieldLink RX2 34 "NumberFormats$Format" "count" "I") rfl) (fun _ h9 => h9) rfl dX2_from_31 ?_
      exact W.iret (v := f_count) hx hb hr (fun t ht hW => ⟨⟨f_count, (), rfl, (by (try dsimp only); first | omega | assumption), trivial⟩, hS.F ht⟩) hS.2.2 dX2_from_34
    · have ic_2 : ¬ ((f_sections : Int32).toInt ≤ (p1 : Int32).toInt) := fun h9 => c_2 ((fa_le f_sections p1).mpr h9)
      refine lv_iload_n hx hb dX2_from_12 rfl (lv_at hl 1 rfl) ?_
      refine lv_aload_n hx hb dX2_from_13 rfl (lv_at hl 0 rfl) ?_
      refine va_get (D := D) (ci := 2) (v := .ref f_starts) (C := RX2) (T := TX2) (N := 10) hx hb hts iX2 hown hK hP 0 rfl rfl 5 (by decide) (hw 2 (.fieldLink RX2 28 "NumberFormats$Format" "starts" "[I") rfl) (fun _ h9 => h9) rfl dX2_from_14 ?_
      refine va_alen hx hb hK hP 1 0 rfl rfl (v := 4) rfl dX2_from_17 ?_
      refine lv_icmp_ge (tgt := 30) hx hb dX2_from_18 (by decide) (fun c_3 => ?_) (fun c_3 => ?_)
      · have ic_3 : (4 : Int32).toInt ≤ (p1 : Int32).toInt := (fa_le 4 p1).mp c_3
        refine lv_aload_n hx hb dX2_from_30 rfl (lv_at hl 0 rfl) ?_
        refine va_get (D := D) (ci := 2) (v := .int f_count) (C := RX2) (T := TX2) (N := 10) hx hb hts iX2 hown hK hP 0 rfl rfl 7 (by decide) (hw 0 (.fieldLink RX2 34 "NumberFormats$Format" "count" "I") rfl) (fun _ h9 => h9) rfl dX2_from_31 ?_
        exact W.iret (v := f_count) hx hb hr (fun t ht hW => ⟨⟨f_count, (), rfl, (by (try dsimp only); first | omega | assumption), trivial⟩, hS.F ht⟩) hS.2.2 dX2_from_34
      · have ic_3 : ¬ ((4 : Int32).toInt ≤ (p1 : Int32).toInt) := fun h9 => c_3 ((fa_le 4 p1).mpr h9)
        refine lv_aload_n hx hb dX2_from_21 rfl (lv_at hl 0 rfl) ?_
        refine va_get (D := D) (ci := 2) (v := .ref f_starts) (C := RX2) (T := TX2) (N := 10) hx hb hts iX2 hown hK hP 0 rfl rfl 5 (by decide) (hw 2 (.fieldLink RX2 28 "NumberFormats$Format" "starts" "[I") rfl) (fun _ h9 => h9) rfl dX2_from_22 ?_
        refine lv_iload_n hx hb dX2_from_25 rfl (lv_at hl 1 rfl) ?_
        have h_26 : vp_in p1 4 := by rw [vp_in_iff]; omega
        refine va_iald hx hb hK hP 1 0 rfl rfl h_26 dX2_from_26 ?_
        refine lv_topi (fun x_4 ex_4 => ?_)
        have iv_x_4 := (‹∀ k9 : Nat, k9 < 4 → 0 ≤ (f_startsF k9).toInt ∧ (f_startsF k9).toInt ≤ 255›) _ (Nat.lt_of_not_le (fun h9 => h_26 (Or.inr h9)))
        rw [← ex_4] at iv_x_4
        refine lv_goto (tgt := 34) hx hb dX2_from_27 (by decide) ?_
        exact W.iret (v := x_4) hx hb hr (fun t ht hW => ⟨⟨x_4, (), rfl, (by (try dsimp only); first | omega | assumption), trivial⟩, hS.F ht⟩) hS.2.2 dX2_from_34

def ow_X2_to : List Cond := [Cond.fieldLink RX2 34 "NumberFormats$Format" "count" "I", Cond.fieldLink RX2 38 "NumberFormats$Format" "sections" "I", Cond.fieldLink RX2 28 "NumberFormats$Format" "starts" "[I"]
def pw_X2_to : List Cond := Cond.code yX2_to cX2_to 2 (some .int) :: (ow_X2_to ++ (wsX20))
set_option maxRecDepth 20000 in
theorem mo_X2_to : ∀ w ∈ ow_X2_to, w ∈ lw_tbl := by decide +kernel
set_option maxRecDepth 20000 in
theorem mc_X2_to : Cond.code yX2_to cX2_to 2 (some .int) ∈ lw_tbl := by decide +kernel
theorem m_X2_to : ∀ w ∈ pw_X2_to, w ∈ lw_tbl := List.forall_mem_cons.mpr ⟨mc_X2_to, (List.forall_mem_append.mpr ⟨mo_X2_to, inX2⟩)⟩
theorem ko_X2_to : ∀ w ∈ ow_X2_to, goodWord w = true := by decide +kernel
theorem k_X2_to : pw_X2_to.all goodWord = true := List.all_eq_true.mpr (List.forall_mem_cons.mpr ⟨by decide +kernel, (List.forall_mem_append.mpr ⟨ko_X2_to, kX_X2⟩)⟩)
set_option maxHeartbeats 400000 in
set_option maxRecDepth 100000 in
theorem c_X2_to (l : Launch) (D : va_G) (cI cD cJ : ClassId) (sz : Nat) (f : Nat) (f_kinds : Nat) (f_signs : Nat) (f_sizes : Nat) (f_places : Nat) (f_limits : Nat) (f_starts : Nat) (f_sorts : Nat) (f_count : Int32) (f_sections : Int32) (f_fifth : Int32) (f_startsF : Nat → Int32) (p1 : Int32) (hs9 : p1.toInt ≤ 4) (iv_f_count : 0 ≤ (f_count : Int32).toInt ∧ (f_count : Int32).toInt ≤ 255) (iv_f_sections : 0 ≤ (f_sections : Int32).toInt ∧ (f_sections : Int32).toInt ≤ 4) (iv_f_startsF : ∀ k9 : Nat, k9 < 4 → 0 ≤ (f_startsF k9).toInt ∧ (f_startsF k9).toInt ≤ 255) : Met l yX2_to pw_X2_to ({ frames := 0, cells := 0, slots := 0, locals := 0 }) (va_Pc [.ref f, .int p1] (fun U => va_P D vwCl [(f, .inr (2, [.ref f_kinds, .ref f_signs, .ref f_sizes, .ref f_places, .ref f_limits, .ref f_starts, .ref f_sorts, .int f_count, .int f_sections, .int f_fifth])), (f_starts, .inl (cI, 4, .inl f_startsF))] U.heap ∧ va_K D vwCl (ty3 cI cD cJ) U)) (va_Qi (fun (r : Int32) (u : Unit) => (0 ≤ r.toInt ∧ r.toInt ≤ 255)) (fun _ _ => True) (fun _ => False)) 0 0 (fun _ => False) := by
  refine Met.ofW (cc := cX2_to) (maxL := 2) (ret := (some .int)) (by decide +kernel) rfl ?_
  intro p e s m args below meth c s₁ B hml hv
  obtain ⟨rfl, hP, hK⟩ := hv
  have hx := B.exec
  have hb := B.bytes
  have hr := B.returns
  have hts := atoms_spec (ws := pw_X2_to) B.pre
  have hown : s.vm.findClass RX2 = some m.cls := findClass_of_methodNamed B.named
  have hlocks := B.notSynchronized
  have hS : va_S (fun _ => False) s.heap s.heap [] := va_S.rf
  have hw : ∀ (k : Nat) (w : Cond), ow_X2_to[k]? = some w → w.before _ s = true := fun k w h => hts w (List.mem_cons_of_mem _ (have h9 := List.mem_of_getElem? h; List.mem_append_left _ h9))
  have iX2 : ∀ w ∈ u_ws RX2 TX2 10, w ∈ pw_X2_to := fun w h9 => List.mem_cons_of_mem _ (List.mem_append_right _ (h9))
  have n_m1 : (((-1) : Int32)).toInt = (-1) := by decide
  have n_1 : ((1 : Int32)).toInt = 1 := by decide
  have n_4 : ((4 : Int32)).toInt = 4 := by decide
  have hl := lv_entry ([.ref f, .int p1]) (n := 2) (Nat.le_of_ble_eq_true rfl)
  rw [lg_entry_eq]
  generalize (lg_sl ([.ref f, .int p1]) ++ List.replicate (2 - (lg_sl ([.ref f, .int p1])).length) Slot.unset).toArray = ls at hl ⊢
  have hl : lv_has ls 2 [(0, .ref f), (1, .int p1)] := hl
  have b_p1 := ti_b p1
  refine lv_iload_n hx hb dX2_to_0 rfl (lv_at hl 1 rfl) ?_
  refine lv_iconst (v := (-1)) hx hb dX2_to_1 (by decide) ?_
  refine lv_icmp_lt (tgt := 37) hx hb dX2_to_2 (by decide) (fun c_1 => ?_) (fun c_1 => ?_)
  · have ic_1 : (p1 : Int32).toInt < ((-1) : Int32).toInt := (fa_lt p1 (-1)).mp c_1
    refine lv_aload_n hx hb dX2_to_37 rfl (lv_at hl 0 rfl) ?_
    refine va_get (D := D) (ci := 2) (v := .int f_count) (C := RX2) (T := TX2) (N := 10) hx hb hts iX2 hown hK hP 0 rfl rfl 7 (by decide) (hw 0 (.fieldLink RX2 34 "NumberFormats$Format" "count" "I") rfl) (fun _ h9 => h9) rfl dX2_to_38 ?_
    exact W.iret (v := f_count) hx hb hr (fun t ht hW => ⟨⟨f_count, (), rfl, (by (try dsimp only); first | omega | assumption), trivial⟩, hS.F ht⟩) hS.2.2 dX2_to_41
  · have ic_1 : ¬ ((p1 : Int32).toInt < ((-1) : Int32).toInt) := fun h9 => c_1 ((fa_lt p1 (-1)).mpr h9)
    refine lv_iload_n hx hb dX2_to_5 rfl (lv_at hl 1 rfl) ?_
    refine lv_iconst (v := 1) hx hb dX2_to_6 (by decide) ?_
    refine lv_iadd hx hb dX2_to_7 ?_
    refine lv_topi (fun x_2 ex_2 => ?_)
    have tx_2 := ti_add ex_2
    refine lv_aload_n hx hb dX2_to_8 rfl (lv_at hl 0 rfl) ?_
    refine va_get (D := D) (ci := 2) (v := .int f_sections) (C := RX2) (T := TX2) (N := 10) hx hb hts iX2 hown hK hP 0 rfl rfl 8 (by decide) (hw 1 (.fieldLink RX2 38 "NumberFormats$Format" "sections" "I") rfl) (fun _ h9 => h9) rfl dX2_to_9 ?_
    refine lv_icmp_ge (tgt := 37) hx hb dX2_to_12 (by decide) (fun c_3 => ?_) (fun c_3 => ?_)
    · have ic_3 : (f_sections : Int32).toInt ≤ (x_2 : Int32).toInt := (fa_le f_sections x_2).mp c_3
      refine lv_aload_n hx hb dX2_to_37 rfl (lv_at hl 0 rfl) ?_
      refine va_get (D := D) (ci := 2) (v := .int f_count) (C := RX2) (T := TX2) (N := 10) hx hb hts iX2 hown hK hP 0 rfl rfl 7 (by decide) (hw 0 (.fieldLink RX2 34 "NumberFormats$Format" "count" "I") rfl) (fun _ h9 => h9) rfl dX2_to_38 ?_
      exact W.iret (v := f_count) hx hb hr (fun t ht hW => ⟨⟨f_count, (), rfl, (by (try dsimp only); first | omega | assumption), trivial⟩, hS.F ht⟩) hS.2.2 dX2_to_41
    · have ic_3 : ¬ ((f_sections : Int32).toInt ≤ (x_2 : Int32).toInt) := fun h9 => c_3 ((fa_le f_sections x_2).mpr h9)
      refine lv_iload_n hx hb dX2_to_15 rfl (lv_at hl 1 rfl) ?_
      refine lv_iconst (v := 1) hx hb dX2_to_16 (by decide) ?_
      refine lv_iadd hx hb dX2_to_17 ?_
      refine lv_topi (fun x_4 ex_4 => ?_)
      have tx_4 := ti_add ex_4
      refine lv_aload_n hx hb dX2_to_18 rfl (lv_at hl 0 rfl) ?_
      refine va_get (D := D) (ci := 2) (v := .ref f_starts) (C := RX2) (T := TX2) (N := 10) hx hb hts iX2 hown hK hP 0 rfl rfl 5 (by decide) (hw 2 (.fieldLink RX2 28 "NumberFormats$Format" "starts" "[I") rfl) (fun _ h9 => h9) rfl dX2_to_19 ?_
      refine va_alen hx hb hK hP 1 0 rfl rfl (v := 4) rfl dX2_to_22 ?_
      refine lv_icmp_ge (tgt := 37) hx hb dX2_to_23 (by decide) (fun c_5 => ?_) (fun c_5 => ?_)
      · have ic_5 : (4 : Int32).toInt ≤ (x_4 : Int32).toInt := (fa_le 4 x_4).mp c_5
        refine lv_aload_n hx hb dX2_to_37 rfl (lv_at hl 0 rfl) ?_
        refine va_get (D := D) (ci := 2) (v := .int f_count) (C := RX2) (T := TX2) (N := 10) hx hb hts iX2 hown hK hP 0 rfl rfl 7 (by decide) (hw 0 (.fieldLink RX2 34 "NumberFormats$Format" "count" "I") rfl) (fun _ h9 => h9) rfl dX2_to_38 ?_
        exact W.iret (v := f_count) hx hb hr (fun t ht hW => ⟨⟨f_count, (), rfl, (by (try dsimp only); first | omega | assumption), trivial⟩, hS.F ht⟩) hS.2.2 dX2_to_41
      · have ic_5 : ¬ ((4 : Int32).toInt ≤ (x_4 : Int32).toInt) := fun h9 => c_5 ((fa_le 4 x_4).mpr h9)
        refine lv_aload_n hx hb dX2_to_26 rfl (lv_at hl 0 rfl) ?_
        refine va_get (D := D) (ci := 2) (v := .ref f_starts) (C := RX2) (T := TX2) (N := 10) hx hb hts iX2 hown hK hP 0 rfl rfl 5 (by decide) (hw 2 (.fieldLink RX2 28 "NumberFormats$Format" "starts" "[I") rfl) (fun _ h9 => h9) rfl dX2_to_27 ?_
        refine lv_iload_n hx hb dX2_to_30 rfl (lv_at hl 1 rfl) ?_
        refine lv_iconst (v := 1) hx hb dX2_to_31 (by decide) ?_
        refine lv_iadd hx hb dX2_to_32 ?_
        refine lv_topi (fun x_6 ex_6 => ?_)
        have tx_6 := ti_add ex_6
        have h_33 : vp_in x_6 4 := by rw [vp_in_iff]; omega
        refine va_iald hx hb hK hP 1 0 rfl rfl h_33 dX2_to_33 ?_
        refine lv_topi (fun x_7 ex_7 => ?_)
        have iv_x_7 := (‹∀ k9 : Nat, k9 < 4 → 0 ≤ (f_startsF k9).toInt ∧ (f_startsF k9).toInt ≤ 255›) _ (Nat.lt_of_not_le (fun h9 => h_33 (Or.inr h9)))
        rw [← ex_7] at iv_x_7
        refine lv_goto (tgt := 41) hx hb dX2_to_34 (by decide) ?_
        exact W.iret (v := x_7) hx hb hr (fun t ht hW => ⟨⟨x_7, (), rfl, (by (try dsimp only); first | omega | assumption), trivial⟩, hS.F ht⟩) hS.2.2 dX2_to_41

def ow_X2_sort : List Cond := [Cond.fieldLink RX2 31 "NumberFormats$Format" "sorts" "[I"]
def pw_X2_sort : List Cond := Cond.code yX2_sort cX2_sort 2 (some .int) :: (ow_X2_sort ++ (wsX20))
set_option maxRecDepth 20000 in
theorem mo_X2_sort : ∀ w ∈ ow_X2_sort, w ∈ lw_tbl := by decide +kernel
set_option maxRecDepth 20000 in
theorem mc_X2_sort : Cond.code yX2_sort cX2_sort 2 (some .int) ∈ lw_tbl := by decide +kernel
theorem m_X2_sort : ∀ w ∈ pw_X2_sort, w ∈ lw_tbl := List.forall_mem_cons.mpr ⟨mc_X2_sort, (List.forall_mem_append.mpr ⟨mo_X2_sort, inX2⟩)⟩
theorem ko_X2_sort : ∀ w ∈ ow_X2_sort, goodWord w = true := by decide +kernel
theorem k_X2_sort : pw_X2_sort.all goodWord = true := List.all_eq_true.mpr (List.forall_mem_cons.mpr ⟨by decide +kernel, (List.forall_mem_append.mpr ⟨ko_X2_sort, kX_X2⟩)⟩)
set_option maxHeartbeats 400000 in
set_option maxRecDepth 100000 in
theorem c_X2_sort (l : Launch) (D : va_G) (cI cD cJ : ClassId) (sz : Nat) (f : Nat) (f_kinds : Nat) (f_signs : Nat) (f_sizes : Nat) (f_places : Nat) (f_limits : Nat) (f_starts : Nat) (f_sorts : Nat) (f_count : Int32) (f_sections : Int32) (f_fifth : Int32) (f_sortsF : Nat → Int32) (p1 : Int32) (iv_f_count : 0 ≤ (f_count : Int32).toInt ∧ (f_count : Int32).toInt ≤ 255) (iv_f_sections : 0 ≤ (f_sections : Int32).toInt ∧ (f_sections : Int32).toInt ≤ 4) : Met l yX2_sort pw_X2_sort ({ frames := 0, cells := 0, slots := 0, locals := 0 }) (va_Pc [.ref f, .int p1] (fun U => va_P D vwCl [(f, .inr (2, [.ref f_kinds, .ref f_signs, .ref f_sizes, .ref f_places, .ref f_limits, .ref f_starts, .ref f_sorts, .int f_count, .int f_sections, .int f_fifth])), (f_sorts, .inl (cI, 4, .inl f_sortsF))] U.heap ∧ va_K D vwCl (ty3 cI cD cJ) U)) (va_Qi (fun (r : Int32) (u : Unit) => True) (fun _ _ => True) (fun _ => False)) 0 0 (fun _ => False) := by
  refine Met.ofW (cc := cX2_sort) (maxL := 2) (ret := (some .int)) (by decide +kernel) rfl ?_
  intro p e s m args below meth c s₁ B hml hv
  obtain ⟨rfl, hP, hK⟩ := hv
  have hx := B.exec
  have hb := B.bytes
  have hr := B.returns
  have hts := atoms_spec (ws := pw_X2_sort) B.pre
  have hown : s.vm.findClass RX2 = some m.cls := findClass_of_methodNamed B.named
  have hlocks := B.notSynchronized
  have hS : va_S (fun _ => False) s.heap s.heap [] := va_S.rf
  have hw : ∀ (k : Nat) (w : Cond), ow_X2_sort[k]? = some w → w.before _ s = true := fun k w h => hts w (List.mem_cons_of_mem _ (have h9 := List.mem_of_getElem? h; List.mem_append_left _ h9))
  have iX2 : ∀ w ∈ u_ws RX2 TX2 10, w ∈ pw_X2_sort := fun w h9 => List.mem_cons_of_mem _ (List.mem_append_right _ (h9))
  have n_0 : ((0 : Int32)).toInt = 0 := by decide
  have n_4 : ((4 : Int32)).toInt = 4 := by decide
  have hl := lv_entry ([.ref f, .int p1]) (n := 2) (Nat.le_of_ble_eq_true rfl)
  rw [lg_entry_eq]
  generalize (lg_sl ([.ref f, .int p1]) ++ List.replicate (2 - (lg_sl ([.ref f, .int p1])).length) Slot.unset).toArray = ls at hl ⊢
  have hl : lv_has ls 2 [(0, .ref f), (1, .int p1)] := hl
  have b_p1 := ti_b p1
  refine lv_iload_n hx hb dX2_sort_0 rfl (lv_at hl 1 rfl) ?_
  refine lv_if_lt (tgt := 22) hx hb dX2_sort_1 (by decide) (fun c_1 => ?_) (fun c_1 => ?_)
  · have ic_1 : (p1 : Int32).toInt < (0 : Int32).toInt := (fa_lt p1 0).mp c_1
    refine lv_iconst (v := 0) hx hb dX2_sort_22 (by decide) ?_
    exact W.iret (v := 0) hx hb hr (fun t ht hW => ⟨⟨0, (), rfl, trivial, trivial⟩, hS.F ht⟩) hS.2.2 dX2_sort_23
  · have ic_1 : ¬ ((p1 : Int32).toInt < (0 : Int32).toInt) := fun h9 => c_1 ((fa_lt p1 0).mpr h9)
    refine lv_iload_n hx hb dX2_sort_4 rfl (lv_at hl 1 rfl) ?_
    refine lv_aload_n hx hb dX2_sort_5 rfl (lv_at hl 0 rfl) ?_
    refine va_get (D := D) (ci := 2) (v := .ref f_sorts) (C := RX2) (T := TX2) (N := 10) hx hb hts iX2 hown hK hP 0 rfl rfl 6 (by decide) (hw 0 (.fieldLink RX2 31 "NumberFormats$Format" "sorts" "[I") rfl) (fun _ h9 => h9) rfl dX2_sort_6 ?_
    refine va_alen hx hb hK hP 1 0 rfl rfl (v := 4) rfl dX2_sort_9 ?_
    refine lv_icmp_ge (tgt := 22) hx hb dX2_sort_10 (by decide) (fun c_2 => ?_) (fun c_2 => ?_)
    · have ic_2 : (4 : Int32).toInt ≤ (p1 : Int32).toInt := (fa_le 4 p1).mp c_2
      refine lv_iconst (v := 0) hx hb dX2_sort_22 (by decide) ?_
      exact W.iret (v := 0) hx hb hr (fun t ht hW => ⟨⟨0, (), rfl, trivial, trivial⟩, hS.F ht⟩) hS.2.2 dX2_sort_23
    · have ic_2 : ¬ ((4 : Int32).toInt ≤ (p1 : Int32).toInt) := fun h9 => c_2 ((fa_le 4 p1).mpr h9)
      refine lv_aload_n hx hb dX2_sort_13 rfl (lv_at hl 0 rfl) ?_
      refine va_get (D := D) (ci := 2) (v := .ref f_sorts) (C := RX2) (T := TX2) (N := 10) hx hb hts iX2 hown hK hP 0 rfl rfl 6 (by decide) (hw 0 (.fieldLink RX2 31 "NumberFormats$Format" "sorts" "[I") rfl) (fun _ h9 => h9) rfl dX2_sort_14 ?_
      refine lv_iload_n hx hb dX2_sort_17 rfl (lv_at hl 1 rfl) ?_
      have h_18 : vp_in p1 4 := by rw [vp_in_iff]; omega
      refine va_iald hx hb hK hP 1 0 rfl rfl h_18 dX2_sort_18 ?_
      refine lv_topi (fun x_3 ex_3 => ?_)
      refine lv_goto (tgt := 23) hx hb dX2_sort_19 (by decide) ?_
      exact W.iret (v := x_3) hx hb hr (fun t ht hW => ⟨⟨x_3, (), rfl, trivial, trivial⟩, hS.F ht⟩) hS.2.2 dX2_sort_23

def ow_X2_setSort : List Cond := [Cond.fieldLink RX2 31 "NumberFormats$Format" "sorts" "[I"]
def pw_X2_setSort : List Cond := Cond.code yX2_setSort cX2_setSort 3 none :: (ow_X2_setSort ++ (wsX20))
set_option maxRecDepth 20000 in
theorem mo_X2_setSort : ∀ w ∈ ow_X2_setSort, w ∈ lw_tbl := by decide +kernel
set_option maxRecDepth 20000 in
theorem mc_X2_setSort : Cond.code yX2_setSort cX2_setSort 3 none ∈ lw_tbl := by decide +kernel
theorem m_X2_setSort : ∀ w ∈ pw_X2_setSort, w ∈ lw_tbl := List.forall_mem_cons.mpr ⟨mc_X2_setSort, (List.forall_mem_append.mpr ⟨mo_X2_setSort, inX2⟩)⟩
theorem ko_X2_setSort : ∀ w ∈ ow_X2_setSort, goodWord w = true := by decide +kernel
theorem k_X2_setSort : pw_X2_setSort.all goodWord = true := List.all_eq_true.mpr (List.forall_mem_cons.mpr ⟨by decide +kernel, (List.forall_mem_append.mpr ⟨ko_X2_setSort, kX_X2⟩)⟩)
set_option maxHeartbeats 400000 in
set_option maxRecDepth 100000 in
theorem c_X2_setSort (l : Launch) (D : va_G) (cI cD cJ : ClassId) (sz : Nat) (f : Nat) (f_kinds : Nat) (f_signs : Nat) (f_sizes : Nat) (f_places : Nat) (f_limits : Nat) (f_starts : Nat) (f_sorts : Nat) (f_count : Int32) (f_sections : Int32) (f_fifth : Int32) (f_sortsF : Nat → Int32) (p1 : Int32) (p2 : Int32) (iv_f_count : 0 ≤ (f_count : Int32).toInt ∧ (f_count : Int32).toInt ≤ 255) (iv_f_sections : 0 ≤ (f_sections : Int32).toInt ∧ (f_sections : Int32).toInt ≤ 4) : Met l yX2_setSort pw_X2_setSort ({ frames := 0, cells := 0, slots := 0, locals := 0 }) (va_Pc [.ref f, .int p1, .int p2] (fun U => U.heap.size = sz ∧ va_P D vwCl [(f, .inr (2, [.ref f_kinds, .ref f_signs, .ref f_sizes, .ref f_places, .ref f_limits, .ref f_starts, .ref f_sorts, .int f_count, .int f_sections, .int f_fifth])), (f_sorts, .inl (cI, 4, .inl f_sortsF))] U.heap ∧ va_K D vwCl (ty3 cI cD cJ) U ∧ va_D (fun _ => True) [(f, .inr (2, [.ref f_kinds, .ref f_signs, .ref f_sizes, .ref f_places, .ref f_limits, .ref f_starts, .ref f_sorts, .int f_count, .int f_sections, .int f_fifth])), (f_sorts, .inl (cI, 4, .inl f_sortsF))])) (va_Qv (fun (f_sortsF2 : (Nat → Int32)) => True) (fun (f_sortsF2 : (Nat → Int32)) (t : State) => va_P D vwCl [(f, .inr (2, [.ref f_kinds, .ref f_signs, .ref f_sizes, .ref f_places, .ref f_limits, .ref f_starts, .ref f_sorts, .int f_count, .int f_sections, .int f_fifth])), (f_sorts, .inl (cI, 4, .inl f_sortsF2))] t.heap ∧ va_K D vwCl (ty3 cI cD cJ) t ∧ va_D (va_A [(f, .inr (2, [.ref f_kinds, .ref f_signs, .ref f_sizes, .ref f_places, .ref f_limits, .ref f_starts, .ref f_sorts, .int f_count, .int f_sections, .int f_fifth])), (f_sorts, .inl (cI, 4, .inl f_sortsF))] sz) [(f, .inr (2, [.ref f_kinds, .ref f_signs, .ref f_sizes, .ref f_places, .ref f_limits, .ref f_starts, .ref f_sorts, .int f_count, .int f_sections, .int f_fifth])), (f_sorts, .inl (cI, 4, .inl f_sortsF2))]) (va_A [(f, .inr (2, [.ref f_kinds, .ref f_signs, .ref f_sizes, .ref f_places, .ref f_limits, .ref f_starts, .ref f_sorts, .int f_count, .int f_sections, .int f_fifth])), (f_sorts, .inl (cI, 4, .inl f_sortsF))] sz)) 0 0 (va_A [(f, .inr (2, [.ref f_kinds, .ref f_signs, .ref f_sizes, .ref f_places, .ref f_limits, .ref f_starts, .ref f_sorts, .int f_count, .int f_sections, .int f_fifth])), (f_sorts, .inl (cI, 4, .inl f_sortsF))] sz) := by
  refine Met.ofW (cc := cX2_setSort) (maxL := 3) (ret := none) (by decide +kernel) rfl ?_
  intro p e s m args below meth c s₁ B hml hv
  obtain ⟨rfl, hsz, hP, hK, hD0⟩ := hv
  have hx := B.exec
  have hb := B.bytes
  have hr := B.returns
  have hts := atoms_spec (ws := pw_X2_setSort) B.pre
  have hown : s.vm.findClass RX2 = some m.cls := findClass_of_methodNamed B.named
  have hlocks := B.notSynchronized
  subst hsz
  have hD := hD0.self (sz := s.heap.size)
  generalize hAe : va_A [(f, .inr (2, [.ref f_kinds, .ref f_signs, .ref f_sizes, .ref f_places, .ref f_limits, .ref f_starts, .ref f_sorts, .int f_count, .int f_sections, .int f_fifth])), (f_sorts, .inl (cI, 4, .inl f_sortsF))] s.heap.size = A at hD ⊢
  have hA : ∀ q : Nat, s.heap.size ≤ q → A q := fun q h => by rw [← hAe]; exact Or.inr h
  have hS : va_S A s.heap s.heap [] := va_S.rf
  have hw : ∀ (k : Nat) (w : Cond), ow_X2_setSort[k]? = some w → w.before _ s = true := fun k w h => hts w (List.mem_cons_of_mem _ (have h9 := List.mem_of_getElem? h; List.mem_append_left _ h9))
  have iX2 : ∀ w ∈ u_ws RX2 TX2 10, w ∈ pw_X2_setSort := fun w h9 => List.mem_cons_of_mem _ (List.mem_append_right _ (h9))
  have n_0 : ((0 : Int32)).toInt = 0 := by decide
  have n_4 : ((4 : Int32)).toInt = 4 := by decide
  have hl := lv_entry ([.ref f, .int p1, .int p2]) (n := 3) (Nat.le_of_ble_eq_true rfl)
  rw [lg_entry_eq]
  generalize (lg_sl ([.ref f, .int p1, .int p2]) ++ List.replicate (3 - (lg_sl ([.ref f, .int p1, .int p2])).length) Slot.unset).toArray = ls at hl ⊢
  have hl : lv_has ls 3 [(0, .ref f), (1, .int p1), (2, .int p2)] := hl
  have b_p1 := ti_b p1
  have b_p2 := ti_b p2
  refine lv_iload_n hx hb dX2_setSort_0 rfl (lv_at hl 1 rfl) ?_
  refine lv_if_lt (tgt := 20) hx hb dX2_setSort_1 (by decide) (fun c_1 => ?_) (fun c_1 => ?_)
  · have ic_1 : (p1 : Int32).toInt < (0 : Int32).toInt := (fa_lt p1 0).mp c_1
    have hP9 := hP.sub (ws' := [(f, .inr (2, [.ref f_kinds, .ref f_signs, .ref f_sizes, .ref f_places, .ref f_limits, .ref f_starts, .ref f_sorts, .int f_count, .int f_sections, .int f_fifth])), (f_sorts, .inl (cI, 4, .inl f_sortsF))]) [0, 1] rfl
    have hD9 := hD.sub (ws' := [(f, .inr (2, [.ref f_kinds, .ref f_signs, .ref f_sizes, .ref f_places, .ref f_limits, .ref f_starts, .ref f_sorts, .int f_count, .int f_sections, .int f_fifth])), (f_sorts, .inl (cI, 4, .inl f_sortsF))]) [0, 1] (by decide) rfl
    exact W.vret hx hb hr (fun t ht hW => ⟨⟨(f_sortsF), rfl, trivial, by rw [ht]; exact hP9, va_K.moved hW.alike hK, hD9⟩, hS.F ht⟩) hS.2.2 dX2_setSort_20
  · have ic_1 : ¬ ((p1 : Int32).toInt < (0 : Int32).toInt) := fun h9 => c_1 ((fa_lt p1 0).mpr h9)
    refine lv_iload_n hx hb dX2_setSort_4 rfl (lv_at hl 1 rfl) ?_
    refine lv_aload_n hx hb dX2_setSort_5 rfl (lv_at hl 0 rfl) ?_
    refine va_get (D := D) (ci := 2) (v := .ref f_sorts) (C := RX2) (T := TX2) (N := 10) hx hb hts iX2 hown hK hP 0 rfl rfl 6 (by decide) (hw 0 (.fieldLink RX2 31 "NumberFormats$Format" "sorts" "[I") rfl) (fun _ h9 => h9) rfl dX2_setSort_6 ?_
    refine va_alen hx hb hK hP 1 0 rfl rfl (v := 4) rfl dX2_setSort_9 ?_
    refine lv_icmp_ge (tgt := 20) hx hb dX2_setSort_10 (by decide) (fun c_2 => ?_) (fun c_2 => ?_)
    · have ic_2 : (4 : Int32).toInt ≤ (p1 : Int32).toInt := (fa_le 4 p1).mp c_2
      have hP9 := hP.sub (ws' := [(f, .inr (2, [.ref f_kinds, .ref f_signs, .ref f_sizes, .ref f_places, .ref f_limits, .ref f_starts, .ref f_sorts, .int f_count, .int f_sections, .int f_fifth])), (f_sorts, .inl (cI, 4, .inl f_sortsF))]) [0, 1] rfl
      have hD9 := hD.sub (ws' := [(f, .inr (2, [.ref f_kinds, .ref f_signs, .ref f_sizes, .ref f_places, .ref f_limits, .ref f_starts, .ref f_sorts, .int f_count, .int f_sections, .int f_fifth])), (f_sorts, .inl (cI, 4, .inl f_sortsF))]) [0, 1] (by decide) rfl
      exact W.vret hx hb hr (fun t ht hW => ⟨⟨(f_sortsF), rfl, trivial, by rw [ht]; exact hP9, va_K.moved hW.alike hK, hD9⟩, hS.F ht⟩) hS.2.2 dX2_setSort_20
    · have ic_2 : ¬ ((4 : Int32).toInt ≤ (p1 : Int32).toInt) := fun h9 => c_2 ((fa_le 4 p1).mpr h9)
      refine lv_aload_n hx hb dX2_setSort_13 rfl (lv_at hl 0 rfl) ?_
      refine va_get (D := D) (ci := 2) (v := .ref f_sorts) (C := RX2) (T := TX2) (N := 10) hx hb hts iX2 hown hK hP 0 rfl rfl 6 (by decide) (hw 0 (.fieldLink RX2 31 "NumberFormats$Format" "sorts" "[I") rfl) (fun _ h9 => h9) rfl dX2_setSort_14 ?_
      refine lv_iload_n hx hb dX2_setSort_17 rfl (lv_at hl 1 rfl) ?_
      refine lv_iload_n hx hb dX2_setSort_18 rfl (lv_at hl 2 rfl) ?_
      have h_19 : vp_in p1 4 := by rw [vp_in_iff]; omega
      refine va_iast hx hb hK hP hD hS 1 0 rfl rfl h_19 dX2_setSort_19 (fun H locs hP hD hS => ?_)
      obtain ⟨f_3, ef_3⟩ : ∃ y : Nat → Int32, y = upd f_sortsF (p1 : Int32).toNatClampNeg p2 := ⟨_, rfl⟩
      rw [← ef_3] at hP hD
      have hP : va_P D vwCl [(f, .inr (2, [.ref f_kinds, .ref f_signs, .ref f_sizes, .ref f_places, .ref f_limits, .ref f_starts, .ref f_sorts, .int f_count, .int f_sections, .int f_fifth])), (f_sorts, .inl (cI, 4, .inl f_3))] H := hP
      have hD : va_D A [(f, .inr (2, [.ref f_kinds, .ref f_signs, .ref f_sizes, .ref f_places, .ref f_limits, .ref f_starts, .ref f_sorts, .int f_count, .int f_sections, .int f_fifth])), (f_sorts, .inl (cI, 4, .inl f_3))] := hD
      have hP9 := hP.sub (ws' := [(f, .inr (2, [.ref f_kinds, .ref f_signs, .ref f_sizes, .ref f_places, .ref f_limits, .ref f_starts, .ref f_sorts, .int f_count, .int f_sections, .int f_fifth])), (f_sorts, .inl (cI, 4, .inl f_3))]) [0, 1] rfl
      have hD9 := hD.sub (ws' := [(f, .inr (2, [.ref f_kinds, .ref f_signs, .ref f_sizes, .ref f_places, .ref f_limits, .ref f_starts, .ref f_sorts, .int f_count, .int f_sections, .int f_fifth])), (f_sorts, .inl (cI, 4, .inl f_3))]) [0, 1] (by decide) rfl
      exact W.vret hx hb hr (fun t ht hW => ⟨⟨(f_3), rfl, trivial, by rw [ht]; exact hP9, va_K.moved hW.alike hK, hD9⟩, hS.F ht⟩) hS.2.2 dX2_setSort_20

def ow_X2_kind : List Cond := [Cond.fieldLink RX2 34 "NumberFormats$Format" "count" "I", Cond.fieldLink RX2 9 "NumberFormats$Format" "kinds" "[I"]
def pw_X2_kind : List Cond := Cond.code yX2_kind cX2_kind 2 (some .int) :: (ow_X2_kind ++ (wsX20))
set_option maxRecDepth 20000 in
theorem mo_X2_kind : ∀ w ∈ ow_X2_kind, w ∈ lw_tbl := by decide +kernel
set_option maxRecDepth 20000 in
theorem mc_X2_kind : Cond.code yX2_kind cX2_kind 2 (some .int) ∈ lw_tbl := by decide +kernel
theorem m_X2_kind : ∀ w ∈ pw_X2_kind, w ∈ lw_tbl := List.forall_mem_cons.mpr ⟨mc_X2_kind, (List.forall_mem_append.mpr ⟨mo_X2_kind, inX2⟩)⟩
theorem ko_X2_kind : ∀ w ∈ ow_X2_kind, goodWord w = true := by decide +kernel
theorem k_X2_kind : pw_X2_kind.all goodWord = true := List.all_eq_true.mpr (List.forall_mem_cons.mpr ⟨by decide +kernel, (List.forall_mem_append.mpr ⟨ko_X2_kind, kX_X2⟩)⟩)
set_option maxHeartbeats 400000 in
set_option maxRecDepth 100000 in
theorem c_X2_kind (l : Launch) (D : va_G) (cI cD cJ : ClassId) (sz : Nat) (f : Nat) (f_kinds : Nat) (f_signs : Nat) (f_sizes : Nat) (f_places : Nat) (f_limits : Nat) (f_starts : Nat) (f_sorts : Nat) (f_count : Int32) (f_sections : Int32) (f_fifth : Int32) (f_kindsF : Nat → Int32) (p1 : Int32) (iv_f_count : 0 ≤ (f_count : Int32).toInt ∧ (f_count : Int32).toInt ≤ 255) (iv_f_sections : 0 ≤ (f_sections : Int32).toInt ∧ (f_sections : Int32).toInt ≤ 4) : Met l yX2_kind pw_X2_kind ({ frames := 0, cells := 0, slots := 0, locals := 0 }) (va_Pc [.ref f, .int p1] (fun U => va_P D vwCl [(f, .inr (2, [.ref f_kinds, .ref f_signs, .ref f_sizes, .ref f_places, .ref f_limits, .ref f_starts, .ref f_sorts, .int f_count, .int f_sections, .int f_fifth])), (f_kinds, .inl (cI, 255, .inl f_kindsF))] U.heap ∧ va_K D vwCl (ty3 cI cD cJ) U)) (va_Qi (fun (r : Int32) (u : Unit) => True) (fun _ _ => True) (fun _ => False)) 0 0 (fun _ => False) := by
  refine Met.ofW (cc := cX2_kind) (maxL := 2) (ret := (some .int)) (by decide +kernel) rfl ?_
  intro p e s m args below meth c s₁ B hml hv
  obtain ⟨rfl, hP, hK⟩ := hv
  have hx := B.exec
  have hb := B.bytes
  have hr := B.returns
  have hts := atoms_spec (ws := pw_X2_kind) B.pre
  have hown : s.vm.findClass RX2 = some m.cls := findClass_of_methodNamed B.named
  have hlocks := B.notSynchronized
  have hS : va_S (fun _ => False) s.heap s.heap [] := va_S.rf
  have hw : ∀ (k : Nat) (w : Cond), ow_X2_kind[k]? = some w → w.before _ s = true := fun k w h => hts w (List.mem_cons_of_mem _ (have h9 := List.mem_of_getElem? h; List.mem_append_left _ h9))
  have iX2 : ∀ w ∈ u_ws RX2 TX2 10, w ∈ pw_X2_kind := fun w h9 => List.mem_cons_of_mem _ (List.mem_append_right _ (h9))
  have n_m1 : (((-1) : Int32)).toInt = (-1) := by decide
  have n_0 : ((0 : Int32)).toInt = 0 := by decide
  have n_255 : ((255 : Int32)).toInt = 255 := by decide
  have hl := lv_entry ([.ref f, .int p1]) (n := 2) (Nat.le_of_ble_eq_true rfl)
  rw [lg_entry_eq]
  generalize (lg_sl ([.ref f, .int p1]) ++ List.replicate (2 - (lg_sl ([.ref f, .int p1])).length) Slot.unset).toArray = ls at hl ⊢
  have hl : lv_has ls 2 [(0, .ref f), (1, .int p1)] := hl
  have b_p1 := ti_b p1
  refine lv_iload_n hx hb dX2_kind_0 rfl (lv_at hl 1 rfl) ?_
  refine lv_if_lt (tgt := 30) hx hb dX2_kind_1 (by decide) (fun c_1 => ?_) (fun c_1 => ?_)
  · have ic_1 : (p1 : Int32).toInt < (0 : Int32).toInt := (fa_lt p1 0).mp c_1
    refine lv_iconst (v := (-1)) hx hb dX2_kind_30 (by decide) ?_
    exact W.iret (v := (-1)) hx hb hr (fun t ht hW => ⟨⟨(-1), (), rfl, trivial, trivial⟩, hS.F ht⟩) hS.2.2 dX2_kind_31
  · have ic_1 : ¬ ((p1 : Int32).toInt < (0 : Int32).toInt) := fun h9 => c_1 ((fa_lt p1 0).mpr h9)
    refine lv_iload_n hx hb dX2_kind_4 rfl (lv_at hl 1 rfl) ?_
    refine lv_aload_n hx hb dX2_kind_5 rfl (lv_at hl 0 rfl) ?_
    refine va_get (D := D) (ci := 2) (v := .int f_count) (C := RX2) (T := TX2) (N := 10) hx hb hts iX2 hown hK hP 0 rfl rfl 7 (by decide) (hw 0 (.fieldLink RX2 34 "NumberFormats$Format" "count" "I") rfl) (fun _ h9 => h9) rfl dX2_kind_6 ?_
    refine lv_icmp_ge (tgt := 30) hx hb dX2_kind_9 (by decide) (fun c_2 => ?_) (fun c_2 => ?_)
    · have ic_2 : (f_count : Int32).toInt ≤ (p1 : Int32).toInt := (fa_le f_count p1).mp c_2
      refine lv_iconst (v := (-1)) hx hb dX2_kind_30 (by decide) ?_
      exact W.iret (v := (-1)) hx hb hr (fun t ht hW => ⟨⟨(-1), (), rfl, trivial, trivial⟩, hS.F ht⟩) hS.2.2 dX2_kind_31
    · have ic_2 : ¬ ((f_count : Int32).toInt ≤ (p1 : Int32).toInt) := fun h9 => c_2 ((fa_le f_count p1).mpr h9)
      refine lv_iload_n hx hb dX2_kind_12 rfl (lv_at hl 1 rfl) ?_
      refine lv_aload_n hx hb dX2_kind_13 rfl (lv_at hl 0 rfl) ?_
      refine va_get (D := D) (ci := 2) (v := .ref f_kinds) (C := RX2) (T := TX2) (N := 10) hx hb hts iX2 hown hK hP 0 rfl rfl 0 (by decide) (hw 1 (.fieldLink RX2 9 "NumberFormats$Format" "kinds" "[I") rfl) (fun _ h9 => h9) rfl dX2_kind_14 ?_
      refine va_alen hx hb hK hP 1 0 rfl rfl (v := 255) rfl dX2_kind_17 ?_
      refine lv_icmp_ge (tgt := 30) hx hb dX2_kind_18 (by decide) (fun c_3 => ?_) (fun c_3 => ?_)
      · have ic_3 : (255 : Int32).toInt ≤ (p1 : Int32).toInt := (fa_le 255 p1).mp c_3
        refine lv_iconst (v := (-1)) hx hb dX2_kind_30 (by decide) ?_
        exact W.iret (v := (-1)) hx hb hr (fun t ht hW => ⟨⟨(-1), (), rfl, trivial, trivial⟩, hS.F ht⟩) hS.2.2 dX2_kind_31
      · have ic_3 : ¬ ((255 : Int32).toInt ≤ (p1 : Int32).toInt) := fun h9 => c_3 ((fa_le 255 p1).mpr h9)
        refine lv_aload_n hx hb dX2_kind_21 rfl (lv_at hl 0 rfl) ?_
        refine va_get (D := D) (ci := 2) (v := .ref f_kinds) (C := RX2) (T := TX2) (N := 10) hx hb hts iX2 hown hK hP 0 rfl rfl 0 (by decide) (hw 1 (.fieldLink RX2 9 "NumberFormats$Format" "kinds" "[I") rfl) (fun _ h9 => h9) rfl dX2_kind_22 ?_
        refine lv_iload_n hx hb dX2_kind_25 rfl (lv_at hl 1 rfl) ?_
        have h_26 : vp_in p1 255 := by rw [vp_in_iff]; omega
        refine va_iald hx hb hK hP 1 0 rfl rfl h_26 dX2_kind_26 ?_
        refine lv_topi (fun x_4 ex_4 => ?_)
        refine lv_goto (tgt := 31) hx hb dX2_kind_27 (by decide) ?_
        exact W.iret (v := x_4) hx hb hr (fun t ht hW => ⟨⟨x_4, (), rfl, trivial, trivial⟩, hS.F ht⟩) hS.2.2 dX2_kind_31

def ow_X2_setKind : List Cond := [Cond.fieldLink RX2 34 "NumberFormats$Format" "count" "I", Cond.fieldLink RX2 9 "NumberFormats$Format" "kinds" "[I"]
def pw_X2_setKind : List Cond := Cond.code yX2_setKind cX2_setKind 3 none :: (ow_X2_setKind ++ (wsX20))
set_option maxRecDepth 20000 in
theorem mo_X2_setKind : ∀ w ∈ ow_X2_setKind, w ∈ lw_tbl := by decide +kernel
set_option maxRecDepth 20000 in
theorem mc_X2_setKind : Cond.code yX2_setKind cX2_setKind 3 none ∈ lw_tbl := by decide +kernel
theorem m_X2_setKind : ∀ w ∈ pw_X2_setKind, w ∈ lw_tbl := List.forall_mem_cons.mpr ⟨mc_X2_setKind, (List.forall_mem_append.mpr ⟨mo_X2_setKind, inX2⟩)⟩
theorem ko_X2_setKind : ∀ w ∈ ow_X2_setKind, goodWord w = true := by decide +kernel
theorem k_X2_setKind : pw_X2_setKind.all goodWord = true := List.all_eq_true.mpr (List.forall_mem_cons.mpr ⟨by decide +kernel, (List.forall_mem_append.mpr ⟨ko_X2_setKind, kX_X2⟩)⟩)
set_option maxHeartbeats 400000 in
set_option maxRecDepth 100000 in
theorem c_X2_setKind (l : Launch) (D : va_G) (cI cD cJ : ClassId) (sz : Nat) (f : Nat) (f_kinds : Nat) (f_signs : Nat) (f_sizes : Nat) (f_places : Nat) (f_limits : Nat) (f_starts : Nat) (f_sorts : Nat) (f_count : Int32) (f_sections : Int32) (f_fifth : Int32) (f_kindsF : Nat → Int32) (p1 : Int32) (p2 : Int32) (iv_f_count : 0 ≤ (f_count : Int32).toInt ∧ (f_count : Int32).toInt ≤ 255) (iv_f_sections : 0 ≤ (f_sections : Int32).toInt ∧ (f_sections : Int32).toInt ≤ 4) : Met l yX2_setKind pw_X2_setKind ({ frames := 0, cells := 0, slots := 0, locals := 0 }) (va_Pc [.ref f, .int p1, .int p2] (fun U => U.heap.size = sz ∧ va_P D vwCl [(f, .inr (2, [.ref f_kinds, .ref f_signs, .ref f_sizes, .ref f_places, .ref f_limits, .ref f_starts, .ref f_sorts, .int f_count, .int f_sections, .int f_fifth])), (f_kinds, .inl (cI, 255, .inl f_kindsF))] U.heap ∧ va_K D vwCl (ty3 cI cD cJ) U ∧ va_D (fun _ => True) [(f, .inr (2, [.ref f_kinds, .ref f_signs, .ref f_sizes, .ref f_places, .ref f_limits, .ref f_starts, .ref f_sorts, .int f_count, .int f_sections, .int f_fifth])), (f_kinds, .inl (cI, 255, .inl f_kindsF))])) (va_Qv (fun (f_kindsF2 : (Nat → Int32)) => True) (fun (f_kindsF2 : (Nat → Int32)) (t : State) => va_P D vwCl [(f, .inr (2, [.ref f_kinds, .ref f_signs, .ref f_sizes, .ref f_places, .ref f_limits, .ref f_starts, .ref f_sorts, .int f_count, .int f_sections, .int f_fifth])), (f_kinds, .inl (cI, 255, .inl f_kindsF2))] t.heap ∧ va_K D vwCl (ty3 cI cD cJ) t ∧ va_D (va_A [(f, .inr (2, [.ref f_kinds, .ref f_signs, .ref f_sizes, .ref f_places, .ref f_limits, .ref f_starts, .ref f_sorts, .int f_count, .int f_sections, .int f_fifth])), (f_kinds, .inl (cI, 255, .inl f_kindsF))] sz) [(f, .inr (2, [.ref f_kinds, .ref f_signs, .ref f_sizes, .ref f_places, .ref f_limits, .ref f_starts, .ref f_sorts, .int f_count, .int f_sections, .int f_fifth])), (f_kinds, .inl (cI, 255, .inl f_kindsF2))]) (va_A [(f, .inr (2, [.ref f_kinds, .ref f_signs, .ref f_sizes, .ref f_places, .ref f_limits, .ref f_starts, .ref f_sorts, .int f_count, .int f_sections, .int f_fifth])), (f_kinds, .inl (cI, 255, .inl f_kindsF))] sz)) 0 0 (va_A [(f, .inr (2, [.ref f_kinds, .ref f_signs, .ref f_sizes, .ref f_places, .ref f_limits, .ref f_starts, .ref f_sorts, .int f_count, .int f_sections, .int f_fifth])), (f_kinds, .inl (cI, 255, .inl f_kindsF))] sz) := by
  refine Met.ofW (cc := cX2_setKind) (maxL := 3) (ret := none) (by decide +kernel) rfl ?_
  intro p e s m args below meth c s₁ B hml hv
  obtain ⟨rfl, hsz, hP, hK, hD0⟩ := hv
  have hx := B.exec
  have hb := B.bytes
  have hr := B.returns
  have hts := atoms_spec (ws := pw_X2_setKind) B.pre
  have hown : s.vm.findClass RX2 = some m.cls := findClass_of_methodNamed B.named
  have hlocks := B.notSynchronized
  subst hsz
  have hD := hD0.self (sz := s.heap.size)
  generalize hAe : va_A [(f, .inr (2, [.ref f_kinds, .ref f_signs, .ref f_sizes, .ref f_places, .ref f_limits, .ref f_starts, .ref f_sorts, .int f_count, .int f_sections, .int f_fifth])), (f_kinds, .inl (cI, 255, .inl f_kindsF))] s.heap.size = A at hD ⊢
  have hA : ∀ q : Nat, s.heap.size ≤ q → A q := fun q h => by rw [← hAe]; exact Or.inr h
  have hS : va_S A s.heap s.heap [] := va_S.rf
  have hw : ∀ (k : Nat) (w : Cond), ow_X2_setKind[k]? = some w → w.before _ s = true := fun k w h => hts w (List.mem_cons_of_mem _ (have h9 := List.mem_of_getElem? h; List.mem_append_left _ h9))
  have iX2 : ∀ w ∈ u_ws RX2 TX2 10, w ∈ pw_X2_setKind := fun w h9 => List.mem_cons_of_mem _ (List.mem_append_right _ (h9))
  have n_0 : ((0 : Int32)).toInt = 0 := by decide
  have n_255 : ((255 : Int32)).toInt = 255 := by decide
  have hl := lv_entry ([.ref f, .int p1, .int p2]) (n := 3) (Nat.le_of_ble_eq_true rfl)
  rw [lg_entry_eq]
  generalize (lg_sl ([.ref f, .int p1, .int p2]) ++ List.replicate (3 - (lg_sl ([.ref f, .int p1, .int p2])).length) Slot.unset).toArray = ls at hl ⊢
  have hl : lv_has ls 3 [(0, .ref f), (1, .int p1), (2, .int p2)] := hl
  have b_p1 := ti_b p1
  have b_p2 := ti_b p2
  refine lv_iload_n hx hb dX2_setKind_0 rfl (lv_at hl 1 rfl) ?_
  refine lv_if_lt (tgt := 28) hx hb dX2_setKind_1 (by decide) (fun c_1 => ?_) (fun c_1 => ?_)
  · have ic_1 : (p1 : Int32).toInt < (0 : Int32).toInt := (fa_lt p1 0).mp c_1
    have hP9 := hP.sub (ws' := [(f, .inr (2, [.ref f_kinds, .ref f_signs, .ref f_sizes, .ref f_places, .ref f_limits, .ref f_starts, .ref f_sorts, .int f_count, .int f_sections, .int f_fifth])), (f_kinds, .inl (cI, 255, .inl f_kindsF))]) [0, 1] rfl
    have hD9 := hD.sub (ws' := [(f, .inr (2, [.ref f_kinds, .ref f_signs, .ref f_sizes, .ref f_places, .ref f_limits, .ref f_starts, .ref f_sorts, .int f_count, .int f_sections, .int f_fifth])), (f_kinds, .inl (cI, 255, .inl f_kindsF))]) [0, 1] (by decide) rfl
    exact W.vret hx hb hr (fun t ht hW => ⟨⟨(f_kindsF), rfl, trivial, by rw [ht]; exact hP9, va_K.moved hW.alike hK, hD9⟩, hS.F ht⟩) hS.2.2 dX2_setKind_28
  · have ic_1 : ¬ ((p1 : Int32).toInt < (0 : Int32).toInt) := fun h9 => c_1 ((fa_lt p1 0).mpr h9)
    refine lv_iload_n hx hb dX2_setKind_4 rfl (lv_at hl 1 rfl) ?_
    refine lv_aload_n hx hb dX2_setKind_5 rfl (lv_at hl 0 rfl) ?_
    refine va_get (D := D) (ci := 2) (v := .int f_count) (C := RX2) (T := TX2) (N := 10) hx hb hts iX2 hown hK hP 0 rfl rfl 7 (by decide) (hw 0 (.fieldLink RX2 34 "NumberFormats$Format" "count" "I") rfl) (fun _ h9 => h9) rfl dX2_setKind_6 ?_
    refine lv_icmp_ge (tgt := 28) hx hb dX2_setKind_9 (by decide) (fun c_2 => ?_) (fun c_2 => ?_)
    · have ic_2 : (f_count : Int32).toInt ≤ (p1 : Int32).toInt := (fa_le f_count p1).mp c_2
      have hP9 := hP.sub (ws' := [(f, .inr (2, [.ref f_kinds, .ref f_signs, .ref f_sizes, .ref f_places, .ref f_limits, .ref f_starts, .ref f_sorts, .int f_count, .int f_sections, .int f_fifth])), (f_kinds, .inl (cI, 255, .inl f_kindsF))]) [0, 1] rfl
      have hD9 := hD.sub (ws' := [(f, .inr (2, [.ref f_kinds, .ref f_signs, .ref f_sizes, .ref f_places, .ref f_limits, .ref f_starts, .ref f_sorts, .int f_count, .int f_sections, .int f_fifth])), (f_kinds, .inl (cI, 255, .inl f_kindsF))]) [0, 1] (by decide) rfl
      exact W.vret hx hb hr (fun t ht hW => ⟨⟨(f_kindsF), rfl, trivial, by rw [ht]; exact hP9, va_K.moved hW.alike hK, hD9⟩, hS.F ht⟩) hS.2.2 dX2_setKind_28
    · have ic_2 : ¬ ((f_count : Int32).toInt ≤ (p1 : Int32).toInt) := fun h9 => c_2 ((fa_le f_count p1).mpr h9)
      refine lv_iload_n hx hb dX2_setKind_12 rfl (lv_at hl 1 rfl) ?_
      refine lv_aload_n hx hb dX2_setKind_13 rfl (lv_at hl 0 rfl) ?_
      refine va_get (D := D) (ci := 2) (v := .ref f_kinds) (C := RX2) (T := TX2) (N := 10) hx hb hts iX2 hown hK hP 0 rfl rfl 0 (by decide) (hw 1 (.fieldLink RX2 9 "NumberFormats$Format" "kinds" "[I") rfl) (fun _ h9 => h9) rfl dX2_setKind_14 ?_
      refine va_alen hx hb hK hP 1 0 rfl rfl (v := 255) rfl dX2_setKind_17 ?_
      refine lv_icmp_ge (tgt := 28) hx hb dX2_setKind_18 (by decide) (fun c_3 => ?_) (fun c_3 => ?_)
      · have ic_3 : (255 : Int32).toInt ≤ (p1 : Int32).toInt := (fa_le 255 p1).mp c_3
        have hP9 := hP.sub (ws' := [(f, .inr (2, [.ref f_kinds, .ref f_signs, .ref f_sizes, .ref f_places, .ref f_limits, .ref f_starts, .ref f_sorts, .int f_count, .int f_sections, .int f_fifth])), (f_kinds, .inl (cI, 255, .inl f_kindsF))]) [0, 1] rfl
        have hD9 := hD.sub (ws' := [(f, .inr (2, [.ref f_kinds, .ref f_signs, .ref f_sizes, .ref f_places, .ref f_limits, .ref f_starts, .ref f_sorts, .int f_count, .int f_sections, .int f_fifth])), (f_kinds, .inl (cI, 255, .inl f_kindsF))]) [0, 1] (by decide) rfl
        exact W.vret hx hb hr (fun t ht hW => ⟨⟨(f_kindsF), rfl, trivial, by rw [ht]; exact hP9, va_K.moved hW.alike hK, hD9⟩, hS.F ht⟩) hS.2.2 dX2_setKind_28
      · have ic_3 : ¬ ((255 : Int32).toInt ≤ (p1 : Int32).toInt) := fun h9 => c_3 ((fa_le 255 p1).mpr h9)
        refine lv_aload_n hx hb dX2_setKind_21 rfl (lv_at hl 0 rfl) ?_
        refine va_get (D := D) (ci := 2) (v := .ref f_kinds) (C := RX2) (T := TX2) (N := 10) hx hb hts iX2 hown hK hP 0 rfl rfl 0 (by decide) (hw 1 (.fieldLink RX2 9 "NumberFormats$Format" "kinds" "[I") rfl) (fun _ h9 => h9) rfl dX2_setKind_22 ?_
        refine lv_iload_n hx hb dX2_setKind_25 rfl (lv_at hl 1 rfl) ?_
        refine lv_iload_n hx hb dX2_setKind_26 rfl (lv_at hl 2 rfl) ?_
        have h_27 : vp_in p1 255 := by rw [vp_in_iff]; omega
        refine va_iast hx hb hK hP hD hS 1 0 rfl rfl h_27 dX2_setKind_27 (fun H locs hP hD hS => ?_)
        obtain ⟨f_4, ef_4⟩ : ∃ y : Nat → Int32, y = upd f_kindsF (p1 : Int32).toNatClampNeg p2 := ⟨_, rfl⟩
        rw [← ef_4] at hP hD
        have hP : va_P D vwCl [(f, .inr (2, [.ref f_kinds, .ref f_signs, .ref f_sizes, .ref f_places, .ref f_limits, .ref f_starts, .ref f_sorts, .int f_count, .int f_sections, .int f_fifth])), (f_kinds, .inl (cI, 255, .inl f_4))] H := hP
        have hD : va_D A [(f, .inr (2, [.ref f_kinds, .ref f_signs, .ref f_sizes, .ref f_places, .ref f_limits, .ref f_starts, .ref f_sorts, .int f_count, .int f_sections, .int f_fifth])), (f_kinds, .inl (cI, 255, .inl f_4))] := hD
        have hP9 := hP.sub (ws' := [(f, .inr (2, [.ref f_kinds, .ref f_signs, .ref f_sizes, .ref f_places, .ref f_limits, .ref f_starts, .ref f_sorts, .int f_count, .int f_sections, .int f_fifth])), (f_kinds, .inl (cI, 255, .inl f_4))]) [0, 1] rfl
        have hD9 := hD.sub (ws' := [(f, .inr (2, [.ref f_kinds, .ref f_signs, .ref f_sizes, .ref f_places, .ref f_limits, .ref f_starts, .ref f_sorts, .int f_count, .int f_sections, .int f_fifth])), (f_kinds, .inl (cI, 255, .inl f_4))]) [0, 1] (by decide) rfl
        exact W.vret hx hb hr (fun t ht hW => ⟨⟨(f_4), rfl, trivial, by rw [ht]; exact hP9, va_K.moved hW.alike hK, hD9⟩, hS.F ht⟩) hS.2.2 dX2_setKind_28

def ow_X2_sign : List Cond := [Cond.fieldLink RX2 34 "NumberFormats$Format" "count" "I", Cond.fieldLink RX2 15 "NumberFormats$Format" "signs" "[I"]
def pw_X2_sign : List Cond := Cond.code yX2_sign cX2_sign 2 (some .int) :: (ow_X2_sign ++ (wsX20))
set_option maxRecDepth 20000 in
theorem mo_X2_sign : ∀ w ∈ ow_X2_sign, w ∈ lw_tbl := by decide +kernel
set_option maxRecDepth 20000 in
theorem mc_X2_sign : Cond.code yX2_sign cX2_sign 2 (some .int) ∈ lw_tbl := by decide +kernel
theorem m_X2_sign : ∀ w ∈ pw_X2_sign, w ∈ lw_tbl := List.forall_mem_cons.mpr ⟨mc_X2_sign, (List.forall_mem_append.mpr ⟨mo_X2_sign, inX2⟩)⟩
theorem ko_X2_sign : ∀ w ∈ ow_X2_sign, goodWord w = true := by decide +kernel
theorem k_X2_sign : pw_X2_sign.all goodWord = true := List.all_eq_true.mpr (List.forall_mem_cons.mpr ⟨by decide +kernel, (List.forall_mem_append.mpr ⟨ko_X2_sign, kX_X2⟩)⟩)
set_option maxHeartbeats 400000 in
set_option maxRecDepth 100000 in
theorem c_X2_sign (l : Launch) (D : va_G) (cI cD cJ : ClassId) (sz : Nat) (f : Nat) (f_kinds : Nat) (f_signs : Nat) (f_sizes : Nat) (f_places : Nat) (f_limits : Nat) (f_starts : Nat) (f_sorts : Nat) (f_count : Int32) (f_sections : Int32) (f_fifth : Int32) (f_signsF : Nat → Int32) (p1 : Int32) (iv_f_count : 0 ≤ (f_count : Int32).toInt ∧ (f_count : Int32).toInt ≤ 255) (iv_f_sections : 0 ≤ (f_sections : Int32).toInt ∧ (f_sections : Int32).toInt ≤ 4) : Met l yX2_sign pw_X2_sign ({ frames := 0, cells := 0, slots := 0, locals := 0 }) (va_Pc [.ref f, .int p1] (fun U => va_P D vwCl [(f, .inr (2, [.ref f_kinds, .ref f_signs, .ref f_sizes, .ref f_places, .ref f_limits, .ref f_starts, .ref f_sorts, .int f_count, .int f_sections, .int f_fifth])), (f_signs, .inl (cI, 255, .inl f_signsF))] U.heap ∧ va_K D vwCl (ty3 cI cD cJ) U)) (va_Qi (fun (r : Int32) (u : Unit) => True) (fun _ _ => True) (fun _ => False)) 0 0 (fun _ => False) := by
  refine Met.ofW (cc := cX2_sign) (maxL := 2) (ret := (some .int)) (by decide +kernel) rfl ?_
  intro p e s m args below meth c s₁ B hml hv
  obtain ⟨rfl, hP, hK⟩ := hv
  have hx := B.exec
  have hb := B.bytes
  have hr := B.returns
  have hts := atoms_spec (ws := pw_X2_sign) B.pre
  have hown : s.vm.findClass RX2 = some m.cls := findClass_of_methodNamed B.named
  have hlocks := B.notSynchronized
  have hS : va_S (fun _ => False) s.heap s.heap [] := va_S.rf
  have hw : ∀ (k : Nat) (w : Cond), ow_X2_sign[k]? = some w → w.before _ s = true := fun k w h => hts w (List.mem_cons_of_mem _ (have h9 := List.mem_of_getElem? h; List.mem_append_left _ h9))
  have iX2 : ∀ w ∈ u_ws RX2 TX2 10, w ∈ pw_X2_sign := fun w h9 => List.mem_cons_of_mem _ (List.mem_append_right _ (h9))
  have n_m1 : (((-1) : Int32)).toInt = (-1) := by decide
  have n_0 : ((0 : Int32)).toInt = 0 := by decide
  have n_255 : ((255 : Int32)).toInt = 255 := by decide
  have hl := lv_entry ([.ref f, .int p1]) (n := 2) (Nat.le_of_ble_eq_true rfl)
  rw [lg_entry_eq]
  generalize (lg_sl ([.ref f, .int p1]) ++ List.replicate (2 - (lg_sl ([.ref f, .int p1])).length) Slot.unset).toArray = ls at hl ⊢
  have hl : lv_has ls 2 [(0, .ref f), (1, .int p1)] := hl
  have b_p1 := ti_b p1
  refine lv_iload_n hx hb dX2_sign_0 rfl (lv_at hl 1 rfl) ?_
  refine lv_if_lt (tgt := 30) hx hb dX2_sign_1 (by decide) (fun c_1 => ?_) (fun c_1 => ?_)
  · have ic_1 : (p1 : Int32).toInt < (0 : Int32).toInt := (fa_lt p1 0).mp c_1
    refine lv_iconst (v := (-1)) hx hb dX2_sign_30 (by decide) ?_
    exact W.iret (v := (-1)) hx hb hr (fun t ht hW => ⟨⟨(-1), (), rfl, trivial, trivial⟩, hS.F ht⟩) hS.2.2 dX2_sign_31
  · have ic_1 : ¬ ((p1 : Int32).toInt < (0 : Int32).toInt) := fun h9 => c_1 ((fa_lt p1 0).mpr h9)
    refine lv_iload_n hx hb dX2_sign_4 rfl (lv_at hl 1 rfl) ?_
    refine lv_aload_n hx hb dX2_sign_5 rfl (lv_at hl 0 rfl) ?_
    refine va_get (D := D) (ci := 2) (v := .int f_count) (C := RX2) (T := TX2) (N := 10) hx hb hts iX2 hown hK hP 0 rfl rfl 7 (by decide) (hw 0 (.fieldLink RX2 34 "NumberFormats$Format" "count" "I") rfl) (fun _ h9 => h9) rfl dX2_sign_6 ?_
    refine lv_icmp_ge (tgt := 30) hx hb dX2_sign_9 (by decide) (fun c_2 => ?_) (fun c_2 => ?_)
    · have ic_2 : (f_count : Int32).toInt ≤ (p1 : Int32).toInt := (fa_le f_count p1).mp c_2
      refine lv_iconst (v := (-1)) hx hb dX2_sign_30 (by decide) ?_
      exact W.iret (v := (-1)) hx hb hr (fun t ht hW => ⟨⟨(-1), (), rfl, trivial, trivial⟩, hS.F ht⟩) hS.2.2 dX2_sign_31
    · have ic_2 : ¬ ((f_count : Int32).toInt ≤ (p1 : Int32).toInt) := fun h9 => c_2 ((fa_le f_count p1).mpr h9)
      refine lv_iload_n hx hb dX2_sign_12 rfl (lv_at hl 1 rfl) ?_
      refine lv_aload_n hx hb dX2_sign_13 rfl (lv_at hl 0 rfl) ?_
      refine va_get (D := D) (ci := 2) (v := .ref f_signs) (C := RX2) (T := TX2) (N := 10) hx hb hts iX2 hown hK hP 0 rfl rfl 1 (by decide) (hw 1 (.fieldLink RX2 15 "NumberFormats$Format" "signs" "[I") rfl) (fun _ h9 => h9) rfl dX2_sign_14 ?_
      refine va_alen hx hb hK hP 1 0 rfl rfl (v := 255) rfl dX2_sign_17 ?_
      refine lv_icmp_ge (tgt := 30) hx hb dX2_sign_18 (by decide) (fun c_3 => ?_) (fun c_3 => ?_)
      · have ic_3 : (255 : Int32).toInt ≤ (p1 : Int32).toInt := (fa_le 255 p1).mp c_3
        refine lv_iconst (v := (-1)) hx hb dX2_sign_30 (by decide) ?_
        exact W.iret (v := (-1)) hx hb hr (fun t ht hW => ⟨⟨(-1), (), rfl, trivial, trivial⟩, hS.F ht⟩) hS.2.2 dX2_sign_31
      · have ic_3 : ¬ ((255 : Int32).toInt ≤ (p1 : Int32).toInt) := fun h9 => c_3 ((fa_le 255 p1).mpr h9)
        refine lv_aload_n hx hb dX2_sign_21 rfl (lv_at hl 0 rfl) ?_
        refine va_get (D := D) (ci := 2) (v := .ref f_signs) (C := RX2) (T := TX2) (N := 10) hx hb hts iX2 hown hK hP 0 rfl rfl 1 (by decide) (hw 1 (.fieldLink RX2 15 "NumberFormats$Format" "signs" "[I") rfl) (fun _ h9 => h9) rfl dX2_sign_22 ?_
        refine lv_iload_n hx hb dX2_sign_25 rfl (lv_at hl 1 rfl) ?_
        have h_26 : vp_in p1 255 := by rw [vp_in_iff]; omega
        refine va_iald hx hb hK hP 1 0 rfl rfl h_26 dX2_sign_26 ?_
        refine lv_topi (fun x_4 ex_4 => ?_)
        refine lv_goto (tgt := 31) hx hb dX2_sign_27 (by decide) ?_
        exact W.iret (v := x_4) hx hb hr (fun t ht hW => ⟨⟨x_4, (), rfl, trivial, trivial⟩, hS.F ht⟩) hS.2.2 dX2_sign_31

def ow_X2_size : List Cond := [Cond.fieldLink RX2 34 "NumberFormats$Format" "count" "I", Cond.fieldLink RX2 18 "NumberFormats$Format" "sizes" "[I"]
def pw_X2_size : List Cond := Cond.code yX2_size cX2_size 2 (some .int) :: (ow_X2_size ++ (wsX20))
set_option maxRecDepth 20000 in
theorem mo_X2_size : ∀ w ∈ ow_X2_size, w ∈ lw_tbl := by decide +kernel
set_option maxRecDepth 20000 in
theorem mc_X2_size : Cond.code yX2_size cX2_size 2 (some .int) ∈ lw_tbl := by decide +kernel
theorem m_X2_size : ∀ w ∈ pw_X2_size, w ∈ lw_tbl := List.forall_mem_cons.mpr ⟨mc_X2_size, (List.forall_mem_append.mpr ⟨mo_X2_size, inX2⟩)⟩
theorem ko_X2_size : ∀ w ∈ ow_X2_size, goodWord w = true := by decide +kernel
theorem k_X2_size : pw_X2_size.all goodWord = true := List.all_eq_true.mpr (List.forall_mem_cons.mpr ⟨by decide +kernel, (List.forall_mem_append.mpr ⟨ko_X2_size, kX_X2⟩)⟩)
set_option maxHeartbeats 400000 in
set_option maxRecDepth 100000 in
theorem c_X2_size (l : Launch) (D : va_G) (cI cD cJ : ClassId) (sz : Nat) (f : Nat) (f_kinds : Nat) (f_signs : Nat) (f_sizes : Nat) (f_places : Nat) (f_limits : Nat) (f_starts : Nat) (f_sorts : Nat) (f_count : Int32) (f_sections : Int32) (f_fifth : Int32) (f_sizesF : Nat → Int32) (p1 : Int32) (iv_f_count : 0 ≤ (f_count : Int32).toInt ∧ (f_count : Int32).toInt ≤ 255) (iv_f_sections : 0 ≤ (f_sections : Int32).toInt ∧ (f_sections : Int32).toInt ≤ 4) (iv_f_sizesF : ∀ k9 : Nat, k9 < 255 → (f_sizesF k9).toInt ≤ 100000) : Met l yX2_size pw_X2_size ({ frames := 0, cells := 0, slots := 0, locals := 0 }) (va_Pc [.ref f, .int p1] (fun U => va_P D vwCl [(f, .inr (2, [.ref f_kinds, .ref f_signs, .ref f_sizes, .ref f_places, .ref f_limits, .ref f_starts, .ref f_sorts, .int f_count, .int f_sections, .int f_fifth])), (f_sizes, .inl (cI, 255, .inl f_sizesF))] U.heap ∧ va_K D vwCl (ty3 cI cD cJ) U)) (va_Qi (fun (r : Int32) (u : Unit) => (r.toInt ≤ 100000)) (fun _ _ => True) (fun _ => False)) 0 0 (fun _ => False) := by
  refine Met.ofW (cc := cX2_size) (maxL := 2) (ret := (some .int)) (by decide +kernel) rfl ?_
  intro p e s m args below meth c s₁ B hml hv
  obtain ⟨rfl, hP, hK⟩ := hv
  have hx := B.exec
  have hb := B.bytes
  have hr := B.returns
  have hts := atoms_spec (ws := pw_X2_size) B.pre
  have hown : s.vm.findClass RX2 = some m.cls := findClass_of_methodNamed B.named
  have hlocks := B.notSynchronized
  have hS : va_S (fun _ => False) s.heap s.heap [] := va_S.rf
  have hw : ∀ (k : Nat) (w : Cond), ow_X2_size[k]? = some w → w.before _ s = true := fun k w h => hts w (List.mem_cons_of_mem _ (have h9 := List.mem_of_getElem? h; List.mem_append_left _ h9))
  have iX2 : ∀ w ∈ u_ws RX2 TX2 10, w ∈ pw_X2_size := fun w h9 => List.mem_cons_of_mem _ (List.mem_append_right _ (h9))
  have n_0 : ((0 : Int32)).toInt = 0 := by decide
  have n_255 : ((255 : Int32)).toInt = 255 := by decide
  have hl := lv_entry ([.ref f, .int p1]) (n := 2) (Nat.le_of_ble_eq_true rfl)
  rw [lg_entry_eq]
  generalize (lg_sl ([.ref f, .int p1]) ++ List.replicate (2 - (lg_sl ([.ref f, .int p1])).length) Slot.unset).toArray = ls at hl ⊢
  have hl : lv_has ls 2 [(0, .ref f), (1, .int p1)] := hl
  have b_p1 := ti_b p1
  refine lv_iload_n hx hb dX2_size_0 rfl (lv_at hl 1 rfl) ?_
  refine lv_if_lt (tgt := 30) hx hb dX2_size_1 (by decide) (fun c_1 => ?_) (fun c_1 => ?_)
  · have ic_1 : (p1 : Int32).toInt < (0 : Int32).toInt := (fa_lt p1 0).mp c_1
    refine lv_iconst (v := 0) hx hb dX2_size_30 (by decide) ?_
    exact W.iret (v := 0) hx hb hr (fun t ht hW => ⟨⟨0, (), rfl, (by (try dsimp only); first | omega | assumption), trivial⟩, hS.F ht⟩) hS.2.2 dX2_size_31
  · have ic_1 : ¬ ((p1 : Int32).toInt < (0 : Int32).toInt) := fun h9 => c_1 ((fa_lt p1 0).mpr h9)
    refine lv_iload_n hx hb dX2_size_4 rfl (lv_at hl 1 rfl) ?_
    refine lv_aload_n hx hb dX2_size_5 rfl (lv_at hl 0 rfl) ?_
    refine va_get (D := D) (ci := 2) (v := .int f_count) (C := RX2) (T := TX2) (N := 10) hx hb hts iX2 hown hK hP 0 rfl rfl 7 (by decide) (hw 0 (.fieldLink RX2 34 "NumberFormats$Format" "count" "I") rfl) (fun _ h9 => h9) rfl dX2_size_6 ?_
    refine lv_icmp_ge (tgt := 30) hx hb dX2_size_9 (by decide) (fun c_2 => ?_) (fun c_2 => ?_)
    · have ic_2 : (f_count : Int32).toInt ≤ (p1 : Int32).toInt := (fa_le f_count p1).mp c_2
      refine lv_iconst (v := 0) hx hb dX2_size_30 (by decide) ?_
      exact W.iret (v := 0) hx hb hr (fun t ht hW => ⟨⟨0, (), rfl, (by (try dsimp only); first | omega | assumption), trivial⟩, hS.F ht⟩) hS.2.2 dX2_size_31
    · have ic_2 : ¬ ((f_count : Int32).toInt ≤ (p1 : Int32).toInt) := fun h9 => c_2 ((fa_le f_count p1).mpr h9)
      refine lv_iload_n hx hb dX2_size_12 rfl (lv_at hl 1 rfl) ?_
      refine lv_aload_n hx hb dX2_size_13 rfl (lv_at hl 0 rfl) ?_
      refine va_get (D := D) (ci := 2) (v := .ref f_sizes) (C := RX2) (T := TX2) (N := 10) hx hb hts iX2 hown hK hP 0 rfl rfl 2 (by decide) (hw 1 (.fieldLink RX2 18 "NumberFormats$Format" "sizes" "[I") rfl) (fun _ h9 => h9) rfl dX2_size_14 ?_
      refine va_alen hx hb hK hP 1 0 rfl rfl (v := 255) rfl dX2_size_17 ?_
      refine lv_icmp_ge (tgt := 30) hx hb dX2_size_18 (by decide) (fun c_3 => ?_) (fun c_3 => ?_)
      · have ic_3 : (255 : Int32).toInt ≤ (p1 : Int32).toInt := (fa_le 255 p1).mp c_3
        refine lv_iconst (v := 0) hx hb dX2_size_30 (by decide) ?_
        exact W.iret (v := 0) hx hb hr (fun t ht hW => ⟨⟨0, (), rfl, (by (try dsimp only); first | omega | assumption), trivial⟩, hS.F ht⟩) hS.2.2 dX2_size_31
      · have ic_3 : ¬ ((255 : Int32).toInt ≤ (p1 : Int32).toInt) := fun h9 => c_3 ((fa_le 255 p1).mpr h9)
        refine lv_aload_n hx hb dX2_size_21 rfl (lv_at hl 0 rfl) ?_
        refine va_get (D := D) (ci := 2) (v := .ref f_sizes) (C := RX2) (T := TX2) (N := 10) hx hb hts iX2 hown hK hP 0 rfl rfl 2 (by decide) (hw 1 (.fieldLink RX2 18 "NumberFormats$Format" "sizes" "[I") rfl) (fun _ h9 => h9) rfl dX2_size_22 ?_
        refine lv_iload_n hx hb dX2_size_25 rfl (lv_at hl 1 rfl) ?_
        have h_26 : vp_in p1 255 := by rw [vp_in_iff]; omega
        refine va_iald hx hb hK hP 1 0 rfl rfl h_26 dX2_size_26 ?_
        refine lv_topi (fun x_4 ex_4 => ?_)
        have iv_x_4 := (‹∀ k9 : Nat, k9 < 255 → (f_sizesF k9).toInt ≤ 100000›) _ (Nat.lt_of_not_le (fun h9 => h_26 (Or.inr h9)))
        rw [← ex_4] at iv_x_4
        refine lv_goto (tgt := 31) hx hb dX2_size_27 (by decide) ?_
        exact W.iret (v := x_4) hx hb hr (fun t ht hW => ⟨⟨x_4, (), rfl, (by (try dsimp only); first | omega | assumption), trivial⟩, hS.F ht⟩) hS.2.2 dX2_size_31

def ow_X2_place : List Cond := [Cond.fieldLink RX2 34 "NumberFormats$Format" "count" "I", Cond.fieldLink RX2 21 "NumberFormats$Format" "places" "[I"]
def pw_X2_place : List Cond := Cond.code yX2_place cX2_place 2 (some .int) :: (ow_X2_place ++ (wsX20))
set_option maxRecDepth 20000 in
theorem mo_X2_place : ∀ w ∈ ow_X2_place, w ∈ lw_tbl := by decide +kernel
set_option maxRecDepth 20000 in
theorem mc_X2_place : Cond.code yX2_place cX2_place 2 (some .int) ∈ lw_tbl := by decide +kernel
theorem m_X2_place : ∀ w ∈ pw_X2_place, w ∈ lw_tbl := List.forall_mem_cons.mpr ⟨mc_X2_place, (List.forall_mem_append.mpr ⟨mo_X2_place, inX2⟩)⟩
theorem ko_X2_place : ∀ w ∈ ow_X2_place, goodWord w = true := by decide +kernel
theorem k_X2_place : pw_X2_place.all goodWord = true := List.all_eq_true.mpr (List.forall_mem_cons.mpr ⟨by decide +kernel, (List.forall_mem_append.mpr ⟨ko_X2_place, kX_X2⟩)⟩)
set_option maxHeartbeats 400000 in
set_option maxRecDepth 100000 in
theorem c_X2_place (l : Launch) (D : va_G) (cI cD cJ : ClassId) (sz : Nat) (f : Nat) (f_kinds : Nat) (f_signs : Nat) (f_sizes : Nat) (f_places : Nat) (f_limits : Nat) (f_starts : Nat) (f_sorts : Nat) (f_count : Int32) (f_sections : Int32) (f_fifth : Int32) (f_placesF : Nat → Int32) (p1 : Int32) (iv_f_count : 0 ≤ (f_count : Int32).toInt ∧ (f_count : Int32).toInt ≤ 255) (iv_f_sections : 0 ≤ (f_sections : Int32).toInt ∧ (f_sections : Int32).toInt ≤ 4) : Met l yX2_place pw_X2_place ({ frames := 0, cells := 0, slots := 0, locals := 0 }) (va_Pc [.ref f, .int p1] (fun U => va_P D vwCl [(f, .inr (2, [.ref f_kinds, .ref f_signs, .ref f_sizes, .ref f_places, .ref f_limits, .ref f_starts, .ref f_sorts, .int f_count, .int f_sections, .int f_fifth])), (f_places, .inl (cI, 255, .inl f_placesF))] U.heap ∧ va_K D vwCl (ty3 cI cD cJ) U)) (va_Qi (fun (r : Int32) (u : Unit) => True) (fun _ _ => True) (fun _ => False)) 0 0 (fun _ => False) := by
  refine Met.ofW (cc := cX2_place) (maxL := 2) (ret := (some .int)) (by decide +kernel) rfl ?_
  intro p e s m args below meth c s₁ B hml hv
  obtain ⟨rfl, hP, hK⟩ := hv
  have hx := B.exec
  have hb := B.bytes
  have hr := B.returns
  have hts := atoms_spec (ws := pw_X2_place) B.pre
  have hown : s.vm.findClass RX2 = some m.cls := findClass_of_methodNamed B.named
  have hlocks := B.notSynchronized
  have hS : va_S (fun _ => False) s.heap s.heap [] := va_S.rf
  have hw : ∀ (k : Nat) (w : Cond), ow_X2_place[k]? = some w → w.before _ s = true := fun k w h => hts w (List.mem_cons_of_mem _ (have h9 := List.mem_of_getElem? h; List.mem_append_left _ h9))
  have iX2 : ∀ w ∈ u_ws RX2 TX2 10, w ∈ pw_X2_place := fun w h9 => List.mem_cons_of_mem _ (List.mem_append_right _ (h9))
  have n_m1 : (((-1) : Int32)).toInt = (-1) := by decide
  have n_0 : ((0 : Int32)).toInt = 0 := by decide
  have n_255 : ((255 : Int32)).toInt = 255 := by decide
  have hl := lv_entry ([.ref f, .int p1]) (n := 2) (Nat.le_of_ble_eq_true rfl)
  rw [lg_entry_eq]
  generalize (lg_sl ([.ref f, .int p1]) ++ List.replicate (2 - (lg_sl ([.ref f, .int p1])).length) Slot.unset).toArray = ls at hl ⊢
  have hl : lv_has ls 2 [(0, .ref f), (1, .int p1)] := hl
  have b_p1 := ti_b p1
  refine lv_iload_n hx hb dX2_place_0 rfl (lv_at hl 1 rfl) ?_
  refine lv_if_lt (tgt := 30) hx hb dX2_place_1 (by decide) (fun c_1 => ?_) (fun c_1 => ?_)
  · have ic_1 : (p1 : Int32).toInt < (0 : Int32).toInt := (fa_lt p1 0).mp c_1
    refine lv_iconst (v := (-1)) hx hb dX2_place_30 (by decide) ?_
    exact W.iret (v := (-1)) hx hb hr (fun t ht hW => ⟨⟨(-1), (), rfl, trivial, trivial⟩, hS.F ht⟩) hS.2.2 dX2_place_31
  · have ic_1 : ¬ ((p1 : Int32).toInt < (0 : Int32).toInt) := fun h9 => c_1 ((fa_lt p1 0).mpr h9)
    refine lv_iload_n hx hb dX2_place_4 rfl (lv_at hl 1 rfl) ?_
    refine lv_aload_n hx hb dX2_place_5 rfl (lv_at hl 0 rfl) ?_
    refine va_get (D := D) (ci := 2) (v := .int f_count) (C := RX2) (T := TX2) (N := 10) hx hb hts iX2 hown hK hP 0 rfl rfl 7 (by decide) (hw 0 (.fieldLink RX2 34 "NumberFormats$Format" "count" "I") rfl) (fun _ h9 => h9) rfl dX2_place_6 ?_
    refine lv_icmp_ge (tgt := 30) hx hb dX2_place_9 (by decide) (fun c_2 => ?_) (fun c_2 => ?_)
    · have ic_2 : (f_count : Int32).toInt ≤ (p1 : Int32).toInt := (fa_le f_count p1).mp c_2
      refine lv_iconst (v := (-1)) hx hb dX2_place_30 (by decide) ?_
      exact W.iret (v := (-1)) hx hb hr (fun t ht hW => ⟨⟨(-1), (), rfl, trivial, trivial⟩, hS.F ht⟩) hS.2.2 dX2_place_31
    · have ic_2 : ¬ ((f_count : Int32).toInt ≤ (p1 : Int32).toInt) := fun h9 => c_2 ((fa_le f_count p1).mpr h9)
      refine lv_iload_n hx hb dX2_place_12 rfl (lv_at hl 1 rfl) ?_
      refine lv_aload_n hx hb dX2_place_13 rfl (lv_at hl 0 rfl) ?_
      refine va_get (D := D) (ci := 2) (v := .ref f_places) (C := RX2) (T := TX2) (N := 10) hx hb hts iX2 hown hK hP 0 rfl rfl 3 (by decide) (hw 1 (.fieldLink RX2 21 "NumberFormats$Format" "places" "[I") rfl) (fun _ h9 => h9) rfl dX2_place_14 ?_
      refine va_alen hx hb hK hP 1 0 rfl rfl (v := 255) rfl dX2_place_17 ?_
      refine lv_icmp_ge (tgt := 30) hx hb dX2_place_18 (by decide) (fun c_3 => ?_) (fun c_3 => ?_)
      · have ic_3 : (255 : Int32).toInt ≤ (p1 : Int32).toInt := (fa_le 255 p1).mp c_3
        refine lv_iconst (v := (-1)) hx hb dX2_place_30 (by decide) ?_
        exact W.iret (v := (-1)) hx hb hr (fun t ht hW => ⟨⟨(-1), (), rfl, trivial, trivial⟩, hS.F ht⟩) hS.2.2 dX2_place_31
      · have ic_3 : ¬ ((255 : Int32).toInt ≤ (p1 : Int32).toInt) := fun h9 => c_3 ((fa_le 255 p1).mpr h9)
        refine lv_aload_n hx hb dX2_place_21 rfl (lv_at hl 0 rfl) ?_
        refine va_get (D := D) (ci := 2) (v := .ref f_places) (C := RX2) (T := TX2) (N := 10) hx hb hts iX2 hown hK hP 0 rfl rfl 3 (by decide) (hw 1 (.fieldLink RX2 21 "NumberFormats$Format" "places" "[I") rfl) (fun _ h9 => h9) rfl dX2_place_22 ?_
        refine lv_iload_n hx hb dX2_place_25 rfl (lv_at hl 1 rfl) ?_
        have h_26 : vp_in p1 255 := by rw [vp_in_iff]; omega
        refine va_iald hx hb hK hP 1 0 rfl rfl h_26 dX2_place_26 ?_
        refine lv_topi (fun x_4 ex_4 => ?_)
        refine lv_goto (tgt := 31) hx hb dX2_place_27 (by decide) ?_
        exact W.iret (v := x_4) hx hb hr (fun t ht hW => ⟨⟨x_4, (), rfl, trivial, trivial⟩, hS.F ht⟩) hS.2.2 dX2_place_31

def ow_X2_limit : List Cond := [Cond.fieldLink RX2 34 "NumberFormats$Format" "count" "I", Cond.fieldLink RX2 24 "NumberFormats$Format" "limits" "[D"]
def pw_X2_limit : List Cond := Cond.code yX2_limit cX2_limit 2 (some .double) :: (ow_X2_limit ++ (wsX20))
set_option maxRecDepth 20000 in
theorem mo_X2_limit : ∀ w ∈ ow_X2_limit, w ∈ lw_tbl := by decide +kernel
set_option maxRecDepth 20000 in
theorem mc_X2_limit : Cond.code yX2_limit cX2_limit 2 (some .double) ∈ lw_tbl := by decide +kernel
theorem m_X2_limit : ∀ w ∈ pw_X2_limit, w ∈ lw_tbl := List.forall_mem_cons.mpr ⟨mc_X2_limit, (List.forall_mem_append.mpr ⟨mo_X2_limit, inX2⟩)⟩
theorem ko_X2_limit : ∀ w ∈ ow_X2_limit, goodWord w = true := by decide +kernel
theorem k_X2_limit : pw_X2_limit.all goodWord = true := List.all_eq_true.mpr (List.forall_mem_cons.mpr ⟨by decide +kernel, (List.forall_mem_append.mpr ⟨ko_X2_limit, kX_X2⟩)⟩)
set_option maxHeartbeats 400000 in
set_option maxRecDepth 100000 in
theorem c_X2_limit (l : Launch) (D : va_G) (cI cD cJ : ClassId) (sz : Nat) (f : Nat) (f_kinds : Nat) (f_signs : Nat) (f_sizes : Nat) (f_places : Nat) (f_limits : Nat) (f_starts : Nat) (f_sorts : Nat) (f_count : Int32) (f_sections : Int32) (f_fifth : Int32) (f_limitsF : Nat → UInt64) (p1 : Int32) (iv_f_count : 0 ≤ (f_count : Int32).toInt ∧ (f_count : Int32).toInt ≤ 255) (iv_f_sections : 0 ≤ (f_sections : Int32).toInt ∧ (f_sections : Int32).toInt ≤ 4) : Met l yX2_limit pw_X2_limit ({ frames := 0, cells := 0, slots := 0, locals := 0 }) (va_Pc [.ref f, .int p1] (fun U => va_P D vwCl [(f, .inr (2, [.ref f_kinds, .ref f_signs, .ref f_sizes, .ref f_places, .ref f_limits, .ref f_starts, .ref f_sorts, .int f_count, .int f_sections, .int f_fifth])), (f_limits, .inl (cD, 255, .inr (.inr (.inr (.inl f_limitsF)))))] U.heap ∧ va_K D vwCl (ty3 cI cD cJ) U)) (va_Qd (fun (r : UInt64) (u : Unit) => True) (fun _ _ => True) (fun _ => False)) 0 0 (fun _ => False) := by
  refine Met.ofW (cc := cX2_limit) (maxL := 2) (ret := (some .double)) (by decide +kernel) rfl ?_
  intro p e s m args below meth c s₁ B hml hv
  obtain ⟨rfl, hP, hK⟩ := hv
  have hx := B.exec
  have hb := B.bytes
  have hr := B.returns
  have hts := atoms_spec (ws := pw_X2_limit) B.pre
  have hown : s.vm.findClass RX2 = some m.cls := findClass_of_methodNamed B.named
  have hlocks := B.notSynchronized
  have hS : va_S (fun _ => False) s.heap s.heap [] := va_S.rf
  have hw : ∀ (k : Nat) (w : Cond), ow_X2_limit[k]? = some w → w.before _ s = true := fun k w h => hts w (List.mem_cons_of_mem _ (have h9 := List.mem_of_getElem? h; List.mem_append_left _ h9))
  have iX2 : ∀ w ∈ u_ws RX2 TX2 10, w ∈ pw_X2_limit := fun w h9 => List.mem_cons_of_mem _ (List.mem_append_right _ (h9))
  have n_0 : ((0 : Int32)).toInt = 0 := by decide
  have n_255 : ((255 : Int32)).toInt = 255 := by decide
  have hl := lv_entry ([.ref f, .int p1]) (n := 2) (Nat.le_of_ble_eq_true rfl)
  rw [lg_entry_eq]
  generalize (lg_sl ([.ref f, .int p1]) ++ List.replicate (2 - (lg_sl ([.ref f, .int p1])).length) Slot.unset).toArray = ls at hl ⊢
  have hl : lv_has ls 2 [(0, .ref f), (1, .int p1)] := hl
  have b_p1 := ti_b p1
  refine lv_iload_n hx hb dX2_limit_0 rfl (lv_at hl 1 rfl) ?_
  refine lv_if_lt (tgt := 30) hx hb dX2_limit_1 (by decide) (fun c_1 => ?_) (fun c_1 => ?_)
  · have ic_1 : (p1 : Int32).toInt < (0 : Int32).toInt := (fa_lt p1 0).mp c_1
    refine lv_dconst0 hx hb dX2_limit_30 ?_
    exact W.dret (v := FP.dconst0) hx hb hr (fun t ht hW => ⟨⟨FP.dconst0, (), rfl, trivial, trivial⟩, hS.F ht⟩) hS.2.2 dX2_limit_31
  · have ic_1 : ¬ ((p1 : Int32).toInt < (0 : Int32).toInt) := fun h9 => c_1 ((fa_lt p1 0).mpr h9)
    refine lv_iload_n hx hb dX2_limit_4 rfl (lv_at hl 1 rfl) ?_
    refine lv_aload_n hx hb dX2_limit_5 rfl (lv_at hl 0 rfl) ?_
    refine va_get (D := D) (ci := 2) (v := .int f_count) (C := RX2) (T := TX2) (N := 10) hx hb hts iX2 hown hK hP 0 rfl rfl 7 (by decide) (hw 0 (.fieldLink RX2 34 "NumberFormats$Format" "count" "I") rfl) (fun _ h9 => h9) rfl dX2_limit_6 ?_
    refine lv_icmp_ge (tgt := 30) hx hb dX2_limit_9 (by decide) (fun c_2 => ?_) (fun c_2 => ?_)
    · have ic_2 : (f_count : Int32).toInt ≤ (p1 : Int32).toInt := (fa_le f_count p1).mp c_2
      refine lv_dconst0 hx hb dX2_limit_30 ?_
      exact W.dret (v := FP.dconst0) hx hb hr (fun t ht hW => ⟨⟨FP.dconst0, (), rfl, trivial, trivial⟩, hS.F ht⟩) hS.2.2 dX2_limit_31
    · have ic_2 : ¬ ((f_count : Int32).toInt ≤ (p1 : Int32).toInt) := fun h9 => c_2 ((fa_le f_count p1).mpr h9)
      refine lv_iload_n hx hb dX2_limit_12 rfl (lv_at hl 1 rfl) ?_
      refine lv_aload_n hx hb dX2_limit_13 rfl (lv_at hl 0 rfl) ?_
      refine va_get (D := D) (ci := 2) (v := .ref f_limits) (C := RX2) (T := TX2) (N := 10) hx hb hts iX2 hown hK hP 0 rfl rfl 4 (by decide) (hw 1 (.fieldLink RX2 24 "NumberFormats$Format" "limits" "[D") rfl) (fun _ h9 => h9) rfl dX2_limit_14 ?_
      refine va_alen hx hb hK hP 1 1 rfl rfl (v := 255) rfl dX2_limit_17 ?_
      refine lv_icmp_ge (tgt := 30) hx hb dX2_limit_18 (by decide) (fun c_3 => ?_) (fun c_3 => ?_)
      · have ic_3 : (255 : Int32).toInt ≤ (p1 : Int32).toInt := (fa_le 255 p1).mp c_3
        refine lv_dconst0 hx hb dX2_limit_30 ?_
        exact W.dret (v := FP.dconst0) hx hb hr (fun t ht hW => ⟨⟨FP.dconst0, (), rfl, trivial, trivial⟩, hS.F ht⟩) hS.2.2 dX2_limit_31
      · have ic_3 : ¬ ((255 : Int32).toInt ≤ (p1 : Int32).toInt) := fun h9 => c_3 ((fa_le 255 p1).mpr h9)
        refine lv_aload_n hx hb dX2_limit_21 rfl (lv_at hl 0 rfl) ?_
        refine va_get (D := D) (ci := 2) (v := .ref f_limits) (C := RX2) (T := TX2) (N := 10) hx hb hts iX2 hown hK hP 0 rfl rfl 4 (by decide) (hw 1 (.fieldLink RX2 24 "NumberFormats$Format" "limits" "[D") rfl) (fun _ h9 => h9) rfl dX2_limit_22 ?_
        refine lv_iload_n hx hb dX2_limit_25 rfl (lv_at hl 1 rfl) ?_
        have h_26 : vp_in p1 255 := by rw [vp_in_iff]; omega
        refine va_dald hx hb hK hP 1 1 rfl rfl h_26 dX2_limit_26 ?_
        refine lv_topd (fun d_4 ed_4 => ?_)
        refine lv_goto (tgt := 31) hx hb dX2_limit_27 (by decide) ?_
        exact W.dret (v := d_4) hx hb hr (fun t ht hW => ⟨⟨d_4, (), rfl, trivial, trivial⟩, hS.F ht⟩) hS.2.2 dX2_limit_31

def ow_X2_kindIn : List Cond := [Cond.methodLink RX2 52 yX2_from, Cond.instanceMethod yX2_from, Cond.selects RX2 yX2_from yX2_from, Cond.initialized RX2, Cond.methodLink RX2 56 yX2_to, Cond.instanceMethod yX2_to, Cond.selects RX2 yX2_to yX2_to, Cond.methodLink RX2 59 yX2_kind, Cond.instanceMethod yX2_kind, Cond.selects RX2 yX2_kind yX2_kind]
def pw_X2_kindIn : List Cond := Cond.code yX2_kindIn cX2_kindIn 3 (some .int) :: (ow_X2_kindIn ++ (pw_X2_from ++ (pw_X2_to ++ (pw_X2_kind))))
set_option maxRecDepth 20000 in
theorem mo_X2_kindIn : ∀ w ∈ ow_X2_kindIn, w ∈ lw_tbl := by decide +kernel
set_option maxRecDepth 20000 in
theorem mc_X2_kindIn : Cond.code yX2_kindIn cX2_kindIn 3 (some .int) ∈ lw_tbl := by decide +kernel
theorem m_X2_kindIn : ∀ w ∈ pw_X2_kindIn, w ∈ lw_tbl := List.forall_mem_cons.mpr ⟨mc_X2_kindIn, (List.forall_mem_append.mpr ⟨mo_X2_kindIn, (List.forall_mem_append.mpr ⟨m_X2_from, (List.forall_mem_append.mpr ⟨m_X2_to, m_X2_kind⟩)⟩)⟩)⟩
theorem ko_X2_kindIn : ∀ w ∈ ow_X2_kindIn, goodWord w = true := by decide +kernel
theorem k_X2_kindIn : pw_X2_kindIn.all goodWord = true := List.all_eq_true.mpr (List.forall_mem_cons.mpr ⟨by decide +kernel, (List.forall_mem_append.mpr ⟨ko_X2_kindIn, (List.forall_mem_append.mpr ⟨(List.all_eq_true.mp k_X2_from), (List.forall_mem_append.mpr ⟨(List.all_eq_true.mp k_X2_to), (List.all_eq_true.mp k_X2_kind)⟩)⟩)⟩)⟩)
set_option maxHeartbeats 400000 in
set_option maxRecDepth 100000 in
theorem c_X2_kindIn (l : Launch) (D : va_G) (cI cD cJ : ClassId) (sz : Nat) (f : Nat) (f_kinds : Nat) (f_signs : Nat) (f_sizes : Nat) (f_places : Nat) (f_limits : Nat) (f_starts : Nat) (f_sorts : Nat) (f_count : Int32) (f_sections : Int32) (f_fifth : Int32) (f_kindsF : Nat → Int32) (f_startsF : Nat → Int32) (p1 : Int32) (p2 : Int32) (hs9 : p1.toInt ≤ 4) (iv_f_count : 0 ≤ (f_count : Int32).toInt ∧ (f_count : Int32).toInt ≤ 255) (iv_f_sections : 0 ≤ (f_sections : Int32).toInt ∧ (f_sections : Int32).toInt ≤ 4) (iv_f_startsF : ∀ k9 : Nat, k9 < 4 → 0 ≤ (f_startsF k9).toInt ∧ (f_startsF k9).toInt ≤ 255) : Met l yX2_kindIn pw_X2_kindIn ({ frames := 1, cells := 0, slots := 0, locals := 21 }) (va_Pc [.ref f, .int p1, .int p2] (fun U => va_P D vwCl [(f, .inr (2, [.ref f_kinds, .ref f_signs, .ref f_sizes, .ref f_places, .ref f_limits, .ref f_starts, .ref f_sorts, .int f_count, .int f_sections, .int f_fifth])), (f_kinds, .inl (cI, 255, .inl f_kindsF)), (f_starts, .inl (cI, 4, .inl f_startsF))] U.heap ∧ va_K D vwCl (ty3 cI cD cJ) U)) (va_Qi (fun (r : Int32) (u : Unit) => True) (fun _ _ => True) (fun _ => False)) 0 0 (fun _ => False) := by
  refine Met.ofW (cc := cX2_kindIn) (maxL := 3) (ret := (some .int)) (by decide +kernel) rfl ?_
  intro p e s m args below meth c s₁ B hml hv
  obtain ⟨rfl, hP, hK⟩ := hv
  have hx := B.exec
  have hb := B.bytes
  have hr := B.returns
  have hts := atoms_spec (ws := pw_X2_kindIn) B.pre
  have hown : s.vm.findClass RX2 = some m.cls := findClass_of_methodNamed B.named
  have hlocks := B.notSynchronized
  have hS : va_S (fun _ => False) s.heap s.heap [] := va_S.rf
  have hw : ∀ (k : Nat) (w : Cond), ow_X2_kindIn[k]? = some w → w.before _ s = true := fun k w h => hts w (List.mem_cons_of_mem _ (have h9 := List.mem_of_getElem? h; List.mem_append_left _ h9))
  have i_X2_from : ∀ w ∈ pw_X2_from, w ∈ pw_X2_kindIn := fun w h9 => List.mem_cons_of_mem _ (List.mem_append_right _ (List.mem_append_left _ h9))
  have i_X2_to : ∀ w ∈ pw_X2_to, w ∈ pw_X2_kindIn := fun w h9 => List.mem_cons_of_mem _ (List.mem_append_right _ (List.mem_append_right _ (List.mem_append_left _ h9)))
  have i_X2_kind : ∀ w ∈ pw_X2_kind, w ∈ pw_X2_kindIn := fun w h9 => List.mem_cons_of_mem _ (List.mem_append_right _ (List.mem_append_right _ (List.mem_append_right _ (h9))))
  have n_m1 : (((-1) : Int32)).toInt = (-1) := by decide
  have hl := lv_entry ([.ref f, .int p1, .int p2]) (n := 3) (Nat.le_of_ble_eq_true rfl)
  rw [lg_entry_eq]
  generalize (lg_sl ([.ref f, .int p1, .int p2]) ++ List.replicate (3 - (lg_sl ([.ref f, .int p1, .int p2])).length) Slot.unset).toArray = ls at hl ⊢
  have hl : lv_has ls 3 [(0, .ref f), (1, .int p1), (2, .int p2)] := hl
  have b_p1 := ti_b p1
  have b_p2 := ti_b p2
  refine lv_iload_n hx hb dX2_kindIn_0 rfl (lv_at hl 2 rfl) ?_
  refine lv_aload_n hx hb dX2_kindIn_1 rfl (lv_at hl 0 rfl) ?_
  refine lv_iload_n hx hb dX2_kindIn_2 rfl (lv_at hl 1 rfl) ?_
  have hPc := hP.sub (ws' := [(f, .inr (2, [.ref f_kinds, .ref f_signs, .ref f_sizes, .ref f_places, .ref f_limits, .ref f_starts, .ref f_sorts, .int f_count, .int f_sections, .int f_fifth])), (f_starts, .inl (cI, 4, .inl f_startsF))]) [0, 2] rfl
  refine va_calli (va_runV (As := [.int p1]) (rest := [.int p2]) ⟨hx, hb, hml, hown, hts⟩ (c_X2_from l D cI cD cJ s.heap.size f f_kinds f_signs f_sizes f_places f_limits f_starts f_sorts f_count f_sections f_fifth f_startsF p1 (by omega) (by omega) (by assumption)) (cwV 1 hts (goodIn_app (goodIn_r _ [1, 2, 3, 4] rfl (by decide +kernel)) (goodIn_sub i_X2_from k_X2_from)) rfl rfl rfl (by decide +kernel) ⟨Nat.le_of_ble_eq_true rfl, Nat.le_of_ble_eq_true rfl⟩) ⟨fun a U g mk q => by obtain ⟨q0, qP, qK⟩ := q; exact ⟨q0, qP, va_K.moved (u := U) (U := U.calling g mk a) (Vm.Alike.refl U.vm) qK⟩, va_recv hK hPc (ci := 2) (q0 := 0) rfl rfl, fun U hU hW => ⟨rfl, by rw [hU]; exact hPc, va_K.moved hW.alike hK⟩⟩ rfl rfl hl.1 rfl (lv_room (Nat.le_of_ble_eq_true rfl)) dX2_kindIn_3 ⟨Nat.le_of_ble_eq_true rfl, Nat.le_of_ble_eq_true rfl⟩) hS (fun q _ h => h.elim) (fun q h => h.elim) (fun x_1 u t H1 locs ht hvm w_2 hB hz1 hk1 hS => ?_)
  have hP : va_P D vwCl [(f, .inr (2, [.ref f_kinds, .ref f_signs, .ref f_sizes, .ref f_places, .ref f_limits, .ref f_starts, .ref f_sorts, .int f_count, .int f_sections, .int f_fifth])), (f_kinds, .inl (cI, 255, .inl f_kindsF)), (f_starts, .inl (cI, 4, .inl f_startsF))] H1 := hP.kept (fun k9 q9 h9 => hk1 q9.1 (vx_lt hP h9) (fun h => h))
  generalize H1 = H at hP hS ⊢
  try dsimp only at w_2
  refine lv_icmp_lt (tgt := 26) hx hb dX2_kindIn_6 (by decide) (fun c_3 => ?_) (fun c_3 => ?_)
  · have ic_3 : (p2 : Int32).toInt < (x_1 : Int32).toInt := (fa_lt p2 x_1).mp c_3
    refine lv_iconst (v := (-1)) hx hb dX2_kindIn_26 (by decide) ?_
    exact W.iret (v := (-1)) hx hb hr (fun t ht hW => ⟨⟨(-1), (), rfl, trivial, trivial⟩, hS.F ht⟩) hS.2.2 dX2_kindIn_27
  · have ic_3 : ¬ ((p2 : Int32).toInt < (x_1 : Int32).toInt) := fun h9 => c_3 ((fa_lt p2 x_1).mpr h9)
    refine lv_iload_n hx hb dX2_kindIn_9 rfl (lv_at hl 2 rfl) ?_
    refine lv_aload_n hx hb dX2_kindIn_10 rfl (lv_at hl 0 rfl) ?_
    refine lv_iload_n hx hb dX2_kindIn_11 rfl (lv_at hl 1 rfl) ?_
    have hPc := hP.sub (ws' := [(f, .inr (2, [.ref f_kinds, .ref f_signs, .ref f_sizes, .ref f_places, .ref f_limits, .ref f_starts, .ref f_sorts, .int f_count, .int f_sections, .int f_fifth])), (f_starts, .inl (cI, 4, .inl f_startsF))]) [0, 2] rfl
    refine va_calli (va_runV (As := [.int p1]) (rest := [.int p2]) ⟨hx, hb, hml, hown, hts⟩ (c_X2_to l D cI cD cJ H.size f f_kinds f_signs f_sizes f_places f_limits f_starts f_sorts f_count f_sections f_fifth f_startsF p1 (by omega) (by omega) (by omega) (by assumption)) (cwV 1 hts (goodIn_app (goodIn_r _ [5, 6, 7, 4] rfl (by decide +kernel)) (goodIn_sub i_X2_to k_X2_to)) rfl rfl rfl (by decide +kernel) ⟨Nat.le_of_ble_eq_true rfl, Nat.le_of_ble_eq_true rfl⟩) ⟨fun a U g mk q => by obtain ⟨q0, qP, qK⟩ := q; exact ⟨q0, qP, va_K.moved (u := U) (U := U.calling g mk a) (Vm.Alike.refl U.vm) qK⟩, va_recv hK hPc (ci := 2) (q0 := 0) rfl rfl, fun U hU hW => ⟨rfl, by rw [hU]; exact hPc, va_K.moved hW.alike hK⟩⟩ rfl rfl hl.1 rfl (lv_room (Nat.le_of_ble_eq_true rfl)) dX2_kindIn_12 ⟨Nat.le_of_ble_eq_true rfl, Nat.le_of_ble_eq_true rfl⟩) hS (fun q _ h => h.elim) (fun q h => h.elim) (fun x_4 u t H1 locs ht hvm w_5 hB hz1 hk1 hS => ?_)
    have hP : va_P D vwCl [(f, .inr (2, [.ref f_kinds, .ref f_signs, .ref f_sizes, .ref f_places, .ref f_limits, .ref f_starts, .ref f_sorts, .int f_count, .int f_sections, .int f_fifth])), (f_kinds, .inl (cI, 255, .inl f_kindsF)), (f_starts, .inl (cI, 4, .inl f_startsF))] H1 := hP.kept (fun k9 q9 h9 => hk1 q9.1 (vx_lt hP h9) (fun h => h))
    generalize H1 = H at hP hS ⊢
    try dsimp only at w_5
    refine lv_icmp_ge (tgt := 26) hx hb dX2_kindIn_15 (by decide) (fun c_6 => ?_) (fun c_6 => ?_)
    · have ic_6 : (x_4 : Int32).toInt ≤ (p2 : Int32).toInt := (fa_le x_4 p2).mp c_6
      refine lv_iconst (v := (-1)) hx hb dX2_kindIn_26 (by decide) ?_
      exact W.iret (v := (-1)) hx hb hr (fun t ht hW => ⟨⟨(-1), (), rfl, trivial, trivial⟩, hS.F ht⟩) hS.2.2 dX2_kindIn_27
    · have ic_6 : ¬ ((x_4 : Int32).toInt ≤ (p2 : Int32).toInt) := fun h9 => c_6 ((fa_le x_4 p2).mpr h9)
      refine lv_aload_n hx hb dX2_kindIn_18 rfl (lv_at hl 0 rfl) ?_
      refine lv_iload_n hx hb dX2_kindIn_19 rfl (lv_at hl 2 rfl) ?_
      have hPc := hP.sub (ws' := [(f, .inr (2, [.ref f_kinds, .ref f_signs, .ref f_sizes, .ref f_places, .ref f_limits, .ref f_starts, .ref f_sorts, .int f_count, .int f_sections, .int f_fifth])), (f_kinds, .inl (cI, 255, .inl f_kindsF))]) [0, 1] rfl
      refine va_calli (va_runV (As := [.int p2]) (rest := []) ⟨hx, hb, hml, hown, hts⟩ (c_X2_kind l D cI cD cJ H.size f f_kinds f_signs f_sizes f_places f_limits f_starts f_sorts f_count f_sections f_fifth f_kindsF p2 (by omega) (by omega)) (cwV 1 hts (goodIn_app (goodIn_r _ [8, 9, 10, 4] rfl (by decide +kernel)) (goodIn_sub i_X2_kind k_X2_kind)) rfl rfl rfl (by decide +kernel) ⟨Nat.le_of_ble_eq_true rfl, Nat.le_of_ble_eq_true rfl⟩) ⟨fun a U g mk q => by obtain ⟨q0, qP, qK⟩ := q; exact ⟨q0, qP, va_K.moved (u := U) (U := U.calling g mk a) (Vm.Alike.refl U.vm) qK⟩, va_recv hK hPc (ci := 2) (q0 := 0) rfl rfl, fun U hU hW => ⟨rfl, by rw [hU]; exact hPc, va_K.moved hW.alike hK⟩⟩ rfl rfl hl.1 rfl (lv_room (Nat.le_of_ble_eq_true rfl)) dX2_kindIn_20 ⟨Nat.le_of_ble_eq_true rfl, Nat.le_of_ble_eq_true rfl⟩) hS (fun q _ h => h.elim) (fun q h => h.elim) (fun x_7 u t H1 locs ht hvm w_8 hB hz1 hk1 hS => ?_)
      have hP : va_P D vwCl [(f, .inr (2, [.ref f_kinds, .ref f_signs, .ref f_sizes, .ref f_places, .ref f_limits, .ref f_starts, .ref f_sorts, .int f_count, .int f_sections, .int f_fifth])), (f_kinds, .inl (cI, 255, .inl f_kindsF)), (f_starts, .inl (cI, 4, .inl f_startsF))] H1 := hP.kept (fun k9 q9 h9 => hk1 q9.1 (vx_lt hP h9) (fun h => h))
      generalize H1 = H at hP hS ⊢
      refine lv_goto (tgt := 27) hx hb dX2_kindIn_23 (by decide) ?_
      exact W.iret (v := x_7) hx hb hr (fun t ht hW => ⟨⟨x_7, (), rfl, trivial, trivial⟩, hS.F ht⟩) hS.2.2 dX2_kindIn_27

def ow_X2_find : List Cond := [Cond.methodLink RX2 59 yX2_kind, Cond.instanceMethod yX2_kind, Cond.selects RX2 yX2_kind yX2_kind, Cond.initialized RX2]
def pw_X2_find : List Cond := Cond.code yX2_find cX2_find 5 (some .int) :: (ow_X2_find ++ (pw_X2_kind))
set_option maxRecDepth 20000 in
theorem mo_X2_find : ∀ w ∈ ow_X2_find, w ∈ lw_tbl := by decide +kernel
set_option maxRecDepth 20000 in
theorem mc_X2_find : Cond.code yX2_find cX2_find 5 (some .int) ∈ lw_tbl := by decide +kernel
theorem m_X2_find : ∀ w ∈ pw_X2_find, w ∈ lw_tbl := List.forall_mem_cons.mpr ⟨mc_X2_find, (List.forall_mem_append.mpr ⟨mo_X2_find, m_X2_kind⟩)⟩
theorem ko_X2_find : ∀ w ∈ ow_X2_find, goodWord w = true := by decide +kernel
theorem k_X2_find : pw_X2_find.all goodWord = true := List.all_eq_true.mpr (List.forall_mem_cons.mpr ⟨by decide +kernel, (List.forall_mem_append.mpr ⟨ko_X2_find, (List.all_eq_true.mp k_X2_kind)⟩)⟩)
set_option maxHeartbeats 400000 in
set_option maxRecDepth 100000 in
theorem c_X2_find (l : Launch) (D : va_G) (cI cD cJ : ClassId) (sz : Nat) (f : Nat) (f_kinds : Nat) (f_signs : Nat) (f_sizes : Nat) (f_places : Nat) (f_limits : Nat) (f_starts : Nat) (f_sorts : Nat) (f_count : Int32) (f_sections : Int32) (f_fifth : Int32) (f_kindsF : Nat → Int32) (p1 : Int32) (p2 : Int32) (p3 : Int32) (iv_f_count : 0 ≤ (f_count : Int32).toInt ∧ (f_count : Int32).toInt ≤ 255) (iv_f_sections : 0 ≤ (f_sections : Int32).toInt ∧ (f_sections : Int32).toInt ≤ 4) : Met l yX2_find pw_X2_find ({ frames := 1, cells := 0, slots := 0, locals := 21 }) (va_Pc [.ref f, .int p1, .int p2, .int p3] (fun U => va_P D vwCl [(f, .inr (2, [.ref f_kinds, .ref f_signs, .ref f_sizes, .ref f_places, .ref f_limits, .ref f_starts, .ref f_sorts, .int f_count, .int f_sections, .int f_fifth])), (f_kinds, .inl (cI, 255, .inl f_kindsF))] U.heap ∧ va_K D vwCl (ty3 cI cD cJ) U)) (va_Qi (fun (r : Int32) (u : Unit) => (r.toInt = -1 ∨ (p2.toInt ≤ r.toInt ∧ r.toInt < p3.toInt))) (fun _ _ => True) (fun _ => False)) 0 0 (fun _ => False) := by
  refine Met.ofW (cc := cX2_find) (maxL := 5) (ret := (some .int)) (by decide +kernel) rfl ?_
  intro p e s m args below meth c s₁ B hml hv
  obtain ⟨rfl, hP, hK⟩ := hv
  have hx := B.exec
  have hb := B.bytes
  have hr := B.returns
  have hts := atoms_spec (ws := pw_X2_find) B.pre
  have hown : s.vm.findClass RX2 = some m.cls := findClass_of_methodNamed B.named
  have hlocks := B.notSynchronized
  have hS : va_S (fun _ => False) s.heap s.heap [] := va_S.rf
  have hw : ∀ (k : Nat) (w : Cond), ow_X2_find[k]? = some w → w.before _ s = true := fun k w h => hts w (List.mem_cons_of_mem _ (have h9 := List.mem_of_getElem? h; List.mem_append_left _ h9))
  have i_X2_kind : ∀ w ∈ pw_X2_kind, w ∈ pw_X2_find := fun w h9 => List.mem_cons_of_mem _ (List.mem_append_right _ (h9))
  have n_m1 : (((-1) : Int32)).toInt = (-1) := by decide
  have n_1 : ((1 : Int32)).toInt = 1 := by decide
  have hl := lv_entry ([.ref f, .int p1, .int p2, .int p3]) (n := 5) (Nat.le_of_ble_eq_true rfl)
  rw [lg_entry_eq]
  generalize (lg_sl ([.ref f, .int p1, .int p2, .int p3]) ++ List.replicate (5 - (lg_sl ([.ref f, .int p1, .int p2, .int p3])).length) Slot.unset).toArray = ls at hl ⊢
  have hl : lv_has ls 5 [(0, .ref f), (1, .int p1), (2, .int p2), (3, .int p3)] := hl
  have b_p1 := ti_b p1
  have b_p2 := ti_b p2
  have b_p3 := ti_b p3
  refine zz_cap (fun Z hZ1 hZ2 => ?_)
  refine lv_iload_n hx hb dX2_find_0 rfl (lv_at hl 2 rfl) ?_
  refine lv_istore (lv' := [(4, .int p2), (0, .ref f), (1, .int p1), (2, .int p2), (3, .int p3)]) hx hb dX2_find_1 hl (by decide) rfl (fun ls hl => ?_)
  have L_3 : ∀ (N : Nat) (x_1 : Int32) (H : Heap) (locs : List Loc) (ls : Array Slot), (p2.toInt ≤ (x_1 : Int32).toInt) → ((2147483647 - (x_1 : Int32).toInt).toNat < N) → va_P D vwCl [(f, .inr (2, [.ref f_kinds, .ref f_signs, .ref f_sizes, .ref f_places, .ref f_limits, .ref f_starts, .ref f_sorts, .int f_count, .int f_sections, .int f_fifth])), (f_kinds, .inl (cI, 255, .inl f_kindsF))] H → va_S (fun _ => False) s.heap H locs → lv_has ls 5 [(4, .int x_1), (0, .ref f), (1, .int p1), (3, .int p3)] → Z 0 0 H locs (F0 m 3 ls []) := by
    intro N
    induction N with
    | zero => intro _ _ _ _ _ hmu; exact absurd hmu (Nat.not_lt_zero _)
    | succ N ih_3 =>
      intro x_1 H locs ls g3_0 hmu hP hS hl
      refine hZ2 ?_
      refine lv_iload hx hb dX2_find_3 (lv_at hl 0 rfl) ?_
      refine lv_iload_n hx hb dX2_find_5 rfl (lv_at hl 3 rfl) ?_
      refine lv_icmp_ge (tgt := 28) hx hb dX2_find_6 (by decide) (fun c_2 => ?_) (fun c_2 => ?_)
      · have ic_2 : (p3 : Int32).toInt ≤ (x_1 : Int32).toInt := (fa_le p3 x_1).mp c_2
        refine lv_iconst (v := (-1)) hx hb dX2_find_28 (by decide) ?_
        exact W.iret (v := (-1)) hx hb hr (fun t ht hW => ⟨⟨(-1), (), rfl, (by (try dsimp only); first | omega | assumption), trivial⟩, hS.F ht⟩) hS.2.2 dX2_find_29
      · have ic_2 : ¬ ((p3 : Int32).toInt ≤ (x_1 : Int32).toInt) := fun h9 => c_2 ((fa_le p3 x_1).mpr h9)
        refine lv_aload_n hx hb dX2_find_9 rfl (lv_at hl 1 rfl) ?_
        refine lv_iload hx hb dX2_find_10 (lv_at hl 0 rfl) ?_
        have hPc := hP.sub (ws' := [(f, .inr (2, [.ref f_kinds, .ref f_signs, .ref f_sizes, .ref f_places, .ref f_limits, .ref f_starts, .ref f_sorts, .int f_count, .int f_sections, .int f_fifth])), (f_kinds, .inl (cI, 255, .inl f_kindsF))]) [0, 1] rfl
        refine va_calli (va_runV (As := [.int x_1]) (rest := []) ⟨hx, hb, hml, hown, hts⟩ (c_X2_kind l D cI cD cJ H.size f f_kinds f_signs f_sizes f_places f_limits f_starts f_sorts f_count f_sections f_fifth f_kindsF x_1 (by omega) (by omega)) (cwV 1 hts (goodIn_app (goodIn_r _ [1, 2, 3, 4] rfl (by decide +kernel)) (goodIn_sub i_X2_kind k_X2_kind)) rfl rfl rfl (by decide +kernel) ⟨Nat.le_of_ble_eq_true rfl, Nat.le_of_ble_eq_true rfl⟩) ⟨fun a U g mk q => by obtain ⟨q0, qP, qK⟩ := q; exact ⟨q0, qP, va_K.moved (u := U) (U := U.calling g mk a) (Vm.Alike.refl U.vm) qK⟩, va_recv hK hPc (ci := 2) (q0 := 0) rfl rfl, fun U hU hW => ⟨rfl, by rw [hU]; exact hPc, va_K.moved hW.alike hK⟩⟩ rfl rfl hl.1 rfl (lv_room (Nat.le_of_ble_eq_true rfl)) dX2_find_12 ⟨Nat.le_of_ble_eq_true rfl, Nat.le_of_ble_eq_true rfl⟩) hS (fun q _ h => h.elim) (fun q h => h.elim) (fun x_3 u t H1 locs ht hvm w_4 hB hz1 hk1 hS => ?_)
        have hP : va_P D vwCl [(f, .inr (2, [.ref f_kinds, .ref f_signs, .ref f_sizes, .ref f_places, .ref f_limits, .ref f_starts, .ref f_sorts, .int f_count, .int f_sections, .int f_fifth])), (f_kinds, .inl (cI, 255, .inl f_kindsF))] H1 := hP.kept (fun k9 q9 h9 => hk1 q9.1 (vx_lt hP h9) (fun h => h))
        generalize H1 = H at hP hS ⊢
        refine lv_iload_n hx hb dX2_find_15 rfl (lv_at hl 2 rfl) ?_
        refine lv_icmp_ne (tgt := 22) hx hb dX2_find_16 (by decide) (fun c_5 => ?_) (fun c_5 => ?_)
        · have ic_5 : ¬ ((x_3 : Int32).toInt = (p1 : Int32).toInt) := fun h9 => c_5 ((fa_eq x_3 p1).mpr h9)
          obtain ⟨x_6, ex_6⟩ : ∃ y : Int32, y = x_1 + 1 := ⟨_, rfl⟩
          have tx_6 := ti_add ex_6
          refine lv_iinc (v := x_6) (lv' := [(4, .int x_6), (0, .ref f), (1, .int p1), (3, .int p3)]) hx hb dX2_find_22 hl (k := 0) rfl (by rw [ex_6]; rfl) (by decide) rfl (fun ls hl => ?_)
          refine lv_goto (tgt := 3) hx hb dX2_find_25 (by decide) ?_
          exact hZ1 (ih_3 x_6 _ _ _ (by omega) (by omega) hP hS hl)
        · have ic_5 : (x_3 : Int32).toInt = (p1 : Int32).toInt := (fa_eq x_3 p1).mp c_5
          refine lv_iload hx hb dX2_find_19 (lv_at hl 0 rfl) ?_
          exact W.iret (v := x_1) hx hb hr (fun t ht hW => ⟨⟨x_1, (), rfl, (by (try dsimp only); first | omega | assumption), trivial⟩, hS.F ht⟩) hS.2.2 dX2_find_21
  exact hZ1 (L_3 (((2147483647 - (p2 : Int32).toInt).toNat) + 1) p2 _ _ _ (by omega) (by omega) hP hS (lv_sub hl [0, 1, 2, 4] rfl))

def ow_X2_findIn : List Cond := [Cond.methodLink RX2 52 yX2_from, Cond.instanceMethod yX2_from, Cond.selects RX2 yX2_from yX2_from, Cond.initialized RX2, Cond.methodLink RX2 56 yX2_to, Cond.instanceMethod yX2_to, Cond.selects RX2 yX2_to yX2_to, Cond.methodLink RX2 62 yX2_find, Cond.instanceMethod yX2_find, Cond.selects RX2 yX2_find yX2_find]
def pw_X2_findIn : List Cond := Cond.code yX2_findIn cX2_findIn 3 (some .int) :: (ow_X2_findIn ++ (pw_X2_from ++ (pw_X2_to ++ (pw_X2_find))))
set_option maxRecDepth 20000 in
theorem mo_X2_findIn : ∀ w ∈ ow_X2_findIn, w ∈ lw_tbl := by decide +kernel
set_option maxRecDepth 20000 in
theorem mc_X2_findIn : Cond.code yX2_findIn cX2_findIn 3 (some .int) ∈ lw_tbl := by decide +kernel
theorem m_X2_findIn : ∀ w ∈ pw_X2_findIn, w ∈ lw_tbl := List.forall_mem_cons.mpr ⟨mc_X2_findIn, (List.forall_mem_append.mpr ⟨mo_X2_findIn, (List.forall_mem_append.mpr ⟨m_X2_from, (List.forall_mem_append.mpr ⟨m_X2_to, m_X2_find⟩)⟩)⟩)⟩
theorem ko_X2_findIn : ∀ w ∈ ow_X2_findIn, goodWord w = true := by decide +kernel
theorem k_X2_findIn : pw_X2_findIn.all goodWord = true := List.all_eq_true.mpr (List.forall_mem_cons.mpr ⟨by decide +kernel, (List.forall_mem_append.mpr ⟨ko_X2_findIn, (List.forall_mem_append.mpr ⟨(List.all_eq_true.mp k_X2_from), (List.forall_mem_append.mpr ⟨(List.all_eq_true.mp k_X2_to), (List.all_eq_true.mp k_X2_find)⟩)⟩)⟩)⟩)
set_option maxHeartbeats 400000 in
set_option maxRecDepth 100000 in
theorem c_X2_findIn (l : Launch) (D : va_G) (cI cD cJ : ClassId) (sz : Nat) (f : Nat) (f_kinds : Nat) (f_signs : Nat) (f_sizes : Nat) (f_places : Nat) (f_limits : Nat) (f_starts : Nat) (f_sorts : Nat) (f_count : Int32) (f_sections : Int32) (f_fifth : Int32) (f_kindsF : Nat → Int32) (f_startsF : Nat → Int32) (p1 : Int32) (p2 : Int32) (hs9 : p1.toInt ≤ 4) (iv_f_count : 0 ≤ (f_count : Int32).toInt ∧ (f_count : Int32).toInt ≤ 255) (iv_f_sections : 0 ≤ (f_sections : Int32).toInt ∧ (f_sections : Int32).toInt ≤ 4) (iv_f_startsF : ∀ k9 : Nat, k9 < 4 → 0 ≤ (f_startsF k9).toInt ∧ (f_startsF k9).toInt ≤ 255) : Met l yX2_findIn pw_X2_findIn ({ frames := 2, cells := 0, slots := 0, locals := 45 }) (va_Pc [.ref f, .int p1, .int p2] (fun U => va_P D vwCl [(f, .inr (2, [.ref f_kinds, .ref f_signs, .ref f_sizes, .ref f_places, .ref f_limits, .ref f_starts, .ref f_sorts, .int f_count, .int f_sections, .int f_fifth])), (f_kinds, .inl (cI, 255, .inl f_kindsF)), (f_starts, .inl (cI, 4, .inl f_startsF))] U.heap ∧ va_K D vwCl (ty3 cI cD cJ) U)) (va_Qi (fun (r : Int32) (u : Unit) => (-1 ≤ r.toInt ∧ r.toInt ≤ 254)) (fun _ _ => True) (fun _ => False)) 0 0 (fun _ => False) := by
  refine Met.ofW (cc := cX2_findIn) (maxL := 3) (ret := (some .int)) (by decide +kernel) rfl ?_
  intro p e s m args below meth c s₁ B hml hv
  obtain ⟨rfl, hP, hK⟩ := hv
  have hx := B.exec
  have hb := B.bytes
  have hr := B.returns
  have hts := atoms_spec (ws := pw_X2_findIn) B.pre
  have hown : s.vm.findClass RX2 = some m.cls := findClass_of_methodNamed B.named
  have hlocks := B.notSynchronized
  have hS : va_S (fun _ => False) s.heap s.heap [] := va_S.rf
  have hw : ∀ (k : Nat) (w : Cond), ow_X2_findIn[k]? = some w → w.before _ s = true := fun k w h => hts w (List.mem_cons_of_mem _ (have h9 := List.mem_of_getElem? h; List.mem_append_left _ h9))
  have i_X2_from : ∀ w ∈ pw_X2_from, w ∈ pw_X2_findIn := fun w h9 => List.mem_cons_of_mem _ (List.mem_append_right _ (List.mem_append_left _ h9))
  have i_X2_to : ∀ w ∈ pw_X2_to, w ∈ pw_X2_findIn := fun w h9 => List.mem_cons_of_mem _ (List.mem_append_right _ (List.mem_append_right _ (List.mem_append_left _ h9)))
  have i_X2_find : ∀ w ∈ pw_X2_find, w ∈ pw_X2_findIn := fun w h9 => List.mem_cons_of_mem _ (List.mem_append_right _ (List.mem_append_right _ (List.mem_append_right _ (h9))))
  have hl := lv_entry ([.ref f, .int p1, .int p2]) (n := 3) (Nat.le_of_ble_eq_true rfl)
  rw [lg_entry_eq]
  generalize (lg_sl ([.ref f, .int p1, .int p2]) ++ List.replicate (3 - (lg_sl ([.ref f, .int p1, .int p2])).length) Slot.unset).toArray = ls at hl ⊢
  have hl : lv_has ls 3 [(0, .ref f), (1, .int p1), (2, .int p2)] := hl
  have b_p1 := ti_b p1
  have b_p2 := ti_b p2
  refine lv_aload_n hx hb dX2_findIn_0 rfl (lv_at hl 0 rfl) ?_
  refine lv_iload_n hx hb dX2_findIn_1 rfl (lv_at hl 2 rfl) ?_
  refine lv_aload_n hx hb dX2_findIn_2 rfl (lv_at hl 0 rfl) ?_
  refine lv_iload_n hx hb dX2_findIn_3 rfl (lv_at hl 1 rfl) ?_
  have hPc := hP.sub (ws' := [(f, .inr (2, [.ref f_kinds, .ref f_signs, .ref f_sizes, .ref f_places, .ref f_limits, .ref f_starts, .ref f_sorts, .int f_count, .int f_sections, .int f_fifth])), (f_starts, .inl (cI, 4, .inl f_startsF))]) [0, 2] rfl
  refine va_calli (va_runV (As := [.int p1]) (rest := [.int p2, .ref f]) ⟨hx, hb, hml, hown, hts⟩ (c_X2_from l D cI cD cJ s.heap.size f f_kinds f_signs f_sizes f_places f_limits f_starts f_sorts f_count f_sections f_fifth f_startsF p1 (by omega) (by omega) (by assumption)) (cwV 1 hts (goodIn_app (goodIn_r _ [1, 2, 3, 4] rfl (by decide +kernel)) (goodIn_sub i_X2_from k_X2_from)) rfl rfl rfl (by decide +kernel) ⟨Nat.le_of_ble_eq_true rfl, Nat.le_of_ble_eq_true rfl⟩) ⟨fun a U g mk q => by obtain ⟨q0, qP, qK⟩ := q; exact ⟨q0, qP, va_K.moved (u := U) (U := U.calling g mk a) (Vm.Alike.refl U.vm) qK⟩, va_recv hK hPc (ci := 2) (q0 := 0) rfl rfl, fun U hU hW => ⟨rfl, by rw [hU]; exact hPc, va_K.moved hW.alike hK⟩⟩ rfl rfl hl.1 rfl (lv_room (Nat.le_of_ble_eq_true rfl)) dX2_findIn_4 ⟨Nat.le_of_ble_eq_true rfl, Nat.le_of_ble_eq_true rfl⟩) hS (fun q _ h => h.elim) (fun q h => h.elim) (fun x_1 u t H1 locs ht hvm w_2 hB hz1 hk1 hS => ?_)
  have hP : va_P D vwCl [(f, .inr (2, [.ref f_kinds, .ref f_signs, .ref f_sizes, .ref f_places, .ref f_limits, .ref f_starts, .ref f_sorts, .int f_count, .int f_sections, .int f_fifth])), (f_kinds, .inl (cI, 255, .inl f_kindsF)), (f_starts, .inl (cI, 4, .inl f_startsF))] H1 := hP.kept (fun k9 q9 h9 => hk1 q9.1 (vx_lt hP h9) (fun h => h))
  generalize H1 = H at hP hS ⊢
  try dsimp only at w_2
  refine lv_aload_n hx hb dX2_findIn_7 rfl (lv_at hl 0 rfl) ?_
  refine lv_iload_n hx hb dX2_findIn_8 rfl (lv_at hl 1 rfl) ?_
  have hPc := hP.sub (ws' := [(f, .inr (2, [.ref f_kinds, .ref f_signs, .ref f_sizes, .ref f_places, .ref f_limits, .ref f_starts, .ref f_sorts, .int f_count, .int f_sections, .int f_fifth])), (f_starts, .inl (cI, 4, .inl f_startsF))]) [0, 2] rfl
  refine va_calli (va_runV (As := [.int p1]) (rest := [.int x_1, .int p2, .ref f]) ⟨hx, hb, hml, hown, hts⟩ (c_X2_to l D cI cD cJ H.size f f_kinds f_signs f_sizes f_places f_limits f_starts f_sorts f_count f_sections f_fifth f_startsF p1 (by omega) (by omega) (by omega) (by assumption)) (cwV 1 hts (goodIn_app (goodIn_r _ [5, 6, 7, 4] rfl (by decide +kernel)) (goodIn_sub i_X2_to k_X2_to)) rfl rfl rfl (by decide +kernel) ⟨Nat.le_of_ble_eq_true rfl, Nat.le_of_ble_eq_true rfl⟩) ⟨fun a U g mk q => by obtain ⟨q0, qP, qK⟩ := q; exact ⟨q0, qP, va_K.moved (u := U) (U := U.calling g mk a) (Vm.Alike.refl U.vm) qK⟩, va_recv hK hPc (ci := 2) (q0 := 0) rfl rfl, fun U hU hW => ⟨rfl, by rw [hU]; exact hPc, va_K.moved hW.alike hK⟩⟩ rfl rfl hl.1 rfl (lv_room (Nat.le_of_ble_eq_true rfl)) dX2_findIn_9 ⟨Nat.le_of_ble_eq_true rfl, Nat.le_of_ble_eq_true rfl⟩) hS (fun q _ h => h.elim) (fun q h => h.elim) (fun x_3 u t H1 locs ht hvm w_4 hB hz1 hk1 hS => ?_)
  have hP : va_P D vwCl [(f, .inr (2, [.ref f_kinds, .ref f_signs, .ref f_sizes, .ref f_places, .ref f_limits, .ref f_starts, .ref f_sorts, .int f_count, .int f_sections, .int f_fifth])), (f_kinds, .inl (cI, 255, .inl f_kindsF)), (f_starts, .inl (cI, 4, .inl f_startsF))] H1 := hP.kept (fun k9 q9 h9 => hk1 q9.1 (vx_lt hP h9) (fun h => h))
  generalize H1 = H at hP hS ⊢
  try dsimp only at w_4
  have hPc := hP.sub (ws' := [(f, .inr (2, [.ref f_kinds, .ref f_signs, .ref f_sizes, .ref f_places, .ref f_limits, .ref f_starts, .ref f_sorts, .int f_count, .int f_sections, .int f_fifth])), (f_kinds, .inl (cI, 255, .inl f_kindsF))]) [0, 1] rfl
  refine va_calli (va_runV (As := [.int p2, .int x_1, .int x_3]) (rest := []) ⟨hx, hb, hml, hown, hts⟩ (c_X2_find l D cI cD cJ H.size f f_kinds f_signs f_sizes f_places f_limits f_starts f_sorts f_count f_sections f_fifth f_kindsF p2 x_1 x_3 (by omega) (by omega)) (cwV 3 hts (goodIn_app (goodIn_r _ [8, 9, 10, 4] rfl (by decide +kernel)) (goodIn_sub i_X2_find k_X2_find)) rfl rfl rfl (by decide +kernel) ⟨Nat.le_of_ble_eq_true rfl, Nat.le_of_ble_eq_true rfl⟩) ⟨fun a U g mk q => by obtain ⟨q0, qP, qK⟩ := q; exact ⟨q0, qP, va_K.moved (u := U) (U := U.calling g mk a) (Vm.Alike.refl U.vm) qK⟩, va_recv hK hPc (ci := 2) (q0 := 0) rfl rfl, fun U hU hW => ⟨rfl, by rw [hU]; exact hPc, va_K.moved hW.alike hK⟩⟩ rfl rfl hl.1 rfl (lv_room (Nat.le_of_ble_eq_true rfl)) dX2_findIn_12 ⟨Nat.le_of_ble_eq_true rfl, Nat.le_of_ble_eq_true rfl⟩) hS (fun q _ h => h.elim) (fun q h => h.elim) (fun x_5 u t H1 locs ht hvm w_6 hB hz1 hk1 hS => ?_)
  have hP : va_P D vwCl [(f, .inr (2, [.ref f_kinds, .ref f_signs, .ref f_sizes, .ref f_places, .ref f_limits, .ref f_starts, .ref f_sorts, .int f_count, .int f_sections, .int f_fifth])), (f_kinds, .inl (cI, 255, .inl f_kindsF)), (f_starts, .inl (cI, 4, .inl f_startsF))] H1 := hP.kept (fun k9 q9 h9 => hk1 q9.1 (vx_lt hP h9) (fun h => h))
  generalize H1 = H at hP hS ⊢
  try dsimp only at w_6
  exact W.iret (v := x_5) hx hb hr (fun t ht hW => ⟨⟨x_5, (), rfl, (by (try dsimp only); first | omega | assumption), trivial⟩, hS.F ht⟩) hS.2.2 dX2_findIn_15

def ow_X2_findLast : List Cond := [Cond.methodLink RX2 59 yX2_kind, Cond.instanceMethod yX2_kind, Cond.selects RX2 yX2_kind yX2_kind, Cond.initialized RX2]
def pw_X2_findLast : List Cond := Cond.code yX2_findLast cX2_findLast 5 (some .int) :: (ow_X2_findLast ++ (pw_X2_kind))
set_option maxRecDepth 20000 in
theorem mo_X2_findLast : ∀ w ∈ ow_X2_findLast, w ∈ lw_tbl := by decide +kernel
set_option maxRecDepth 20000 in
theorem mc_X2_findLast : Cond.code yX2_findLast cX2_findLast 5 (some .int) ∈ lw_tbl := by decide +kernel
theorem m_X2_findLast : ∀ w ∈ pw_X2_findLast, w ∈ lw_tbl := List.forall_mem_cons.mpr ⟨mc_X2_findLast, (List.forall_mem_append.mpr ⟨mo_X2_findLast, m_X2_kind⟩)⟩
theorem ko_X2_findLast : ∀ w ∈ ow_X2_findLast, goodWord w = true := by decide +kernel
theorem k_X2_findLast : pw_X2_findLast.all goodWord = true := List.all_eq_true.mpr (List.forall_mem_cons.mpr ⟨by decide +kernel, (List.forall_mem_append.mpr ⟨ko_X2_findLast, (List.all_eq_true.mp k_X2_kind)⟩)⟩)
set_option maxHeartbeats 400000 in
set_option maxRecDepth 100000 in
theorem c_X2_findLast (l : Launch) (D : va_G) (cI cD cJ : ClassId) (sz : Nat) (f : Nat) (f_kinds : Nat) (f_signs : Nat) (f_sizes : Nat) (f_places : Nat) (f_limits : Nat) (f_starts : Nat) (f_sorts : Nat) (f_count : Int32) (f_sections : Int32) (f_fifth : Int32) (f_kindsF : Nat → Int32) (p1 : Int32) (p2 : Int32) (p3 : Int32) (h1 : 0 ≤ p2.toInt) (h2 : 0 ≤ p3.toInt) (iv_f_count : 0 ≤ (f_count : Int32).toInt ∧ (f_count : Int32).toInt ≤ 255) (iv_f_sections : 0 ≤ (f_sections : Int32).toInt ∧ (f_sections : Int32).toInt ≤ 4) : Met l yX2_findLast pw_X2_findLast ({ frames := 1, cells := 0, slots := 0, locals := 21 }) (va_Pc [.ref f, .int p1, .int p2, .int p3] (fun U => va_P D vwCl [(f, .inr (2, [.ref f_kinds, .ref f_signs, .ref f_sizes, .ref f_places, .ref f_limits, .ref f_starts, .ref f_sorts, .int f_count, .int f_sections, .int f_fifth])), (f_kinds, .inl (cI, 255, .inl f_kindsF))] U.heap ∧ va_K D vwCl (ty3 cI cD cJ) U)) (va_Qi (fun (r : Int32) (u : Unit) => (r.toInt = -1 ∨ (p2.toInt ≤ r.toInt ∧ r.toInt < p3.toInt))) (fun _ _ => True) (fun _ => False)) 0 0 (fun _ => False) := by
  refine Met.ofW (cc := cX2_findLast) (maxL := 5) (ret := (some .int)) (by decide +kernel) rfl ?_
  intro p e s m args below meth c s₁ B hml hv
  obtain ⟨rfl, hP, hK⟩ := hv
  have hx := B.exec
  have hb := B.bytes
  have hr := B.returns
  have hts := atoms_spec (ws := pw_X2_findLast) B.pre
  have hown : s.vm.findClass RX2 = some m.cls := findClass_of_methodNamed B.named
  have hlocks := B.notSynchronized
  have hS : va_S (fun _ => False) s.heap s.heap [] := va_S.rf
  have hw : ∀ (k : Nat) (w : Cond), ow_X2_findLast[k]? = some w → w.before _ s = true := fun k w h => hts w (List.mem_cons_of_mem _ (have h9 := List.mem_of_getElem? h; List.mem_append_left _ h9))
  have i_X2_kind : ∀ w ∈ pw_X2_kind, w ∈ pw_X2_findLast := fun w h9 => List.mem_cons_of_mem _ (List.mem_append_right _ (h9))
  have n_m1 : (((-1) : Int32)).toInt = (-1) := by decide
  have n_1 : ((1 : Int32)).toInt = 1 := by decide
  have hl := lv_entry ([.ref f, .int p1, .int p2, .int p3]) (n := 5) (Nat.le_of_ble_eq_true rfl)
  rw [lg_entry_eq]
  generalize (lg_sl ([.ref f, .int p1, .int p2, .int p3]) ++ List.replicate (5 - (lg_sl ([.ref f, .int p1, .int p2, .int p3])).length) Slot.unset).toArray = ls at hl ⊢
  have hl : lv_has ls 5 [(0, .ref f), (1, .int p1), (2, .int p2), (3, .int p3)] := hl
  have b_p1 := ti_b p1
  have b_p2 := ti_b p2
  have b_p3 := ti_b p3
  refine zz_cap (fun Z hZ1 hZ2 => ?_)
  refine lv_iload_n hx hb dX2_findLast_0 rfl (lv_at hl 3 rfl) ?_
  refine lv_iconst (v := 1) hx hb dX2_findLast_1 (by decide) ?_
  refine lv_isub hx hb dX2_findLast_2 ?_
  refine lv_topi (fun x_1 ex_1 => ?_)
  have tx_1 := ti_sub ex_1
  refine lv_istore (lv' := [(4, .int x_1), (0, .ref f), (1, .int p1), (2, .int p2), (3, .int p3)]) hx hb dX2_findLast_3 hl (by decide) rfl (fun ls hl => ?_)
  have L_5 : ∀ (N : Nat) (x_2 : Int32) (H : Heap) (locs : List Loc) (ls : Array Slot), ((x_2 : Int32).toInt < p3.toInt) → (((x_2 : Int32).toInt + 2147483648).toNat < N) → va_P D vwCl [(f, .inr (2, [.ref f_kinds, .ref f_signs, .ref f_sizes, .ref f_places, .ref f_limits, .ref f_starts, .ref f_sorts, .int f_count, .int f_sections, .int f_fifth])), (f_kinds, .inl (cI, 255, .inl f_kindsF))] H → va_S (fun _ => False) s.heap H locs → lv_has ls 5 [(4, .int x_2), (0, .ref f), (1, .int p1), (2, .int p2)] → Z 0 0 H locs (F0 m 5 ls []) := by
    intro N
    induction N with
    | zero => intro _ _ _ _ _ hmu; exact absurd hmu (Nat.not_lt_zero _)
    | succ N ih_5 =>
      intro x_2 H locs ls g5_0 hmu hP hS hl
      refine hZ2 ?_
      refine lv_iload hx hb dX2_findLast_5 (lv_at hl 0 rfl) ?_
      refine lv_iload_n hx hb dX2_findLast_7 rfl (lv_at hl 3 rfl) ?_
      refine lv_icmp_lt (tgt := 30) hx hb dX2_findLast_8 (by decide) (fun c_3 => ?_) (fun c_3 => ?_)
      · have ic_3 : (x_2 : Int32).toInt < (p2 : Int32).toInt := (fa_lt x_2 p2).mp c_3
        refine lv_iconst (v := (-1)) hx hb dX2_findLast_30 (by decide) ?_
        exact W.iret (v := (-1)) hx hb hr (fun t ht hW => ⟨⟨(-1), (), rfl, (by (try dsimp only); first | omega | assumption), trivial⟩, hS.F ht⟩) hS.2.2 dX2_findLast_31
      · have ic_3 : ¬ ((x_2 : Int32).toInt < (p2 : Int32).toInt) := fun h9 => c_3 ((fa_lt x_2 p2).mpr h9)
        refine lv_aload_n hx hb dX2_findLast_11 rfl (lv_at hl 1 rfl) ?_
        refine lv_iload hx hb dX2_findLast_12 (lv_at hl 0 rfl) ?_
        have hPc := hP.sub (ws' := [(f, .inr (2, [.ref f_kinds, .ref f_signs, .ref f_sizes, .ref f_places, .ref f_limits, .ref f_starts, .ref f_sorts, .int f_count, .int f_sections, .int f_fifth])), (f_kinds, .inl (cI, 255, .inl f_kindsF))]) [0, 1] rfl
        refine va_calli (va_runV (As := [.int x_2]) (rest := []) ⟨hx, hb, hml, hown, hts⟩ (c_X2_kind l D cI cD cJ H.size f f_kinds f_signs f_sizes f_places f_limits f_starts f_sorts f_count f_sections f_fifth f_kindsF x_2 (by omega) (by omega)) (cwV 1 hts (goodIn_app (goodIn_r _ [1, 2, 3, 4] rfl (by decide +kernel)) (goodIn_sub i_X2_kind k_X2_kind)) rfl rfl rfl (by decide +kernel) ⟨Nat.le_of_ble_eq_true rfl, Nat.le_of_ble_eq_true rfl⟩) ⟨fun a U g mk q => by obtain ⟨q0, qP, qK⟩ := q; exact ⟨q0, qP, va_K.moved (u := U) (U := U.calling g mk a) (Vm.Alike.refl U.vm) qK⟩, va_recv hK hPc (ci := 2) (q0 := 0) rfl rfl, fun U hU hW => ⟨rfl, by rw [hU]; exact hPc, va_K.moved hW.alike hK⟩⟩ rfl rfl hl.1 rfl (lv_room (Nat.le_of_ble_eq_true rfl)) dX2_findLast_14 ⟨Nat.le_of_ble_eq_true rfl, Nat.le_of_ble_eq_true rfl⟩) hS (fun q _ h => h.elim) (fun q h => h.elim) (fun x_4 u t H1 locs ht hvm w_5 hB hz1 hk1 hS => ?_)
        have hP : va_P D vwCl [(f, .inr (2, [.ref f_kinds, .ref f_signs, .ref f_sizes, .ref f_places, .ref f_limits, .ref f_starts, .ref f_sorts, .int f_count, .int f_sections, .int f_fifth])), (f_kinds, .inl (cI, 255, .inl f_kindsF))] H1 := hP.kept (fun k9 q9 h9 => hk1 q9.1 (vx_lt hP h9) (fun h => h))
        generalize H1 = H at hP hS ⊢
        refine lv_iload_n hx hb dX2_findLast_17 rfl (lv_at hl 2 rfl) ?_
        refine lv_icmp_ne (tgt := 24) hx hb dX2_findLast_18 (by decide) (fun c_6 => ?_) (fun c_6 => ?_)
        · have ic_6 : ¬ ((x_4 : Int32).toInt = (p1 : Int32).toInt) := fun h9 => c_6 ((fa_eq x_4 p1).mpr h9)
          obtain ⟨x_7, ex_7⟩ : ∃ y : Int32, y = x_2 + (-1) := ⟨_, rfl⟩
          have tx_7 := ti_add ex_7
          refine lv_iinc (v := x_7) (lv' := [(4, .int x_7), (0, .ref f), (1, .int p1), (2, .int p2)]) hx hb dX2_findLast_24 hl (k := 0) rfl (by rw [ex_7]; rfl) (by decide) rfl (fun ls hl => ?_)
          refine lv_goto (tgt := 5) hx hb dX2_findLast_27 (by decide) ?_
          exact hZ1 (ih_5 x_7 _ _ _ (by omega) (by omega) hP hS hl)
        · have ic_6 : (x_4 : Int32).toInt = (p1 : Int32).toInt := (fa_eq x_4 p1).mp c_6
          refine lv_iload hx hb dX2_findLast_21 (lv_at hl 0 rfl) ?_
          exact W.iret (v := x_2) hx hb hr (fun t ht hW => ⟨⟨x_2, (), rfl, (by (try dsimp only); first | omega | assumption), trivial⟩, hS.F ht⟩) hS.2.2 dX2_findLast_23
  exact hZ1 (L_5 ((((x_1 : Int32).toInt + 2147483648).toNat) + 1) x_1 _ _ _ (by omega) (by omega) hP hS (lv_sub hl [0, 1, 2, 3] rfl))

def ow_X2_tally : List Cond := [Cond.methodLink RX2 59 yX2_kind, Cond.instanceMethod yX2_kind, Cond.selects RX2 yX2_kind yX2_kind, Cond.initialized RX2]
def pw_X2_tally : List Cond := Cond.code yX2_tally cX2_tally 6 (some .int) :: (ow_X2_tally ++ (pw_X2_kind))
set_option maxRecDepth 20000 in
theorem mo_X2_tally : ∀ w ∈ ow_X2_tally, w ∈ lw_tbl := by decide +kernel
set_option maxRecDepth 20000 in
theorem mc_X2_tally : Cond.code yX2_tally cX2_tally 6 (some .int) ∈ lw_tbl := by decide +kernel
theorem m_X2_tally : ∀ w ∈ pw_X2_tally, w ∈ lw_tbl := List.forall_mem_cons.mpr ⟨mc_X2_tally, (List.forall_mem_append.mpr ⟨mo_X2_tally, m_X2_kind⟩)⟩
theorem ko_X2_tally : ∀ w ∈ ow_X2_tally, goodWord w = true := by decide +kernel
theorem k_X2_tally : pw_X2_tally.all goodWord = true := List.all_eq_true.mpr (List.forall_mem_cons.mpr ⟨by decide +kernel, (List.forall_mem_append.mpr ⟨ko_X2_tally, (List.all_eq_true.mp k_X2_kind)⟩)⟩)
set_option maxHeartbeats 400000 in
set_option maxRecDepth 100000 in
theorem c_X2_tally (l : Launch) (D : va_G) (cI cD cJ : ClassId) (sz : Nat) (f : Nat) (f_kinds : Nat) (f_signs : Nat) (f_sizes : Nat) (f_places : Nat) (f_limits : Nat) (f_starts : Nat) (f_sorts : Nat) (f_count : Int32) (f_sections : Int32) (f_fifth : Int32) (f_kindsF : Nat → Int32) (p1 : Int32) (p2 : Int32) (p3 : Int32) (h1 : -1 ≤ p2.toInt) (h2 : p3.toInt ≤ 255) (iv_f_count : 0 ≤ (f_count : Int32).toInt ∧ (f_count : Int32).toInt ≤ 255) (iv_f_sections : 0 ≤ (f_sections : Int32).toInt ∧ (f_sections : Int32).toInt ≤ 4) : Met l yX2_tally pw_X2_tally ({ frames := 1, cells := 0, slots := 0, locals := 21 }) (va_Pc [.ref f, .int p1, .int p2, .int p3] (fun U => va_P D vwCl [(f, .inr (2, [.ref f_kinds, .ref f_signs, .ref f_sizes, .ref f_places, .ref f_limits, .ref f_starts, .ref f_sorts, .int f_count, .int f_sections, .int f_fifth])), (f_kinds, .inl (cI, 255, .inl f_kindsF))] U.heap ∧ va_K D vwCl (ty3 cI cD cJ) U)) (va_Qi (fun (r : Int32) (u : Unit) => (0 ≤ r.toInt ∧ r.toInt ≤ 256)) (fun _ _ => True) (fun _ => False)) 0 0 (fun _ => False) := by
  refine Met.ofW (cc := cX2_tally) (maxL := 6) (ret := (some .int)) (by decide +kernel) rfl ?_
  intro p e s m args below meth c s₁ B hml hv
  obtain ⟨rfl, hP, hK⟩ := hv
  have hx := B.exec
  have hb := B.bytes
  have hr := B.returns
  have hts := atoms_spec (ws := pw_X2_tally) B.pre
  have hown : s.vm.findClass RX2 = some m.cls := findClass_of_methodNamed B.named
  have hlocks := B.notSynchronized
  have hS : va_S (fun _ => False) s.heap s.heap [] := va_S.rf
  have hw : ∀ (k : Nat) (w : Cond), ow_X2_tally[k]? = some w → w.before _ s = true := fun k w h => hts w (List.mem_cons_of_mem _ (have h9 := List.mem_of_getElem? h; List.mem_append_left _ h9))
  have i_X2_kind : ∀ w ∈ pw_X2_kind, w ∈ pw_X2_tally := fun w h9 => List.mem_cons_of_mem _ (List.mem_append_right _ (h9))
  have n_0 : ((0 : Int32)).toInt = 0 := by decide
  have n_1 : ((1 : Int32)).toInt = 1 := by decide
  have hl := lv_entry ([.ref f, .int p1, .int p2, .int p3]) (n := 6) (Nat.le_of_ble_eq_true rfl)
  rw [lg_entry_eq]
  generalize (lg_sl ([.ref f, .int p1, .int p2, .int p3]) ++ List.replicate (6 - (lg_sl ([.ref f, .int p1, .int p2, .int p3])).length) Slot.unset).toArray = ls at hl ⊢
  have hl : lv_has ls 6 [(0, .ref f), (1, .int p1), (2, .int p2), (3, .int p3)] := hl
  have b_p1 := ti_b p1
  have b_p2 := ti_b p2
  have b_p3 := ti_b p3
  refine zz_cap (fun Z hZ1 hZ2 => ?_)
  refine lv_iconst (v := 0) hx hb dX2_tally_0 (by decide) ?_
  refine lv_istore (lv' := [(4, .int 0), (0, .ref f), (1, .int p1), (2, .int p2), (3, .int p3)]) hx hb dX2_tally_1 hl (by decide) rfl (fun ls hl => ?_)
  refine lv_iload_n hx hb dX2_tally_3 rfl (lv_at hl 3 rfl) ?_
  refine lv_istore (lv' := [(5, .int p2), (4, .int 0), (0, .ref f), (1, .int p1), (2, .int p2), (3, .int p3)]) hx hb dX2_tally_4 hl (by decide) rfl (fun ls hl => ?_)
  have L_6 : ∀ (N : Nat) (x_1 : Int32) (x_2 : Int32) (H : Heap) (locs : List Loc) (ls : Array Slot), (p2.toInt ≤ (x_1 : Int32).toInt) → (0 ≤ (x_2 : Int32).toInt) → ((x_2 : Int32).toInt ≤ (x_1 : Int32).toInt - p2.toInt) → ((x_2 : Int32).toInt ≤ 256) → ((2147483647 - (x_1 : Int32).toInt).toNat < N) → va_P D vwCl [(f, .inr (2, [.ref f_kinds, .ref f_signs, .ref f_sizes, .ref f_places, .ref f_limits, .ref f_starts, .ref f_sorts, .int f_count, .int f_sections, .int f_fifth])), (f_kinds, .inl (cI, 255, .inl f_kindsF))] H → va_S (fun _ => False) s.heap H locs → lv_has ls 6 [(5, .int x_1), (4, .int x_2), (0, .ref f), (1, .int p1), (3, .int p3)] → Z 0 0 H locs (F0 m 6 ls []) := by
    intro N
    induction N with
    | zero => intro _ _ _ _ _ _ _ _ _ hmu; exact absurd hmu (Nat.not_lt_zero _)
    | succ N ih_6 =>
      intro x_1 x_2 H locs ls g6_0 g6_1 g6_2 g6_3 hmu hP hS hl
      refine hZ2 ?_
      refine lv_iload hx hb dX2_tally_6 (lv_at hl 0 rfl) ?_
      refine lv_iload_n hx hb dX2_tally_8 rfl (lv_at hl 4 rfl) ?_
      refine lv_icmp_ge (tgt := 31) hx hb dX2_tally_9 (by decide) (fun c_3 => ?_) (fun c_3 => ?_)
      · have ic_3 : (p3 : Int32).toInt ≤ (x_1 : Int32).toInt := (fa_le p3 x_1).mp c_3
        refine lv_iload hx hb dX2_tally_31 (lv_at hl 1 rfl) ?_
        exact W.iret (v := x_2) hx hb hr (fun t ht hW => ⟨⟨x_2, (), rfl, (by (try dsimp only); first | omega | assumption), trivial⟩, hS.F ht⟩) hS.2.2 dX2_tally_33
      · have ic_3 : ¬ ((p3 : Int32).toInt ≤ (x_1 : Int32).toInt) := fun h9 => c_3 ((fa_le p3 x_1).mpr h9)
        refine lv_aload_n hx hb dX2_tally_12 rfl (lv_at hl 2 rfl) ?_
        refine lv_iload hx hb dX2_tally_13 (lv_at hl 0 rfl) ?_
        have hPc := hP.sub (ws' := [(f, .inr (2, [.ref f_kinds, .ref f_signs, .ref f_sizes, .ref f_places, .ref f_limits, .ref f_starts, .ref f_sorts, .int f_count, .int f_sections, .int f_fifth])), (f_kinds, .inl (cI, 255, .inl f_kindsF))]) [0, 1] rfl
        refine va_calli (va_runV (As := [.int x_1]) (rest := []) ⟨hx, hb, hml, hown, hts⟩ (c_X2_kind l D cI cD cJ H.size f f_kinds f_signs f_sizes f_places f_limits f_starts f_sorts f_count f_sections f_fifth f_kindsF x_1 (by omega) (by omega)) (cwV 1 hts (goodIn_app (goodIn_r _ [1, 2, 3, 4] rfl (by decide +kernel)) (goodIn_sub i_X2_kind k_X2_kind)) rfl rfl rfl (by decide +kernel) ⟨Nat.le_of_ble_eq_true rfl, Nat.le_of_ble_eq_true rfl⟩) ⟨fun a U g mk q => by obtain ⟨q0, qP, qK⟩ := q; exact ⟨q0, qP, va_K.moved (u := U) (U := U.calling g mk a) (Vm.Alike.refl U.vm) qK⟩, va_recv hK hPc (ci := 2) (q0 := 0) rfl rfl, fun U hU hW => ⟨rfl, by rw [hU]; exact hPc, va_K.moved hW.alike hK⟩⟩ rfl rfl hl.1 rfl (lv_room (Nat.le_of_ble_eq_true rfl)) dX2_tally_15 ⟨Nat.le_of_ble_eq_true rfl, Nat.le_of_ble_eq_true rfl⟩) hS (fun q _ h => h.elim) (fun q h => h.elim) (fun x_4 u t H1 locs ht hvm w_5 hB hz1 hk1 hS => ?_)
        have hP : va_P D vwCl [(f, .inr (2, [.ref f_kinds, .ref f_signs, .ref f_sizes, .ref f_places, .ref f_limits, .ref f_starts, .ref f_sorts, .int f_count, .int f_sections, .int f_fifth])), (f_kinds, .inl (cI, 255, .inl f_kindsF))] H1 := hP.kept (fun k9 q9 h9 => hk1 q9.1 (vx_lt hP h9) (fun h => h))
        generalize H1 = H at hP hS ⊢
        refine lv_iload_n hx hb dX2_tally_18 rfl (lv_at hl 3 rfl) ?_
        refine lv_icmp_ne (tgt := 25) hx hb dX2_tally_19 (by decide) (fun c_6 => ?_) (fun c_6 => ?_)
        · have ic_6 : ¬ ((x_4 : Int32).toInt = (p1 : Int32).toInt) := fun h9 => c_6 ((fa_eq x_4 p1).mpr h9)
          obtain ⟨x_7, ex_7⟩ : ∃ y : Int32, y = x_1 + 1 := ⟨_, rfl⟩
          have tx_7 := ti_add ex_7
          refine lv_iinc (v := x_7) (lv' := [(5, .int x_7), (4, .int x_2), (0, .ref f), (1, .int p1), (3, .int p3)]) hx hb dX2_tally_25 hl (k := 0) rfl (by rw [ex_7]; rfl) (by decide) rfl (fun ls hl => ?_)
          refine lv_goto (tgt := 6) hx hb dX2_tally_28 (by decide) ?_
          exact hZ1 (ih_6 x_7 x_2 _ _ _ (by omega) (by omega) (by omega) (by omega) (by omega) hP hS hl)
        · have ic_6 : (x_4 : Int32).toInt = (p1 : Int32).toInt := (fa_eq x_4 p1).mp c_6
          obtain ⟨x_8, ex_8⟩ : ∃ y : Int32, y = x_2 + 1 := ⟨_, rfl⟩
          have tx_8 := ti_add ex_8
          refine lv_iinc (v := x_8) (lv' := [(4, .int x_8), (5, .int x_1), (0, .ref f), (1, .int p1), (3, .int p3)]) hx hb dX2_tally_22 hl (k := 1) rfl (by rw [ex_8]; rfl) (by decide) rfl (fun ls hl => ?_)
          obtain ⟨x_9, ex_9⟩ : ∃ y : Int32, y = x_1 + 1 := ⟨_, rfl⟩
          have tx_9 := ti_add ex_9
          refine lv_iinc (v := x_9) (lv' := [(5, .int x_9), (4, .int x_8), (0, .ref f), (1, .int p1), (3, .int p3)]) hx hb dX2_tally_25 hl (k := 1) rfl (by rw [ex_9]; rfl) (by decide) rfl (fun ls hl => ?_)
          refine lv_goto (tgt := 6) hx hb dX2_tally_28 (by decide) ?_
          exact hZ1 (ih_6 x_9 x_8 _ _ _ (by omega) (by omega) (by omega) (by omega) (by omega) hP hS hl)
  exact hZ1 (L_6 (((2147483647 - (p2 : Int32).toInt).toNat) + 1) p2 0 _ _ _ (by omega) (by omega) (by omega) (by omega) (by omega) hP hS (lv_sub hl [0, 1, 2, 3, 5] rfl))

def ow_X2_hasCondition : List Cond := [Cond.methodLink RX2 52 yX2_from, Cond.instanceMethod yX2_from, Cond.selects RX2 yX2_from yX2_from, Cond.initialized RX2, Cond.methodLink RX2 56 yX2_to, Cond.instanceMethod yX2_to, Cond.selects RX2 yX2_to yX2_to, Cond.methodLink RX2 59 yX2_kind, Cond.instanceMethod yX2_kind, Cond.selects RX2 yX2_kind yX2_kind]
def pw_X2_hasCondition : List Cond := Cond.code yX2_hasCondition cX2_hasCondition 2 (some .boolean) :: (ow_X2_hasCondition ++ (pw_X2_from ++ (pw_X2_to ++ (pw_X2_kind))))
set_option maxRecDepth 20000 in
theorem mo_X2_hasCondition : ∀ w ∈ ow_X2_hasCondition, w ∈ lw_tbl := by decide +kernel
set_option maxRecDepth 20000 in
theorem mc_X2_hasCondition : Cond.code yX2_hasCondition cX2_hasCondition 2 (some .boolean) ∈ lw_tbl := by decide +kernel
theorem m_X2_hasCondition : ∀ w ∈ pw_X2_hasCondition, w ∈ lw_tbl := List.forall_mem_cons.mpr ⟨mc_X2_hasCondition, (List.forall_mem_append.mpr ⟨mo_X2_hasCondition, (List.forall_mem_append.mpr ⟨m_X2_from, (List.forall_mem_append.mpr ⟨m_X2_to, m_X2_kind⟩)⟩)⟩)⟩
theorem ko_X2_hasCondition : ∀ w ∈ ow_X2_hasCondition, goodWord w = true := by decide +kernel
theorem k_X2_hasCondition : pw_X2_hasCondition.all goodWord = true := List.all_eq_true.mpr (List.forall_mem_cons.mpr ⟨by decide +kernel, (List.forall_mem_append.mpr ⟨ko_X2_hasCondition, (List.forall_mem_append.mpr ⟨(List.all_eq_true.mp k_X2_from), (List.forall_mem_append.mpr ⟨(List.all_eq_true.mp k_X2_to), (List.all_eq_true.mp k_X2_kind)⟩)⟩)⟩)⟩)
set_option maxHeartbeats 400000 in
set_option maxRecDepth 100000 in
theorem c_X2_hasCondition (l : Launch) (D : va_G) (cI cD cJ : ClassId) (sz : Nat) (f : Nat) (f_kinds : Nat) (f_signs : Nat) (f_sizes : Nat) (f_places : Nat) (f_limits : Nat) (f_starts : Nat) (f_sorts : Nat) (f_count : Int32) (f_sections : Int32) (f_fifth : Int32) (f_kindsF : Nat → Int32) (f_startsF : Nat → Int32) (p1 : Int32) (hs9 : p1.toInt ≤ 4) (iv_f_count : 0 ≤ (f_count : Int32).toInt ∧ (f_count : Int32).toInt ≤ 255) (iv_f_sections : 0 ≤ (f_sections : Int32).toInt ∧ (f_sections : Int32).toInt ≤ 4) (iv_f_startsF : ∀ k9 : Nat, k9 < 4 → 0 ≤ (f_startsF k9).toInt ∧ (f_startsF k9).toInt ≤ 255) : Met l yX2_hasCondition pw_X2_hasCondition ({ frames := 1, cells := 0, slots := 0, locals := 21 }) (va_Pc [.ref f, .int p1] (fun U => va_P D vwCl [(f, .inr (2, [.ref f_kinds, .ref f_signs, .ref f_sizes, .ref f_places, .ref f_limits, .ref f_starts, .ref f_sorts, .int f_count, .int f_sections, .int f_fifth])), (f_kinds, .inl (cI, 255, .inl f_kindsF)), (f_starts, .inl (cI, 4, .inl f_startsF))] U.heap ∧ va_K D vwCl (ty3 cI cD cJ) U)) (va_Qi (fun (r : Int32) (u : Unit) => (r.toInt = 0 ∨ r.toInt = 1)) (fun _ _ => True) (fun _ => False)) 0 0 (fun _ => False) := by
  refine Met.ofW (cc := cX2_hasCondition) (maxL := 2) (ret := (some .boolean)) (by decide +kernel) rfl ?_
  intro p e s m args below meth c s₁ B hml hv
  obtain ⟨rfl, hP, hK⟩ := hv
  have hx := B.exec
  have hb := B.bytes
  have hr := B.returns
  have hts := atoms_spec (ws := pw_X2_hasCondition) B.pre
  have hown : s.vm.findClass RX2 = some m.cls := findClass_of_methodNamed B.named
  have hlocks := B.notSynchronized
  have hS : va_S (fun _ => False) s.heap s.heap [] := va_S.rf
  have hw : ∀ (k : Nat) (w : Cond), ow_X2_hasCondition[k]? = some w → w.before _ s = true := fun k w h => hts w (List.mem_cons_of_mem _ (have h9 := List.mem_of_getElem? h; List.mem_append_left _ h9))
  have i_X2_from : ∀ w ∈ pw_X2_from, w ∈ pw_X2_hasCondition := fun w h9 => List.mem_cons_of_mem _ (List.mem_append_right _ (List.mem_append_left _ h9))
  have i_X2_to : ∀ w ∈ pw_X2_to, w ∈ pw_X2_hasCondition := fun w h9 => List.mem_cons_of_mem _ (List.mem_append_right _ (List.mem_append_right _ (List.mem_append_left _ h9)))
  have i_X2_kind : ∀ w ∈ pw_X2_kind, w ∈ pw_X2_hasCondition := fun w h9 => List.mem_cons_of_mem _ (List.mem_append_right _ (List.mem_append_right _ (List.mem_append_right _ (h9))))
  have n_0 : ((0 : Int32)).toInt = 0 := by decide
  have n_1 : ((1 : Int32)).toInt = 1 := by decide
  have n_2 : ((2 : Int32)).toInt = 2 := by decide
  have hl := lv_entry ([.ref f, .int p1]) (n := 2) (Nat.le_of_ble_eq_true rfl)
  rw [lg_entry_eq]
  generalize (lg_sl ([.ref f, .int p1]) ++ List.replicate (2 - (lg_sl ([.ref f, .int p1])).length) Slot.unset).toArray = ls at hl ⊢
  have hl : lv_has ls 2 [(0, .ref f), (1, .int p1)] := hl
  have b_p1 := ti_b p1
  refine lv_aload_n hx hb dX2_hasCondition_0 rfl (lv_at hl 0 rfl) ?_
  refine lv_iload_n hx hb dX2_hasCondition_1 rfl (lv_at hl 1 rfl) ?_
  have hPc := hP.sub (ws' := [(f, .inr (2, [.ref f_kinds, .ref f_signs, .ref f_sizes, .ref f_places, .ref f_limits, .ref f_starts, .ref f_sorts, .int f_count, .int f_sections, .int f_fifth])), (f_starts, .inl (cI, 4, .inl f_startsF))]) [0, 2] rfl
  refine va_calli (va_runV (As := [.int p1]) (rest := []) ⟨hx, hb, hml, hown, hts⟩ (c_X2_from l D cI cD cJ s.heap.size f f_kinds f_signs f_sizes f_places f_limits f_starts f_sorts f_count f_sections f_fifth f_startsF p1 (by omega) (by omega) (by assumption)) (cwV 1 hts (goodIn_app (goodIn_r _ [1, 2, 3, 4] rfl (by decide +kernel)) (goodIn_sub i_X2_from k_X2_from)) rfl rfl rfl (by decide +kernel) ⟨Nat.le_of_ble_eq_true rfl, Nat.le_of_ble_eq_true rfl⟩) ⟨fun a U g mk q => by obtain ⟨q0, qP, qK⟩ := q; exact ⟨q0, qP, va_K.moved (u := U) (U := U.calling g mk a) (Vm.Alike.refl U.vm) qK⟩, va_recv hK hPc (ci := 2) (q0 := 0) rfl rfl, fun U hU hW => ⟨rfl, by rw [hU]; exact hPc, va_K.moved hW.alike hK⟩⟩ rfl rfl hl.1 rfl (lv_room (Nat.le_of_ble_eq_true rfl)) dX2_hasCondition_2 ⟨Nat.le_of_ble_eq_true rfl, Nat.le_of_ble_eq_true rfl⟩) hS (fun q _ h => h.elim) (fun q h => h.elim) (fun x_1 u t H1 locs ht hvm w_2 hB hz1 hk1 hS => ?_)
  have hP : va_P D vwCl [(f, .inr (2, [.ref f_kinds, .ref f_signs, .ref f_sizes, .ref f_places, .ref f_limits, .ref f_starts, .ref f_sorts, .int f_count, .int f_sections, .int f_fifth])), (f_kinds, .inl (cI, 255, .inl f_kindsF)), (f_starts, .inl (cI, 4, .inl f_startsF))] H1 := hP.kept (fun k9 q9 h9 => hk1 q9.1 (vx_lt hP h9) (fun h => h))
  generalize H1 = H at hP hS ⊢
  try dsimp only at w_2
  refine lv_aload_n hx hb dX2_hasCondition_5 rfl (lv_at hl 0 rfl) ?_
  refine lv_iload_n hx hb dX2_hasCondition_6 rfl (lv_at hl 1 rfl) ?_
  have hPc := hP.sub (ws' := [(f, .inr (2, [.ref f_kinds, .ref f_signs, .ref f_sizes, .ref f_places, .ref f_limits, .ref f_starts, .ref f_sorts, .int f_count, .int f_sections, .int f_fifth])), (f_starts, .inl (cI, 4, .inl f_startsF))]) [0, 2] rfl
  refine va_calli (va_runV (As := [.int p1]) (rest := [.int x_1]) ⟨hx, hb, hml, hown, hts⟩ (c_X2_to l D cI cD cJ H.size f f_kinds f_signs f_sizes f_places f_limits f_starts f_sorts f_count f_sections f_fifth f_startsF p1 (by omega) (by omega) (by omega) (by assumption)) (cwV 1 hts (goodIn_app (goodIn_r _ [5, 6, 7, 4] rfl (by decide +kernel)) (goodIn_sub i_X2_to k_X2_to)) rfl rfl rfl (by decide +kernel) ⟨Nat.le_of_ble_eq_true rfl, Nat.le_of_ble_eq_true rfl⟩) ⟨fun a U g mk q => by obtain ⟨q0, qP, qK⟩ := q; exact ⟨q0, qP, va_K.moved (u := U) (U := U.calling g mk a) (Vm.Alike.refl U.vm) qK⟩, va_recv hK hPc (ci := 2) (q0 := 0) rfl rfl, fun U hU hW => ⟨rfl, by rw [hU]; exact hPc, va_K.moved hW.alike hK⟩⟩ rfl rfl hl.1 rfl (lv_room (Nat.le_of_ble_eq_true rfl)) dX2_hasCondition_7 ⟨Nat.le_of_ble_eq_true rfl, Nat.le_of_ble_eq_true rfl⟩) hS (fun q _ h => h.elim) (fun q h => h.elim) (fun x_3 u t H1 locs ht hvm w_4 hB hz1 hk1 hS => ?_)
  have hP : va_P D vwCl [(f, .inr (2, [.ref f_kinds, .ref f_signs, .ref f_sizes, .ref f_places, .ref f_limits, .ref f_starts, .ref f_sorts, .int f_count, .int f_sections, .int f_fifth])), (f_kinds, .inl (cI, 255, .inl f_kindsF)), (f_starts, .inl (cI, 4, .inl f_startsF))] H1 := hP.kept (fun k9 q9 h9 => hk1 q9.1 (vx_lt hP h9) (fun h => h))
  generalize H1 = H at hP hS ⊢
  try dsimp only at w_4
  refine lv_icmp_ge (tgt := 30) hx hb dX2_hasCondition_10 (by decide) (fun c_5 => ?_) (fun c_5 => ?_)
  · have ic_5 : (x_3 : Int32).toInt ≤ (x_1 : Int32).toInt := (fa_le x_3 x_1).mp c_5
    refine lv_iconst (v := 0) hx hb dX2_hasCondition_30 (by decide) ?_
    exact W.zret (v := 0) hx hb hr rfl (fun t ht hW => ⟨⟨0, (), rfl, (by (try dsimp only); first | omega | assumption), trivial⟩, hS.F ht⟩) hS.2.2 dX2_hasCondition_31
  · have ic_5 : ¬ ((x_3 : Int32).toInt ≤ (x_1 : Int32).toInt) := fun h9 => c_5 ((fa_le x_3 x_1).mpr h9)
    refine lv_aload_n hx hb dX2_hasCondition_13 rfl (lv_at hl 0 rfl) ?_
    refine lv_aload_n hx hb dX2_hasCondition_14 rfl (lv_at hl 0 rfl) ?_
    refine lv_iload_n hx hb dX2_hasCondition_15 rfl (lv_at hl 1 rfl) ?_
    have hPc := hP.sub (ws' := [(f, .inr (2, [.ref f_kinds, .ref f_signs, .ref f_sizes, .ref f_places, .ref f_limits, .ref f_starts, .ref f_sorts, .int f_count, .int f_sections, .int f_fifth])), (f_starts, .inl (cI, 4, .inl f_startsF))]) [0, 2] rfl
    refine va_calli (va_runV (As := [.int p1]) (rest := [.ref f]) ⟨hx, hb, hml, hown, hts⟩ (c_X2_from l D cI cD cJ H.size f f_kinds f_signs f_sizes f_places f_limits f_starts f_sorts f_count f_sections f_fifth f_startsF p1 (by omega) (by omega) (by assumption)) (cwV 1 hts (goodIn_app (goodIn_r _ [1, 2, 3, 4] rfl (by decide +kernel)) (goodIn_sub i_X2_from k_X2_from)) rfl rfl rfl (by decide +kernel) ⟨Nat.le_of_ble_eq_true rfl, Nat.le_of_ble_eq_true rfl⟩) ⟨fun a U g mk q => by obtain ⟨q0, qP, qK⟩ := q; exact ⟨q0, qP, va_K.moved (u := U) (U := U.calling g mk a) (Vm.Alike.refl U.vm) qK⟩, va_recv hK hPc (ci := 2) (q0 := 0) rfl rfl, fun U hU hW => ⟨rfl, by rw [hU]; exact hPc, va_K.moved hW.alike hK⟩⟩ rfl rfl hl.1 rfl (lv_room (Nat.le_of_ble_eq_true rfl)) dX2_hasCondition_16 ⟨Nat.le_of_ble_eq_true rfl, Nat.le_of_ble_eq_true rfl⟩) hS (fun q _ h => h.elim) (fun q h => h.elim) (fun x_6 u t H1 locs ht hvm w_7 hB hz1 hk1 hS => ?_)
    have hP : va_P D vwCl [(f, .inr (2, [.ref f_kinds, .ref f_signs, .ref f_sizes, .ref f_places, .ref f_limits, .ref f_starts, .ref f_sorts, .int f_count, .int f_sections, .int f_fifth])), (f_kinds, .inl (cI, 255, .inl f_kindsF)), (f_starts, .inl (cI, 4, .inl f_startsF))] H1 := hP.kept (fun k9 q9 h9 => hk1 q9.1 (vx_lt hP h9) (fun h => h))
    generalize H1 = H at hP hS ⊢
    try dsimp only at w_7
    have hPc := hP.sub (ws' := [(f, .inr (2, [.ref f_kinds, .ref f_signs, .ref f_sizes, .ref f_places, .ref f_limits, .ref f_starts, .ref f_sorts, .int f_count, .int f_sections, .int f_fifth])), (f_kinds, .inl (cI, 255, .inl f_kindsF))]) [0, 1] rfl
    refine va_calli (va_runV (As := [.int x_6]) (rest := []) ⟨hx, hb, hml, hown, hts⟩ (c_X2_kind l D cI cD cJ H.size f f_kinds f_signs f_sizes f_places f_limits f_starts f_sorts f_count f_sections f_fifth f_kindsF x_6 (by omega) (by omega)) (cwV 1 hts (goodIn_app (goodIn_r _ [8, 9, 10, 4] rfl (by decide +kernel)) (goodIn_sub i_X2_kind k_X2_kind)) rfl rfl rfl (by decide +kernel) ⟨Nat.le_of_ble_eq_true rfl, Nat.le_of_ble_eq_true rfl⟩) ⟨fun a U g mk q => by obtain ⟨q0, qP, qK⟩ := q; exact ⟨q0, qP, va_K.moved (u := U) (U := U.calling g mk a) (Vm.Alike.refl U.vm) qK⟩, va_recv hK hPc (ci := 2) (q0 := 0) rfl rfl, fun U hU hW => ⟨rfl, by rw [hU]; exact hPc, va_K.moved hW.alike hK⟩⟩ rfl rfl hl.1 rfl (lv_room (Nat.le_of_ble_eq_true rfl)) dX2_hasCondition_19 ⟨Nat.le_of_ble_eq_true rfl, Nat.le_of_ble_eq_true rfl⟩) hS (fun q _ h => h.elim) (fun q h => h.elim) (fun x_8 u t H1 locs ht hvm w_9 hB hz1 hk1 hS => ?_)
    have hP : va_P D vwCl [(f, .inr (2, [.ref f_kinds, .ref f_signs, .ref f_sizes, .ref f_places, .ref f_limits, .ref f_starts, .ref f_sorts, .int f_count, .int f_sections, .int f_fifth])), (f_kinds, .inl (cI, 255, .inl f_kindsF)), (f_starts, .inl (cI, 4, .inl f_startsF))] H1 := hP.kept (fun k9 q9 h9 => hk1 q9.1 (vx_lt hP h9) (fun h => h))
    generalize H1 = H at hP hS ⊢
    refine lv_iconst (v := 2) hx hb dX2_hasCondition_22 (by decide) ?_
    refine lv_icmp_ne (tgt := 30) hx hb dX2_hasCondition_23 (by decide) (fun c_10 => ?_) (fun c_10 => ?_)
    · have ic_10 : ¬ ((x_8 : Int32).toInt = (2 : Int32).toInt) := fun h9 => c_10 ((fa_eq x_8 2).mpr h9)
      refine lv_iconst (v := 0) hx hb dX2_hasCondition_30 (by decide) ?_
      exact W.zret (v := 0) hx hb hr rfl (fun t ht hW => ⟨⟨0, (), rfl, (by (try dsimp only); first | omega | assumption), trivial⟩, hS.F ht⟩) hS.2.2 dX2_hasCondition_31
    · have ic_10 : (x_8 : Int32).toInt = (2 : Int32).toInt := (fa_eq x_8 2).mp c_10
      refine lv_iconst (v := 1) hx hb dX2_hasCondition_26 (by decide) ?_
      refine lv_goto (tgt := 31) hx hb dX2_hasCondition_27 (by decide) ?_
      exact W.zret (v := 1) hx hb hr rfl (fun t ht hW => ⟨⟨1, (), rfl, (by (try dsimp only); first | omega | assumption), trivial⟩, hS.F ht⟩) hS.2.2 dX2_hasCondition_31

def ow_X2_rowFrom : List Cond := [Cond.methodLink RX2 59 yX2_kind, Cond.instanceMethod yX2_kind, Cond.selects RX2 yX2_kind yX2_kind, Cond.initialized RX2]
def pw_X2_rowFrom : List Cond := Cond.code yX2_rowFrom cX2_rowFrom 5 (some .int) :: (ow_X2_rowFrom ++ (pw_X2_kind))
set_option maxRecDepth 20000 in
theorem mo_X2_rowFrom : ∀ w ∈ ow_X2_rowFrom, w ∈ lw_tbl := by decide +kernel
set_option maxRecDepth 20000 in
theorem mc_X2_rowFrom : Cond.code yX2_rowFrom cX2_rowFrom 5 (some .int) ∈ lw_tbl := by decide +kernel
theorem m_X2_rowFrom : ∀ w ∈ pw_X2_rowFrom, w ∈ lw_tbl := List.forall_mem_cons.mpr ⟨mc_X2_rowFrom, (List.forall_mem_append.mpr ⟨mo_X2_rowFrom, m_X2_kind⟩)⟩
theorem ko_X2_rowFrom : ∀ w ∈ ow_X2_rowFrom, goodWord w = true := by decide +kernel
theorem k_X2_rowFrom : pw_X2_rowFrom.all goodWord = true := List.all_eq_true.mpr (List.forall_mem_cons.mpr ⟨by decide +kernel, (List.forall_mem_append.mpr ⟨ko_X2_rowFrom, (List.all_eq_true.mp k_X2_kind)⟩)⟩)
set_option maxHeartbeats 400000 in
set_option maxRecDepth 100000 in
theorem c_X2_rowFrom (l : Launch) (D : va_G) (cI cD cJ : ClassId) (sz : Nat) (f : Nat) (f_kinds : Nat) (f_signs : Nat) (f_sizes : Nat) (f_places : Nat) (f_limits : Nat) (f_starts : Nat) (f_sorts : Nat) (f_count : Int32) (f_sections : Int32) (f_fifth : Int32) (f_kindsF : Nat → Int32) (p1 : Int32) (p2 : Int32) (p3 : Int32) (h1 : -1 ≤ p2.toInt) (h2 : p2.toInt ≤ 100000) (h3 : p3.toInt ≤ 255) (iv_f_count : 0 ≤ (f_count : Int32).toInt ∧ (f_count : Int32).toInt ≤ 255) (iv_f_sections : 0 ≤ (f_sections : Int32).toInt ∧ (f_sections : Int32).toInt ≤ 4) : Met l yX2_rowFrom pw_X2_rowFrom ({ frames := 1, cells := 0, slots := 0, locals := 21 }) (va_Pc [.ref f, .int p1, .int p2, .int p3] (fun U => va_P D vwCl [(f, .inr (2, [.ref f_kinds, .ref f_signs, .ref f_sizes, .ref f_places, .ref f_limits, .ref f_starts, .ref f_sorts, .int f_count, .int f_sections, .int f_fifth])), (f_kinds, .inl (cI, 255, .inl f_kindsF))] U.heap ∧ va_K D vwCl (ty3 cI cD cJ) U)) (va_Qi (fun (r : Int32) (u : Unit) => (0 ≤ r.toInt ∧ r.toInt ≤ 300)) (fun _ _ => True) (fun _ => False)) 0 0 (fun _ => False) := by
  refine Met.ofW (cc := cX2_rowFrom) (maxL := 5) (ret := (some .int)) (by decide +kernel) rfl ?_
  intro p e s m args below meth c s₁ B hml hv
  obtain ⟨rfl, hP, hK⟩ := hv
  have hx := B.exec
  have hb := B.bytes
  have hr := B.returns
  have hts := atoms_spec (ws := pw_X2_rowFrom) B.pre
  have hown : s.vm.findClass RX2 = some m.cls := findClass_of_methodNamed B.named
  have hlocks := B.notSynchronized
  have hS : va_S (fun _ => False) s.heap s.heap [] := va_S.rf
  have hw : ∀ (k : Nat) (w : Cond), ow_X2_rowFrom[k]? = some w → w.before _ s = true := fun k w h => hts w (List.mem_cons_of_mem _ (have h9 := List.mem_of_getElem? h; List.mem_append_left _ h9))
  have i_X2_kind : ∀ w ∈ pw_X2_kind, w ∈ pw_X2_rowFrom := fun w h9 => List.mem_cons_of_mem _ (List.mem_append_right _ (h9))
  have n_0 : ((0 : Int32)).toInt = 0 := by decide
  have n_1 : ((1 : Int32)).toInt = 1 := by decide
  have hl := lv_entry ([.ref f, .int p1, .int p2, .int p3]) (n := 5) (Nat.le_of_ble_eq_true rfl)
  rw [lg_entry_eq]
  generalize (lg_sl ([.ref f, .int p1, .int p2, .int p3]) ++ List.replicate (5 - (lg_sl ([.ref f, .int p1, .int p2, .int p3])).length) Slot.unset).toArray = ls at hl ⊢
  have hl : lv_has ls 5 [(0, .ref f), (1, .int p1), (2, .int p2), (3, .int p3)] := hl
  have b_p1 := ti_b p1
  have b_p2 := ti_b p2
  have b_p3 := ti_b p3
  refine zz_cap (fun Z hZ1 hZ2 => ?_)
  refine lv_iconst (v := 0) hx hb dX2_rowFrom_0 (by decide) ?_
  refine lv_istore (lv' := [(4, .int 0), (0, .ref f), (1, .int p1), (2, .int p2), (3, .int p3)]) hx hb dX2_rowFrom_1 hl (by decide) rfl (fun ls hl => ?_)
  have L_3 : ∀ (N : Nat) (x_1 : Int32) (H : Heap) (locs : List Loc) (ls : Array Slot), (0 ≤ (x_1 : Int32).toInt) → ((x_1 : Int32).toInt ≤ 300) → ((400 - (x_1 : Int32).toInt).toNat < N) → va_P D vwCl [(f, .inr (2, [.ref f_kinds, .ref f_signs, .ref f_sizes, .ref f_places, .ref f_limits, .ref f_starts, .ref f_sorts, .int f_count, .int f_sections, .int f_fifth])), (f_kinds, .inl (cI, 255, .inl f_kindsF))] H → va_S (fun _ => False) s.heap H locs → lv_has ls 5 [(4, .int x_1), (0, .ref f), (1, .int p1), (2, .int p2), (3, .int p3)] → Z 0 0 H locs (F0 m 3 ls []) := by
    intro N
    induction N with
    | zero => intro _ _ _ _ _ _ hmu; exact absurd hmu (Nat.not_lt_zero _)
    | succ N ih_3 =>
      intro x_1 H locs ls g3_0 g3_1 hmu hP hS hl
      refine hZ2 ?_
      refine lv_iload_n hx hb dX2_rowFrom_3 rfl (lv_at hl 3 rfl) ?_
      refine lv_iload hx hb dX2_rowFrom_4 (lv_at hl 0 rfl) ?_
      refine lv_iadd hx hb dX2_rowFrom_6 ?_
      refine lv_topi (fun x_2 ex_2 => ?_)
      have tx_2 := ti_add ex_2
      refine lv_iload_n hx hb dX2_rowFrom_7 rfl (lv_at hl 4 rfl) ?_
      refine lv_icmp_ge (tgt := 29) hx hb dX2_rowFrom_8 (by decide) (fun c_3 => ?_) (fun c_3 => ?_)
      · have ic_3 : (p3 : Int32).toInt ≤ (x_2 : Int32).toInt := (fa_le p3 x_2).mp c_3
        refine lv_iload hx hb dX2_rowFrom_29 (lv_at hl 0 rfl) ?_
        exact W.iret (v := x_1) hx hb hr (fun t ht hW => ⟨⟨x_1, (), rfl, (by (try dsimp only); first | omega | assumption), trivial⟩, hS.F ht⟩) hS.2.2 dX2_rowFrom_31
      · have ic_3 : ¬ ((p3 : Int32).toInt ≤ (x_2 : Int32).toInt) := fun h9 => c_3 ((fa_le p3 x_2).mpr h9)
        refine lv_aload_n hx hb dX2_rowFrom_11 rfl (lv_at hl 1 rfl) ?_
        refine lv_iload_n hx hb dX2_rowFrom_12 rfl (lv_at hl 3 rfl) ?_
        refine lv_iload hx hb dX2_rowFrom_13 (lv_at hl 0 rfl) ?_
        refine lv_iadd hx hb dX2_rowFrom_15 ?_
        refine lv_topi (fun x_4 ex_4 => ?_)
        have tx_4 := ti_add ex_4
        have hPc := hP.sub (ws' := [(f, .inr (2, [.ref f_kinds, .ref f_signs, .ref f_sizes, .ref f_places, .ref f_limits, .ref f_starts, .ref f_sorts, .int f_count, .int f_sections, .int f_fifth])), (f_kinds, .inl (cI, 255, .inl f_kindsF))]) [0, 1] rfl
        refine va_calli (va_runV (As := [.int x_4]) (rest := []) ⟨hx, hb, hml, hown, hts⟩ (c_X2_kind l D cI cD cJ H.size f f_kinds f_signs f_sizes f_places f_limits f_starts f_sorts f_count f_sections f_fifth f_kindsF x_4 (by omega) (by omega)) (cwV 1 hts (goodIn_app (goodIn_r _ [1, 2, 3, 4] rfl (by decide +kernel)) (goodIn_sub i_X2_kind k_X2_kind)) rfl rfl rfl (by decide +kernel) ⟨Nat.le_of_ble_eq_true rfl, Nat.le_of_ble_eq_true rfl⟩) ⟨fun a U g mk q => by obtain ⟨q0, qP, qK⟩ := q; exact ⟨q0, qP, va_K.moved (u := U) (U := U.calling g mk a) (Vm.Alike.refl U.vm) qK⟩, va_recv hK hPc (ci := 2) (q0 := 0) rfl rfl, fun U hU hW => ⟨rfl, by rw [hU]; exact hPc, va_K.moved hW.alike hK⟩⟩ rfl rfl hl.1 rfl (lv_room (Nat.le_of_ble_eq_true rfl)) dX2_rowFrom_16 ⟨Nat.le_of_ble_eq_true rfl, Nat.le_of_ble_eq_true rfl⟩) hS (fun q _ h => h.elim) (fun q h => h.elim) (fun x_5 u t H1 locs ht hvm w_6 hB hz1 hk1 hS => ?_)
        have hP : va_P D vwCl [(f, .inr (2, [.ref f_kinds, .ref f_signs, .ref f_sizes, .ref f_places, .ref f_limits, .ref f_starts, .ref f_sorts, .int f_count, .int f_sections, .int f_fifth])), (f_kinds, .inl (cI, 255, .inl f_kindsF))] H1 := hP.kept (fun k9 q9 h9 => hk1 q9.1 (vx_lt hP h9) (fun h => h))
        generalize H1 = H at hP hS ⊢
        refine lv_iload_n hx hb dX2_rowFrom_19 rfl (lv_at hl 2 rfl) ?_
        refine lv_icmp_ne (tgt := 29) hx hb dX2_rowFrom_20 (by decide) (fun c_7 => ?_) (fun c_7 => ?_)
        · have ic_7 : ¬ ((x_5 : Int32).toInt = (p1 : Int32).toInt) := fun h9 => c_7 ((fa_eq x_5 p1).mpr h9)
          refine lv_iload hx hb dX2_rowFrom_29 (lv_at hl 0 rfl) ?_
          exact W.iret (v := x_1) hx hb hr (fun t ht hW => ⟨⟨x_1, (), rfl, (by (try dsimp only); first | omega | assumption), trivial⟩, hS.F ht⟩) hS.2.2 dX2_rowFrom_31
        · have ic_7 : (x_5 : Int32).toInt = (p1 : Int32).toInt := (fa_eq x_5 p1).mp c_7
          obtain ⟨x_8, ex_8⟩ : ∃ y : Int32, y = x_1 + 1 := ⟨_, rfl⟩
          have tx_8 := ti_add ex_8
          refine lv_iinc (v := x_8) (lv' := [(4, .int x_8), (0, .ref f), (1, .int p1), (2, .int p2), (3, .int p3)]) hx hb dX2_rowFrom_23 hl (k := 0) rfl (by rw [ex_8]; rfl) (by decide) rfl (fun ls hl => ?_)
          refine lv_goto (tgt := 3) hx hb dX2_rowFrom_26 (by decide) ?_
          exact hZ1 (ih_3 x_8 _ _ _ (by omega) (by omega) (by omega) hP hS hl)
  exact hZ1 (L_3 (((400 - (0 : Int32).toInt).toNat) + 1) 0 _ _ _ (by omega) (by omega) (by omega) hP hS hl)

def ow_X2_divide : List Cond := [Cond.fieldLink RX2 38 "NumberFormats$Format" "sections" "I", Cond.fieldLink RX2 28 "NumberFormats$Format" "starts" "[I", Cond.fieldLink RX2 41 "NumberFormats$Format" "fifth" "I", Cond.fieldLink RX2 34 "NumberFormats$Format" "count" "I"]
def pw_X2_divide : List Cond := Cond.code yX2_divide cX2_divide 2 none :: (ow_X2_divide ++ (wsX20))
set_option maxRecDepth 20000 in
theorem mo_X2_divide : ∀ w ∈ ow_X2_divide, w ∈ lw_tbl := by decide +kernel
set_option maxRecDepth 20000 in
theorem mc_X2_divide : Cond.code yX2_divide cX2_divide 2 none ∈ lw_tbl := by decide +kernel
theorem m_X2_divide : ∀ w ∈ pw_X2_divide, w ∈ lw_tbl := List.forall_mem_cons.mpr ⟨mc_X2_divide, (List.forall_mem_append.mpr ⟨mo_X2_divide, inX2⟩)⟩
theorem ko_X2_divide : ∀ w ∈ ow_X2_divide, goodWord w = true := by decide +kernel
theorem k_X2_divide : pw_X2_divide.all goodWord = true := List.all_eq_true.mpr (List.forall_mem_cons.mpr ⟨by decide +kernel, (List.forall_mem_append.mpr ⟨ko_X2_divide, kX_X2⟩)⟩)
set_option maxHeartbeats 400000 in
set_option maxRecDepth 100000 in
theorem c_X2_divide (l : Launch) (D : va_G) (cI cD cJ : ClassId) (sz : Nat) (f : Nat) (f_kinds : Nat) (f_signs : Nat) (f_sizes : Nat) (f_places : Nat) (f_limits : Nat) (f_starts : Nat) (f_sorts : Nat) (f_count : Int32) (f_sections : Int32) (f_fifth : Int32) (f_startsF : Nat → Int32) (p1 : Int32) (iv_f_count : 0 ≤ (f_count : Int32).toInt ∧ (f_count : Int32).toInt ≤ 255) (iv_f_sections : 0 ≤ (f_sections : Int32).toInt ∧ (f_sections : Int32).toInt ≤ 4) (iv_f_startsF : ∀ k9 : Nat, k9 < 4 → 0 ≤ (f_startsF k9).toInt ∧ (f_startsF k9).toInt ≤ 255) : Met l yX2_divide pw_X2_divide ({ frames := 0, cells := 0, slots := 0, locals := 0 }) (va_Pc [.ref f, .int p1] (fun U => U.heap.size = sz ∧ va_P D vwCl [(f, .inr (2, [.ref f_kinds, .ref f_signs, .ref f_sizes, .ref f_places, .ref f_limits, .ref f_starts, .ref f_sorts, .int f_count, .int f_sections, .int f_fifth])), (f_starts, .inl (cI, 4, .inl f_startsF))] U.heap ∧ va_K D vwCl (ty3 cI cD cJ) U ∧ va_D (fun _ => True) [(f, .inr (2, [.ref f_kinds, .ref f_signs, .ref f_sizes, .ref f_places, .ref f_limits, .ref f_starts, .ref f_sorts, .int f_count, .int f_sections, .int f_fifth])), (f_starts, .inl (cI, 4, .inl f_startsF))])) (va_Qv (fun (u : Int32 × Int32 × (Nat → Int32)) => match u with | (f_sections2, f_fifth2, f_startsF2) => (0 ≤ (f_sections2 : Int32).toInt ∧ (f_sections2 : Int32).toInt ≤ 4) ∧ (∀ k9 : Nat, k9 < 4 → 0 ≤ (f_startsF2 k9).toInt ∧ (f_startsF2 k9).toInt ≤ 255)) (fun (u : Int32 × Int32 × (Nat → Int32)) (t : State) => match u with | (f_sections2, f_fifth2, f_startsF2) => va_P D vwCl [(f, .inr (2, [.ref f_kinds, .ref f_signs, .ref f_sizes, .ref f_places, .ref f_limits, .ref f_starts, .ref f_sorts, .int f_count, .int f_sections2, .int f_fifth2])), (f_starts, .inl (cI, 4, .inl f_startsF2))] t.heap ∧ va_K D vwCl (ty3 cI cD cJ) t ∧ va_D (va_A [(f, .inr (2, [.ref f_kinds, .ref f_signs, .ref f_sizes, .ref f_places, .ref f_limits, .ref f_starts, .ref f_sorts, .int f_count, .int f_sections, .int f_fifth])), (f_starts, .inl (cI, 4, .inl f_startsF))] sz) [(f, .inr (2, [.ref f_kinds, .ref f_signs, .ref f_sizes, .ref f_places, .ref f_limits, .ref f_starts, .ref f_sorts, .int f_count, .int f_sections2, .int f_fifth2])), (f_starts, .inl (cI, 4, .inl f_startsF2))]) (va_A [(f, .inr (2, [.ref f_kinds, .ref f_signs, .ref f_sizes, .ref f_places, .ref f_limits, .ref f_starts, .ref f_sorts, .int f_count, .int f_sections, .int f_fifth])), (f_starts, .inl (cI, 4, .inl f_startsF))] sz)) 0 0 (va_A [(f, .inr (2, [.ref f_kinds, .ref f_signs, .ref f_sizes, .ref f_places, .ref f_limits, .ref f_starts, .ref f_sorts, .int f_count, .int f_sections, .int f_fifth])), (f_starts, .inl (cI, 4, .inl f_startsF))] sz) := by
  refine Met.ofW (cc := cX2_divide) (maxL := 2) (ret := none) (by decide +kernel) rfl ?_
  intro p e s m args below meth c s₁ B hml hv
  obtain ⟨rfl, hsz, hP, hK, hD0⟩ := hv
  have hx := B.exec
  have hb := B.bytes
  have hr := B.returns
  have hts := atoms_spec (ws := pw_X2_divide) B.pre
  have hown : s.vm.findClass RX2 = some m.cls := findClass_of_methodNamed B.named
  have hlocks := B.notSynchronized
  subst hsz
  have hD := hD0.self (sz := s.heap.size)
  generalize hAe : va_A [(f, .inr (2, [.ref f_kinds, .ref f_signs, .ref f_sizes, .ref f_places, .ref f_limits, .ref f_starts, .ref f_sorts, .int f_count, .int f_sections, .int f_fifth])), (f_starts, .inl (cI, 4, .inl f_startsF))] s.heap.size = A at hD ⊢
  have hA : ∀ q : Nat, s.heap.size ≤ q → A q := fun q h => by rw [← hAe]; exact Or.inr h
  have hS : va_S A s.heap s.heap [] := va_S.rf
  have hw : ∀ (k : Nat) (w : Cond), ow_X2_divide[k]? = some w → w.before _ s = true := fun k w h => hts w (List.mem_cons_of_mem _ (have h9 := List.mem_of_getElem? h; List.mem_append_left _ h9))
  have iX2 : ∀ w ∈ u_ws RX2 TX2 10, w ∈ pw_X2_divide := fun w h9 => List.mem_cons_of_mem _ (List.mem_append_right _ (h9))
  have n_m1 : (((-1) : Int32)).toInt = (-1) := by decide
  have n_1 : ((1 : Int32)).toInt = 1 := by decide
  have n_4 : ((4 : Int32)).toInt = 4 := by decide
  have hl := lv_entry ([.ref f, .int p1]) (n := 2) (Nat.le_of_ble_eq_true rfl)
  rw [lg_entry_eq]
  generalize (lg_sl ([.ref f, .int p1]) ++ List.replicate (2 - (lg_sl ([.ref f, .int p1])).length) Slot.unset).toArray = ls at hl ⊢
  have hl : lv_has ls 2 [(0, .ref f), (1, .int p1)] := hl
  have b_p1 := ti_b p1
  refine lv_aload_n hx hb dX2_divide_0 rfl (lv_at hl 0 rfl) ?_
  refine va_get (D := D) (ci := 2) (v := .int f_sections) (C := RX2) (T := TX2) (N := 10) hx hb hts iX2 hown hK hP 0 rfl rfl 8 (by decide) (hw 0 (.fieldLink RX2 38 "NumberFormats$Format" "sections" "I") rfl) (fun _ h9 => h9) rfl dX2_divide_1 ?_
  refine lv_aload_n hx hb dX2_divide_4 rfl (lv_at hl 0 rfl) ?_
  refine va_get (D := D) (ci := 2) (v := .ref f_starts) (C := RX2) (T := TX2) (N := 10) hx hb hts iX2 hown hK hP 0 rfl rfl 5 (by decide) (hw 1 (.fieldLink RX2 28 "NumberFormats$Format" "starts" "[I") rfl) (fun _ h9 => h9) rfl dX2_divide_5 ?_
  refine va_alen hx hb hK hP 1 0 rfl rfl (v := 4) rfl dX2_divide_8 ?_
  refine lv_icmp_ge (tgt := 38) hx hb dX2_divide_9 (by decide) (fun c_1 => ?_) (fun c_1 => ?_)
  · have ic_1 : (4 : Int32).toInt ≤ (f_sections : Int32).toInt := (fa_le 4 f_sections).mp c_1
    refine lv_aload_n hx hb dX2_divide_38 rfl (lv_at hl 0 rfl) ?_
    refine va_get (D := D) (ci := 2) (v := .int f_fifth) (C := RX2) (T := TX2) (N := 10) hx hb hts iX2 hown hK hP 0 rfl rfl 9 (by decide) (hw 2 (.fieldLink RX2 41 "NumberFormats$Format" "fifth" "I") rfl) (fun _ h9 => h9) rfl dX2_divide_39 ?_
    refine lv_iconst (v := (-1)) hx hb dX2_divide_42 (by decide) ?_
    refine lv_icmp_ne (tgt := 51) hx hb dX2_divide_43 (by decide) (fun c_2 => ?_) (fun c_2 => ?_)
    · have ic_2 : ¬ ((f_fifth : Int32).toInt = ((-1) : Int32).toInt) := fun h9 => c_2 ((fa_eq f_fifth (-1)).mpr h9)
      have hP9 := hP.sub (ws' := [(f, .inr (2, [.ref f_kinds, .ref f_signs, .ref f_sizes, .ref f_places, .ref f_limits, .ref f_starts, .ref f_sorts, .int f_count, .int f_sections, .int f_fifth])), (f_starts, .inl (cI, 4, .inl f_startsF))]) [0, 1] rfl
      have hD9 := hD.sub (ws' := [(f, .inr (2, [.ref f_kinds, .ref f_signs, .ref f_sizes, .ref f_places, .ref f_limits, .ref f_starts, .ref f_sorts, .int f_count, .int f_sections, .int f_fifth])), (f_starts, .inl (cI, 4, .inl f_startsF))]) [0, 1] (by decide) rfl
      exact W.vret hx hb hr (fun t ht hW => ⟨⟨(f_sections, f_fifth, f_startsF), rfl, (by (try dsimp only); refine ⟨?_, ?_⟩ <;> first | omega | assumption), by rw [ht]; exact hP9, va_K.moved hW.alike hK, hD9⟩, hS.F ht⟩) hS.2.2 dX2_divide_51
    · have ic_2 : (f_fifth : Int32).toInt = ((-1) : Int32).toInt := (fa_eq f_fifth (-1)).mp c_2
      refine lv_aload_n hx hb dX2_divide_46 rfl (lv_at hl 0 rfl) ?_
      refine lv_iload_n hx hb dX2_divide_47 rfl (lv_at hl 1 rfl) ?_
      refine va_put (D := D) (ci := 2) (v := .int p1) (ty := .int) (C := RX2) (T := TX2) (N := 10) hx hb hts iX2 tyX2 tyX2_ok nmX2 hown hK hP hD hS 0 rfl rfl 9 (by decide) (hw 2 (.fieldLink RX2 41 "NumberFormats$Format" "fifth" "I") rfl) (fun _ h9 => h9) rfl (by decide +kernel) rfl rfl (Nat.le_of_ble_eq_true rfl) dX2_divide_48 (fun H locs hP hD hS => ?_)
      have hP : va_P D vwCl [(f, .inr (2, [.ref f_kinds, .ref f_signs, .ref f_sizes, .ref f_places, .ref f_limits, .ref f_starts, .ref f_sorts, .int f_count, .int f_sections, .int p1])), (f_starts, .inl (cI, 4, .inl f_startsF))] H := hP
      have hD : va_D A [(f, .inr (2, [.ref f_kinds, .ref f_signs, .ref f_sizes, .ref f_places, .ref f_limits, .ref f_starts, .ref f_sorts, .int f_count, .int f_sections, .int p1])), (f_starts, .inl (cI, 4, .inl f_startsF))] := hD
      have hP9 := hP.sub (ws' := [(f, .inr (2, [.ref f_kinds, .ref f_signs, .ref f_sizes, .ref f_places, .ref f_limits, .ref f_starts, .ref f_sorts, .int f_count, .int f_sections, .int p1])), (f_starts, .inl (cI, 4, .inl f_startsF))]) [0, 1] rfl
      have hD9 := hD.sub (ws' := [(f, .inr (2, [.ref f_kinds, .ref f_signs, .ref f_sizes, .ref f_places, .ref f_limits, .ref f_starts, .ref f_sorts, .int f_count, .int f_sections, .int p1])), (f_starts, .inl (cI, 4, .inl f_startsF))]) [0, 1] (by decide) rfl
      exact W.vret hx hb hr (fun t ht hW => ⟨⟨(f_sections, p1, f_startsF), rfl, (by (try dsimp only); refine ⟨?_, ?_⟩ <;> first | omega | assumption), by rw [ht]; exact hP9, va_K.moved hW.alike hK, hD9⟩, hS.F ht⟩) hS.2.2 dX2_divide_51
  · have ic_1 : ¬ ((4 : Int32).toInt ≤ (f_sections : Int32).toInt) := fun h9 => c_1 ((fa_le 4 f_sections).mpr h9)
    refine lv_aload_n hx hb dX2_divide_12 rfl (lv_at hl 0 rfl) ?_
    refine va_get (D := D) (ci := 2) (v := .ref f_starts) (C := RX2) (T := TX2) (N := 10) hx hb hts iX2 hown hK hP 0 rfl rfl 5 (by decide) (hw 1 (.fieldLink RX2 28 "NumberFormats$Format" "starts" "[I") rfl) (fun _ h9 => h9) rfl dX2_divide_13 ?_
    refine lv_aload_n hx hb dX2_divide_16 rfl (lv_at hl 0 rfl) ?_
    refine va_get (D := D) (ci := 2) (v := .int f_sections) (C := RX2) (T := TX2) (N := 10) hx hb hts iX2 hown hK hP 0 rfl rfl 8 (by decide) (hw 0 (.fieldLink RX2 38 "NumberFormats$Format" "sections" "I") rfl) (fun _ h9 => h9) rfl dX2_divide_17 ?_
    refine lv_aload_n hx hb dX2_divide_20 rfl (lv_at hl 0 rfl) ?_
    refine va_get (D := D) (ci := 2) (v := .int f_count) (C := RX2) (T := TX2) (N := 10) hx hb hts iX2 hown hK hP 0 rfl rfl 7 (by decide) (hw 3 (.fieldLink RX2 34 "NumberFormats$Format" "count" "I") rfl) (fun _ h9 => h9) rfl dX2_divide_21 ?_
    have h_24 : vp_in f_sections 4 := by rw [vp_in_iff]; omega
    refine va_iast hx hb hK hP hD hS 1 0 rfl rfl h_24 dX2_divide_24 (fun H locs hP hD hS => ?_)
    obtain ⟨f_3, ef_3⟩ : ∃ y : Nat → Int32, y = upd f_startsF (f_sections : Int32).toNatClampNeg f_count := ⟨_, rfl⟩
    rw [← ef_3] at hP hD
    have hP : va_P D vwCl [(f, .inr (2, [.ref f_kinds, .ref f_signs, .ref f_sizes, .ref f_places, .ref f_limits, .ref f_starts, .ref f_sorts, .int f_count, .int f_sections, .int f_fifth])), (f_starts, .inl (cI, 4, .inl f_3))] H := hP
    have hD : va_D A [(f, .inr (2, [.ref f_kinds, .ref f_signs, .ref f_sizes, .ref f_places, .ref f_limits, .ref f_starts, .ref f_sorts, .int f_count, .int f_sections, .int f_fifth])), (f_starts, .inl (cI, 4, .inl f_3))] := hD
    have iv_f_3 : ∀ k9 : Nat, k9 < 4 → 0 ≤ (f_3 k9).toInt ∧ (f_3 k9).toInt ≤ 255 := by intro k9 h9; rw [ef_3]; unfold upd; split <;> first | omega | exact (‹∀ k9 : Nat, k9 < 4 → 0 ≤ (f_startsF k9).toInt ∧ (f_startsF k9).toInt ≤ 255›) k9 h9
    refine lv_aload_n hx hb dX2_divide_25 rfl (lv_at hl 0 rfl) ?_
    refine lv_dup hx hb dX2_divide_26 rfl ?_
    refine va_get (D := D) (ci := 2) (v := .int f_sections) (C := RX2) (T := TX2) (N := 10) hx hb hts iX2 hown hK hP 0 rfl rfl 8 (by decide) (hw 0 (.fieldLink RX2 38 "NumberFormats$Format" "sections" "I") rfl) (fun _ h9 => h9) rfl dX2_divide_27 ?_
    refine lv_iconst (v := 1) hx hb dX2_divide_30 (by decide) ?_
    refine lv_iadd hx hb dX2_divide_31 ?_
    refine lv_topi (fun x_4 ex_4 => ?_)
    have tx_4 := ti_add ex_4
    refine va_put (D := D) (ci := 2) (v := .int x_4) (ty := .int) (C := RX2) (T := TX2) (N := 10) hx hb hts iX2 tyX2 tyX2_ok nmX2 hown hK hP hD hS 0 rfl rfl 8 (by decide) (hw 0 (.fieldLink RX2 38 "NumberFormats$Format" "sections" "I") rfl) (fun _ h9 => h9) rfl (by decide +kernel) rfl rfl (Nat.le_of_ble_eq_true rfl) dX2_divide_32 (fun H locs hP hD hS => ?_)
    have hP : va_P D vwCl [(f, .inr (2, [.ref f_kinds, .ref f_signs, .ref f_sizes, .ref f_places, .ref f_limits, .ref f_starts, .ref f_sorts, .int f_count, .int x_4, .int f_fifth])), (f_starts, .inl (cI, 4, .inl f_3))] H := hP
    have hD : va_D A [(f, .inr (2, [.ref f_kinds, .ref f_signs, .ref f_sizes, .ref f_places, .ref f_limits, .ref f_starts, .ref f_sorts, .int f_count, .int x_4, .int f_fifth])), (f_starts, .inl (cI, 4, .inl f_3))] := hD
    refine lv_goto (tgt := 51) hx hb dX2_divide_35 (by decide) ?_
    have hP9 := hP.sub (ws' := [(f, .inr (2, [.ref f_kinds, .ref f_signs, .ref f_sizes, .ref f_places, .ref f_limits, .ref f_starts, .ref f_sorts, .int f_count, .int x_4, .int f_fifth])), (f_starts, .inl (cI, 4, .inl f_3))]) [0, 1] rfl
    have hD9 := hD.sub (ws' := [(f, .inr (2, [.ref f_kinds, .ref f_signs, .ref f_sizes, .ref f_places, .ref f_limits, .ref f_starts, .ref f_sorts, .int f_count, .int x_4, .int f_fifth])), (f_starts, .inl (cI, 4, .inl f_3))]) [0, 1] (by decide) rfl
    exact W.vret hx hb hr (fun t ht hW => ⟨⟨(x_4, f_fifth, f_3), rfl, (by (try dsimp only); refine ⟨?_, ?_⟩ <;> first | omega | assumption), by rw [ht]; exact hP9, va_K.moved hW.alike hK, hD9⟩, hS.F ht⟩) hS.2.2 dX2_divide_51

def ow_X2_clear : List Cond := [Cond.fieldLink RX2 34 "NumberFormats$Format" "count" "I", Cond.fieldLink RX2 38 "NumberFormats$Format" "sections" "I", Cond.fieldLink RX2 41 "NumberFormats$Format" "fifth" "I", Cond.methodLink RX2 44 yX2_divide, Cond.instanceMethod yX2_divide, Cond.selects RX2 yX2_divide yX2_divide, Cond.initialized RX2]
def pw_X2_clear : List Cond := Cond.code yX2_clear cX2_clear 1 none :: (ow_X2_clear ++ (pw_X2_divide ++ (wsX20)))
set_option maxRecDepth 20000 in
theorem mo_X2_clear : ∀ w ∈ ow_X2_clear, w ∈ lw_tbl := by decide +kernel
set_option maxRecDepth 20000 in
theorem mc_X2_clear : Cond.code yX2_clear cX2_clear 1 none ∈ lw_tbl := by decide +kernel
theorem m_X2_clear : ∀ w ∈ pw_X2_clear, w ∈ lw_tbl := List.forall_mem_cons.mpr ⟨mc_X2_clear, (List.forall_mem_append.mpr ⟨mo_X2_clear, (List.forall_mem_append.mpr ⟨m_X2_divide, inX2⟩)⟩)⟩
theorem ko_X2_clear : ∀ w ∈ ow_X2_clear, goodWord w = true := by decide +kernel
theorem k_X2_clear : pw_X2_clear.all goodWord = true := List.all_eq_true.mpr (List.forall_mem_cons.mpr ⟨by decide +kernel, (List.forall_mem_append.mpr ⟨ko_X2_clear, (List.forall_mem_append.mpr ⟨(List.all_eq_true.mp k_X2_divide), kX_X2⟩)⟩)⟩)
set_option maxHeartbeats 400000 in
set_option maxRecDepth 100000 in
theorem c_X2_clear (l : Launch) (D : va_G) (cI cD cJ : ClassId) (sz : Nat) (f : Nat) (f_kinds : Nat) (f_signs : Nat) (f_sizes : Nat) (f_places : Nat) (f_limits : Nat) (f_starts : Nat) (f_sorts : Nat) (f_count : Int32) (f_sections : Int32) (f_fifth : Int32) (f_startsF : Nat → Int32) (iv_f_count : 0 ≤ (f_count : Int32).toInt ∧ (f_count : Int32).toInt ≤ 255) (iv_f_sections : 0 ≤ (f_sections : Int32).toInt ∧ (f_sections : Int32).toInt ≤ 4) (iv_f_startsF : ∀ k9 : Nat, k9 < 4 → 0 ≤ (f_startsF k9).toInt ∧ (f_startsF k9).toInt ≤ 255) : Met l yX2_clear pw_X2_clear ({ frames := 1, cells := 0, slots := 0, locals := 21 }) (va_Pc [.ref f] (fun U => U.heap.size = sz ∧ va_P D vwCl [(f, .inr (2, [.ref f_kinds, .ref f_signs, .ref f_sizes, .ref f_places, .ref f_limits, .ref f_starts, .ref f_sorts, .int f_count, .int f_sections, .int f_fifth])), (f_starts, .inl (cI, 4, .inl f_startsF))] U.heap ∧ va_K D vwCl (ty3 cI cD cJ) U ∧ va_D (fun _ => True) [(f, .inr (2, [.ref f_kinds, .ref f_signs, .ref f_sizes, .ref f_places, .ref f_limits, .ref f_starts, .ref f_sorts, .int f_count, .int f_sections, .int f_fifth])), (f_starts, .inl (cI, 4, .inl f_startsF))])) (va_Qv (fun (u : Int32 × Int32 × Int32 × (Nat → Int32)) => match u with | (f_count2, f_sections2, f_fifth2, f_startsF2) => (0 ≤ (f_count2 : Int32).toInt ∧ (f_count2 : Int32).toInt ≤ 255) ∧ (0 ≤ (f_sections2 : Int32).toInt ∧ (f_sections2 : Int32).toInt ≤ 4) ∧ (∀ k9 : Nat, k9 < 4 → 0 ≤ (f_startsF2 k9).toInt ∧ (f_startsF2 k9).toInt ≤ 255)) (fun (u : Int32 × Int32 × Int32 × (Nat → Int32)) (t : State) => match u with | (f_count2, f_sections2, f_fifth2, f_startsF2) => va_P D vwCl [(f, .inr (2, [.ref f_kinds, .ref f_signs, .ref f_sizes, .ref f_places, .ref f_limits, .ref f_starts, .ref f_sorts, .int f_count2, .int f_sections2, .int f_fifth2])), (f_starts, .inl (cI, 4, .inl f_startsF2))] t.heap ∧ va_K D vwCl (ty3 cI cD cJ) t ∧ va_D (va_A [(f, .inr (2, [.ref f_kinds, .ref f_signs, .ref f_sizes, .ref f_places, .ref f_limits, .ref f_starts, .ref f_sorts, .int f_count, .int f_sections, .int f_fifth])), (f_starts, .inl (cI, 4, .inl f_startsF))] sz) [(f, .inr (2, [.ref f_kinds, .ref f_signs, .ref f_sizes, .ref f_places, .ref f_limits, .ref f_starts, .ref f_sorts, .int f_count2, .int f_sections2, .int f_fifth2])), (f_starts, .inl (cI, 4, .inl f_startsF2))]) (va_A [(f, .inr (2, [.ref f_kinds, .ref f_signs, .ref f_sizes, .ref f_places, .ref f_limits, .ref f_starts, .ref f_sorts, .int f_count, .int f_sections, .int f_fifth])), (f_starts, .inl (cI, 4, .inl f_startsF))] sz)) 0 0 (va_A [(f, .inr (2, [.ref f_kinds, .ref f_signs, .ref f_sizes, .ref f_places, .ref f_limits, .ref f_starts, .ref f_sorts, .int f_count, .int f_sections, .int f_fifth])), (f_starts, .inl (cI, 4, .inl f_startsF))] sz) := by
  refine Met.ofW (cc := cX2_clear) (maxL := 1) (ret := none) (by decide +kernel) rfl ?_
  intro p e s m args below meth c s₁ B hml hv
  obtain ⟨rfl, hsz, hP, hK, hD0⟩ := hv
  have hx := B.exec
  have hb := B.bytes
  have hr := B.returns
  have hts := atoms_spec (ws := pw_X2_clear) B.pre
  have hown : s.vm.findClass RX2 = some m.cls := findClass_of_methodNamed B.named
  have hlocks := B.notSynchronized
  subst hsz
  have hD := hD0.self (sz := s.heap.size)
  generalize hAe : va_A [(f, .inr (2, [.ref f_kinds, .ref f_signs, .ref f_sizes, .ref f_places, .ref f_limits, .ref f_starts, .ref f_sorts, .int f_count, .int f_sections, .int f_fifth])), (f_starts, .inl (cI, 4, .inl f_startsF))] s.heap.size = A at hD ⊢
  have hA : ∀ q : Nat, s.heap.size ≤ q → A q := fun q h => by rw [← hAe]; exact Or.inr h
  have hS : va_S A s.heap s.heap [] := va_S.rf
  have hw : ∀ (k : Nat) (w : Cond), ow_X2_clear[k]? = some w → w.before _ s = true := fun k w h => hts w (List.mem_cons_of_mem _ (have h9 := List.mem_of_getElem? h; List.mem_append_left _ h9))
  have i_X2_divide : ∀ w ∈ pw_X2_divide, w ∈ pw_X2_clear := fun w h9 => List.mem_cons_of_mem _ (List.mem_append_right _ (List.mem_append_left _ h9))
  have iX2 : ∀ w ∈ u_ws RX2 TX2 10, w ∈ pw_X2_clear := fun w h9 => List.mem_cons_of_mem _ (List.mem_append_right _ (List.mem_append_right _ (h9)))
  have n_m1 : (((-1) : Int32)).toInt = (-1) := by decide
  have n_0 : ((0 : Int32)).toInt = 0 := by decide
  have hl := lv_entry ([.ref f]) (n := 1) (Nat.le_of_ble_eq_true rfl)
  rw [lg_entry_eq]
  generalize (lg_sl ([.ref f]) ++ List.replicate (1 - (lg_sl ([.ref f])).length) Slot.unset).toArray = ls at hl ⊢
  have hl : lv_has ls 1 [(0, .ref f)] := hl
  refine lv_aload_n hx hb dX2_clear_0 rfl (lv_at hl 0 rfl) ?_
  refine lv_iconst (v := 0) hx hb dX2_clear_1 (by decide) ?_
  refine va_put (D := D) (ci := 2) (v := .int 0) (ty := .int) (C := RX2) (T := TX2) (N := 10) hx hb hts iX2 tyX2 tyX2_ok nmX2 hown hK hP hD hS 0 rfl rfl 7 (by decide) (hw 0 (.fieldLink RX2 34 "NumberFormats$Format" "count" "I") rfl) (fun _ h9 => h9) rfl (by decide +kernel) rfl rfl (Nat.le_of_ble_eq_true rfl) dX2_clear_2 (fun H locs hP hD hS => ?_)
  have hP : va_P D vwCl [(f, .inr (2, [.ref f_kinds, .ref f_signs, .ref f_sizes, .ref f_places, .ref f_limits, .ref f_starts, .ref f_sorts, .int 0, .int f_sections, .int f_fifth])), (f_starts, .inl (cI, 4, .inl f_startsF))] H := hP
  have hD : va_D A [(f, .inr (2, [.ref f_kinds, .ref f_signs, .ref f_sizes, .ref f_places, .ref f_limits, .ref f_starts, .ref f_sorts, .int 0, .int f_sections, .int f_fifth])), (f_starts, .inl (cI, 4, .inl f_startsF))] := hD
  refine lv_aload_n hx hb dX2_clear_5 rfl (lv_at hl 0 rfl) ?_
  refine lv_iconst (v := 0) hx hb dX2_clear_6 (by decide) ?_
  refine va_put (D := D) (ci := 2) (v := .int 0) (ty := .int) (C := RX2) (T := TX2) (N := 10) hx hb hts iX2 tyX2 tyX2_ok nmX2 hown hK hP hD hS 0 rfl rfl 8 (by decide) (hw 1 (.fieldLink RX2 38 "NumberFormats$Format" "sections" "I") rfl) (fun _ h9 => h9) rfl (by decide +kernel) rfl rfl (Nat.le_of_ble_eq_true rfl) dX2_clear_7 (fun H locs hP hD hS => ?_)
  have hP : va_P D vwCl [(f, .inr (2, [.ref f_kinds, .ref f_signs, .ref f_sizes, .ref f_places, .ref f_limits, .ref f_starts, .ref f_sorts, .int 0, .int 0, .int f_fifth])), (f_starts, .inl (cI, 4, .inl f_startsF))] H := hP
  have hD : va_D A [(f, .inr (2, [.ref f_kinds, .ref f_signs, .ref f_sizes, .ref f_places, .ref f_limits, .ref f_starts, .ref f_sorts, .int 0, .int 0, .int f_fifth])), (f_starts, .inl (cI, 4, .inl f_startsF))] := hD
  refine lv_aload_n hx hb dX2_clear_10 rfl (lv_at hl 0 rfl) ?_
  refine lv_iconst (v := (-1)) hx hb dX2_clear_11 (by decide) ?_
  refine va_put (D := D) (ci := 2) (v := .int (-1)) (ty := .int) (C := RX2) (T := TX2) (N := 10) hx hb hts iX2 tyX2 tyX2_ok nmX2 hown hK hP hD hS 0 rfl rfl 9 (by decide) (hw 2 (.fieldLink RX2 41 "NumberFormats$Format" "fifth" "I") rfl) (fun _ h9 => h9) rfl (by decide +kernel) rfl rfl (Nat.le_of_ble_eq_true rfl) dX2_clear_12 (fun H locs hP hD hS => ?_)
  have hP : va_P D vwCl [(f, .inr (2, [.ref f_kinds, .ref f_signs, .ref f_sizes, .ref f_places, .ref f_limits, .ref f_starts, .ref f_sorts, .int 0, .int 0, .int (-1)])), (f_starts, .inl (cI, 4, .inl f_startsF))] H := hP
  have hD : va_D A [(f, .inr (2, [.ref f_kinds, .ref f_signs, .ref f_sizes, .ref f_places, .ref f_limits, .ref f_starts, .ref f_sorts, .int 0, .int 0, .int (-1)])), (f_starts, .inl (cI, 4, .inl f_startsF))] := hD
  refine lv_aload_n hx hb dX2_clear_15 rfl (lv_at hl 0 rfl) ?_
  refine lv_iconst (v := (-1)) hx hb dX2_clear_16 (by decide) ?_
  have hPc := hP.sub (ws' := [(f, .inr (2, [.ref f_kinds, .ref f_signs, .ref f_sizes, .ref f_places, .ref f_limits, .ref f_starts, .ref f_sorts, .int 0, .int 0, .int (-1)])), (f_starts, .inl (cI, 4, .inl f_startsF))]) [0, 1] rfl
  have hDc := hD.sub (ws' := [(f, .inr (2, [.ref f_kinds, .ref f_signs, .ref f_sizes, .ref f_places, .ref f_limits, .ref f_starts, .ref f_sorts, .int 0, .int 0, .int (-1)])), (f_starts, .inl (cI, 4, .inl f_startsF))]) [0, 1] (by decide) rfl
  have hFc := va_free (wc := [(f, .inr (2, [.ref f_kinds, .ref f_signs, .ref f_sizes, .ref f_places, .ref f_limits, .ref f_starts, .ref f_sorts, .int 0, .int 0, .int (-1)])), (f_starts, .inl (cI, 4, .inl f_startsF))]) hD hS hA [0, 1] rfl
  refine va_callv (va_runV (As := [.int (-1)]) (rest := []) ⟨hx, hb, hml, hown, hts⟩ (c_X2_divide l D cI cD cJ H.size f f_kinds f_signs f_sizes f_places f_limits f_starts f_sorts 0 0 (-1) f_startsF (-1) (by omega) (by omega) (by assumption)) (cwV 1 hts (goodIn_app (goodIn_r _ [4, 5, 6, 7] rfl (by decide +kernel)) (goodIn_sub i_X2_divide k_X2_divide)) rfl rfl rfl (by decide +kernel) ⟨Nat.le_of_ble_eq_true rfl, Nat.le_of_ble_eq_true rfl⟩) ⟨fun a U g mk q => by obtain ⟨q0, q1, qP, qK, qD⟩ := q; exact ⟨q0, q1, qP, va_K.moved (u := U) (U := U.calling g mk a) (Vm.Alike.refl U.vm) qK, qD⟩, va_recv hK hPc (ci := 2) (q0 := 0) rfl rfl, fun U hU hW => ⟨rfl, by rw [hU], by rw [hU]; exact hPc, va_K.moved hW.alike hK, hDc.weaken (fun _ _ _ _ => trivial)⟩⟩ rfl rfl hl.1 rfl (lv_room (Nat.le_of_ble_eq_true rfl)) dX2_clear_17 ⟨Nat.le_of_ble_eq_true rfl, Nat.le_of_ble_eq_true rfl⟩) hS (fun q _ h => hFc q h) hFc (fun u t H1 locs ht hvm w_1 hB hz1 hk1 hS => ?_)
  obtain ⟨u_2, u_3, u_4⟩ := u
  obtain ⟨hP1, hK1, hD1⟩ := hB
  rw [ht] at hP1
  try dsimp only at w_1
  obtain ⟨hP, hD⟩ := va_join (wr := []) (w1 := [(f, .inr (2, [.ref f_kinds, .ref f_signs, .ref f_sizes, .ref f_places, .ref f_limits, .ref f_starts, .ref f_sorts, .int 0, .int u_2, .int u_3])), (f_starts, .inl (cI, 4, .inl u_4))]) hP hD [0, 1] [] rfl rfl (by decide) (by decide) hk1 hFc hP1 hD1
  generalize H1 = H at hP hS ⊢
  have hP : va_P D vwCl [(f, .inr (2, [.ref f_kinds, .ref f_signs, .ref f_sizes, .ref f_places, .ref f_limits, .ref f_starts, .ref f_sorts, .int 0, .int u_2, .int u_3])), (f_starts, .inl (cI, 4, .inl u_4))] H := hP
  have hD : va_D A [(f, .inr (2, [.ref f_kinds, .ref f_signs, .ref f_sizes, .ref f_places, .ref f_limits, .ref f_starts, .ref f_sorts, .int 0, .int u_2, .int u_3])), (f_starts, .inl (cI, 4, .inl u_4))] := hD
  obtain ⟨w_1_0, w_1_1⟩ := w_1
  have hP9 := hP.sub (ws' := [(f, .inr (2, [.ref f_kinds, .ref f_signs, .ref f_sizes, .ref f_places, .ref f_limits, .ref f_starts, .ref f_sorts, .int 0, .int u_2, .int u_3])), (f_starts, .inl (cI, 4, .inl u_4))]) [0, 1] rfl
  have hD9 := hD.sub (ws' := [(f, .inr (2, [.ref f_kinds, .ref f_signs, .ref f_sizes, .ref f_places, .ref f_limits, .ref f_starts, .ref f_sorts, .int 0, .int u_2, .int u_3])), (f_starts, .inl (cI, 4, .inl u_4))]) [0, 1] (by decide) rfl
  exact W.vret hx hb hr (fun t ht hW => ⟨⟨(0, u_2, u_3, u_4), rfl, (by (try dsimp only); refine ⟨?_, ?_, ?_⟩ <;> first | omega | assumption), by rw [ht]; exact hP9, va_K.moved hW.alike hK, hD9⟩, hS.F ht⟩) hS.2.2 dX2_clear_20

def ow_X2_add : List Cond := [Cond.fieldLink RX2 34 "NumberFormats$Format" "count" "I", Cond.fieldLink RX2 9 "NumberFormats$Format" "kinds" "[I", Cond.fieldLink RX2 15 "NumberFormats$Format" "signs" "[I", Cond.fieldLink RX2 18 "NumberFormats$Format" "sizes" "[I", Cond.fieldLink RX2 21 "NumberFormats$Format" "places" "[I", Cond.fieldLink RX2 24 "NumberFormats$Format" "limits" "[D"]
def pw_X2_add : List Cond := Cond.code yX2_add cX2_add 5 none :: (ow_X2_add ++ (wsX20))
set_option maxRecDepth 20000 in
theorem mo_X2_add : ∀ w ∈ ow_X2_add, w ∈ lw_tbl := by decide +kernel
set_option maxRecDepth 20000 in
theorem mc_X2_add : Cond.code yX2_add cX2_add 5 none ∈ lw_tbl := by decide +kernel
theorem m_X2_add : ∀ w ∈ pw_X2_add, w ∈ lw_tbl := List.forall_mem_cons.mpr ⟨mc_X2_add, (List.forall_mem_append.mpr ⟨mo_X2_add, inX2⟩)⟩
theorem ko_X2_add : ∀ w ∈ ow_X2_add, goodWord w = true := by decide +kernel
theorem k_X2_add : pw_X2_add.all goodWord = true := List.all_eq_true.mpr (List.forall_mem_cons.mpr ⟨by decide +kernel, (List.forall_mem_append.mpr ⟨ko_X2_add, kX_X2⟩)⟩)
set_option maxHeartbeats 400000 in
set_option maxRecDepth 100000 in
theorem c_X2_add (l : Launch) (D : va_G) (cI cD cJ : ClassId) (sz : Nat) (f : Nat) (f_kinds : Nat) (f_signs : Nat) (f_sizes : Nat) (f_places : Nat) (f_limits : Nat) (f_starts : Nat) (f_sorts : Nat) (f_count : Int32) (f_sections : Int32) (f_fifth : Int32) (f_kindsF : Nat → Int32) (f_signsF : Nat → Int32) (f_sizesF : Nat → Int32) (f_placesF : Nat → Int32) (f_limitsF : Nat → UInt64) (p1 : Int32) (p2 : Int32) (p3 : Int32) (p4 : Int32) (h1 : p3.toInt ≤ 100000) (iv_f_count : 0 ≤ (f_count : Int32).toInt ∧ (f_count : Int32).toInt ≤ 255) (iv_f_sections : 0 ≤ (f_sections : Int32).toInt ∧ (f_sections : Int32).toInt ≤ 4) (iv_f_sizesF : ∀ k9 : Nat, k9 < 255 → (f_sizesF k9).toInt ≤ 100000) : Met l yX2_add pw_X2_add ({ frames := 0, cells := 0, slots := 0, locals := 0 }) (va_Pc [.ref f, .int p1, .int p2, .int p3, .int p4] (fun U => U.heap.size = sz ∧ va_P D vwCl [(f, .inr (2, [.ref f_kinds, .ref f_signs, .ref f_sizes, .ref f_places, .ref f_limits, .ref f_starts, .ref f_sorts, .int f_count, .int f_sections, .int f_fifth])), (f_kinds, .inl (cI, 255, .inl f_kindsF)), (f_signs, .inl (cI, 255, .inl f_signsF)), (f_sizes, .inl (cI, 255, .inl f_sizesF)), (f_places, .inl (cI, 255, .inl f_placesF)), (f_limits, .inl (cD, 255, .inr (.inr (.inr (.inl f_limitsF)))))] U.heap ∧ va_K D vwCl (ty3 cI cD cJ) U ∧ va_D (fun _ => True) [(f, .inr (2, [.ref f_kinds, .ref f_signs, .ref f_sizes, .ref f_places, .ref f_limits, .ref f_starts, .ref f_sorts, .int f_count, .int f_sections, .int f_fifth])), (f_kinds, .inl (cI, 255, .inl f_kindsF)), (f_signs, .inl (cI, 255, .inl f_signsF)), (f_sizes, .inl (cI, 255, .inl f_sizesF)), (f_places, .inl (cI, 255, .inl f_placesF)), (f_limits, .inl (cD, 255, .inr (.inr (.inr (.inl f_limitsF)))))])) (va_Qv (fun (u : Int32 × (Nat → Int32) × (Nat → Int32) × (Nat → Int32) × (Nat → Int32) × (Nat → UInt64)) => match u with | (f_count2, f_kindsF2, f_signsF2, f_sizesF2, f_placesF2, f_limitsF2) => (0 ≤ (f_count2 : Int32).toInt ∧ (f_count2 : Int32).toInt ≤ 255) ∧ (∀ k9 : Nat, k9 < 255 → (f_sizesF2 k9).toInt ≤ 100000)) (fun (u : Int32 × (Nat → Int32) × (Nat → Int32) × (Nat → Int32) × (Nat → Int32) × (Nat → UInt64)) (t : State) => match u with | (f_count2, f_kindsF2, f_signsF2, f_sizesF2, f_placesF2, f_limitsF2) => va_P D vwCl [(f, .inr (2, [.ref f_kinds, .ref f_signs, .ref f_sizes, .ref f_places, .ref f_limits, .ref f_starts, .ref f_sorts, .int f_count2, .int f_sections, .int f_fifth])), (f_kinds, .inl (cI, 255, .inl f_kindsF2)), (f_signs, .inl (cI, 255, .inl f_signsF2)), (f_sizes, .inl (cI, 255, .inl f_sizesF2)), (f_places, .inl (cI, 255, .inl f_placesF2)), (f_limits, .inl (cD, 255, .inr (.inr (.inr (.inl f_limitsF2)))))] t.heap ∧ va_K D vwCl (ty3 cI cD cJ) t ∧ va_D (va_A [(f, .inr (2, [.ref f_kinds, .ref f_signs, .ref f_sizes, .ref f_places, .ref f_limits, .ref f_starts, .ref f_sorts, .int f_count, .int f_sections, .int f_fifth])), (f_kinds, .inl (cI, 255, .inl f_kindsF)), (f_signs, .inl (cI, 255, .inl f_signsF)), (f_sizes, .inl (cI, 255, .inl f_sizesF)), (f_places, .inl (cI, 255, .inl f_placesF)), (f_limits, .inl (cD, 255, .inr (.inr (.inr (.inl f_limitsF)))))] sz) [(f, .inr (2, [.ref f_kinds, .ref f_signs, .ref f_sizes, .ref f_places, .ref f_limits, .ref f_starts, .ref f_sorts, .int f_count2, .int f_sections, .int f_fifth])), (f_kinds, .inl (cI, 255, .inl f_kindsF2)), (f_signs, .inl (cI, 255, .inl f_signsF2)), (f_sizes, .inl (cI, 255, .inl f_sizesF2)), (f_places, .inl (cI, 255, .inl f_placesF2)), (f_limits, .inl (cD, 255, .inr (.inr (.inr (.inl f_limitsF2)))))]) (va_A [(f, .inr (2, [.ref f_kinds, .ref f_signs, .ref f_sizes, .ref f_places, .ref f_limits, .ref f_starts, .ref f_sorts, .int f_count, .int f_sections, .int f_fifth])), (f_kinds, .inl (cI, 255, .inl f_kindsF)), (f_signs, .inl (cI, 255, .inl f_signsF)), (f_sizes, .inl (cI, 255, .inl f_sizesF)), (f_places, .inl (cI, 255, .inl f_placesF)), (f_limits, .inl (cD, 255, .inr (.inr (.inr (.inl f_limitsF)))))] sz)) 0 0 (va_A [(f, .inr (2, [.ref f_kinds, .ref f_signs, .ref f_sizes, .ref f_places, .ref f_limits, .ref f_starts, .ref f_sorts, .int f_count, .int f_sections, .int f_fifth])), (f_kinds, .inl (cI, 255, .inl f_kindsF)), (f_signs, .inl (cI, 255, .inl f_signsF)), (f_sizes, .inl (cI, 255, .inl f_sizesF)), (f_places, .inl (cI, 255, .inl f_placesF)), (f_limits, .inl (cD, 255, .inr (.inr (.inr (.inl f_limitsF)))))] sz) := by
  refine Met.ofW (cc := cX2_add) (maxL := 5) (ret := none) (by decide +kernel) rfl ?_
  intro p e s m args below meth c s₁ B hml hv
  obtain ⟨rfl, hsz, hP, hK, hD0⟩ := hv
  have hx := B.exec
  have hb := B.bytes
  have hr := B.returns
  have hts := atoms_spec (ws := pw_X2_add) B.pre
  have hown : s.vm.findClass RX2 = some m.cls := findClass_of_methodNamed B.named
  have hlocks := B.notSynchronized
  subst hsz
  have hD := hD0.self (sz := s.heap.size)
  generalize hAe : va_A [(f, .inr (2, [.ref f_kinds, .ref f_signs, .ref f_sizes, .ref f_places, .ref f_limits, .ref f_starts, .ref f_sorts, .int f_count, .int f_sections, .int f_fifth])), (f_kinds, .inl (cI, 255, .inl f_kindsF)), (f_signs, .inl (cI, 255, .inl f_signsF)), (f_sizes, .inl (cI, 255, .inl f_sizesF)), (f_places, .inl (cI, 255, .inl f_placesF)), (f_limits, .inl (cD, 255, .inr (.inr (.inr (.inl f_limitsF)))))] s.heap.size = A at hD ⊢
  have hA : ∀ q : Nat, s.heap.size ≤ q → A q := fun q h => by rw [← hAe]; exact Or.inr h
  have hS : va_S A s.heap s.heap [] := va_S.rf
  have hw : ∀ (k : Nat) (w : Cond), ow_X2_add[k]? = some w → w.before _ s = true := fun k w h => hts w (List.mem_cons_of_mem _ (have h9 := List.mem_of_getElem? h; List.mem_append_left _ h9))
  have iX2 : ∀ w ∈ u_ws RX2 TX2 10, w ∈ pw_X2_add := fun w h9 => List.mem_cons_of_mem _ (List.mem_append_right _ (h9))
  have n_1 : ((1 : Int32)).toInt = 1 := by decide
  have n_255 : ((255 : Int32)).toInt = 255 := by decide
  have hl := lv_entry ([.ref f, .int p1, .int p2, .int p3, .int p4]) (n := 5) (Nat.le_of_ble_eq_true rfl)
  rw [lg_entry_eq]
  generalize (lg_sl ([.ref f, .int p1, .int p2, .int p3, .int p4]) ++ List.replicate (5 - (lg_sl ([.ref f, .int p1, .int p2, .int p3, .int p4])).length) Slot.unset).toArray = ls at hl ⊢
  have hl : lv_has ls 5 [(0, .ref f), (1, .int p1), (2, .int p2), (3, .int p3), (4, .int p4)] := hl
  have b_p1 := ti_b p1
  have b_p2 := ti_b p2
  have b_p3 := ti_b p3
  have b_p4 := ti_b p4
  refine lv_aload_n hx hb dX2_add_0 rfl (lv_at hl 0 rfl) ?_
  refine va_get (D := D) (ci := 2) (v := .int f_count) (C := RX2) (T := TX2) (N := 10) hx hb hts iX2 hown hK hP 0 rfl rfl 7 (by decide) (hw 0 (.fieldLink RX2 34 "NumberFormats$Format" "count" "I") rfl) (fun _ h9 => h9) rfl dX2_add_1 ?_
  refine lv_aload_n hx hb dX2_add_4 rfl (lv_at hl 0 rfl) ?_
  refine va_get (D := D) (ci := 2) (v := .ref f_kinds) (C := RX2) (T := TX2) (N := 10) hx hb hts iX2 hown hK hP 0 rfl rfl 0 (by decide) (hw 1 (.fieldLink RX2 9 "NumberFormats$Format" "kinds" "[I") rfl) (fun _ h9 => h9) rfl dX2_add_5 ?_
  refine va_alen hx hb hK hP 1 0 rfl rfl (v := 255) rfl dX2_add_8 ?_
  refine lv_icmp_ge (tgt := 73) hx hb dX2_add_9 (by decide) (fun c_1 => ?_) (fun c_1 => ?_)
  · have ic_1 : (255 : Int32).toInt ≤ (f_count : Int32).toInt := (fa_le 255 f_count).mp c_1
    have hP9 := hP.sub (ws' := [(f, .inr (2, [.ref f_kinds, .ref f_signs, .ref f_sizes, .ref f_places, .ref f_limits, .ref f_starts, .ref f_sorts, .int f_count, .int f_sections, .int f_fifth])), (f_kinds, .inl (cI, 255, .inl f_kindsF)), (f_signs, .inl (cI, 255, .inl f_signsF)), (f_sizes, .inl (cI, 255, .inl f_sizesF)), (f_places, .inl (cI, 255, .inl f_placesF)), (f_limits, .inl (cD, 255, .inr (.inr (.inr (.inl f_limitsF)))))]) [0, 1, 2, 3, 4, 5] rfl
    have hD9 := hD.sub (ws' := [(f, .inr (2, [.ref f_kinds, .ref f_signs, .ref f_sizes, .ref f_places, .ref f_limits, .ref f_starts, .ref f_sorts, .int f_count, .int f_sections, .int f_fifth])), (f_kinds, .inl (cI, 255, .inl f_kindsF)), (f_signs, .inl (cI, 255, .inl f_signsF)), (f_sizes, .inl (cI, 255, .inl f_sizesF)), (f_places, .inl (cI, 255, .inl f_placesF)), (f_limits, .inl (cD, 255, .inr (.inr (.inr (.inl f_limitsF)))))]) [0, 1, 2, 3, 4, 5] (by decide) rfl
    exact W.vret hx hb hr (fun t ht hW => ⟨⟨(f_count, f_kindsF, f_signsF, f_sizesF, f_placesF, f_limitsF), rfl, (by (try dsimp only); refine ⟨?_, ?_⟩ <;> first | omega | assumption), by rw [ht]; exact hP9, va_K.moved hW.alike hK, hD9⟩, hS.F ht⟩) hS.2.2 dX2_add_73
  · have ic_1 : ¬ ((255 : Int32).toInt ≤ (f_count : Int32).toInt) := fun h9 => c_1 ((fa_le 255 f_count).mpr h9)
    refine lv_aload_n hx hb dX2_add_12 rfl (lv_at hl 0 rfl) ?_
    refine va_get (D := D) (ci := 2) (v := .ref f_kinds) (C := RX2) (T := TX2) (N := 10) hx hb hts iX2 hown hK hP 0 rfl rfl 0 (by decide) (hw 1 (.fieldLink RX2 9 "NumberFormats$Format" "kinds" "[I") rfl) (fun _ h9 => h9) rfl dX2_add_13 ?_
    refine lv_aload_n hx hb dX2_add_16 rfl (lv_at hl 0 rfl) ?_
    refine va_get (D := D) (ci := 2) (v := .int f_count) (C := RX2) (T := TX2) (N := 10) hx hb hts iX2 hown hK hP 0 rfl rfl 7 (by decide) (hw 0 (.fieldLink RX2 34 "NumberFormats$Format" "count" "I") rfl) (fun _ h9 => h9) rfl dX2_add_17 ?_
    refine lv_iload_n hx hb dX2_add_20 rfl (lv_at hl 1 rfl) ?_
    have h_21 : vp_in f_count 255 := by rw [vp_in_iff]; omega
    refine va_iast hx hb hK hP hD hS 1 0 rfl rfl h_21 dX2_add_21 (fun H locs hP hD hS => ?_)
    obtain ⟨f_2, ef_2⟩ : ∃ y : Nat → Int32, y = upd f_kindsF (f_count : Int32).toNatClampNeg p1 := ⟨_, rfl⟩
    rw [← ef_2] at hP hD
    have hP : va_P D vwCl [(f, .inr (2, [.ref f_kinds, .ref f_signs, .ref f_sizes, .ref f_places, .ref f_limits, .ref f_starts, .ref f_sorts, .int f_count, .int f_sections, .int f_fifth])), (f_kinds, .inl (cI, 255, .inl f_2)), (f_signs, .inl (cI, 255, .inl f_signsF)), (f_sizes, .inl (cI, 255, .inl f_sizesF)), (f_places, .inl (cI, 255, .inl f_placesF)), (f_limits, .inl (cD, 255, .inr (.inr (.inr (.inl f_limitsF)))))] H := hP
    have hD : va_D A [(f, .inr (2, [.ref f_kinds, .ref f_signs, .ref f_sizes, .ref f_places, .ref f_limits, .ref f_starts, .ref f_sorts, .int f_count, .int f_sections, .int f_fifth])), (f_kinds, .inl (cI, 255, .inl f_2)), (f_signs, .inl (cI, 255, .inl f_signsF)), (f_sizes, .inl (cI, 255, .inl f_sizesF)), (f_places, .inl (cI, 255, .inl f_placesF)), (f_limits, .inl (cD, 255, .inr (.inr (.inr (.inl f_limitsF)))))] := hD
    refine lv_aload_n hx hb dX2_add_22 rfl (lv_at hl 0 rfl) ?_
    refine va_get (D := D) (ci := 2) (v := .ref f_signs) (C := RX2) (T := TX2) (N := 10) hx hb hts iX2 hown hK hP 0 rfl rfl 1 (by decide) (hw 2 (.fieldLink RX2 15 "NumberFormats$Format" "signs" "[I") rfl) (fun _ h9 => h9) rfl dX2_add_23 ?_
    refine lv_aload_n hx hb dX2_add_26 rfl (lv_at hl 0 rfl) ?_
    refine va_get (D := D) (ci := 2) (v := .int f_count) (C := RX2) (T := TX2) (N := 10) hx hb hts iX2 hown hK hP 0 rfl rfl 7 (by decide) (hw 0 (.fieldLink RX2 34 "NumberFormats$Format" "count" "I") rfl) (fun _ h9 => h9) rfl dX2_add_27 ?_
    refine lv_iload_n hx hb dX2_add_30 rfl (lv_at hl 2 rfl) ?_
    have h_31 : vp_in f_count 255 := by rw [vp_in_iff]; omega
    refine va_iast hx hb hK hP hD hS 2 0 rfl rfl h_31 dX2_add_31 (fun H locs hP hD hS => ?_)
    obtain ⟨f_3, ef_3⟩ : ∃ y : Nat → Int32, y = upd f_signsF (f_count : Int32).toNatClampNeg p2 := ⟨_, rfl⟩
    rw [← ef_3] at hP hD
    have hP : va_P D vwCl [(f, .inr (2, [.ref f_kinds, .ref f_signs, .ref f_sizes, .ref f_places, .ref f_limits, .ref f_starts, .ref f_sorts, .int f_count, .int f_sections, .int f_fifth])), (f_kinds, .inl (cI, 255, .inl f_2)), (f_signs, .inl (cI, 255, .inl f_3)), (f_sizes, .inl (cI, 255, .inl f_sizesF)), (f_places, .inl (cI, 255, .inl f_placesF)), (f_limits, .inl (cD, 255, .inr (.inr (.inr (.inl f_limitsF)))))] H := hP
    have hD : va_D A [(f, .inr (2, [.ref f_kinds, .ref f_signs, .ref f_sizes, .ref f_places, .ref f_limits, .ref f_starts, .ref f_sorts, .int f_count, .int f_sections, .int f_fifth])), (f_kinds, .inl (cI, 255, .inl f_2)), (f_signs, .inl (cI, 255, .inl f_3)), (f_sizes, .inl (cI, 255, .inl f_sizesF)), (f_places, .inl (cI, 255, .inl f_placesF)), (f_limits, .inl (cD, 255, .inr (.inr (.inr (.inl f_limitsF)))))] := hD
    refine lv_aload_n hx hb dX2_add_32 rfl (lv_at hl 0 rfl) ?_
    refine va_get (D := D) (ci := 2) (v := .ref f_sizes) (C := RX2) (T := TX2) (N := 10) hx hb hts iX2 hown hK hP 0 rfl rfl 2 (by decide) (hw 3 (.fieldLink RX2 18 "NumberFormats$Format" "sizes" "[I") rfl) (fun _ h9 => h9) rfl dX2_add_33 ?_
    refine lv_aload_n hx hb dX2_add_36 rfl (lv_at hl 0 rfl) ?_
    refine va_get (D := D) (ci := 2) (v := .int f_count) (C := RX2) (T := TX2) (N := 10) hx hb hts iX2 hown hK hP 0 rfl rfl 7 (by decide) (hw 0 (.fieldLink RX2 34 "NumberFormats$Format" "count" "I") rfl) (fun _ h9 => h9) rfl dX2_add_37 ?_
    refine lv_iload_n hx hb dX2_add_40 rfl (lv_at hl 3 rfl) ?_
    have h_41 : vp_in f_count 255 := by rw [vp_in_iff]; omega
    refine va_iast hx hb hK hP hD hS 3 0 rfl rfl h_41 dX2_add_41 (fun H locs hP hD hS => ?_)
    obtain ⟨f_4, ef_4⟩ : ∃ y : Nat → Int32, y = upd f_sizesF (f_count : Int32).toNatClampNeg p3 := ⟨_, rfl⟩
    rw [← ef_4] at hP hD
    have hP : va_P D vwCl [(f, .inr (2, [.ref f_kinds, .ref f_signs, .ref f_sizes, .ref f_places, .ref f_limits, .ref f_starts, .ref f_sorts, .int f_count, .int f_sections, .int f_fifth])), (f_kinds, .inl (cI, 255, .inl f_2)), (f_signs, .inl (cI, 255, .inl f_3)), (f_sizes, .inl (cI, 255, .inl f_4)), (f_places, .inl (cI, 255, .inl f_placesF)), (f_limits, .inl (cD, 255, .inr (.inr (.inr (.inl f_limitsF)))))] H := hP
    have hD : va_D A [(f, .inr (2, [.ref f_kinds, .ref f_signs, .ref f_sizes, .ref f_places, .ref f_limits, .ref f_starts, .ref f_sorts, .int f_count, .int f_sections, .int f_fifth])), (f_kinds, .inl (cI, 255, .inl f_2)), (f_signs, .inl (cI, 255, .inl f_3)), (f_sizes, .inl (cI, 255, .inl f_4)), (f_places, .inl (cI, 255, .inl f_placesF)), (f_limits, .inl (cD, 255, .inr (.inr (.inr (.inl f_limitsF)))))] := hD
    have iv_f_4 : ∀ k9 : Nat, k9 < 255 → (f_4 k9).toInt ≤ 100000 := by intro k9 h9; rw [ef_4]; unfold upd; split <;> first | omega | exact (‹∀ k9 : Nat, k9 < 255 → (f_sizesF k9).toInt ≤ 100000›) k9 h9
    refine lv_aload_n hx hb dX2_add_42 rfl (lv_at hl 0 rfl) ?_
    refine va_get (D := D) (ci := 2) (v := .ref f_places) (C := RX2) (T := TX2) (N := 10) hx hb hts iX2 hown hK hP 0 rfl rfl 3 (by decide) (hw 4 (.fieldLink RX2 21 "NumberFormats$Format" "places" "[I") rfl) (fun _ h9 => h9) rfl dX2_add_43 ?_
    refine lv_aload_n hx hb dX2_add_46 rfl (lv_at hl 0 rfl) ?_
    refine va_get (D := D) (ci := 2) (v := .int f_count) (C := RX2) (T := TX2) (N := 10) hx hb hts iX2 hown hK hP 0 rfl rfl 7 (by decide) (hw 0 (.fieldLink RX2 34 "NumberFormats$Format" "count" "I") rfl) (fun _ h9 => h9) rfl dX2_add_47 ?_
    refine lv_iload hx hb dX2_add_50 (lv_at hl 4 rfl) ?_
    have h_52 : vp_in f_count 255 := by rw [vp_in_iff]; omega
    refine va_iast hx hb hK hP hD hS 4 0 rfl rfl h_52 dX2_add_52 (fun H locs hP hD hS => ?_)
    obtain ⟨f_5, ef_5⟩ : ∃ y : Nat → Int32, y = upd f_placesF (f_count : Int32).toNatClampNeg p4 := ⟨_, rfl⟩
    rw [← ef_5] at hP hD
    have hP : va_P D vwCl [(f, .inr (2, [.ref f_kinds, .ref f_signs, .ref f_sizes, .ref f_places, .ref f_limits, .ref f_starts, .ref f_sorts, .int f_count, .int f_sections, .int f_fifth])), (f_kinds, .inl (cI, 255, .inl f_2)), (f_signs, .inl (cI, 255, .inl f_3)), (f_sizes, .inl (cI, 255, .inl f_4)), (f_places, .inl (cI, 255, .inl f_5)), (f_limits, .inl (cD, 255, .inr (.inr (.inr (.inl f_limitsF)))))] H := hP
    have hD : va_D A [(f, .inr (2, [.ref f_kinds, .ref f_signs, .ref f_sizes, .ref f_places, .ref f_limits, .ref f_starts, .ref f_sorts, .int f_count, .int f_sections, .int f_fifth])), (f_kinds, .inl (cI, 255, .inl f_2)), (f_signs, .inl (cI, 255, .inl f_3)), (f_sizes, .inl (cI, 255, .inl f_4)), (f_places, .inl (cI, 255, .inl f_5)), (f_limits, .inl (cD, 255, .inr (.inr (.inr (.inl f_limitsF)))))] := hD
    refine lv_aload_n hx hb dX2_add_53 rfl (lv_at hl 0 rfl) ?_
    refine va_get (D := D) (ci := 2) (v := .ref f_limits) (C := RX2) (T := TX2) (N := 10) hx hb hts iX2 hown hK hP 0 rfl rfl 4 (by decide) (hw 5 (.fieldLink RX2 24 "NumberFormats$Format" "limits" "[D") rfl) (fun _ h9 => h9) rfl dX2_add_54 ?_
    refine lv_aload_n hx hb dX2_add_57 rfl (lv_at hl 0 rfl) ?_
    refine va_get (D := D) (ci := 2) (v := .int f_count) (C := RX2) (T := TX2) (N := 10) hx hb hts iX2 hown hK hP 0 rfl rfl 7 (by decide) (hw 0 (.fieldLink RX2 34 "NumberFormats$Format" "count" "I") rfl) (fun _ h9 => h9) rfl dX2_add_58 ?_
    refine lv_dconst0 hx hb dX2_add_61 ?_
    have h_62 : vp_in f_count 255 := by rw [vp_in_iff]; omega
    refine va_dast hx hb hK hP hD hS 5 1 rfl rfl h_62 dX2_add_62 (fun H locs hP hD hS => ?_)
    obtain ⟨f_6, ef_6⟩ : ∃ y : Nat → UInt64, y = vf_upd f_limitsF (f_count : Int32).toNatClampNeg FP.dconst0 := ⟨_, rfl⟩
    rw [← ef_6] at hP hD
    have hP : va_P D vwCl [(f, .inr (2, [.ref f_kinds, .ref f_signs, .ref f_sizes, .ref f_places, .ref f_limits, .ref f_starts, .ref f_sorts, .int f_count, .int f_sections, .int f_fifth])), (f_kinds, .inl (cI, 255, .inl f_2)), (f_signs, .inl (cI, 255, .inl f_3)), (f_sizes, .inl (cI, 255, .inl f_4)), (f_places, .inl (cI, 255, .inl f_5)), (f_limits, .inl (cD, 255, .inr (.inr (.inr (.inl f_6)))))] H := hP
    have hD : va_D A [(f, .inr (2, [.ref f_kinds, .ref f_signs, .ref f_sizes, .ref f_places, .ref f_limits, .ref f_starts, .ref f_sorts, .int f_count, .int f_sections, .int f_fifth])), (f_kinds, .inl (cI, 255, .inl f_2)), (f_signs, .inl (cI, 255, .inl f_3)), (f_sizes, .inl (cI, 255, .inl f_4)), (f_places, .inl (cI, 255, .inl f_5)), (f_limits, .inl (cD, 255, .inr (.inr (.inr (.inl f_6)))))] := hD
    refine lv_aload_n hx hb dX2_add_63 rfl (lv_at hl 0 rfl) ?_
    refine lv_dup hx hb dX2_add_64 rfl ?_
    refine va_get (D := D) (ci := 2) (v := .int f_count) (C := RX2) (T := TX2) (N := 10) hx hb hts iX2 hown hK hP 0 rfl rfl 7 (by decide) (hw 0 (.fieldLink RX2 34 "NumberFormats$Format" "count" "I") rfl) (fun _ h9 => h9) rfl dX2_add_65 ?_
    refine lv_iconst (v := 1) hx hb dX2_add_68 (by decide) ?_
    refine lv_iadd hx hb dX2_add_69 ?_
    refine lv_topi (fun x_7 ex_7 => ?_)
    have tx_7 := ti_add ex_7
    refine va_put (D := D) (ci := 2) (v := .int x_7) (ty := .int) (C := RX2) (T := TX2) (N := 10) hx hb hts iX2 tyX2 tyX2_ok nmX2 hown hK hP hD hS 0 rfl rfl 7 (by decide) (hw 0 (.fieldLink RX2 34 "NumberFormats$Format" "count" "I") rfl) (fun _ h9 => h9) rfl (by decide +kernel) rfl rfl (Nat.le_of_ble_eq_true rfl) dX2_add_70 (fun H locs hP hD hS => ?_)
    have hP : va_P D vwCl [(f, .inr (2, [.ref f_kinds, .ref f_signs, .ref f_sizes, .ref f_places, .ref f_limits, .ref f_starts, .ref f_sorts, .int x_7, .int f_sections, .int f_fifth])), (f_kinds, .inl (cI, 255, .inl f_2)), (f_signs, .inl (cI, 255, .inl f_3)), (f_sizes, .inl (cI, 255, .inl f_4)), (f_places, .inl (cI, 255, .inl f_5)), (f_limits, .inl (cD, 255, .inr (.inr (.inr (.inl f_6)))))] H := hP
    have hD : va_D A [(f, .inr (2, [.ref f_kinds, .ref f_signs, .ref f_sizes, .ref f_places, .ref f_limits, .ref f_starts, .ref f_sorts, .int x_7, .int f_sections, .int f_fifth])), (f_kinds, .inl (cI, 255, .inl f_2)), (f_signs, .inl (cI, 255, .inl f_3)), (f_sizes, .inl (cI, 255, .inl f_4)), (f_places, .inl (cI, 255, .inl f_5)), (f_limits, .inl (cD, 255, .inr (.inr (.inr (.inl f_6)))))] := hD
    have hP9 := hP.sub (ws' := [(f, .inr (2, [.ref f_kinds, .ref f_signs, .ref f_sizes, .ref f_places, .ref f_limits, .ref f_starts, .ref f_sorts, .int x_7, .int f_sections, .int f_fifth])), (f_kinds, .inl (cI, 255, .inl f_2)), (f_signs, .inl (cI, 255, .inl f_3)), (f_sizes, .inl (cI, 255, .inl f_4)), (f_places, .inl (cI, 255, .inl f_5)), (f_limits, .inl (cD, 255, .inr (.inr (.inr (.inl f_6)))))]) [0, 1, 2, 3, 4, 5] rfl
    have hD9 := hD.sub (ws' := [(f, .inr (2, [.ref f_kinds, .ref f_signs, .ref f_sizes, .ref f_places, .ref f_limits, .ref f_starts, .ref f_sorts, .int x_7, .int f_sections, .int f_fifth])), (f_kinds, .inl (cI, 255, .inl f_2)), (f_signs, .inl (cI, 255, .inl f_3)), (f_sizes, .inl (cI, 255, .inl f_4)), (f_places, .inl (cI, 255, .inl f_5)), (f_limits, .inl (cD, 255, .inr (.inr (.inr (.inl f_6)))))]) [0, 1, 2, 3, 4, 5] (by decide) rfl
    exact W.vret hx hb hr (fun t ht hW => ⟨⟨(x_7, f_2, f_3, f_4, f_5, f_6), rfl, (by (try dsimp only); refine ⟨?_, ?_⟩ <;> first | omega | assumption), by rw [ht]; exact hP9, va_K.moved hW.alike hK, hD9⟩, hS.F ht⟩) hS.2.2 dX2_add_73

def ow_X2_addCondition : List Cond := [Cond.fieldLink RX2 34 "NumberFormats$Format" "count" "I", Cond.methodLink RX2 48 yX2_add, Cond.instanceMethod yX2_add, Cond.selects RX2 yX2_add yX2_add, Cond.initialized RX2, Cond.fieldLink RX2 24 "NumberFormats$Format" "limits" "[D"]
def pw_X2_addCondition : List Cond := Cond.code yX2_addCondition cX2_addCondition 6 none :: (ow_X2_addCondition ++ (pw_X2_add ++ (wsX20)))
set_option maxRecDepth 20000 in
theorem mo_X2_addCondition : ∀ w ∈ ow_X2_addCondition, w ∈ lw_tbl := by decide +kernel
set_option maxRecDepth 20000 in
theorem mc_X2_addCondition : Cond.code yX2_addCondition cX2_addCondition 6 none ∈ lw_tbl := by decide +kernel
theorem m_X2_addCondition : ∀ w ∈ pw_X2_addCondition, w ∈ lw_tbl := List.forall_mem_cons.mpr ⟨mc_X2_addCondition, (List.forall_mem_append.mpr ⟨mo_X2_addCondition, (List.forall_mem_append.mpr ⟨m_X2_add, inX2⟩)⟩)⟩
theorem ko_X2_addCondition : ∀ w ∈ ow_X2_addCondition, goodWord w = true := by decide +kernel
theorem k_X2_addCondition : pw_X2_addCondition.all goodWord = true := List.all_eq_true.mpr (List.forall_mem_cons.mpr ⟨by decide +kernel, (List.forall_mem_append.mpr ⟨ko_X2_addCondition, (List.forall_mem_append.mpr ⟨(List.all_eq_true.mp k_X2_add), kX_X2⟩)⟩)⟩)
set_option maxHeartbeats 400000 in
set_option maxRecDepth 100000 in
theorem c_X2_addCondition (l : Launch) (D : va_G) (cI cD cJ : ClassId) (sz : Nat) (f : Nat) (f_kinds : Nat) (f_signs : Nat) (f_sizes : Nat) (f_places : Nat) (f_limits : Nat) (f_starts : Nat) (f_sorts : Nat) (f_count : Int32) (f_sections : Int32) (f_fifth : Int32) (f_kindsF : Nat → Int32) (f_signsF : Nat → Int32) (f_sizesF : Nat → Int32) (f_placesF : Nat → Int32) (f_limitsF : Nat → UInt64) (p1 : Int32) (p2 : UInt64) (p3 : Int32) (h1 : p1.toInt ≤ 100000) (iv_f_count : 0 ≤ (f_count : Int32).toInt ∧ (f_count : Int32).toInt ≤ 255) (iv_f_sections : 0 ≤ (f_sections : Int32).toInt ∧ (f_sections : Int32).toInt ≤ 4) (iv_f_sizesF : ∀ k9 : Nat, k9 < 255 → (f_sizesF k9).toInt ≤ 100000) : Met l yX2_addCondition pw_X2_addCondition ({ frames := 1, cells := 0, slots := 0, locals := 24 }) (va_Pc [.ref f, .int p1, .double p2, .int p3] (fun U => U.heap.size = sz ∧ va_P D vwCl [(f, .inr (2, [.ref f_kinds, .ref f_signs, .ref f_sizes, .ref f_places, .ref f_limits, .ref f_starts, .ref f_sorts, .int f_count, .int f_sections, .int f_fifth])), (f_kinds, .inl (cI, 255, .inl f_kindsF)), (f_signs, .inl (cI, 255, .inl f_signsF)), (f_sizes, .inl (cI, 255, .inl f_sizesF)), (f_places, .inl (cI, 255, .inl f_placesF)), (f_limits, .inl (cD, 255, .inr (.inr (.inr (.inl f_limitsF)))))] U.heap ∧ va_K D vwCl (ty3 cI cD cJ) U ∧ va_D (fun _ => True) [(f, .inr (2, [.ref f_kinds, .ref f_signs, .ref f_sizes, .ref f_places, .ref f_limits, .ref f_starts, .ref f_sorts, .int f_count, .int f_sections, .int f_fifth])), (f_kinds, .inl (cI, 255, .inl f_kindsF)), (f_signs, .inl (cI, 255, .inl f_signsF)), (f_sizes, .inl (cI, 255, .inl f_sizesF)), (f_places, .inl (cI, 255, .inl f_placesF)), (f_limits, .inl (cD, 255, .inr (.inr (.inr (.inl f_limitsF)))))])) (va_Qv (fun (u : Int32 × (Nat → Int32) × (Nat → Int32) × (Nat → Int32) × (Nat → Int32) × (Nat → UInt64)) => match u with | (f_count2, f_kindsF2, f_signsF2, f_sizesF2, f_placesF2, f_limitsF2) => (0 ≤ (f_count2 : Int32).toInt ∧ (f_count2 : Int32).toInt ≤ 255) ∧ (∀ k9 : Nat, k9 < 255 → (f_sizesF2 k9).toInt ≤ 100000)) (fun (u : Int32 × (Nat → Int32) × (Nat → Int32) × (Nat → Int32) × (Nat → Int32) × (Nat → UInt64)) (t : State) => match u with | (f_count2, f_kindsF2, f_signsF2, f_sizesF2, f_placesF2, f_limitsF2) => va_P D vwCl [(f, .inr (2, [.ref f_kinds, .ref f_signs, .ref f_sizes, .ref f_places, .ref f_limits, .ref f_starts, .ref f_sorts, .int f_count2, .int f_sections, .int f_fifth])), (f_kinds, .inl (cI, 255, .inl f_kindsF2)), (f_signs, .inl (cI, 255, .inl f_signsF2)), (f_sizes, .inl (cI, 255, .inl f_sizesF2)), (f_places, .inl (cI, 255, .inl f_placesF2)), (f_limits, .inl (cD, 255, .inr (.inr (.inr (.inl f_limitsF2)))))] t.heap ∧ va_K D vwCl (ty3 cI cD cJ) t ∧ va_D (va_A [(f, .inr (2, [.ref f_kinds, .ref f_signs, .ref f_sizes, .ref f_places, .ref f_limits, .ref f_starts, .ref f_sorts, .int f_count, .int f_sections, .int f_fifth])), (f_kinds, .inl (cI, 255, .inl f_kindsF)), (f_signs, .inl (cI, 255, .inl f_signsF)), (f_sizes, .inl (cI, 255, .inl f_sizesF)), (f_places, .inl (cI, 255, .inl f_placesF)), (f_limits, .inl (cD, 255, .inr (.inr (.inr (.inl f_limitsF)))))] sz) [(f, .inr (2, [.ref f_kinds, .ref f_signs, .ref f_sizes, .ref f_places, .ref f_limits, .ref f_starts, .ref f_sorts, .int f_count2, .int f_sections, .int f_fifth])), (f_kinds, .inl (cI, 255, .inl f_kindsF2)), (f_signs, .inl (cI, 255, .inl f_signsF2)), (f_sizes, .inl (cI, 255, .inl f_sizesF2)), (f_places, .inl (cI, 255, .inl f_placesF2)), (f_limits, .inl (cD, 255, .inr (.inr (.inr (.inl f_limitsF2)))))]) (va_A [(f, .inr (2, [.ref f_kinds, .ref f_signs, .ref f_sizes, .ref f_places, .ref f_limits, .ref f_starts, .ref f_sorts, .int f_count, .int f_sections, .int f_fifth])), (f_kinds, .inl (cI, 255, .inl f_kindsF)), (f_signs, .inl (cI, 255, .inl f_signsF)), (f_sizes, .inl (cI, 255, .inl f_sizesF)), (f_places, .inl (cI, 255, .inl f_placesF)), (f_limits, .inl (cD, 255, .inr (.inr (.inr (.inl f_limitsF)))))] sz)) 0 0 (va_A [(f, .inr (2, [.ref f_kinds, .ref f_signs, .ref f_sizes, .ref f_places, .ref f_limits, .ref f_starts, .ref f_sorts, .int f_count, .int f_sections, .int f_fifth])), (f_kinds, .inl (cI, 255, .inl f_kindsF)), (f_signs, .inl (cI, 255, .inl f_signsF)), (f_sizes, .inl (cI, 255, .inl f_sizesF)), (f_places, .inl (cI, 255, .inl f_placesF)), (f_limits, .inl (cD, 255, .inr (.inr (.inr (.inl f_limitsF)))))] sz) := by
  refine Met.ofW (cc := cX2_addCondition) (maxL := 6) (ret := none) (by decide +kernel) rfl ?_
  intro p e s m args below meth c s₁ B hml hv
  obtain ⟨rfl, hsz, hP, hK, hD0⟩ := hv
  have hx := B.exec
  have hb := B.bytes
  have hr := B.returns
  have hts := atoms_spec (ws := pw_X2_addCondition) B.pre
  have hown : s.vm.findClass RX2 = some m.cls := findClass_of_methodNamed B.named
  have hlocks := B.notSynchronized
  subst hsz
  have hD := hD0.self (sz := s.heap.size)
  generalize hAe : va_A [(f, .inr (2, [.ref f_kinds, .ref f_signs, .ref f_sizes, .ref f_places, .ref f_limits, .ref f_starts, .ref f_sorts, .int f_count, .int f_sections, .int f_fifth])), (f_kinds, .inl (cI, 255, .inl f_kindsF)), (f_signs, .inl (cI, 255, .inl f_signsF)), (f_sizes, .inl (cI, 255, .inl f_sizesF)), (f_places, .inl (cI, 255, .inl f_placesF)), (f_limits, .inl (cD, 255, .inr (.inr (.inr (.inl f_limitsF)))))] s.heap.size = A at hD ⊢
  have hA : ∀ q : Nat, s.heap.size ≤ q → A q := fun q h => by rw [← hAe]; exact Or.inr h
  have hS : va_S A s.heap s.heap [] := va_S.rf
  have hw : ∀ (k : Nat) (w : Cond), ow_X2_addCondition[k]? = some w → w.before _ s = true := fun k w h => hts w (List.mem_cons_of_mem _ (have h9 := List.mem_of_getElem? h; List.mem_append_left _ h9))
  have i_X2_add : ∀ w ∈ pw_X2_add, w ∈ pw_X2_addCondition := fun w h9 => List.mem_cons_of_mem _ (List.mem_append_right _ (List.mem_append_left _ h9))
  have iX2 : ∀ w ∈ u_ws RX2 TX2 10, w ∈ pw_X2_addCondition := fun w h9 => List.mem_cons_of_mem _ (List.mem_append_right _ (List.mem_append_right _ (h9)))
  have n_0 : ((0 : Int32)).toInt = 0 := by decide
  have n_2 : ((2 : Int32)).toInt = 2 := by decide
  have n_255 : ((255 : Int32)).toInt = 255 := by decide
  have n_91 : ((91 : Int32)).toInt = 91 := by decide
  have hl := lv_entry ([.ref f, .int p1, .double p2, .int p3]) (n := 6) (Nat.le_of_ble_eq_true rfl)
  rw [lg_entry_eq]
  generalize (lg_sl ([.ref f, .int p1, .double p2, .int p3]) ++ List.replicate (6 - (lg_sl ([.ref f, .int p1, .double p2, .int p3])).length) Slot.unset).toArray = ls at hl ⊢
  have hl : lv_has ls 6 [(0, .ref f), (1, .int p1), (2, .double p2), (4, .int p3)] := hl
  have b_p1 := ti_b p1
  have b_p3 := ti_b p3
  refine lv_aload_n hx hb dX2_addCondition_0 rfl (lv_at hl 0 rfl) ?_
  refine va_get (D := D) (ci := 2) (v := .int f_count) (C := RX2) (T := TX2) (N := 10) hx hb hts iX2 hown hK hP 0 rfl rfl 7 (by decide) (hw 0 (.fieldLink RX2 34 "NumberFormats$Format" "count" "I") rfl) (fun _ h9 => h9) rfl dX2_addCondition_1 ?_
  refine lv_istore (lv' := [(5, .int f_count), (0, .ref f), (1, .int p1), (2, .double p2), (4, .int p3)]) hx hb dX2_addCondition_4 hl (by decide) rfl (fun ls hl => ?_)
  refine lv_aload_n hx hb dX2_addCondition_6 rfl (lv_at hl 1 rfl) ?_
  refine lv_iconst (v := 2) hx hb dX2_addCondition_7 (by decide) ?_
  refine lv_bipush (v := 91) hx hb dX2_addCondition_8 (by decide) ?_
  refine lv_iload_n hx hb dX2_addCondition_10 rfl (lv_at hl 2 rfl) ?_
  refine lv_iload hx hb dX2_addCondition_11 (lv_at hl 4 rfl) ?_
  have hPc := hP.sub (ws' := [(f, .inr (2, [.ref f_kinds, .ref f_signs, .ref f_sizes, .ref f_places, .ref f_limits, .ref f_starts, .ref f_sorts, .int f_count, .int f_sections, .int f_fifth])), (f_kinds, .inl (cI, 255, .inl f_kindsF)), (f_signs, .inl (cI, 255, .inl f_signsF)), (f_sizes, .inl (cI, 255, .inl f_sizesF)), (f_places, .inl (cI, 255, .inl f_placesF)), (f_limits, .inl (cD, 255, .inr (.inr (.inr (.inl f_limitsF)))))]) [0, 1, 2, 3, 4, 5] rfl
  have hDc := hD.sub (ws' := [(f, .inr (2, [.ref f_kinds, .ref f_signs, .ref f_sizes, .ref f_places, .ref f_limits, .ref f_starts, .ref f_sorts, .int f_count, .int f_sections, .int f_fifth])), (f_kinds, .inl (cI, 255, .inl f_kindsF)), (f_signs, .inl (cI, 255, .inl f_signsF)), (f_sizes, .inl (cI, 255, .inl f_sizesF)), (f_places, .inl (cI, 255, .inl f_placesF)), (f_limits, .inl (cD, 255, .inr (.inr (.inr (.inl f_limitsF)))))]) [0, 1, 2, 3, 4, 5] (by decide) rfl
  have hFc := va_free (wc := [(f, .inr (2, [.ref f_kinds, .ref f_signs, .ref f_sizes, .ref f_places, .ref f_limits, .ref f_starts, .ref f_sorts, .int f_count, .int f_sections, .int f_fifth])), (f_kinds, .inl (cI, 255, .inl f_kindsF)), (f_signs, .inl (cI, 255, .inl f_signsF)), (f_sizes, .inl (cI, 255, .inl f_sizesF)), (f_places, .inl (cI, 255, .inl f_placesF)), (f_limits, .inl (cD, 255, .inr (.inr (.inr (.inl f_limitsF)))))]) hD hS hA [0, 1, 2, 3, 4, 5] rfl
  refine va_callv (va_runV (As := [.int 2, .int 91, .int p1, .int p3]) (rest := []) ⟨hx, hb, hml, hown, hts⟩ (c_X2_add l D cI cD cJ s.heap.size f f_kinds f_signs f_sizes f_places f_limits f_starts f_sorts f_count f_sections f_fifth f_kindsF f_signsF f_sizesF f_placesF f_limitsF 2 91 p1 p3 (by omega) (by omega) (by omega) (by assumption)) (cwV 4 hts (goodIn_app (goodIn_r _ [2, 3, 4, 5] rfl (by decide +kernel)) (goodIn_sub i_X2_add k_X2_add)) rfl rfl rfl (by decide +kernel) ⟨Nat.le_of_ble_eq_true rfl, Nat.le_of_ble_eq_true rfl⟩) ⟨fun a U g mk q => by obtain ⟨q0, q1, qP, qK, qD⟩ := q; exact ⟨q0, q1, qP, va_K.moved (u := U) (U := U.calling g mk a) (Vm.Alike.refl U.vm) qK, qD⟩, va_recv hK hPc (ci := 2) (q0 := 0) rfl rfl, fun U hU hW => ⟨rfl, by rw [hU], by rw [hU]; exact hPc, va_K.moved hW.alike hK, hDc.weaken (fun _ _ _ _ => trivial)⟩⟩ rfl rfl hl.1 rfl (lv_room (Nat.le_of_ble_eq_true rfl)) dX2_addCondition_13 ⟨Nat.le_of_ble_eq_true rfl, Nat.le_of_ble_eq_true rfl⟩) hS (fun q _ h => hFc q h) hFc (fun u t H1 locs ht hvm w_1 hB hz1 hk1 hS => ?_)
  obtain ⟨u_2, u_3, u_4, u_5, u_6, u_7⟩ := u
  obtain ⟨hP1, hK1, hD1⟩ := hB
  rw [ht] at hP1
  try dsimp only at w_1
  obtain ⟨hP, hD⟩ := va_join (wr := []) (w1 := [(f, .inr (2, [.ref f_kinds, .ref f_signs, .ref f_sizes, .ref f_places, .ref f_limits, .ref f_starts, .ref f_sorts, .int u_2, .int f_sections, .int f_fifth])), (f_kinds, .inl (cI, 255, .inl u_3)), (f_signs, .inl (cI, 255, .inl u_4)), (f_sizes, .inl (cI, 255, .inl u_5)), (f_places, .inl (cI, 255, .inl u_6)), (f_limits, .inl (cD, 255, .inr (.inr (.inr (.inl u_7)))))]) hP hD [0, 1, 2, 3, 4, 5] [] rfl rfl (by decide) (by decide) hk1 hFc hP1 hD1
  generalize H1 = H at hP hS ⊢
  have hP : va_P D vwCl [(f, .inr (2, [.ref f_kinds, .ref f_signs, .ref f_sizes, .ref f_places, .ref f_limits, .ref f_starts, .ref f_sorts, .int u_2, .int f_sections, .int f_fifth])), (f_kinds, .inl (cI, 255, .inl u_3)), (f_signs, .inl (cI, 255, .inl u_4)), (f_sizes, .inl (cI, 255, .inl u_5)), (f_places, .inl (cI, 255, .inl u_6)), (f_limits, .inl (cD, 255, .inr (.inr (.inr (.inl u_7)))))] H := hP
  have hD : va_D A [(f, .inr (2, [.ref f_kinds, .ref f_signs, .ref f_sizes, .ref f_places, .ref f_limits, .ref f_starts, .ref f_sorts, .int u_2, .int f_sections, .int f_fifth])), (f_kinds, .inl (cI, 255, .inl u_3)), (f_signs, .inl (cI, 255, .inl u_4)), (f_sizes, .inl (cI, 255, .inl u_5)), (f_places, .inl (cI, 255, .inl u_6)), (f_limits, .inl (cD, 255, .inr (.inr (.inr (.inl u_7)))))] := hD
  obtain ⟨w_1_0, w_1_1⟩ := w_1
  refine lv_iload hx hb dX2_addCondition_16 (lv_at hl 0 rfl) ?_
  refine lv_if_lt (tgt := 39) hx hb dX2_addCondition_18 (by decide) (fun c_8 => ?_) (fun c_8 => ?_)
  · have ic_8 : (f_count : Int32).toInt < (0 : Int32).toInt := (fa_lt f_count 0).mp c_8
    have hP9 := hP.sub (ws' := [(f, .inr (2, [.ref f_kinds, .ref f_signs, .ref f_sizes, .ref f_places, .ref f_limits, .ref f_starts, .ref f_sorts, .int u_2, .int f_sections, .int f_fifth])), (f_kinds, .inl (cI, 255, .inl u_3)), (f_signs, .inl (cI, 255, .inl u_4)), (f_sizes, .inl (cI, 255, .inl u_5)), (f_places, .inl (cI, 255, .inl u_6)), (f_limits, .inl (cD, 255, .inr (.inr (.inr (.inl u_7)))))]) [0, 1, 2, 3, 4, 5] rfl
    have hD9 := hD.sub (ws' := [(f, .inr (2, [.ref f_kinds, .ref f_signs, .ref f_sizes, .ref f_places, .ref f_limits, .ref f_starts, .ref f_sorts, .int u_2, .int f_sections, .int f_fifth])), (f_kinds, .inl (cI, 255, .inl u_3)), (f_signs, .inl (cI, 255, .inl u_4)), (f_sizes, .inl (cI, 255, .inl u_5)), (f_places, .inl (cI, 255, .inl u_6)), (f_limits, .inl (cD, 255, .inr (.inr (.inr (.inl u_7)))))]) [0, 1, 2, 3, 4, 5] (by decide) rfl
    exact W.vret hx hb hr (fun t ht hW => ⟨⟨(u_2, u_3, u_4, u_5, u_6, u_7), rfl, (by (try dsimp only); refine ⟨?_, ?_⟩ <;> first | omega | assumption), by rw [ht]; exact hP9, va_K.moved hW.alike hK, hD9⟩, hS.F ht⟩) hS.2.2 dX2_addCondition_39
  · have ic_8 : ¬ ((f_count : Int32).toInt < (0 : Int32).toInt) := fun h9 => c_8 ((fa_lt f_count 0).mpr h9)
    refine lv_iload hx hb dX2_addCondition_21 (lv_at hl 0 rfl) ?_
    refine lv_aload_n hx hb dX2_addCondition_23 rfl (lv_at hl 1 rfl) ?_
    refine va_get (D := D) (ci := 2) (v := .ref f_limits) (C := RX2) (T := TX2) (N := 10) hx hb hts iX2 hown hK hP 0 rfl rfl 4 (by decide) (hw 5 (.fieldLink RX2 24 "NumberFormats$Format" "limits" "[D") rfl) (fun _ h9 => h9) rfl dX2_addCondition_24 ?_
    refine va_alen hx hb hK hP 5 1 rfl rfl (v := 255) rfl dX2_addCondition_27 ?_
    refine lv_icmp_ge (tgt := 39) hx hb dX2_addCondition_28 (by decide) (fun c_9 => ?_) (fun c_9 => ?_)
    · have ic_9 : (255 : Int32).toInt ≤ (f_count : Int32).toInt := (fa_le 255 f_count).mp c_9
      have hP9 := hP.sub (ws' := [(f, .inr (2, [.ref f_kinds, .ref f_signs, .ref f_sizes, .ref f_places, .ref f_limits, .ref f_starts, .ref f_sorts, .int u_2, .int f_sections, .int f_fifth])), (f_kinds, .inl (cI, 255, .inl u_3)), (f_signs, .inl (cI, 255, .inl u_4)), (f_sizes, .inl (cI, 255, .inl u_5)), (f_places, .inl (cI, 255, .inl u_6)), (f_limits, .inl (cD, 255, .inr (.inr (.inr (.inl u_7)))))]) [0, 1, 2, 3, 4, 5] rfl
      have hD9 := hD.sub (ws' := [(f, .inr (2, [.ref f_kinds, .ref f_signs, .ref f_sizes, .ref f_places, .ref f_limits, .ref f_starts, .ref f_sorts, .int u_2, .int f_sections, .int f_fifth])), (f_kinds, .inl (cI, 255, .inl u_3)), (f_signs, .inl (cI, 255, .inl u_4)), (f_sizes, .inl (cI, 255, .inl u_5)), (f_places, .inl (cI, 255, .inl u_6)), (f_limits, .inl (cD, 255, .inr (.inr (.inr (.inl u_7)))))]) [0, 1, 2, 3, 4, 5] (by decide) rfl
      exact W.vret hx hb hr (fun t ht hW => ⟨⟨(u_2, u_3, u_4, u_5, u_6, u_7), rfl, (by (try dsimp only); refine ⟨?_, ?_⟩ <;> first | omega | assumption), by rw [ht]; exact hP9, va_K.moved hW.alike hK, hD9⟩, hS.F ht⟩) hS.2.2 dX2_addCondition_39
    · have ic_9 : ¬ ((255 : Int32).toInt ≤ (f_count : Int32).toInt) := fun h9 => c_9 ((fa_le 255 f_count).mpr h9)
      refine lv_aload_n hx hb dX2_addCondition_31 rfl (lv_at hl 1 rfl) ?_
      refine va_get (D := D) (ci := 2) (v := .ref f_limits) (C := RX2) (T := TX2) (N := 10) hx hb hts iX2 hown hK hP 0 rfl rfl 4 (by decide) (hw 5 (.fieldLink RX2 24 "NumberFormats$Format" "limits" "[D") rfl) (fun _ h9 => h9) rfl dX2_addCondition_32 ?_
      refine lv_iload hx hb dX2_addCondition_35 (lv_at hl 0 rfl) ?_
      refine lv_dload_n hx hb dX2_addCondition_37 rfl (lv_at hl 3 rfl) ?_
      have h_38 : vp_in f_count 255 := by rw [vp_in_iff]; omega
      refine va_dast hx hb hK hP hD hS 5 1 rfl rfl h_38 dX2_addCondition_38 (fun H locs hP hD hS => ?_)
      obtain ⟨f_10, ef_10⟩ : ∃ y : Nat → UInt64, y = vf_upd u_7 (f_count : Int32).toNatClampNeg p2 := ⟨_, rfl⟩
      rw [← ef_10] at hP hD
      have hP : va_P D vwCl [(f, .inr (2, [.ref f_kinds, .ref f_signs, .ref f_sizes, .ref f_places, .ref f_limits, .ref f_starts, .ref f_sorts, .int u_2, .int f_sections, .int f_fifth])), (f_kinds, .inl (cI, 255, .inl u_3)), (f_signs, .inl (cI, 255, .inl u_4)), (f_sizes, .inl (cI, 255, .inl u_5)), (f_places, .inl (cI, 255, .inl u_6)), (f_limits, .inl (cD, 255, .inr (.inr (.inr (.inl f_10)))))] H := hP
      have hD : va_D A [(f, .inr (2, [.ref f_kinds, .ref f_signs, .ref f_sizes, .ref f_places, .ref f_limits, .ref f_starts, .ref f_sorts, .int u_2, .int f_sections, .int f_fifth])), (f_kinds, .inl (cI, 255, .inl u_3)), (f_signs, .inl (cI, 255, .inl u_4)), (f_sizes, .inl (cI, 255, .inl u_5)), (f_places, .inl (cI, 255, .inl u_6)), (f_limits, .inl (cD, 255, .inr (.inr (.inr (.inl f_10)))))] := hD
      have hP9 := hP.sub (ws' := [(f, .inr (2, [.ref f_kinds, .ref f_signs, .ref f_sizes, .ref f_places, .ref f_limits, .ref f_starts, .ref f_sorts, .int u_2, .int f_sections, .int f_fifth])), (f_kinds, .inl (cI, 255, .inl u_3)), (f_signs, .inl (cI, 255, .inl u_4)), (f_sizes, .inl (cI, 255, .inl u_5)), (f_places, .inl (cI, 255, .inl u_6)), (f_limits, .inl (cD, 255, .inr (.inr (.inr (.inl f_10)))))]) [0, 1, 2, 3, 4, 5] rfl
      have hD9 := hD.sub (ws' := [(f, .inr (2, [.ref f_kinds, .ref f_signs, .ref f_sizes, .ref f_places, .ref f_limits, .ref f_starts, .ref f_sorts, .int u_2, .int f_sections, .int f_fifth])), (f_kinds, .inl (cI, 255, .inl u_3)), (f_signs, .inl (cI, 255, .inl u_4)), (f_sizes, .inl (cI, 255, .inl u_5)), (f_places, .inl (cI, 255, .inl u_6)), (f_limits, .inl (cD, 255, .inr (.inr (.inr (.inl f_10)))))]) [0, 1, 2, 3, 4, 5] (by decide) rfl
      exact W.vret hx hb hr (fun t ht hW => ⟨⟨(u_2, u_3, u_4, u_5, u_6, f_10), rfl, (by (try dsimp only); refine ⟨?_, ?_⟩ <;> first | omega | assumption), by rw [ht]; exact hP9, va_K.moved hW.alike hK, hD9⟩, hS.F ht⟩) hS.2.2 dX2_addCondition_39

