def ow_X8_mostOf : List Cond := []
def pw_X8_mostOf : List Cond := Cond.code yX8_mostOf cX8_mostOf 1 (some .int) :: (ow_X8_mostOf)
set_option maxRecDepth 20000 in
theorem mo_X8_mostOf : ∀ w ∈ ow_X8_mostOf, w ∈ lw_tbl := by decide +kernel
set_option maxRecDepth 20000 in
theorem mc_X8_mostOf : Cond.code yX8_mostOf cX8_mostOf 1 (some .int) ∈ lw_tbl := by decide +kernel
theorem m_X8_mostOf : ∀ w ∈ pw_X8_mostOf, w ∈ lw_tbl := List.forall_mem_cons.mpr ⟨mc_X8_mostOf, mo_X8_mostOf⟩
theorem ko_X8_mostOf : ∀ w ∈ ow_X8_mostOf, goodWord w = true := by decide +kernel
theorem k_X8_mostOf : pw_X8_mostOf.all goodWord = true := List.all_eq_true.mpr (List.forall_mem_cons.mpr ⟨by decide +kernel, ko_X8_mostOf⟩)
set_option maxHeartbeats 400000 in
set_option maxRecDepth 100000 in
theorem c_X8_mostOf (l : Launch) (D : va_G) (cI cD cJ : ClassId) (sz : Nat) (p1 : Int32) : Met l yX8_mostOf pw_X8_mostOf ({ frames := 0, cells := 0, slots := 0, locals := 0 }) (va_Pc [.int p1] (fun U => va_P D vwCl [] U.heap ∧ va_K D vwCl (ty3 cI cD cJ) U)) (va_Qi (fun (r : Int32) (u : Unit) => True) (fun _ _ => True) (fun _ => False)) 0 0 (fun _ => False) := by
  refine Met.ofW (cc := cX8_mostOf) (maxL := 1) (ret := (some .int)) (by decide +kernel) rfl ?_
  intro p e s m args below meth c s₁ B hml hv
  obtain ⟨rfl, hP, hK⟩ := hv
  have hx := B.exec
  have hb := B.bytes
  have hr := B.returns
  have hts := atoms_spec (ws := pw_X8_mostOf) B.pre
  have hown : s.vm.findClass RX8 = some m.cls := findClass_of_methodNamed B.named
  have hlocks := B.notSynchronized
  have hS : va_S (fun _ => False) s.heap s.heap [] := va_S.rf
  have hw : ∀ (k : Nat) (w : Cond), ow_X8_mostOf[k]? = some w → w.before _ s = true := fun k w h => hts w (List.mem_cons_of_mem _ (have h9 := List.mem_of_getElem? h; h9))
  have n_2 : ((2 : Int32)).toInt = 2 := by decide
  have n_4 : ((4 : Int32)).toInt = 4 := by decide
  have n_5 : ((5 : Int32)).toInt = 5 := by decide
  have hl := lv_entry ([.int p1]) (n := 1) (Nat.le_of_ble_eq_true rfl)
  rw [lg_entry_eq]
  generalize (lg_sl ([.int p1]) ++ List.replicate (1 - (lg_sl ([.int p1])).length) Slot.unset).toArray = ls at hl ⊢
  have hl : lv_has ls 1 [(0, .int p1)] := hl
  have b_p1 := ti_b p1
  refine lv_iload_n hx hb dX8_mostOf_0 rfl (lv_at hl 0 rfl) ?_
  rcases (show (p1 : Int32).toInt = 104 ∨ (p1 : Int32).toInt = 109 ∨ (p1 : Int32).toInt = 115 ∨ (¬ 104 = (p1 : Int32).toInt ∧ ¬ 109 = (p1 : Int32).toInt ∧ ¬ 115 = (p1 : Int32).toInt) by omega) with v_1 | v_1 | v_1 | v_1
  · refine lv_lookup (off := 37) (tgt := 38) hx hb dX8_mostOf_1 (by decide +kernel) (by rw [v_1]; rfl) (by decide) ?_
    refine lv_iconst (v := 2) hx hb dX8_mostOf_38 (by decide) ?_
    exact W.iret (v := 2) hx hb hr (fun t ht hW => ⟨⟨2, (), rfl, trivial, trivial⟩, hS.F ht⟩) hS.2.2 dX8_mostOf_39
  · refine lv_lookup (off := 35) (tgt := 36) hx hb dX8_mostOf_1 (by decide +kernel) (by rw [v_1]; rfl) (by decide) ?_
    refine lv_iconst (v := 5) hx hb dX8_mostOf_36 (by decide) ?_
    exact W.iret (v := 5) hx hb hr (fun t ht hW => ⟨⟨5, (), rfl, trivial, trivial⟩, hS.F ht⟩) hS.2.2 dX8_mostOf_37
  · refine lv_lookup (off := 37) (tgt := 38) hx hb dX8_mostOf_1 (by decide +kernel) (by rw [v_1]; rfl) (by decide) ?_
    refine lv_iconst (v := 2) hx hb dX8_mostOf_38 (by decide) ?_
    exact W.iret (v := 2) hx hb hr (fun t ht hW => ⟨⟨2, (), rfl, trivial, trivial⟩, hS.F ht⟩) hS.2.2 dX8_mostOf_39
  · obtain ⟨v_1_0, v_1_1, v_1_2⟩ := v_1
    refine lv_lookup (off := 39) (tgt := 40) hx hb dX8_mostOf_1 (by decide +kernel) (by rw [Op.lookupswitch.offset_cons, if_neg v_1_0]; rw [Op.lookupswitch.offset_cons, if_neg v_1_1]; rw [Op.lookupswitch.offset_cons, if_neg v_1_2];  rfl) (by decide) ?_
    refine lv_iconst (v := 4) hx hb dX8_mostOf_40 (by decide) ?_
    exact W.iret (v := 4) hx hb hr (fun t ht hW => ⟨⟨4, (), rfl, trivial, trivial⟩, hS.F ht⟩) hS.2.2 dX8_mostOf_41

def ow_X8_bad : List Cond := [Cond.methodLink RX8 29 yX10_at, Cond.instanceMethod yX10_at, Cond.selects RX10 yX10_at yX10_at, Cond.initialized RX10, Cond.methodLink RX8 58 yX2_add, Cond.instanceMethod yX2_add, Cond.selects RX2 yX2_add yX2_add, Cond.initialized RX2]
def pw_X8_bad : List Cond := Cond.code yX8_bad cX8_bad 4 (some .int) :: (ow_X8_bad ++ (pw_X10_at ++ (pw_X2_add)))
set_option maxRecDepth 20000 in
theorem mo_X8_bad : ∀ w ∈ ow_X8_bad, w ∈ lw_tbl := by decide +kernel
set_option maxRecDepth 20000 in
theorem mc_X8_bad : Cond.code yX8_bad cX8_bad 4 (some .int) ∈ lw_tbl := by decide +kernel
theorem m_X8_bad : ∀ w ∈ pw_X8_bad, w ∈ lw_tbl := List.forall_mem_cons.mpr ⟨mc_X8_bad, (List.forall_mem_append.mpr ⟨mo_X8_bad, (List.forall_mem_append.mpr ⟨m_X10_at, m_X2_add⟩)⟩)⟩
theorem ko_X8_bad : ∀ w ∈ ow_X8_bad, goodWord w = true := by decide +kernel
theorem k_X8_bad : pw_X8_bad.all goodWord = true := List.all_eq_true.mpr (List.forall_mem_cons.mpr ⟨by decide +kernel, (List.forall_mem_append.mpr ⟨ko_X8_bad, (List.forall_mem_append.mpr ⟨(List.all_eq_true.mp k_X10_at), (List.all_eq_true.mp k_X2_add)⟩)⟩)⟩)
set_option maxHeartbeats 400000 in
set_option maxRecDepth 100000 in
theorem c_X8_bad (l : Launch) (D : va_G) (cI cD cJ : ClassId) (sz : Nat) (x : Nat) (x_signs : Nat) (x_length : Int32) (x_signsF : Nat → Int32) (f : Nat) (f_kinds : Nat) (f_signs : Nat) (f_sizes : Nat) (f_places : Nat) (f_limits : Nat) (f_starts : Nat) (f_sorts : Nat) (f_count : Int32) (f_sections : Int32) (f_fifth : Int32) (f_kindsF : Nat → Int32) (f_signsF : Nat → Int32) (f_sizesF : Nat → Int32) (f_placesF : Nat → Int32) (f_limitsF : Nat → UInt64) (p1 : Int32) (p2 : Int32) (iv_x_length : 0 ≤ (x_length : Int32).toInt ∧ (x_length : Int32).toInt ≤ 255) (iv_x_signsF : ∀ k9 : Nat, k9 < 255 → 0 ≤ (x_signsF k9).toInt ∧ (x_signsF k9).toInt ≤ 255) (iv_f_count : 0 ≤ (f_count : Int32).toInt ∧ (f_count : Int32).toInt ≤ 255) (iv_f_sections : 0 ≤ (f_sections : Int32).toInt ∧ (f_sections : Int32).toInt ≤ 4) (iv_f_sizesF : ∀ k9 : Nat, k9 < 255 → (f_sizesF k9).toInt ≤ 100000) : Met l yX8_bad pw_X8_bad ({ frames := 1, cells := 0, slots := 0, locals := 24 }) (va_Pc [.ref x, .ref f, .int p1, .int p2] (fun U => U.heap.size = sz ∧ va_P D vwCl [(x, .inr (7, [.ref x_signs, .int x_length])), (x_signs, .inl (cI, 255, .inl x_signsF)), (f, .inr (2, [.ref f_kinds, .ref f_signs, .ref f_sizes, .ref f_places, .ref f_limits, .ref f_starts, .ref f_sorts, .int f_count, .int f_sections, .int f_fifth])), (f_kinds, .inl (cI, 255, .inl f_kindsF)), (f_signs, .inl (cI, 255, .inl f_signsF)), (f_sizes, .inl (cI, 255, .inl f_sizesF)), (f_places, .inl (cI, 255, .inl f_placesF)), (f_limits, .inl (cD, 255, .inr (.inr (.inr (.inl f_limitsF)))))] U.heap ∧ va_K D vwCl (ty3 cI cD cJ) U ∧ va_D (fun _ => True) [(x, .inr (7, [.ref x_signs, .int x_length])), (x_signs, .inl (cI, 255, .inl x_signsF)), (f, .inr (2, [.ref f_kinds, .ref f_signs, .ref f_sizes, .ref f_places, .ref f_limits, .ref f_starts, .ref f_sorts, .int f_count, .int f_sections, .int f_fifth])), (f_kinds, .inl (cI, 255, .inl f_kindsF)), (f_signs, .inl (cI, 255, .inl f_signsF)), (f_sizes, .inl (cI, 255, .inl f_sizesF)), (f_places, .inl (cI, 255, .inl f_placesF)), (f_limits, .inl (cD, 255, .inr (.inr (.inr (.inl f_limitsF)))))])) (va_Qi (fun (r : Int32) (u : Int32 × (Nat → Int32) × (Nat → Int32) × (Nat → Int32) × (Nat → Int32) × (Nat → UInt64)) => match u with | (f_count2, f_kindsF2, f_signsF2, f_sizesF2, f_placesF2, f_limitsF2) => (r.toInt = p2.toInt) ∧ (0 ≤ (f_count2 : Int32).toInt ∧ (f_count2 : Int32).toInt ≤ 255) ∧ (∀ k9 : Nat, k9 < 255 → (f_sizesF2 k9).toInt ≤ 100000)) (fun (u : Int32 × (Nat → Int32) × (Nat → Int32) × (Nat → Int32) × (Nat → Int32) × (Nat → UInt64)) (t : State) => match u with | (f_count2, f_kindsF2, f_signsF2, f_sizesF2, f_placesF2, f_limitsF2) => va_P D vwCl [(x, .inr (7, [.ref x_signs, .int x_length])), (x_signs, .inl (cI, 255, .inl x_signsF)), (f, .inr (2, [.ref f_kinds, .ref f_signs, .ref f_sizes, .ref f_places, .ref f_limits, .ref f_starts, .ref f_sorts, .int f_count2, .int f_sections, .int f_fifth])), (f_kinds, .inl (cI, 255, .inl f_kindsF2)), (f_signs, .inl (cI, 255, .inl f_signsF2)), (f_sizes, .inl (cI, 255, .inl f_sizesF2)), (f_places, .inl (cI, 255, .inl f_placesF2)), (f_limits, .inl (cD, 255, .inr (.inr (.inr (.inl f_limitsF2)))))] t.heap ∧ va_K D vwCl (ty3 cI cD cJ) t ∧ va_D (va_A [(x, .inr (7, [.ref x_signs, .int x_length])), (x_signs, .inl (cI, 255, .inl x_signsF)), (f, .inr (2, [.ref f_kinds, .ref f_signs, .ref f_sizes, .ref f_places, .ref f_limits, .ref f_starts, .ref f_sorts, .int f_count, .int f_sections, .int f_fifth])), (f_kinds, .inl (cI, 255, .inl f_kindsF)), (f_signs, .inl (cI, 255, .inl f_signsF)), (f_sizes, .inl (cI, 255, .inl f_sizesF)), (f_places, .inl (cI, 255, .inl f_placesF)), (f_limits, .inl (cD, 255, .inr (.inr (.inr (.inl f_limitsF)))))] sz) [(x, .inr (7, [.ref x_signs, .int x_length])), (x_signs, .inl (cI, 255, .inl x_signsF)), (f, .inr (2, [.ref f_kinds, .ref f_signs, .ref f_sizes, .ref f_places, .ref f_limits, .ref f_starts, .ref f_sorts, .int f_count2, .int f_sections, .int f_fifth])), (f_kinds, .inl (cI, 255, .inl f_kindsF2)), (f_signs, .inl (cI, 255, .inl f_signsF2)), (f_sizes, .inl (cI, 255, .inl f_sizesF2)), (f_places, .inl (cI, 255, .inl f_placesF2)), (f_limits, .inl (cD, 255, .inr (.inr (.inr (.inl f_limitsF2)))))]) (va_A [(x, .inr (7, [.ref x_signs, .int x_length])), (x_signs, .inl (cI, 255, .inl x_signsF)), (f, .inr (2, [.ref f_kinds, .ref f_signs, .ref f_sizes, .ref f_places, .ref f_limits, .ref f_starts, .ref f_sorts, .int f_count, .int f_sections, .int f_fifth])), (f_kinds, .inl (cI, 255, .inl f_kindsF)), (f_signs, .inl (cI, 255, .inl f_signsF)), (f_sizes, .inl (cI, 255, .inl f_sizesF)), (f_places, .inl (cI, 255, .inl f_placesF)), (f_limits, .inl (cD, 255, .inr (.inr (.inr (.inl f_limitsF)))))] sz)) 0 0 (va_A [(x, .inr (7, [.ref x_signs, .int x_length])), (x_signs, .inl (cI, 255, .inl x_signsF)), (f, .inr (2, [.ref f_kinds, .ref f_signs, .ref f_sizes, .ref f_places, .ref f_limits, .ref f_starts, .ref f_sorts, .int f_count, .int f_sections, .int f_fifth])), (f_kinds, .inl (cI, 255, .inl f_kindsF)), (f_signs, .inl (cI, 255, .inl f_signsF)), (f_sizes, .inl (cI, 255, .inl f_sizesF)), (f_places, .inl (cI, 255, .inl f_placesF)), (f_limits, .inl (cD, 255, .inr (.inr (.inr (.inl f_limitsF)))))] sz) := by
  refine Met.ofW (cc := cX8_bad) (maxL := 4) (ret := (some .int)) (by decide +kernel) rfl ?_
  intro p e s m args below meth c s₁ B hml hv
  obtain ⟨rfl, hsz, hP, hK, hD0⟩ := hv
  have hx := B.exec
  have hb := B.bytes
  have hr := B.returns
  have hts := atoms_spec (ws := pw_X8_bad) B.pre
  have hown : s.vm.findClass RX8 = some m.cls := findClass_of_methodNamed B.named
  have hlocks := B.notSynchronized
  subst hsz
  have hD := hD0.self (sz := s.heap.size)
  generalize hAe : va_A [(x, .inr (7, [.ref x_signs, .int x_length])), (x_signs, .inl (cI, 255, .inl x_signsF)), (f, .inr (2, [.ref f_kinds, .ref f_signs, .ref f_sizes, .ref f_places, .ref f_limits, .ref f_starts, .ref f_sorts, .int f_count, .int f_sections, .int f_fifth])), (f_kinds, .inl (cI, 255, .inl f_kindsF)), (f_signs, .inl (cI, 255, .inl f_signsF)), (f_sizes, .inl (cI, 255, .inl f_sizesF)), (f_places, .inl (cI, 255, .inl f_placesF)), (f_limits, .inl (cD, 255, .inr (.inr (.inr (.inl f_limitsF)))))] s.heap.size = A at hD ⊢
  have hA : ∀ q : Nat, s.heap.size ≤ q → A q := fun q h => by rw [← hAe]; exact Or.inr h
  have hS : va_S A s.heap s.heap [] := va_S.rf
  have hw : ∀ (k : Nat) (w : Cond), ow_X8_bad[k]? = some w → w.before _ s = true := fun k w h => hts w (List.mem_cons_of_mem _ (have h9 := List.mem_of_getElem? h; List.mem_append_left _ h9))
  have i_X10_at : ∀ w ∈ pw_X10_at, w ∈ pw_X8_bad := fun w h9 => List.mem_cons_of_mem _ (List.mem_append_right _ (List.mem_append_left _ h9))
  have i_X2_add : ∀ w ∈ pw_X2_add, w ∈ pw_X8_bad := fun w h9 => List.mem_cons_of_mem _ (List.mem_append_right _ (List.mem_append_right _ (h9)))
  have n_0 : ((0 : Int32)).toInt = 0 := by decide
  have hl := lv_entry ([.ref x, .ref f, .int p1, .int p2]) (n := 4) (Nat.le_of_ble_eq_true rfl)
  rw [lg_entry_eq]
  generalize (lg_sl ([.ref x, .ref f, .int p1, .int p2]) ++ List.replicate (4 - (lg_sl ([.ref x, .ref f, .int p1, .int p2])).length) Slot.unset).toArray = ls at hl ⊢
  have hl : lv_has ls 4 [(0, .ref x), (1, .ref f), (2, .int p1), (3, .int p2)] := hl
  have b_p1 := ti_b p1
  have b_p2 := ti_b p2
  refine lv_aload_n hx hb dX8_bad_0 rfl (lv_at hl 1 rfl) ?_
  refine lv_iconst (v := 0) hx hb dX8_bad_1 (by decide) ?_
  refine lv_aload_n hx hb dX8_bad_2 rfl (lv_at hl 0 rfl) ?_
  refine lv_iload_n hx hb dX8_bad_3 rfl (lv_at hl 2 rfl) ?_
  have hPc := hP.sub (ws' := [(x, .inr (7, [.ref x_signs, .int x_length])), (x_signs, .inl (cI, 255, .inl x_signsF))]) [0, 1] rfl
  refine va_calli (va_runV (As := [.int p1]) (rest := [.int 0, .ref f]) ⟨hx, hb, hml, hown, hts⟩ (c_X10_at l D cI cD cJ s.heap.size x x_signs x_length x_signsF p1 (by omega) (by assumption)) (cwV 1 hts (goodIn_app (goodIn_r _ [1, 2, 3, 4] rfl (by decide +kernel)) (goodIn_sub i_X10_at k_X10_at)) rfl rfl rfl (by decide +kernel) ⟨Nat.le_of_ble_eq_true rfl, Nat.le_of_ble_eq_true rfl⟩) ⟨fun a U g mk q => by obtain ⟨q0, qP, qK⟩ := q; exact ⟨q0, qP, va_K.moved (u := U) (U := U.calling g mk a) (Vm.Alike.refl U.vm) qK⟩, va_recv hK hPc (ci := 7) (q0 := 0) rfl rfl, fun U hU hW => ⟨rfl, by rw [hU]; exact hPc, va_K.moved hW.alike hK⟩⟩ rfl rfl hl.1 rfl (lv_room (Nat.le_of_ble_eq_true rfl)) dX8_bad_4 ⟨Nat.le_of_ble_eq_true rfl, Nat.le_of_ble_eq_true rfl⟩) hS (fun q _ h => h.elim) (fun q h => h.elim) (fun x_1 u t H1 locs ht hvm w_2 hB hz1 hk1 hS => ?_)
  have hP : va_P D vwCl [(x, .inr (7, [.ref x_signs, .int x_length])), (x_signs, .inl (cI, 255, .inl x_signsF)), (f, .inr (2, [.ref f_kinds, .ref f_signs, .ref f_sizes, .ref f_places, .ref f_limits, .ref f_starts, .ref f_sorts, .int f_count, .int f_sections, .int f_fifth])), (f_kinds, .inl (cI, 255, .inl f_kindsF)), (f_signs, .inl (cI, 255, .inl f_signsF)), (f_sizes, .inl (cI, 255, .inl f_sizesF)), (f_places, .inl (cI, 255, .inl f_placesF)), (f_limits, .inl (cD, 255, .inr (.inr (.inr (.inl f_limitsF)))))] H1 := hP.kept (fun k9 q9 h9 => hk1 q9.1 (vx_lt hP h9) (fun h => h))
  generalize H1 = H at hP hS ⊢
  try dsimp only at w_2
  refine lv_iconst (v := 0) hx hb dX8_bad_7 (by decide) ?_
  refine lv_iload_n hx hb dX8_bad_8 rfl (lv_at hl 2 rfl) ?_
  have hPc := hP.sub (ws' := [(f, .inr (2, [.ref f_kinds, .ref f_signs, .ref f_sizes, .ref f_places, .ref f_limits, .ref f_starts, .ref f_sorts, .int f_count, .int f_sections, .int f_fifth])), (f_kinds, .inl (cI, 255, .inl f_kindsF)), (f_signs, .inl (cI, 255, .inl f_signsF)), (f_sizes, .inl (cI, 255, .inl f_sizesF)), (f_places, .inl (cI, 255, .inl f_placesF)), (f_limits, .inl (cD, 255, .inr (.inr (.inr (.inl f_limitsF)))))]) [2, 3, 4, 5, 6, 7] rfl
  have hDc := hD.sub (ws' := [(f, .inr (2, [.ref f_kinds, .ref f_signs, .ref f_sizes, .ref f_places, .ref f_limits, .ref f_starts, .ref f_sorts, .int f_count, .int f_sections, .int f_fifth])), (f_kinds, .inl (cI, 255, .inl f_kindsF)), (f_signs, .inl (cI, 255, .inl f_signsF)), (f_sizes, .inl (cI, 255, .inl f_sizesF)), (f_places, .inl (cI, 255, .inl f_placesF)), (f_limits, .inl (cD, 255, .inr (.inr (.inr (.inl f_limitsF)))))]) [2, 3, 4, 5, 6, 7] (by decide) rfl
  have hFc := va_free (wc := [(f, .inr (2, [.ref f_kinds, .ref f_signs, .ref f_sizes, .ref f_places, .ref f_limits, .ref f_starts, .ref f_sorts, .int f_count, .int f_sections, .int f_fifth])), (f_kinds, .inl (cI, 255, .inl f_kindsF)), (f_signs, .inl (cI, 255, .inl f_signsF)), (f_sizes, .inl (cI, 255, .inl f_sizesF)), (f_places, .inl (cI, 255, .inl f_placesF)), (f_limits, .inl (cD, 255, .inr (.inr (.inr (.inl f_limitsF)))))]) hD hS hA [2, 3, 4, 5, 6, 7] rfl
  refine va_callv (va_runV (As := [.int 0, .int x_1, .int 0, .int p1]) (rest := []) ⟨hx, hb, hml, hown, hts⟩ (c_X2_add l D cI cD cJ H.size f f_kinds f_signs f_sizes f_places f_limits f_starts f_sorts f_count f_sections f_fifth f_kindsF f_signsF f_sizesF f_placesF f_limitsF 0 x_1 0 p1 (by omega) (by omega) (by omega) (by assumption)) (cwV 4 hts (goodIn_app (goodIn_r _ [5, 6, 7, 8] rfl (by decide +kernel)) (goodIn_sub i_X2_add k_X2_add)) rfl rfl rfl (by decide +kernel) ⟨Nat.le_of_ble_eq_true rfl, Nat.le_of_ble_eq_true rfl⟩) ⟨fun a U g mk q => by obtain ⟨q0, q1, qP, qK, qD⟩ := q; exact ⟨q0, q1, qP, va_K.moved (u := U) (U := U.calling g mk a) (Vm.Alike.refl U.vm) qK, qD⟩, va_recv hK hPc (ci := 2) (q0 := 0) rfl rfl, fun U hU hW => ⟨rfl, by rw [hU], by rw [hU]; exact hPc, va_K.moved hW.alike hK, hDc.weaken (fun _ _ _ _ => trivial)⟩⟩ rfl rfl hl.1 rfl (lv_room (Nat.le_of_ble_eq_true rfl)) dX8_bad_9 ⟨Nat.le_of_ble_eq_true rfl, Nat.le_of_ble_eq_true rfl⟩) hS (fun q _ h => hFc q h) hFc (fun u t H1 locs ht hvm w_3 hB hz1 hk1 hS => ?_)
  obtain ⟨u_4, u_5, u_6, u_7, u_8, u_9⟩ := u
  obtain ⟨hP1, hK1, hD1⟩ := hB
  rw [ht] at hP1
  try dsimp only at w_3
  obtain ⟨hP, hD⟩ := va_join (wr := [(x, .inr (7, [.ref x_signs, .int x_length])), (x_signs, .inl (cI, 255, .inl x_signsF))]) (w1 := [(f, .inr (2, [.ref f_kinds, .ref f_signs, .ref f_sizes, .ref f_places, .ref f_limits, .ref f_starts, .ref f_sorts, .int u_4, .int f_sections, .int f_fifth])), (f_kinds, .inl (cI, 255, .inl u_5)), (f_signs, .inl (cI, 255, .inl u_6)), (f_sizes, .inl (cI, 255, .inl u_7)), (f_places, .inl (cI, 255, .inl u_8)), (f_limits, .inl (cD, 255, .inr (.inr (.inr (.inl u_9)))))]) hP hD [2, 3, 4, 5, 6, 7] [0, 1] rfl rfl (by decide) (by decide) hk1 hFc hP1 hD1
  generalize H1 = H at hP hS ⊢
  have hP : va_P D vwCl [(x, .inr (7, [.ref x_signs, .int x_length])), (x_signs, .inl (cI, 255, .inl x_signsF)), (f, .inr (2, [.ref f_kinds, .ref f_signs, .ref f_sizes, .ref f_places, .ref f_limits, .ref f_starts, .ref f_sorts, .int u_4, .int f_sections, .int f_fifth])), (f_kinds, .inl (cI, 255, .inl u_5)), (f_signs, .inl (cI, 255, .inl u_6)), (f_sizes, .inl (cI, 255, .inl u_7)), (f_places, .inl (cI, 255, .inl u_8)), (f_limits, .inl (cD, 255, .inr (.inr (.inr (.inl u_9)))))] H := hP
  have hD : va_D A [(x, .inr (7, [.ref x_signs, .int x_length])), (x_signs, .inl (cI, 255, .inl x_signsF)), (f, .inr (2, [.ref f_kinds, .ref f_signs, .ref f_sizes, .ref f_places, .ref f_limits, .ref f_starts, .ref f_sorts, .int u_4, .int f_sections, .int f_fifth])), (f_kinds, .inl (cI, 255, .inl u_5)), (f_signs, .inl (cI, 255, .inl u_6)), (f_sizes, .inl (cI, 255, .inl u_7)), (f_places, .inl (cI, 255, .inl u_8)), (f_limits, .inl (cD, 255, .inr (.inr (.inr (.inl u_9)))))] := hD
  obtain ⟨w_3_0, w_3_1⟩ := w_3
  refine lv_iload_n hx hb dX8_bad_12 rfl (lv_at hl 3 rfl) ?_
  have hP9 := hP.sub (ws' := [(x, .inr (7, [.ref x_signs, .int x_length])), (x_signs, .inl (cI, 255, .inl x_signsF)), (f, .inr (2, [.ref f_kinds, .ref f_signs, .ref f_sizes, .ref f_places, .ref f_limits, .ref f_starts, .ref f_sorts, .int u_4, .int f_sections, .int f_fifth])), (f_kinds, .inl (cI, 255, .inl u_5)), (f_signs, .inl (cI, 255, .inl u_6)), (f_sizes, .inl (cI, 255, .inl u_7)), (f_places, .inl (cI, 255, .inl u_8)), (f_limits, .inl (cD, 255, .inr (.inr (.inr (.inl u_9)))))]) [0, 1, 2, 3, 4, 5, 6, 7] rfl
  have hD9 := hD.sub (ws' := [(x, .inr (7, [.ref x_signs, .int x_length])), (x_signs, .inl (cI, 255, .inl x_signsF)), (f, .inr (2, [.ref f_kinds, .ref f_signs, .ref f_sizes, .ref f_places, .ref f_limits, .ref f_starts, .ref f_sorts, .int u_4, .int f_sections, .int f_fifth])), (f_kinds, .inl (cI, 255, .inl u_5)), (f_signs, .inl (cI, 255, .inl u_6)), (f_sizes, .inl (cI, 255, .inl u_7)), (f_places, .inl (cI, 255, .inl u_8)), (f_limits, .inl (cD, 255, .inr (.inr (.inr (.inl u_9)))))]) [0, 1, 2, 3, 4, 5, 6, 7] (by decide) rfl
  exact W.iret (v := p2) hx hb hr (fun t ht hW => ⟨⟨p2, (u_4, u_5, u_6, u_7, u_8, u_9), rfl, (by (try dsimp only); refine ⟨?_, ?_, ?_⟩ <;> first | omega | assumption), by rw [ht]; exact hP9, va_K.moved hW.alike hK, hD9⟩, hS.F ht⟩) hS.2.2 dX8_bad_13

def ow_X8_quoted : List Cond := [Cond.methodLink RX8 69 yX10_find, Cond.instanceMethod yX10_find, Cond.selects RX10 yX10_find yX10_find, Cond.initialized RX10, Cond.methodLink RX8 29 yX10_at, Cond.instanceMethod yX10_at, Cond.selects RX10 yX10_at yX10_at, Cond.methodLink RX8 58 yX2_add, Cond.instanceMethod yX2_add, Cond.selects RX2 yX2_add yX2_add, Cond.initialized RX2, Cond.methodLink RX8 73 yX8_bad, Cond.static yX8_bad, Cond.initialized RX8]
def pw_X8_quoted : List Cond := Cond.code yX8_quoted cX8_quoted 5 (some .int) :: (ow_X8_quoted ++ (pw_X10_find ++ (pw_X10_at ++ (pw_X2_add ++ (pw_X8_bad)))))
set_option maxRecDepth 20000 in
theorem mo_X8_quoted : ∀ w ∈ ow_X8_quoted, w ∈ lw_tbl := by decide +kernel
set_option maxRecDepth 20000 in
theorem mc_X8_quoted : Cond.code yX8_quoted cX8_quoted 5 (some .int) ∈ lw_tbl := by decide +kernel
theorem m_X8_quoted : ∀ w ∈ pw_X8_quoted, w ∈ lw_tbl := List.forall_mem_cons.mpr ⟨mc_X8_quoted, (List.forall_mem_append.mpr ⟨mo_X8_quoted, (List.forall_mem_append.mpr ⟨m_X10_find, (List.forall_mem_append.mpr ⟨m_X10_at, (List.forall_mem_append.mpr ⟨m_X2_add, m_X8_bad⟩)⟩)⟩)⟩)⟩
theorem ko_X8_quoted : ∀ w ∈ ow_X8_quoted, goodWord w = true := by decide +kernel
theorem k_X8_quoted : pw_X8_quoted.all goodWord = true := List.all_eq_true.mpr (List.forall_mem_cons.mpr ⟨by decide +kernel, (List.forall_mem_append.mpr ⟨ko_X8_quoted, (List.forall_mem_append.mpr ⟨(List.all_eq_true.mp k_X10_find), (List.forall_mem_append.mpr ⟨(List.all_eq_true.mp k_X10_at), (List.forall_mem_append.mpr ⟨(List.all_eq_true.mp k_X2_add), (List.all_eq_true.mp k_X8_bad)⟩)⟩)⟩)⟩)⟩)
set_option maxHeartbeats 400000 in
set_option maxRecDepth 100000 in
theorem c_X8_quoted (l : Launch) (D : va_G) (cI cD cJ : ClassId) (sz : Nat) (x : Nat) (x_signs : Nat) (x_length : Int32) (x_signsF : Nat → Int32) (f : Nat) (f_kinds : Nat) (f_signs : Nat) (f_sizes : Nat) (f_places : Nat) (f_limits : Nat) (f_starts : Nat) (f_sorts : Nat) (f_count : Int32) (f_sections : Int32) (f_fifth : Int32) (f_kindsF : Nat → Int32) (f_signsF : Nat → Int32) (f_sizesF : Nat → Int32) (f_placesF : Nat → Int32) (f_limitsF : Nat → UInt64) (p1 : Int32) (ha1 : 0 ≤ p1.toInt) (ha2 : p1.toInt ≤ 300) (iv_x_length : 0 ≤ (x_length : Int32).toInt ∧ (x_length : Int32).toInt ≤ 255) (iv_x_signsF : ∀ k9 : Nat, k9 < 255 → 0 ≤ (x_signsF k9).toInt ∧ (x_signsF k9).toInt ≤ 255) (iv_f_count : 0 ≤ (f_count : Int32).toInt ∧ (f_count : Int32).toInt ≤ 255) (iv_f_sections : 0 ≤ (f_sections : Int32).toInt ∧ (f_sections : Int32).toInt ≤ 4) (iv_f_sizesF : ∀ k9 : Nat, k9 < 255 → (f_sizesF k9).toInt ≤ 100000) : Met l yX8_quoted pw_X8_quoted ({ frames := 2, cells := 0, slots := 0, locals := 47 }) (va_Pc [.ref x, .ref f, .int p1] (fun U => U.heap.size = sz ∧ va_P D vwCl [(x, .inr (7, [.ref x_signs, .int x_length])), (x_signs, .inl (cI, 255, .inl x_signsF)), (f, .inr (2, [.ref f_kinds, .ref f_signs, .ref f_sizes, .ref f_places, .ref f_limits, .ref f_starts, .ref f_sorts, .int f_count, .int f_sections, .int f_fifth])), (f_kinds, .inl (cI, 255, .inl f_kindsF)), (f_signs, .inl (cI, 255, .inl f_signsF)), (f_sizes, .inl (cI, 255, .inl f_sizesF)), (f_places, .inl (cI, 255, .inl f_placesF)), (f_limits, .inl (cD, 255, .inr (.inr (.inr (.inl f_limitsF)))))] U.heap ∧ va_K D vwCl (ty3 cI cD cJ) U ∧ va_D (fun _ => True) [(x, .inr (7, [.ref x_signs, .int x_length])), (x_signs, .inl (cI, 255, .inl x_signsF)), (f, .inr (2, [.ref f_kinds, .ref f_signs, .ref f_sizes, .ref f_places, .ref f_limits, .ref f_starts, .ref f_sorts, .int f_count, .int f_sections, .int f_fifth])), (f_kinds, .inl (cI, 255, .inl f_kindsF)), (f_signs, .inl (cI, 255, .inl f_signsF)), (f_sizes, .inl (cI, 255, .inl f_sizesF)), (f_places, .inl (cI, 255, .inl f_placesF)), (f_limits, .inl (cD, 255, .inr (.inr (.inr (.inl f_limitsF)))))])) (va_Qi (fun (r : Int32) (u : Int32 × (Nat → Int32) × (Nat → Int32) × (Nat → Int32) × (Nat → Int32) × (Nat → UInt64)) => match u with | (f_count2, f_kindsF2, f_signsF2, f_sizesF2, f_placesF2, f_limitsF2) => (0 ≤ r.toInt ∧ r.toInt ≤ 1000) ∧ (0 ≤ (f_count2 : Int32).toInt ∧ (f_count2 : Int32).toInt ≤ 255) ∧ (∀ k9 : Nat, k9 < 255 → (f_sizesF2 k9).toInt ≤ 100000)) (fun (u : Int32 × (Nat → Int32) × (Nat → Int32) × (Nat → Int32) × (Nat → Int32) × (Nat → UInt64)) (t : State) => match u with | (f_count2, f_kindsF2, f_signsF2, f_sizesF2, f_placesF2, f_limitsF2) => va_P D vwCl [(x, .inr (7, [.ref x_signs, .int x_length])), (x_signs, .inl (cI, 255, .inl x_signsF)), (f, .inr (2, [.ref f_kinds, .ref f_signs, .ref f_sizes, .ref f_places, .ref f_limits, .ref f_starts, .ref f_sorts, .int f_count2, .int f_sections, .int f_fifth])), (f_kinds, .inl (cI, 255, .inl f_kindsF2)), (f_signs, .inl (cI, 255, .inl f_signsF2)), (f_sizes, .inl (cI, 255, .inl f_sizesF2)), (f_places, .inl (cI, 255, .inl f_placesF2)), (f_limits, .inl (cD, 255, .inr (.inr (.inr (.inl f_limitsF2)))))] t.heap ∧ va_K D vwCl (ty3 cI cD cJ) t ∧ va_D (va_A [(x, .inr (7, [.ref x_signs, .int x_length])), (x_signs, .inl (cI, 255, .inl x_signsF)), (f, .inr (2, [.ref f_kinds, .ref f_signs, .ref f_sizes, .ref f_places, .ref f_limits, .ref f_starts, .ref f_sorts, .int f_count, .int f_sections, .int f_fifth])), (f_kinds, .inl (cI, 255, .inl f_kindsF)), (f_signs, .inl (cI, 255, .inl f_signsF)), (f_sizes, .inl (cI, 255, .inl f_sizesF)), (f_places, .inl (cI, 255, .inl f_placesF)), (f_limits, .inl (cD, 255, .inr (.inr (.inr (.inl f_limitsF)))))] sz) [(x, .inr (7, [.ref x_signs, .int x_length])), (x_signs, .inl (cI, 255, .inl x_signsF)), (f, .inr (2, [.ref f_kinds, .ref f_signs, .ref f_sizes, .ref f_places, .ref f_limits, .ref f_starts, .ref f_sorts, .int f_count2, .int f_sections, .int f_fifth])), (f_kinds, .inl (cI, 255, .inl f_kindsF2)), (f_signs, .inl (cI, 255, .inl f_signsF2)), (f_sizes, .inl (cI, 255, .inl f_sizesF2)), (f_places, .inl (cI, 255, .inl f_placesF2)), (f_limits, .inl (cD, 255, .inr (.inr (.inr (.inl f_limitsF2)))))]) (va_A [(x, .inr (7, [.ref x_signs, .int x_length])), (x_signs, .inl (cI, 255, .inl x_signsF)), (f, .inr (2, [.ref f_kinds, .ref f_signs, .ref f_sizes, .ref f_places, .ref f_limits, .ref f_starts, .ref f_sorts, .int f_count, .int f_sections, .int f_fifth])), (f_kinds, .inl (cI, 255, .inl f_kindsF)), (f_signs, .inl (cI, 255, .inl f_signsF)), (f_sizes, .inl (cI, 255, .inl f_sizesF)), (f_places, .inl (cI, 255, .inl f_placesF)), (f_limits, .inl (cD, 255, .inr (.inr (.inr (.inl f_limitsF)))))] sz)) 0 0 (va_A [(x, .inr (7, [.ref x_signs, .int x_length])), (x_signs, .inl (cI, 255, .inl x_signsF)), (f, .inr (2, [.ref f_kinds, .ref f_signs, .ref f_sizes, .ref f_places, .ref f_limits, .ref f_starts, .ref f_sorts, .int f_count, .int f_sections, .int f_fifth])), (f_kinds, .inl (cI, 255, .inl f_kindsF)), (f_signs, .inl (cI, 255, .inl f_signsF)), (f_sizes, .inl (cI, 255, .inl f_sizesF)), (f_places, .inl (cI, 255, .inl f_placesF)), (f_limits, .inl (cD, 255, .inr (.inr (.inr (.inl f_limitsF)))))] sz) := by
  refine Met.ofW (cc := cX8_quoted) (maxL := 5) (ret := (some .int)) (by decide +kernel) rfl ?_
  intro p e s m args below meth c s₁ B hml hv
  obtain ⟨rfl, hsz, hP, hK, hD0⟩ := hv
  have hx := B.exec
  have hb := B.bytes
  have hr := B.returns
  have hts := atoms_spec (ws := pw_X8_quoted) B.pre
  have hown : s.vm.findClass RX8 = some m.cls := findClass_of_methodNamed B.named
  have hlocks := B.notSynchronized
  subst hsz
  have hD := hD0.self (sz := s.heap.size)
  generalize hAe : va_A [(x, .inr (7, [.ref x_signs, .int x_length])), (x_signs, .inl (cI, 255, .inl x_signsF)), (f, .inr (2, [.ref f_kinds, .ref f_signs, .ref f_sizes, .ref f_places, .ref f_limits, .ref f_starts, .ref f_sorts, .int f_count, .int f_sections, .int f_fifth])), (f_kinds, .inl (cI, 255, .inl f_kindsF)), (f_signs, .inl (cI, 255, .inl f_signsF)), (f_sizes, .inl (cI, 255, .inl f_sizesF)), (f_places, .inl (cI, 255, .inl f_placesF)), (f_limits, .inl (cD, 255, .inr (.inr (.inr (.inl f_limitsF)))))] s.heap.size = A at hD ⊢
  have hA : ∀ q : Nat, s.heap.size ≤ q → A q := fun q h => by rw [← hAe]; exact Or.inr h
  have hS : va_S A s.heap s.heap [] := va_S.rf
  have hw : ∀ (k : Nat) (w : Cond), ow_X8_quoted[k]? = some w → w.before _ s = true := fun k w h => hts w (List.mem_cons_of_mem _ (have h9 := List.mem_of_getElem? h; List.mem_append_left _ h9))
  have i_X10_find : ∀ w ∈ pw_X10_find, w ∈ pw_X8_quoted := fun w h9 => List.mem_cons_of_mem _ (List.mem_append_right _ (List.mem_append_left _ h9))
  have i_X10_at : ∀ w ∈ pw_X10_at, w ∈ pw_X8_quoted := fun w h9 => List.mem_cons_of_mem _ (List.mem_append_right _ (List.mem_append_right _ (List.mem_append_left _ h9)))
  have i_X2_add : ∀ w ∈ pw_X2_add, w ∈ pw_X8_quoted := fun w h9 => List.mem_cons_of_mem _ (List.mem_append_right _ (List.mem_append_right _ (List.mem_append_right _ (List.mem_append_left _ h9))))
  have i_X8_bad : ∀ w ∈ pw_X8_bad, w ∈ pw_X8_quoted := fun w h9 => List.mem_cons_of_mem _ (List.mem_append_right _ (List.mem_append_right _ (List.mem_append_right _ (List.mem_append_right _ (h9)))))
  have n_m1 : (((-1) : Int32)).toInt = (-1) := by decide
  have n_1 : ((1 : Int32)).toInt = 1 := by decide
  have n_34 : ((34 : Int32)).toInt = 34 := by decide
  have hl := lv_entry ([.ref x, .ref f, .int p1]) (n := 5) (Nat.le_of_ble_eq_true rfl)
  rw [lg_entry_eq]
  generalize (lg_sl ([.ref x, .ref f, .int p1]) ++ List.replicate (5 - (lg_sl ([.ref x, .ref f, .int p1])).length) Slot.unset).toArray = ls at hl ⊢
  have hl : lv_has ls 5 [(0, .ref x), (1, .ref f), (2, .int p1)] := hl
  have b_p1 := ti_b p1
  refine zz_cap (fun Z hZ1 hZ2 => ?_)
  refine lv_aload_n hx hb dX8_quoted_0 rfl (lv_at hl 0 rfl) ?_
  refine lv_bipush (v := 34) hx hb dX8_quoted_1 (by decide) ?_
  refine lv_iload_n hx hb dX8_quoted_3 rfl (lv_at hl 2 rfl) ?_
  refine lv_iconst (v := 1) hx hb dX8_quoted_4 (by decide) ?_
  refine lv_iadd hx hb dX8_quoted_5 ?_
  refine lv_topi (fun x_1 ex_1 => ?_)
  have b_p1 := ti_b p1
  have tx_1 := ti_add ex_1
  have hPc := hP.sub (ws' := [(x, .inr (7, [.ref x_signs, .int x_length])), (x_signs, .inl (cI, 255, .inl x_signsF))]) [0, 1] rfl
  refine va_calli (va_runV (As := [.int 34, .int x_1]) (rest := []) ⟨hx, hb, hml, hown, hts⟩ (c_X10_find l D cI cD cJ s.heap.size x x_signs x_length x_signsF 34 x_1 (by omega) (by assumption)) (cwV 2 hts (goodIn_app (goodIn_r _ [1, 2, 3, 4] rfl (by decide +kernel)) (goodIn_sub i_X10_find k_X10_find)) rfl rfl rfl (by decide +kernel) ⟨Nat.le_of_ble_eq_true rfl, Nat.le_of_ble_eq_true rfl⟩) ⟨fun a U g mk q => by obtain ⟨q0, qP, qK⟩ := q; exact ⟨q0, qP, va_K.moved (u := U) (U := U.calling g mk a) (Vm.Alike.refl U.vm) qK⟩, va_recv hK hPc (ci := 7) (q0 := 0) rfl rfl, fun U hU hW => ⟨rfl, by rw [hU]; exact hPc, va_K.moved hW.alike hK⟩⟩ rfl rfl hl.1 rfl (lv_room (Nat.le_of_ble_eq_true rfl)) dX8_quoted_6 ⟨Nat.le_of_ble_eq_true rfl, Nat.le_of_ble_eq_true rfl⟩) hS (fun q _ h => h.elim) (fun q h => h.elim) (fun x_2 u t H1 locs ht hvm w_3 hB hz1 hk1 hS => ?_)
  have hP : va_P D vwCl [(x, .inr (7, [.ref x_signs, .int x_length])), (x_signs, .inl (cI, 255, .inl x_signsF)), (f, .inr (2, [.ref f_kinds, .ref f_signs, .ref f_sizes, .ref f_places, .ref f_limits, .ref f_starts, .ref f_sorts, .int f_count, .int f_sections, .int f_fifth])), (f_kinds, .inl (cI, 255, .inl f_kindsF)), (f_signs, .inl (cI, 255, .inl f_signsF)), (f_sizes, .inl (cI, 255, .inl f_sizesF)), (f_places, .inl (cI, 255, .inl f_placesF)), (f_limits, .inl (cD, 255, .inr (.inr (.inr (.inl f_limitsF)))))] H1 := hP.kept (fun k9 q9 h9 => hk1 q9.1 (vx_lt hP h9) (fun h => h))
  generalize H1 = H at hP hS ⊢
  try dsimp only at w_3
  refine lv_istore_n (lv' := [(3, .int x_2), (0, .ref x), (1, .ref f), (2, .int p1)]) hx hb dX8_quoted_9 rfl hl (by decide) rfl (fun ls hl => ?_)
  refine lv_iload_n hx hb dX8_quoted_10 rfl (lv_at hl 0 rfl) ?_
  refine lv_iconst (v := (-1)) hx hb dX8_quoted_11 (by decide) ?_
  refine lv_icmp_ne (tgt := 25) hx hb dX8_quoted_12 (by decide) (fun c_4 => ?_) (fun c_4 => ?_)
  · have ic_4 : ¬ ((x_2 : Int32).toInt = ((-1) : Int32).toInt) := fun h9 => c_4 ((fa_eq x_2 (-1)).mpr h9)
    refine lv_iload_n hx hb dX8_quoted_25 rfl (lv_at hl 3 rfl) ?_
    refine lv_iconst (v := 1) hx hb dX8_quoted_26 (by decide) ?_
    refine lv_iadd hx hb dX8_quoted_27 ?_
    refine lv_topi (fun x_5 ex_5 => ?_)
    have b_p1 := ti_b p1
    have tx_5 := ti_add ex_5
    refine lv_istore (lv' := [(4, .int x_5), (3, .int x_2), (0, .ref x), (1, .ref f), (2, .int p1)]) hx hb dX8_quoted_28 hl (by decide) rfl (fun ls hl => ?_)
    have L_30 : ∀ (N : Nat) (x_6 : Int32) (x_7 : Int32) (f_8 : Nat → Int32) (f_9 : Nat → Int32) (f_10 : Nat → Int32) (f_11 : Nat → Int32) (f_12 : Nat → UInt64) (H : Heap) (locs : List Loc) (ls : Array Slot), (0 ≤ (x_7 : Int32).toInt ∧ (x_7 : Int32).toInt ≤ 255) → (∀ k9 : Nat, k9 < 255 → (f_10 k9).toInt ≤ 100000) → ((2147483647 - (x_6 : Int32).toInt).toNat < N) → va_P D vwCl [(x, .inr (7, [.ref x_signs, .int x_length])), (x_signs, .inl (cI, 255, .inl x_signsF)), (f, .inr (2, [.ref f_kinds, .ref f_signs, .ref f_sizes, .ref f_places, .ref f_limits, .ref f_starts, .ref f_sorts, .int x_7, .int f_sections, .int f_fifth])), (f_kinds, .inl (cI, 255, .inl f_8)), (f_signs, .inl (cI, 255, .inl f_9)), (f_sizes, .inl (cI, 255, .inl f_10)), (f_places, .inl (cI, 255, .inl f_11)), (f_limits, .inl (cD, 255, .inr (.inr (.inr (.inl f_12)))))] H → va_D A [(x, .inr (7, [.ref x_signs, .int x_length])), (x_signs, .inl (cI, 255, .inl x_signsF)), (f, .inr (2, [.ref f_kinds, .ref f_signs, .ref f_sizes, .ref f_places, .ref f_limits, .ref f_starts, .ref f_sorts, .int x_7, .int f_sections, .int f_fifth])), (f_kinds, .inl (cI, 255, .inl f_8)), (f_signs, .inl (cI, 255, .inl f_9)), (f_sizes, .inl (cI, 255, .inl f_10)), (f_places, .inl (cI, 255, .inl f_11)), (f_limits, .inl (cD, 255, .inr (.inr (.inr (.inl f_12)))))] → va_S A s.heap H locs → lv_has ls 5 [(4, .int x_6), (3, .int x_2), (0, .ref x), (1, .ref f)] → Z 0 0 H locs (F0 m 30 ls []) := by
      intro N
      induction N with
      | zero => intro _ _ _ _ _ _ _ _ _ _ _ _ hmu; exact absurd hmu (Nat.not_lt_zero _)
      | succ N ih_30 =>
        intro x_6 x_7 f_8 f_9 f_10 f_11 f_12 H locs ls g30_0 g30_1 hmu hP hD hS hl
        refine hZ2 ?_
        refine lv_iload hx hb dX8_quoted_30 (lv_at hl 0 rfl) ?_
        refine lv_iload_n hx hb dX8_quoted_32 rfl (lv_at hl 1 rfl) ?_
        refine lv_icmp_ge (tgt := 56) hx hb dX8_quoted_33 (by decide) (fun c_13 => ?_) (fun c_13 => ?_)
        · have ic_13 : (x_2 : Int32).toInt ≤ (x_6 : Int32).toInt := (fa_le x_2 x_6).mp c_13
          refine lv_iload_n hx hb dX8_quoted_56 rfl (lv_at hl 1 rfl) ?_
          refine lv_iconst (v := 1) hx hb dX8_quoted_57 (by decide) ?_
          refine lv_iadd hx hb dX8_quoted_58 ?_
          refine lv_topi (fun x_14 ex_14 => ?_)
          have b_x_2 := ti_b x_2
          have tx_14 := ti_add ex_14
          have hP9 := hP.sub (ws' := [(x, .inr (7, [.ref x_signs, .int x_length])), (x_signs, .inl (cI, 255, .inl x_signsF)), (f, .inr (2, [.ref f_kinds, .ref f_signs, .ref f_sizes, .ref f_places, .ref f_limits, .ref f_starts, .ref f_sorts, .int x_7, .int f_sections, .int f_fifth])), (f_kinds, .inl (cI, 255, .inl f_8)), (f_signs, .inl (cI, 255, .inl f_9)), (f_sizes, .inl (cI, 255, .inl f_10)), (f_places, .inl (cI, 255, .inl f_11)), (f_limits, .inl (cD, 255, .inr (.inr (.inr (.inl f_12)))))]) [0, 1, 2, 3, 4, 5, 6, 7] rfl
          have hD9 := hD.sub (ws' := [(x, .inr (7, [.ref x_signs, .int x_length])), (x_signs, .inl (cI, 255, .inl x_signsF)), (f, .inr (2, [.ref f_kinds, .ref f_signs, .ref f_sizes, .ref f_places, .ref f_limits, .ref f_starts, .ref f_sorts, .int x_7, .int f_sections, .int f_fifth])), (f_kinds, .inl (cI, 255, .inl f_8)), (f_signs, .inl (cI, 255, .inl f_9)), (f_sizes, .inl (cI, 255, .inl f_10)), (f_places, .inl (cI, 255, .inl f_11)), (f_limits, .inl (cD, 255, .inr (.inr (.inr (.inl f_12)))))]) [0, 1, 2, 3, 4, 5, 6, 7] (by decide) rfl
          exact W.iret (v := x_14) hx hb hr (fun t ht hW => ⟨⟨x_14, (x_7, f_8, f_9, f_10, f_11, f_12), rfl, (by (try dsimp only); refine ⟨?_, ?_, ?_⟩ <;> first | omega | assumption), by rw [ht]; exact hP9, va_K.moved hW.alike hK, hD9⟩, hS.F ht⟩) hS.2.2 dX8_quoted_59
        · have ic_13 : ¬ ((x_2 : Int32).toInt ≤ (x_6 : Int32).toInt) := fun h9 => c_13 ((fa_le x_2 x_6).mpr h9)
          refine lv_aload_n hx hb dX8_quoted_36 rfl (lv_at hl 3 rfl) ?_
          refine lv_iconst (v := 1) hx hb dX8_quoted_37 (by decide) ?_
          refine lv_aload_n hx hb dX8_quoted_38 rfl (lv_at hl 2 rfl) ?_
          refine lv_iload hx hb dX8_quoted_39 (lv_at hl 0 rfl) ?_
          have hPc := hP.sub (ws' := [(x, .inr (7, [.ref x_signs, .int x_length])), (x_signs, .inl (cI, 255, .inl x_signsF))]) [0, 1] rfl
          refine va_calli (va_runV (As := [.int x_6]) (rest := [.int 1, .ref f]) ⟨hx, hb, hml, hown, hts⟩ (c_X10_at l D cI cD cJ H.size x x_signs x_length x_signsF x_6 (by omega) (by assumption)) (cwV 1 hts (goodIn_app (goodIn_r _ [5, 6, 7, 4] rfl (by decide +kernel)) (goodIn_sub i_X10_at k_X10_at)) rfl rfl rfl (by decide +kernel) ⟨Nat.le_of_ble_eq_true rfl, Nat.le_of_ble_eq_true rfl⟩) ⟨fun a U g mk q => by obtain ⟨q0, qP, qK⟩ := q; exact ⟨q0, qP, va_K.moved (u := U) (U := U.calling g mk a) (Vm.Alike.refl U.vm) qK⟩, va_recv hK hPc (ci := 7) (q0 := 0) rfl rfl, fun U hU hW => ⟨rfl, by rw [hU]; exact hPc, va_K.moved hW.alike hK⟩⟩ rfl rfl hl.1 rfl (lv_room (Nat.le_of_ble_eq_true rfl)) dX8_quoted_41 ⟨Nat.le_of_ble_eq_true rfl, Nat.le_of_ble_eq_true rfl⟩) hS (fun q _ h => h.elim) (fun q h => h.elim) (fun x_15 u t H1 locs ht hvm w_16 hB hz1 hk1 hS => ?_)
          have hP : va_P D vwCl [(x, .inr (7, [.ref x_signs, .int x_length])), (x_signs, .inl (cI, 255, .inl x_signsF)), (f, .inr (2, [.ref f_kinds, .ref f_signs, .ref f_sizes, .ref f_places, .ref f_limits, .ref f_starts, .ref f_sorts, .int x_7, .int f_sections, .int f_fifth])), (f_kinds, .inl (cI, 255, .inl f_8)), (f_signs, .inl (cI, 255, .inl f_9)), (f_sizes, .inl (cI, 255, .inl f_10)), (f_places, .inl (cI, 255, .inl f_11)), (f_limits, .inl (cD, 255, .inr (.inr (.inr (.inl f_12)))))] H1 := hP.kept (fun k9 q9 h9 => hk1 q9.1 (vx_lt hP h9) (fun h => h))
          generalize H1 = H at hP hS ⊢
          try dsimp only at w_16
          refine lv_iconst (v := 1) hx hb dX8_quoted_44 (by decide) ?_
          refine lv_iload hx hb dX8_quoted_45 (lv_at hl 0 rfl) ?_
          have hPc := hP.sub (ws' := [(f, .inr (2, [.ref f_kinds, .ref f_signs, .ref f_sizes, .ref f_places, .ref f_limits, .ref f_starts, .ref f_sorts, .int x_7, .int f_sections, .int f_fifth])), (f_kinds, .inl (cI, 255, .inl f_8)), (f_signs, .inl (cI, 255, .inl f_9)), (f_sizes, .inl (cI, 255, .inl f_10)), (f_places, .inl (cI, 255, .inl f_11)), (f_limits, .inl (cD, 255, .inr (.inr (.inr (.inl f_12)))))]) [2, 3, 4, 5, 6, 7] rfl
          have hDc := hD.sub (ws' := [(f, .inr (2, [.ref f_kinds, .ref f_signs, .ref f_sizes, .ref f_places, .ref f_limits, .ref f_starts, .ref f_sorts, .int x_7, .int f_sections, .int f_fifth])), (f_kinds, .inl (cI, 255, .inl f_8)), (f_signs, .inl (cI, 255, .inl f_9)), (f_sizes, .inl (cI, 255, .inl f_10)), (f_places, .inl (cI, 255, .inl f_11)), (f_limits, .inl (cD, 255, .inr (.inr (.inr (.inl f_12)))))]) [2, 3, 4, 5, 6, 7] (by decide) rfl
          have hFc := va_free (wc := [(f, .inr (2, [.ref f_kinds, .ref f_signs, .ref f_sizes, .ref f_places, .ref f_limits, .ref f_starts, .ref f_sorts, .int x_7, .int f_sections, .int f_fifth])), (f_kinds, .inl (cI, 255, .inl f_8)), (f_signs, .inl (cI, 255, .inl f_9)), (f_sizes, .inl (cI, 255, .inl f_10)), (f_places, .inl (cI, 255, .inl f_11)), (f_limits, .inl (cD, 255, .inr (.inr (.inr (.inl f_12)))))]) hD hS hA [2, 3, 4, 5, 6, 7] rfl
          refine va_callv (va_runV (As := [.int 1, .int x_15, .int 1, .int x_6]) (rest := []) ⟨hx, hb, hml, hown, hts⟩ (c_X2_add l D cI cD cJ H.size f f_kinds f_signs f_sizes f_places f_limits f_starts f_sorts x_7 f_sections f_fifth f_8 f_9 f_10 f_11 f_12 1 x_15 1 x_6 (by omega) (by omega) (by omega) (by assumption)) (cwV 4 hts (goodIn_app (goodIn_r _ [8, 9, 10, 11] rfl (by decide +kernel)) (goodIn_sub i_X2_add k_X2_add)) rfl rfl rfl (by decide +kernel) ⟨Nat.le_of_ble_eq_true rfl, Nat.le_of_ble_eq_true rfl⟩) ⟨fun a U g mk q => by obtain ⟨q0, q1, qP, qK, qD⟩ := q; exact ⟨q0, q1, qP, va_K.moved (u := U) (U := U.calling g mk a) (Vm.Alike.refl U.vm) qK, qD⟩, va_recv hK hPc (ci := 2) (q0 := 0) rfl rfl, fun U hU hW => ⟨rfl, by rw [hU], by rw [hU]; exact hPc, va_K.moved hW.alike hK, hDc.weaken (fun _ _ _ _ => trivial)⟩⟩ rfl rfl hl.1 rfl (lv_room (Nat.le_of_ble_eq_true rfl)) dX8_quoted_47 ⟨Nat.le_of_ble_eq_true rfl, Nat.le_of_ble_eq_true rfl⟩) hS (fun q _ h => hFc q h) hFc (fun u t H1 locs ht hvm w_17 hB hz1 hk1 hS => ?_)
          obtain ⟨u_18, u_19, u_20, u_21, u_22, u_23⟩ := u
          obtain ⟨hP1, hK1, hD1⟩ := hB
          rw [ht] at hP1
          try dsimp only at w_17
          obtain ⟨hP, hD⟩ := va_join (wr := [(x, .inr (7, [.ref x_signs, .int x_length])), (x_signs, .inl (cI, 255, .inl x_signsF))]) (w1 := [(f, .inr (2, [.ref f_kinds, .ref f_signs, .ref f_sizes, .ref f_places, .ref f_limits, .ref f_starts, .ref f_sorts, .int u_18, .int f_sections, .int f_fifth])), (f_kinds, .inl (cI, 255, .inl u_19)), (f_signs, .inl (cI, 255, .inl u_20)), (f_sizes, .inl (cI, 255, .inl u_21)), (f_places, .inl (cI, 255, .inl u_22)), (f_limits, .inl (cD, 255, .inr (.inr (.inr (.inl u_23)))))]) hP hD [2, 3, 4, 5, 6, 7] [0, 1] rfl rfl (by decide) (by decide) hk1 hFc hP1 hD1
          generalize H1 = H at hP hS ⊢
          have hP : va_P D vwCl [(x, .inr (7, [.ref x_signs, .int x_length])), (x_signs, .inl (cI, 255, .inl x_signsF)), (f, .inr (2, [.ref f_kinds, .ref f_signs, .ref f_sizes, .ref f_places, .ref f_limits, .ref f_starts, .ref f_sorts, .int u_18, .int f_sections, .int f_fifth])), (f_kinds, .inl (cI, 255, .inl u_19)), (f_signs, .inl (cI, 255, .inl u_20)), (f_sizes, .inl (cI, 255, .inl u_21)), (f_places, .inl (cI, 255, .inl u_22)), (f_limits, .inl (cD, 255, .inr (.inr (.inr (.inl u_23)))))] H := hP
          have hD : va_D A [(x, .inr (7, [.ref x_signs, .int x_length])), (x_signs, .inl (cI, 255, .inl x_signsF)), (f, .inr (2, [.ref f_kinds, .ref f_signs, .ref f_sizes, .ref f_places, .ref f_limits, .ref f_starts, .ref f_sorts, .int u_18, .int f_sections, .int f_fifth])), (f_kinds, .inl (cI, 255, .inl u_19)), (f_signs, .inl (cI, 255, .inl u_20)), (f_sizes, .inl (cI, 255, .inl u_21)), (f_places, .inl (cI, 255, .inl u_22)), (f_limits, .inl (cD, 255, .inr (.inr (.inr (.inl u_23)))))] := hD
          obtain ⟨w_17_0, w_17_1⟩ := w_17
          obtain ⟨x_24, ex_24⟩ : ∃ y : Int32, y = x_6 + 1 := ⟨_, rfl⟩
          have b_x_6 := ti_b x_6
          have tx_24 := ti_add ex_24
          refine lv_iinc (v := x_24) (lv' := [(4, .int x_24), (3, .int x_2), (0, .ref x), (1, .ref f)]) hx hb dX8_quoted_50 hl (k := 0) rfl (by rw [ex_24]; rfl) (by decide) rfl (fun ls hl => ?_)
          refine lv_goto (tgt := 30) hx hb dX8_quoted_53 (by decide) ?_
          exact hZ1 (ih_30 x_24 u_18 u_19 u_20 u_21 u_22 u_23 _ _ _ (by omega) (by assumption) (by omega) hP hD hS hl)
    exact hZ1 (L_30 (((2147483647 - (x_5 : Int32).toInt).toNat) + 1) x_5 f_count f_kindsF f_signsF f_sizesF f_placesF f_limitsF _ _ _ (by omega) (by assumption) (by omega) hP hD hS (lv_sub hl [0, 1, 2, 3] rfl))
  · have ic_4 : (x_2 : Int32).toInt = ((-1) : Int32).toInt := (fa_eq x_2 (-1)).mp c_4
    refine lv_aload_n hx hb dX8_quoted_15 rfl (lv_at hl 1 rfl) ?_
    refine lv_aload_n hx hb dX8_quoted_16 rfl (lv_at hl 2 rfl) ?_
    refine lv_iload_n hx hb dX8_quoted_17 rfl (lv_at hl 3 rfl) ?_
    refine lv_iload_n hx hb dX8_quoted_18 rfl (lv_at hl 3 rfl) ?_
    refine lv_iconst (v := 1) hx hb dX8_quoted_19 (by decide) ?_
    refine lv_iadd hx hb dX8_quoted_20 ?_
    refine lv_topi (fun x_25 ex_25 => ?_)
    have b_p1 := ti_b p1
    have tx_25 := ti_add ex_25
    have hPc := hP.sub (ws' := [(x, .inr (7, [.ref x_signs, .int x_length])), (x_signs, .inl (cI, 255, .inl x_signsF)), (f, .inr (2, [.ref f_kinds, .ref f_signs, .ref f_sizes, .ref f_places, .ref f_limits, .ref f_starts, .ref f_sorts, .int f_count, .int f_sections, .int f_fifth])), (f_kinds, .inl (cI, 255, .inl f_kindsF)), (f_signs, .inl (cI, 255, .inl f_signsF)), (f_sizes, .inl (cI, 255, .inl f_sizesF)), (f_places, .inl (cI, 255, .inl f_placesF)), (f_limits, .inl (cD, 255, .inr (.inr (.inr (.inl f_limitsF)))))]) [0, 1, 2, 3, 4, 5, 6, 7] rfl
    have hDc := hD.sub (ws' := [(x, .inr (7, [.ref x_signs, .int x_length])), (x_signs, .inl (cI, 255, .inl x_signsF)), (f, .inr (2, [.ref f_kinds, .ref f_signs, .ref f_sizes, .ref f_places, .ref f_limits, .ref f_starts, .ref f_sorts, .int f_count, .int f_sections, .int f_fifth])), (f_kinds, .inl (cI, 255, .inl f_kindsF)), (f_signs, .inl (cI, 255, .inl f_signsF)), (f_sizes, .inl (cI, 255, .inl f_sizesF)), (f_places, .inl (cI, 255, .inl f_placesF)), (f_limits, .inl (cD, 255, .inr (.inr (.inr (.inl f_limitsF)))))]) [0, 1, 2, 3, 4, 5, 6, 7] (by decide) rfl
    have hFc := va_free (wc := [(x, .inr (7, [.ref x_signs, .int x_length])), (x_signs, .inl (cI, 255, .inl x_signsF)), (f, .inr (2, [.ref f_kinds, .ref f_signs, .ref f_sizes, .ref f_places, .ref f_limits, .ref f_starts, .ref f_sorts, .int f_count, .int f_sections, .int f_fifth])), (f_kinds, .inl (cI, 255, .inl f_kindsF)), (f_signs, .inl (cI, 255, .inl f_signsF)), (f_sizes, .inl (cI, 255, .inl f_sizesF)), (f_places, .inl (cI, 255, .inl f_placesF)), (f_limits, .inl (cD, 255, .inr (.inr (.inr (.inl f_limitsF)))))]) hD hS hA [0, 1, 2, 3, 4, 5, 6, 7] rfl
    refine va_calli (va_runS (As := [.ref x, .ref f, .int p1, .int x_25]) (rest := []) ⟨hx, hb, hml, hown, hts⟩ (c_X8_bad l D cI cD cJ H.size x x_signs x_length x_signsF f f_kinds f_signs f_sizes f_places f_limits f_starts f_sorts f_count f_sections f_fifth f_kindsF f_signsF f_sizesF f_placesF f_limitsF p1 x_25 (by omega) (by assumption) (by omega) (by omega) (by assumption)) (va_cwS 4 hts (goodIn_app (goodIn_r _ [12, 13, 14] rfl (by decide +kernel)) (goodIn_sub i_X8_bad k_X8_bad)) rfl rfl rfl (by decide +kernel) ⟨Nat.le_of_ble_eq_true rfl, Nat.le_of_ble_eq_true rfl⟩) ⟨fun a U g mk q => by obtain ⟨q0, q1, qP, qK, qD⟩ := q; exact ⟨q0, q1, qP, va_K.moved (u := U) (U := U.calling g mk a) (Vm.Alike.refl U.vm) qK, qD⟩, fun U hU hW => ⟨rfl, by rw [hU], by rw [hU]; exact hPc, va_K.moved hW.alike hK, hDc.weaken (fun _ _ _ _ => trivial)⟩⟩ rfl rfl hl.1 rfl (lv_room (Nat.le_of_ble_eq_true rfl)) dX8_quoted_21 ⟨Nat.le_of_ble_eq_true rfl, Nat.le_of_ble_eq_true rfl⟩) hS (fun q _ h => hFc q h) hFc (fun x_26 u t H1 locs ht hvm w_27 hB hz1 hk1 hS => ?_)
    obtain ⟨u_28, u_29, u_30, u_31, u_32, u_33⟩ := u
    obtain ⟨hP1, hK1, hD1⟩ := hB
    rw [ht] at hP1
    try dsimp only at w_27
    obtain ⟨hP, hD⟩ := va_join (wr := []) (w1 := [(x, .inr (7, [.ref x_signs, .int x_length])), (x_signs, .inl (cI, 255, .inl x_signsF)), (f, .inr (2, [.ref f_kinds, .ref f_signs, .ref f_sizes, .ref f_places, .ref f_limits, .ref f_starts, .ref f_sorts, .int u_28, .int f_sections, .int f_fifth])), (f_kinds, .inl (cI, 255, .inl u_29)), (f_signs, .inl (cI, 255, .inl u_30)), (f_sizes, .inl (cI, 255, .inl u_31)), (f_places, .inl (cI, 255, .inl u_32)), (f_limits, .inl (cD, 255, .inr (.inr (.inr (.inl u_33)))))]) hP hD [0, 1, 2, 3, 4, 5, 6, 7] [] rfl rfl (by decide) (by decide) hk1 hFc hP1 hD1
    generalize H1 = H at hP hS ⊢
    have hP : va_P D vwCl [(x, .inr (7, [.ref x_signs, .int x_length])), (x_signs, .inl (cI, 255, .inl x_signsF)), (f, .inr (2, [.ref f_kinds, .ref f_signs, .ref f_sizes, .ref f_places, .ref f_limits, .ref f_starts, .ref f_sorts, .int u_28, .int f_sections, .int f_fifth])), (f_kinds, .inl (cI, 255, .inl u_29)), (f_signs, .inl (cI, 255, .inl u_30)), (f_sizes, .inl (cI, 255, .inl u_31)), (f_places, .inl (cI, 255, .inl u_32)), (f_limits, .inl (cD, 255, .inr (.inr (.inr (.inl u_33)))))] H := hP
    have hD : va_D A [(x, .inr (7, [.ref x_signs, .int x_length])), (x_signs, .inl (cI, 255, .inl x_signsF)), (f, .inr (2, [.ref f_kinds, .ref f_signs, .ref f_sizes, .ref f_places, .ref f_limits, .ref f_starts, .ref f_sorts, .int u_28, .int f_sections, .int f_fifth])), (f_kinds, .inl (cI, 255, .inl u_29)), (f_signs, .inl (cI, 255, .inl u_30)), (f_sizes, .inl (cI, 255, .inl u_31)), (f_places, .inl (cI, 255, .inl u_32)), (f_limits, .inl (cD, 255, .inr (.inr (.inr (.inl u_33)))))] := hD
    obtain ⟨w_27_0, w_27_1, w_27_2⟩ := w_27
    have b_x_26 := ti_b x_26
    have hP9 := hP.sub (ws' := [(x, .inr (7, [.ref x_signs, .int x_length])), (x_signs, .inl (cI, 255, .inl x_signsF)), (f, .inr (2, [.ref f_kinds, .ref f_signs, .ref f_sizes, .ref f_places, .ref f_limits, .ref f_starts, .ref f_sorts, .int u_28, .int f_sections, .int f_fifth])), (f_kinds, .inl (cI, 255, .inl u_29)), (f_signs, .inl (cI, 255, .inl u_30)), (f_sizes, .inl (cI, 255, .inl u_31)), (f_places, .inl (cI, 255, .inl u_32)), (f_limits, .inl (cD, 255, .inr (.inr (.inr (.inl u_33)))))]) [0, 1, 2, 3, 4, 5, 6, 7] rfl
    have hD9 := hD.sub (ws' := [(x, .inr (7, [.ref x_signs, .int x_length])), (x_signs, .inl (cI, 255, .inl x_signsF)), (f, .inr (2, [.ref f_kinds, .ref f_signs, .ref f_sizes, .ref f_places, .ref f_limits, .ref f_starts, .ref f_sorts, .int u_28, .int f_sections, .int f_fifth])), (f_kinds, .inl (cI, 255, .inl u_29)), (f_signs, .inl (cI, 255, .inl u_30)), (f_sizes, .inl (cI, 255, .inl u_31)), (f_places, .inl (cI, 255, .inl u_32)), (f_limits, .inl (cD, 255, .inr (.inr (.inr (.inl u_33)))))]) [0, 1, 2, 3, 4, 5, 6, 7] (by decide) rfl
    exact W.iret (v := x_26) hx hb hr (fun t ht hW => ⟨⟨x_26, (u_28, u_29, u_30, u_31, u_32, u_33), rfl, (by (try dsimp only); refine ⟨?_, ?_, ?_⟩ <;> first | omega | assumption), by rw [ht]; exact hP9, va_K.moved hW.alike hK, hD9⟩, hS.F ht⟩) hS.2.2 dX8_quoted_24

def ow_X8_escaped : List Cond := [Cond.methodLink RX8 14 yX10_length, Cond.instanceMethod yX10_length, Cond.selects RX10 yX10_length yX10_length, Cond.initialized RX10, Cond.methodLink RX8 29 yX10_at, Cond.instanceMethod yX10_at, Cond.selects RX10 yX10_at yX10_at, Cond.methodLink RX8 58 yX2_add, Cond.instanceMethod yX2_add, Cond.selects RX2 yX2_add yX2_add, Cond.initialized RX2, Cond.methodLink RX8 73 yX8_bad, Cond.static yX8_bad, Cond.initialized RX8]
def pw_X8_escaped : List Cond := Cond.code yX8_escaped cX8_escaped 3 (some .int) :: (ow_X8_escaped ++ (pw_X10_length ++ (pw_X10_at ++ (pw_X2_add ++ (pw_X8_bad)))))
set_option maxRecDepth 20000 in
theorem mo_X8_escaped : ∀ w ∈ ow_X8_escaped, w ∈ lw_tbl := by decide +kernel
set_option maxRecDepth 20000 in
theorem mc_X8_escaped : Cond.code yX8_escaped cX8_escaped 3 (some .int) ∈ lw_tbl := by decide +kernel
theorem m_X8_escaped : ∀ w ∈ pw_X8_escaped, w ∈ lw_tbl := List.forall_mem_cons.mpr ⟨mc_X8_escaped, (List.forall_mem_append.mpr ⟨mo_X8_escaped, (List.forall_mem_append.mpr ⟨m_X10_length, (List.forall_mem_append.mpr ⟨m_X10_at, (List.forall_mem_append.mpr ⟨m_X2_add, m_X8_bad⟩)⟩)⟩)⟩)⟩
theorem ko_X8_escaped : ∀ w ∈ ow_X8_escaped, goodWord w = true := by decide +kernel
theorem k_X8_escaped : pw_X8_escaped.all goodWord = true := List.all_eq_true.mpr (List.forall_mem_cons.mpr ⟨by decide +kernel, (List.forall_mem_append.mpr ⟨ko_X8_escaped, (List.forall_mem_append.mpr ⟨(List.all_eq_true.mp k_X10_length), (List.forall_mem_append.mpr ⟨(List.all_eq_true.mp k_X10_at), (List.forall_mem_append.mpr ⟨(List.all_eq_true.mp k_X2_add), (List.all_eq_true.mp k_X8_bad)⟩)⟩)⟩)⟩)⟩)
set_option maxHeartbeats 400000 in
set_option maxRecDepth 100000 in
theorem c_X8_escaped (l : Launch) (D : va_G) (cI cD cJ : ClassId) (sz : Nat) (x : Nat) (x_signs : Nat) (x_length : Int32) (x_signsF : Nat → Int32) (f : Nat) (f_kinds : Nat) (f_signs : Nat) (f_sizes : Nat) (f_places : Nat) (f_limits : Nat) (f_starts : Nat) (f_sorts : Nat) (f_count : Int32) (f_sections : Int32) (f_fifth : Int32) (f_kindsF : Nat → Int32) (f_signsF : Nat → Int32) (f_sizesF : Nat → Int32) (f_placesF : Nat → Int32) (f_limitsF : Nat → UInt64) (p1 : Int32) (ha1 : 0 ≤ p1.toInt) (ha2 : p1.toInt ≤ 300) (iv_x_length : 0 ≤ (x_length : Int32).toInt ∧ (x_length : Int32).toInt ≤ 255) (iv_x_signsF : ∀ k9 : Nat, k9 < 255 → 0 ≤ (x_signsF k9).toInt ∧ (x_signsF k9).toInt ≤ 255) (iv_f_count : 0 ≤ (f_count : Int32).toInt ∧ (f_count : Int32).toInt ≤ 255) (iv_f_sections : 0 ≤ (f_sections : Int32).toInt ∧ (f_sections : Int32).toInt ≤ 4) (iv_f_sizesF : ∀ k9 : Nat, k9 < 255 → (f_sizesF k9).toInt ≤ 100000) : Met l yX8_escaped pw_X8_escaped ({ frames := 2, cells := 0, slots := 0, locals := 47 }) (va_Pc [.ref x, .ref f, .int p1] (fun U => U.heap.size = sz ∧ va_P D vwCl [(x, .inr (7, [.ref x_signs, .int x_length])), (x_signs, .inl (cI, 255, .inl x_signsF)), (f, .inr (2, [.ref f_kinds, .ref f_signs, .ref f_sizes, .ref f_places, .ref f_limits, .ref f_starts, .ref f_sorts, .int f_count, .int f_sections, .int f_fifth])), (f_kinds, .inl (cI, 255, .inl f_kindsF)), (f_signs, .inl (cI, 255, .inl f_signsF)), (f_sizes, .inl (cI, 255, .inl f_sizesF)), (f_places, .inl (cI, 255, .inl f_placesF)), (f_limits, .inl (cD, 255, .inr (.inr (.inr (.inl f_limitsF)))))] U.heap ∧ va_K D vwCl (ty3 cI cD cJ) U ∧ va_D (fun _ => True) [(x, .inr (7, [.ref x_signs, .int x_length])), (x_signs, .inl (cI, 255, .inl x_signsF)), (f, .inr (2, [.ref f_kinds, .ref f_signs, .ref f_sizes, .ref f_places, .ref f_limits, .ref f_starts, .ref f_sorts, .int f_count, .int f_sections, .int f_fifth])), (f_kinds, .inl (cI, 255, .inl f_kindsF)), (f_signs, .inl (cI, 255, .inl f_signsF)), (f_sizes, .inl (cI, 255, .inl f_sizesF)), (f_places, .inl (cI, 255, .inl f_placesF)), (f_limits, .inl (cD, 255, .inr (.inr (.inr (.inl f_limitsF)))))])) (va_Qi (fun (r : Int32) (u : Int32 × (Nat → Int32) × (Nat → Int32) × (Nat → Int32) × (Nat → Int32) × (Nat → UInt64)) => match u with | (f_count2, f_kindsF2, f_signsF2, f_sizesF2, f_placesF2, f_limitsF2) => (0 ≤ r.toInt ∧ r.toInt ≤ 1000) ∧ (0 ≤ (f_count2 : Int32).toInt ∧ (f_count2 : Int32).toInt ≤ 255) ∧ (∀ k9 : Nat, k9 < 255 → (f_sizesF2 k9).toInt ≤ 100000)) (fun (u : Int32 × (Nat → Int32) × (Nat → Int32) × (Nat → Int32) × (Nat → Int32) × (Nat → UInt64)) (t : State) => match u with | (f_count2, f_kindsF2, f_signsF2, f_sizesF2, f_placesF2, f_limitsF2) => va_P D vwCl [(x, .inr (7, [.ref x_signs, .int x_length])), (x_signs, .inl (cI, 255, .inl x_signsF)), (f, .inr (2, [.ref f_kinds, .ref f_signs, .ref f_sizes, .ref f_places, .ref f_limits, .ref f_starts, .ref f_sorts, .int f_count2, .int f_sections, .int f_fifth])), (f_kinds, .inl (cI, 255, .inl f_kindsF2)), (f_signs, .inl (cI, 255, .inl f_signsF2)), (f_sizes, .inl (cI, 255, .inl f_sizesF2)), (f_places, .inl (cI, 255, .inl f_placesF2)), (f_limits, .inl (cD, 255, .inr (.inr (.inr (.inl f_limitsF2)))))] t.heap ∧ va_K D vwCl (ty3 cI cD cJ) t ∧ va_D (va_A [(x, .inr (7, [.ref x_signs, .int x_length])), (x_signs, .inl (cI, 255, .inl x_signsF)), (f, .inr (2, [.ref f_kinds, .ref f_signs, .ref f_sizes, .ref f_places, .ref f_limits, .ref f_starts, .ref f_sorts, .int f_count, .int f_sections, .int f_fifth])), (f_kinds, .inl (cI, 255, .inl f_kindsF)), (f_signs, .inl (cI, 255, .inl f_signsF)), (f_sizes, .inl (cI, 255, .inl f_sizesF)), (f_places, .inl (cI, 255, .inl f_placesF)), (f_limits, .inl (cD, 255, .inr (.inr (.inr (.inl f_limitsF)))))] sz) [(x, .inr (7, [.ref x_signs, .int x_length])), (x_signs, .inl (cI, 255, .inl x_signsF)), (f, .inr (2, [.ref f_kinds, .ref f_signs, .ref f_sizes, .ref f_places, .ref f_limits, .ref f_starts, .ref f_sorts, .int f_count2, .int f_sections, .int f_fifth])), (f_kinds, .inl (cI, 255, .inl f_kindsF2)), (f_signs, .inl (cI, 255, .inl f_signsF2)), (f_sizes, .inl (cI, 255, .inl f_sizesF2)), (f_places, .inl (cI, 255, .inl f_placesF2)), (f_limits, .inl (cD, 255, .inr (.inr (.inr (.inl f_limitsF2)))))]) (va_A [(x, .inr (7, [.ref x_signs, .int x_length])), (x_signs, .inl (cI, 255, .inl x_signsF)), (f, .inr (2, [.ref f_kinds, .ref f_signs, .ref f_sizes, .ref f_places, .ref f_limits, .ref f_starts, .ref f_sorts, .int f_count, .int f_sections, .int f_fifth])), (f_kinds, .inl (cI, 255, .inl f_kindsF)), (f_signs, .inl (cI, 255, .inl f_signsF)), (f_sizes, .inl (cI, 255, .inl f_sizesF)), (f_places, .inl (cI, 255, .inl f_placesF)), (f_limits, .inl (cD, 255, .inr (.inr (.inr (.inl f_limitsF)))))] sz)) 0 0 (va_A [(x, .inr (7, [.ref x_signs, .int x_length])), (x_signs, .inl (cI, 255, .inl x_signsF)), (f, .inr (2, [.ref f_kinds, .ref f_signs, .ref f_sizes, .ref f_places, .ref f_limits, .ref f_starts, .ref f_sorts, .int f_count, .int f_sections, .int f_fifth])), (f_kinds, .inl (cI, 255, .inl f_kindsF)), (f_signs, .inl (cI, 255, .inl f_signsF)), (f_sizes, .inl (cI, 255, .inl f_sizesF)), (f_places, .inl (cI, 255, .inl f_placesF)), (f_limits, .inl (cD, 255, .inr (.inr (.inr (.inl f_limitsF)))))] sz) := by
  refine Met.ofW (cc := cX8_escaped) (maxL := 3) (ret := (some .int)) (by decide +kernel) rfl ?_
  intro p e s m args below meth c s₁ B hml hv
  obtain ⟨rfl, hsz, hP, hK, hD0⟩ := hv
  have hx := B.exec
  have hb := B.bytes
  have hr := B.returns
  have hts := atoms_spec (ws := pw_X8_escaped) B.pre
  have hown : s.vm.findClass RX8 = some m.cls := findClass_of_methodNamed B.named
  have hlocks := B.notSynchronized
  subst hsz
  have hD := hD0.self (sz := s.heap.size)
  generalize hAe : va_A [(x, .inr (7, [.ref x_signs, .int x_length])), (x_signs, .inl (cI, 255, .inl x_signsF)), (f, .inr (2, [.ref f_kinds, .ref f_signs, .ref f_sizes, .ref f_places, .ref f_limits, .ref f_starts, .ref f_sorts, .int f_count, .int f_sections, .int f_fifth])), (f_kinds, .inl (cI, 255, .inl f_kindsF)), (f_signs, .inl (cI, 255, .inl f_signsF)), (f_sizes, .inl (cI, 255, .inl f_sizesF)), (f_places, .inl (cI, 255, .inl f_placesF)), (f_limits, .inl (cD, 255, .inr (.inr (.inr (.inl f_limitsF)))))] s.heap.size = A at hD ⊢
  have hA : ∀ q : Nat, s.heap.size ≤ q → A q := fun q h => by rw [← hAe]; exact Or.inr h
  have hS : va_S A s.heap s.heap [] := va_S.rf
  have hw : ∀ (k : Nat) (w : Cond), ow_X8_escaped[k]? = some w → w.before _ s = true := fun k w h => hts w (List.mem_cons_of_mem _ (have h9 := List.mem_of_getElem? h; List.mem_append_left _ h9))
  have i_X10_length : ∀ w ∈ pw_X10_length, w ∈ pw_X8_escaped := fun w h9 => List.mem_cons_of_mem _ (List.mem_append_right _ (List.mem_append_left _ h9))
  have i_X10_at : ∀ w ∈ pw_X10_at, w ∈ pw_X8_escaped := fun w h9 => List.mem_cons_of_mem _ (List.mem_append_right _ (List.mem_append_right _ (List.mem_append_left _ h9)))
  have i_X2_add : ∀ w ∈ pw_X2_add, w ∈ pw_X8_escaped := fun w h9 => List.mem_cons_of_mem _ (List.mem_append_right _ (List.mem_append_right _ (List.mem_append_right _ (List.mem_append_left _ h9))))
  have i_X8_bad : ∀ w ∈ pw_X8_bad, w ∈ pw_X8_escaped := fun w h9 => List.mem_cons_of_mem _ (List.mem_append_right _ (List.mem_append_right _ (List.mem_append_right _ (List.mem_append_right _ (h9)))))
  have n_1 : ((1 : Int32)).toInt = 1 := by decide
  have n_2 : ((2 : Int32)).toInt = 2 := by decide
  have n_32 : ((32 : Int32)).toInt = 32 := by decide
  have n_95 : ((95 : Int32)).toInt = 95 := by decide
  have hl := lv_entry ([.ref x, .ref f, .int p1]) (n := 3) (Nat.le_of_ble_eq_true rfl)
  rw [lg_entry_eq]
  generalize (lg_sl ([.ref x, .ref f, .int p1]) ++ List.replicate (3 - (lg_sl ([.ref x, .ref f, .int p1])).length) Slot.unset).toArray = ls at hl ⊢
  have hl : lv_has ls 3 [(0, .ref x), (1, .ref f), (2, .int p1)] := hl
  have b_p1 := ti_b p1
  refine zz_cap (fun Z hZ1 hZ2 => ?_)
  refine lv_iload_n hx hb dX8_escaped_0 rfl (lv_at hl 2 rfl) ?_
  refine lv_iconst (v := 1) hx hb dX8_escaped_1 (by decide) ?_
  refine lv_iadd hx hb dX8_escaped_2 ?_
  refine lv_topi (fun x_1 ex_1 => ?_)
  have b_p1 := ti_b p1
  have tx_1 := ti_add ex_1
  refine lv_aload_n hx hb dX8_escaped_3 rfl (lv_at hl 0 rfl) ?_
  have hPc := hP.sub (ws' := [(x, .inr (7, [.ref x_signs, .int x_length]))]) [0] rfl
  refine va_calli (va_runV (As := []) (rest := [.int x_1]) ⟨hx, hb, hml, hown, hts⟩ (c_X10_length l D cI cD cJ s.heap.size x x_signs x_length (by omega)) (cwV 0 hts (goodIn_app (goodIn_r _ [1, 2, 3, 4] rfl (by decide +kernel)) (goodIn_sub i_X10_length k_X10_length)) rfl rfl rfl (by decide +kernel) ⟨Nat.le_of_ble_eq_true rfl, Nat.le_of_ble_eq_true rfl⟩) ⟨fun a U g mk q => by obtain ⟨q0, qP, qK⟩ := q; exact ⟨q0, qP, va_K.moved (u := U) (U := U.calling g mk a) (Vm.Alike.refl U.vm) qK⟩, va_recv hK hPc (ci := 7) (q0 := 0) rfl rfl, fun U hU hW => ⟨rfl, by rw [hU]; exact hPc, va_K.moved hW.alike hK⟩⟩ rfl rfl hl.1 rfl (lv_room (Nat.le_of_ble_eq_true rfl)) dX8_escaped_4 ⟨Nat.le_of_ble_eq_true rfl, Nat.le_of_ble_eq_true rfl⟩) hS (fun q _ h => h.elim) (fun q h => h.elim) (fun x_2 u t H1 locs ht hvm w_3 hB hz1 hk1 hS => ?_)
  have hP : va_P D vwCl [(x, .inr (7, [.ref x_signs, .int x_length])), (x_signs, .inl (cI, 255, .inl x_signsF)), (f, .inr (2, [.ref f_kinds, .ref f_signs, .ref f_sizes, .ref f_places, .ref f_limits, .ref f_starts, .ref f_sorts, .int f_count, .int f_sections, .int f_fifth])), (f_kinds, .inl (cI, 255, .inl f_kindsF)), (f_signs, .inl (cI, 255, .inl f_signsF)), (f_sizes, .inl (cI, 255, .inl f_sizesF)), (f_places, .inl (cI, 255, .inl f_placesF)), (f_limits, .inl (cD, 255, .inr (.inr (.inr (.inl f_limitsF)))))] H1 := hP.kept (fun k9 q9 h9 => hk1 q9.1 (vx_lt hP h9) (fun h => h))
  generalize H1 = H at hP hS ⊢
  try dsimp only at w_3
  refine lv_icmp_lt (tgt := 20) hx hb dX8_escaped_7 (by decide) (fun c_4 => ?_) (fun c_4 => ?_)
  · have ic_4 : (x_1 : Int32).toInt < (x_2 : Int32).toInt := (fa_lt x_1 x_2).mp c_4
    refine lv_aload_n hx hb dX8_escaped_20 rfl (lv_at hl 1 rfl) ?_
    refine lv_iconst (v := 1) hx hb dX8_escaped_21 (by decide) ?_
    refine lv_aload_n hx hb dX8_escaped_22 rfl (lv_at hl 0 rfl) ?_
    refine lv_iload_n hx hb dX8_escaped_23 rfl (lv_at hl 2 rfl) ?_
    have hPc := hP.sub (ws' := [(x, .inr (7, [.ref x_signs, .int x_length])), (x_signs, .inl (cI, 255, .inl x_signsF))]) [0, 1] rfl
    refine va_calli (va_runV (As := [.int p1]) (rest := [.int 1, .ref f]) ⟨hx, hb, hml, hown, hts⟩ (c_X10_at l D cI cD cJ H.size x x_signs x_length x_signsF p1 (by omega) (by assumption)) (cwV 1 hts (goodIn_app (goodIn_r _ [5, 6, 7, 4] rfl (by decide +kernel)) (goodIn_sub i_X10_at k_X10_at)) rfl rfl rfl (by decide +kernel) ⟨Nat.le_of_ble_eq_true rfl, Nat.le_of_ble_eq_true rfl⟩) ⟨fun a U g mk q => by obtain ⟨q0, qP, qK⟩ := q; exact ⟨q0, qP, va_K.moved (u := U) (U := U.calling g mk a) (Vm.Alike.refl U.vm) qK⟩, va_recv hK hPc (ci := 7) (q0 := 0) rfl rfl, fun U hU hW => ⟨rfl, by rw [hU]; exact hPc, va_K.moved hW.alike hK⟩⟩ rfl rfl hl.1 rfl (lv_room (Nat.le_of_ble_eq_true rfl)) dX8_escaped_24 ⟨Nat.le_of_ble_eq_true rfl, Nat.le_of_ble_eq_true rfl⟩) hS (fun q _ h => h.elim) (fun q h => h.elim) (fun x_5 u t H1 locs ht hvm w_6 hB hz1 hk1 hS => ?_)
    have hP : va_P D vwCl [(x, .inr (7, [.ref x_signs, .int x_length])), (x_signs, .inl (cI, 255, .inl x_signsF)), (f, .inr (2, [.ref f_kinds, .ref f_signs, .ref f_sizes, .ref f_places, .ref f_limits, .ref f_starts, .ref f_sorts, .int f_count, .int f_sections, .int f_fifth])), (f_kinds, .inl (cI, 255, .inl f_kindsF)), (f_signs, .inl (cI, 255, .inl f_signsF)), (f_sizes, .inl (cI, 255, .inl f_sizesF)), (f_places, .inl (cI, 255, .inl f_placesF)), (f_limits, .inl (cD, 255, .inr (.inr (.inr (.inl f_limitsF)))))] H1 := hP.kept (fun k9 q9 h9 => hk1 q9.1 (vx_lt hP h9) (fun h => h))
    generalize H1 = H at hP hS ⊢
    try dsimp only at w_6
    refine lv_bipush (v := 95) hx hb dX8_escaped_27 (by decide) ?_
    have K_44 : ∀ (z_7 : Int32) (H : Heap) (locs : List Loc) (ls : Array Slot), va_P D vwCl [(x, .inr (7, [.ref x_signs, .int x_length])), (x_signs, .inl (cI, 255, .inl x_signsF)), (f, .inr (2, [.ref f_kinds, .ref f_signs, .ref f_sizes, .ref f_places, .ref f_limits, .ref f_starts, .ref f_sorts, .int f_count, .int f_sections, .int f_fifth])), (f_kinds, .inl (cI, 255, .inl f_kindsF)), (f_signs, .inl (cI, 255, .inl f_signsF)), (f_sizes, .inl (cI, 255, .inl f_sizesF)), (f_places, .inl (cI, 255, .inl f_placesF)), (f_limits, .inl (cD, 255, .inr (.inr (.inr (.inl f_limitsF)))))] H → va_D A [(x, .inr (7, [.ref x_signs, .int x_length])), (x_signs, .inl (cI, 255, .inl x_signsF)), (f, .inr (2, [.ref f_kinds, .ref f_signs, .ref f_sizes, .ref f_places, .ref f_limits, .ref f_starts, .ref f_sorts, .int f_count, .int f_sections, .int f_fifth])), (f_kinds, .inl (cI, 255, .inl f_kindsF)), (f_signs, .inl (cI, 255, .inl f_signsF)), (f_sizes, .inl (cI, 255, .inl f_sizesF)), (f_places, .inl (cI, 255, .inl f_placesF)), (f_limits, .inl (cD, 255, .inr (.inr (.inr (.inl f_limitsF)))))] → va_S A s.heap H locs → lv_has ls 3 [(2, .int p1)] → Z 0 0 H locs (F0 m 44 ls [.int z_7, .int 1, .ref f]) := by
      intro z_7 H locs ls  hP hD hS hl
      refine hZ2 ?_
      refine lv_iconst (v := 1) hx hb dX8_escaped_44 (by decide) ?_
      refine lv_iload_n hx hb dX8_escaped_45 rfl (lv_at hl 0 rfl) ?_
      have hPc := hP.sub (ws' := [(f, .inr (2, [.ref f_kinds, .ref f_signs, .ref f_sizes, .ref f_places, .ref f_limits, .ref f_starts, .ref f_sorts, .int f_count, .int f_sections, .int f_fifth])), (f_kinds, .inl (cI, 255, .inl f_kindsF)), (f_signs, .inl (cI, 255, .inl f_signsF)), (f_sizes, .inl (cI, 255, .inl f_sizesF)), (f_places, .inl (cI, 255, .inl f_placesF)), (f_limits, .inl (cD, 255, .inr (.inr (.inr (.inl f_limitsF)))))]) [2, 3, 4, 5, 6, 7] rfl
      have hDc := hD.sub (ws' := [(f, .inr (2, [.ref f_kinds, .ref f_signs, .ref f_sizes, .ref f_places, .ref f_limits, .ref f_starts, .ref f_sorts, .int f_count, .int f_sections, .int f_fifth])), (f_kinds, .inl (cI, 255, .inl f_kindsF)), (f_signs, .inl (cI, 255, .inl f_signsF)), (f_sizes, .inl (cI, 255, .inl f_sizesF)), (f_places, .inl (cI, 255, .inl f_placesF)), (f_limits, .inl (cD, 255, .inr (.inr (.inr (.inl f_limitsF)))))]) [2, 3, 4, 5, 6, 7] (by decide) rfl
      have hFc := va_free (wc := [(f, .inr (2, [.ref f_kinds, .ref f_signs, .ref f_sizes, .ref f_places, .ref f_limits, .ref f_starts, .ref f_sorts, .int f_count, .int f_sections, .int f_fifth])), (f_kinds, .inl (cI, 255, .inl f_kindsF)), (f_signs, .inl (cI, 255, .inl f_signsF)), (f_sizes, .inl (cI, 255, .inl f_sizesF)), (f_places, .inl (cI, 255, .inl f_placesF)), (f_limits, .inl (cD, 255, .inr (.inr (.inr (.inl f_limitsF)))))]) hD hS hA [2, 3, 4, 5, 6, 7] rfl
      refine va_callv (va_runV (As := [.int 1, .int z_7, .int 1, .int p1]) (rest := []) ⟨hx, hb, hml, hown, hts⟩ (c_X2_add l D cI cD cJ H.size f f_kinds f_signs f_sizes f_places f_limits f_starts f_sorts f_count f_sections f_fifth f_kindsF f_signsF f_sizesF f_placesF f_limitsF 1 z_7 1 p1 (by omega) (by omega) (by omega) (by assumption)) (cwV 4 hts (goodIn_app (goodIn_r _ [8, 9, 10, 11] rfl (by decide +kernel)) (goodIn_sub i_X2_add k_X2_add)) rfl rfl rfl (by decide +kernel) ⟨Nat.le_of_ble_eq_true rfl, Nat.le_of_ble_eq_true rfl⟩) ⟨fun a U g mk q => by obtain ⟨q0, q1, qP, qK, qD⟩ := q; exact ⟨q0, q1, qP, va_K.moved (u := U) (U := U.calling g mk a) (Vm.Alike.refl U.vm) qK, qD⟩, va_recv hK hPc (ci := 2) (q0 := 0) rfl rfl, fun U hU hW => ⟨rfl, by rw [hU], by rw [hU]; exact hPc, va_K.moved hW.alike hK, hDc.weaken (fun _ _ _ _ => trivial)⟩⟩ rfl rfl hl.1 rfl (lv_room (Nat.le_of_ble_eq_true rfl)) dX8_escaped_46 ⟨Nat.le_of_ble_eq_true rfl, Nat.le_of_ble_eq_true rfl⟩) hS (fun q _ h => hFc q h) hFc (fun u t H1 locs ht hvm w_8 hB hz1 hk1 hS => ?_)
      obtain ⟨u_9, u_10, u_11, u_12, u_13, u_14⟩ := u
      obtain ⟨hP1, hK1, hD1⟩ := hB
      rw [ht] at hP1
      try dsimp only at w_8
      obtain ⟨hP, hD⟩ := va_join (wr := [(x, .inr (7, [.ref x_signs, .int x_length])), (x_signs, .inl (cI, 255, .inl x_signsF))]) (w1 := [(f, .inr (2, [.ref f_kinds, .ref f_signs, .ref f_sizes, .ref f_places, .ref f_limits, .ref f_starts, .ref f_sorts, .int u_9, .int f_sections, .int f_fifth])), (f_kinds, .inl (cI, 255, .inl u_10)), (f_signs, .inl (cI, 255, .inl u_11)), (f_sizes, .inl (cI, 255, .inl u_12)), (f_places, .inl (cI, 255, .inl u_13)), (f_limits, .inl (cD, 255, .inr (.inr (.inr (.inl u_14)))))]) hP hD [2, 3, 4, 5, 6, 7] [0, 1] rfl rfl (by decide) (by decide) hk1 hFc hP1 hD1
      generalize H1 = H at hP hS ⊢
      have hP : va_P D vwCl [(x, .inr (7, [.ref x_signs, .int x_length])), (x_signs, .inl (cI, 255, .inl x_signsF)), (f, .inr (2, [.ref f_kinds, .ref f_signs, .ref f_sizes, .ref f_places, .ref f_limits, .ref f_starts, .ref f_sorts, .int u_9, .int f_sections, .int f_fifth])), (f_kinds, .inl (cI, 255, .inl u_10)), (f_signs, .inl (cI, 255, .inl u_11)), (f_sizes, .inl (cI, 255, .inl u_12)), (f_places, .inl (cI, 255, .inl u_13)), (f_limits, .inl (cD, 255, .inr (.inr (.inr (.inl u_14)))))] H := hP
      have hD : va_D A [(x, .inr (7, [.ref x_signs, .int x_length])), (x_signs, .inl (cI, 255, .inl x_signsF)), (f, .inr (2, [.ref f_kinds, .ref f_signs, .ref f_sizes, .ref f_places, .ref f_limits, .ref f_starts, .ref f_sorts, .int u_9, .int f_sections, .int f_fifth])), (f_kinds, .inl (cI, 255, .inl u_10)), (f_signs, .inl (cI, 255, .inl u_11)), (f_sizes, .inl (cI, 255, .inl u_12)), (f_places, .inl (cI, 255, .inl u_13)), (f_limits, .inl (cD, 255, .inr (.inr (.inr (.inl u_14)))))] := hD
      obtain ⟨w_8_0, w_8_1⟩ := w_8
      refine lv_iload_n hx hb dX8_escaped_49 rfl (lv_at hl 0 rfl) ?_
      refine lv_iconst (v := 2) hx hb dX8_escaped_50 (by decide) ?_
      refine lv_iadd hx hb dX8_escaped_51 ?_
      refine lv_topi (fun x_15 ex_15 => ?_)
      have b_p1 := ti_b p1
      have tx_15 := ti_add ex_15
      have hP9 := hP.sub (ws' := [(x, .inr (7, [.ref x_signs, .int x_length])), (x_signs, .inl (cI, 255, .inl x_signsF)), (f, .inr (2, [.ref f_kinds, .ref f_signs, .ref f_sizes, .ref f_places, .ref f_limits, .ref f_starts, .ref f_sorts, .int u_9, .int f_sections, .int f_fifth])), (f_kinds, .inl (cI, 255, .inl u_10)), (f_signs, .inl (cI, 255, .inl u_11)), (f_sizes, .inl (cI, 255, .inl u_12)), (f_places, .inl (cI, 255, .inl u_13)), (f_limits, .inl (cD, 255, .inr (.inr (.inr (.inl u_14)))))]) [0, 1, 2, 3, 4, 5, 6, 7] rfl
      have hD9 := hD.sub (ws' := [(x, .inr (7, [.ref x_signs, .int x_length])), (x_signs, .inl (cI, 255, .inl x_signsF)), (f, .inr (2, [.ref f_kinds, .ref f_signs, .ref f_sizes, .ref f_places, .ref f_limits, .ref f_starts, .ref f_sorts, .int u_9, .int f_sections, .int f_fifth])), (f_kinds, .inl (cI, 255, .inl u_10)), (f_signs, .inl (cI, 255, .inl u_11)), (f_sizes, .inl (cI, 255, .inl u_12)), (f_places, .inl (cI, 255, .inl u_13)), (f_limits, .inl (cD, 255, .inr (.inr (.inr (.inl u_14)))))]) [0, 1, 2, 3, 4, 5, 6, 7] (by decide) rfl
      exact W.iret (v := x_15) hx hb hr (fun t ht hW => ⟨⟨x_15, (u_9, u_10, u_11, u_12, u_13, u_14), rfl, (by (try dsimp only); refine ⟨?_, ?_, ?_⟩ <;> first | omega | assumption), by rw [ht]; exact hP9, va_K.moved hW.alike hK, hD9⟩, hS.F ht⟩) hS.2.2 dX8_escaped_52
    refine lv_icmp_ne (tgt := 37) hx hb dX8_escaped_29 (by decide) (fun c_16 => ?_) (fun c_16 => ?_)
    · have ic_16 : ¬ ((x_5 : Int32).toInt = (95 : Int32).toInt) := fun h9 => c_16 ((fa_eq x_5 95).mpr h9)
      refine lv_aload_n hx hb dX8_escaped_37 rfl (lv_at hl 0 rfl) ?_
      refine lv_iload_n hx hb dX8_escaped_38 rfl (lv_at hl 2 rfl) ?_
      refine lv_iconst (v := 1) hx hb dX8_escaped_39 (by decide) ?_
      refine lv_iadd hx hb dX8_escaped_40 ?_
      refine lv_topi (fun x_17 ex_17 => ?_)
      have b_p1 := ti_b p1
      have tx_17 := ti_add ex_17
      have hPc := hP.sub (ws' := [(x, .inr (7, [.ref x_signs, .int x_length])), (x_signs, .inl (cI, 255, .inl x_signsF))]) [0, 1] rfl
      refine va_calli (va_runV (As := [.int x_17]) (rest := [.int 1, .ref f]) ⟨hx, hb, hml, hown, hts⟩ (c_X10_at l D cI cD cJ H.size x x_signs x_length x_signsF x_17 (by omega) (by assumption)) (cwV 1 hts (goodIn_app (goodIn_r _ [5, 6, 7, 4] rfl (by decide +kernel)) (goodIn_sub i_X10_at k_X10_at)) rfl rfl rfl (by decide +kernel) ⟨Nat.le_of_ble_eq_true rfl, Nat.le_of_ble_eq_true rfl⟩) ⟨fun a U g mk q => by obtain ⟨q0, qP, qK⟩ := q; exact ⟨q0, qP, va_K.moved (u := U) (U := U.calling g mk a) (Vm.Alike.refl U.vm) qK⟩, va_recv hK hPc (ci := 7) (q0 := 0) rfl rfl, fun U hU hW => ⟨rfl, by rw [hU]; exact hPc, va_K.moved hW.alike hK⟩⟩ rfl rfl hl.1 rfl (lv_room (Nat.le_of_ble_eq_true rfl)) dX8_escaped_41 ⟨Nat.le_of_ble_eq_true rfl, Nat.le_of_ble_eq_true rfl⟩) hS (fun q _ h => h.elim) (fun q h => h.elim) (fun x_18 u t H1 locs ht hvm w_19 hB hz1 hk1 hS => ?_)
      have hP : va_P D vwCl [(x, .inr (7, [.ref x_signs, .int x_length])), (x_signs, .inl (cI, 255, .inl x_signsF)), (f, .inr (2, [.ref f_kinds, .ref f_signs, .ref f_sizes, .ref f_places, .ref f_limits, .ref f_starts, .ref f_sorts, .int f_count, .int f_sections, .int f_fifth])), (f_kinds, .inl (cI, 255, .inl f_kindsF)), (f_signs, .inl (cI, 255, .inl f_signsF)), (f_sizes, .inl (cI, 255, .inl f_sizesF)), (f_places, .inl (cI, 255, .inl f_placesF)), (f_limits, .inl (cD, 255, .inr (.inr (.inr (.inl f_limitsF)))))] H1 := hP.kept (fun k9 q9 h9 => hk1 q9.1 (vx_lt hP h9) (fun h => h))
      generalize H1 = H at hP hS ⊢
      try dsimp only at w_19
      exact hZ1 (K_44 x_18 _ _ _ hP hD hS (lv_sub hl [2] rfl))
    · have ic_16 : (x_5 : Int32).toInt = (95 : Int32).toInt := (fa_eq x_5 95).mp c_16
      refine lv_bipush (v := 32) hx hb dX8_escaped_32 (by decide) ?_
      refine lv_goto (tgt := 44) hx hb dX8_escaped_34 (by decide) ?_
      exact hZ1 (K_44 32 _ _ _ hP hD hS (lv_sub hl [2] rfl))
  · have ic_4 : ¬ ((x_1 : Int32).toInt < (x_2 : Int32).toInt) := fun h9 => c_4 ((fa_lt x_1 x_2).mpr h9)
    refine lv_aload_n hx hb dX8_escaped_10 rfl (lv_at hl 0 rfl) ?_
    refine lv_aload_n hx hb dX8_escaped_11 rfl (lv_at hl 1 rfl) ?_
    refine lv_iload_n hx hb dX8_escaped_12 rfl (lv_at hl 2 rfl) ?_
    refine lv_iload_n hx hb dX8_escaped_13 rfl (lv_at hl 2 rfl) ?_
    refine lv_iconst (v := 1) hx hb dX8_escaped_14 (by decide) ?_
    refine lv_iadd hx hb dX8_escaped_15 ?_
    refine lv_topi (fun x_20 ex_20 => ?_)
    have b_p1 := ti_b p1
    have tx_20 := ti_add ex_20
    have hPc := hP.sub (ws' := [(x, .inr (7, [.ref x_signs, .int x_length])), (x_signs, .inl (cI, 255, .inl x_signsF)), (f, .inr (2, [.ref f_kinds, .ref f_signs, .ref f_sizes, .ref f_places, .ref f_limits, .ref f_starts, .ref f_sorts, .int f_count, .int f_sections, .int f_fifth])), (f_kinds, .inl (cI, 255, .inl f_kindsF)), (f_signs, .inl (cI, 255, .inl f_signsF)), (f_sizes, .inl (cI, 255, .inl f_sizesF)), (f_places, .inl (cI, 255, .inl f_placesF)), (f_limits, .inl (cD, 255, .inr (.inr (.inr (.inl f_limitsF)))))]) [0, 1, 2, 3, 4, 5, 6, 7] rfl
    have hDc := hD.sub (ws' := [(x, .inr (7, [.ref x_signs, .int x_length])), (x_signs, .inl (cI, 255, .inl x_signsF)), (f, .inr (2, [.ref f_kinds, .ref f_signs, .ref f_sizes, .ref f_places, .ref f_limits, .ref f_starts, .ref f_sorts, .int f_count, .int f_sections, .int f_fifth])), (f_kinds, .inl (cI, 255, .inl f_kindsF)), (f_signs, .inl (cI, 255, .inl f_signsF)), (f_sizes, .inl (cI, 255, .inl f_sizesF)), (f_places, .inl (cI, 255, .inl f_placesF)), (f_limits, .inl (cD, 255, .inr (.inr (.inr (.inl f_limitsF)))))]) [0, 1, 2, 3, 4, 5, 6, 7] (by decide) rfl
    have hFc := va_free (wc := [(x, .inr (7, [.ref x_signs, .int x_length])), (x_signs, .inl (cI, 255, .inl x_signsF)), (f, .inr (2, [.ref f_kinds, .ref f_signs, .ref f_sizes, .ref f_places, .ref f_limits, .ref f_starts, .ref f_sorts, .int f_count, .int f_sections, .int f_fifth])), (f_kinds, .inl (cI, 255, .inl f_kindsF)), (f_signs, .inl (cI, 255, .inl f_signsF)), (f_sizes, .inl (cI, 255, .inl f_sizesF)), (f_places, .inl (cI, 255, .inl f_placesF)), (f_limits, .inl (cD, 255, .inr (.inr (.inr (.inl f_limitsF)))))]) hD hS hA [0, 1, 2, 3, 4, 5, 6, 7] rfl
    refine va_calli (va_runS (As := [.ref x, .ref f, .int p1, .int x_20]) (rest := []) ⟨hx, hb, hml, hown, hts⟩ (c_X8_bad l D cI cD cJ H.size x x_signs x_length x_signsF f f_kinds f_signs f_sizes f_places f_limits f_starts f_sorts f_count f_sections f_fifth f_kindsF f_signsF f_sizesF f_placesF f_limitsF p1 x_20 (by omega) (by assumption) (by omega) (by omega) (by assumption)) (va_cwS 4 hts (goodIn_app (goodIn_r _ [12, 13, 14] rfl (by decide +kernel)) (goodIn_sub i_X8_bad k_X8_bad)) rfl rfl rfl (by decide +kernel) ⟨Nat.le_of_ble_eq_true rfl, Nat.le_of_ble_eq_true rfl⟩) ⟨fun a U g mk q => by obtain ⟨q0, q1, qP, qK, qD⟩ := q; exact ⟨q0, q1, qP, va_K.moved (u := U) (U := U.calling g mk a) (Vm.Alike.refl U.vm) qK, qD⟩, fun U hU hW => ⟨rfl, by rw [hU], by rw [hU]; exact hPc, va_K.moved hW.alike hK, hDc.weaken (fun _ _ _ _ => trivial)⟩⟩ rfl rfl hl.1 rfl (lv_room (Nat.le_of_ble_eq_true rfl)) dX8_escaped_16 ⟨Nat.le_of_ble_eq_true rfl, Nat.le_of_ble_eq_true rfl⟩) hS (fun q _ h => hFc q h) hFc (fun x_21 u t H1 locs ht hvm w_22 hB hz1 hk1 hS => ?_)
    obtain ⟨u_23, u_24, u_25, u_26, u_27, u_28⟩ := u
    obtain ⟨hP1, hK1, hD1⟩ := hB
    rw [ht] at hP1
    try dsimp only at w_22
    obtain ⟨hP, hD⟩ := va_join (wr := []) (w1 := [(x, .inr (7, [.ref x_signs, .int x_length])), (x_signs, .inl (cI, 255, .inl x_signsF)), (f, .inr (2, [.ref f_kinds, .ref f_signs, .ref f_sizes, .ref f_places, .ref f_limits, .ref f_starts, .ref f_sorts, .int u_23, .int f_sections, .int f_fifth])), (f_kinds, .inl (cI, 255, .inl u_24)), (f_signs, .inl (cI, 255, .inl u_25)), (f_sizes, .inl (cI, 255, .inl u_26)), (f_places, .inl (cI, 255, .inl u_27)), (f_limits, .inl (cD, 255, .inr (.inr (.inr (.inl u_28)))))]) hP hD [0, 1, 2, 3, 4, 5, 6, 7] [] rfl rfl (by decide) (by decide) hk1 hFc hP1 hD1
    generalize H1 = H at hP hS ⊢
    have hP : va_P D vwCl [(x, .inr (7, [.ref x_signs, .int x_length])), (x_signs, .inl (cI, 255, .inl x_signsF)), (f, .inr (2, [.ref f_kinds, .ref f_signs, .ref f_sizes, .ref f_places, .ref f_limits, .ref f_starts, .ref f_sorts, .int u_23, .int f_sections, .int f_fifth])), (f_kinds, .inl (cI, 255, .inl u_24)), (f_signs, .inl (cI, 255, .inl u_25)), (f_sizes, .inl (cI, 255, .inl u_26)), (f_places, .inl (cI, 255, .inl u_27)), (f_limits, .inl (cD, 255, .inr (.inr (.inr (.inl u_28)))))] H := hP
    have hD : va_D A [(x, .inr (7, [.ref x_signs, .int x_length])), (x_signs, .inl (cI, 255, .inl x_signsF)), (f, .inr (2, [.ref f_kinds, .ref f_signs, .ref f_sizes, .ref f_places, .ref f_limits, .ref f_starts, .ref f_sorts, .int u_23, .int f_sections, .int f_fifth])), (f_kinds, .inl (cI, 255, .inl u_24)), (f_signs, .inl (cI, 255, .inl u_25)), (f_sizes, .inl (cI, 255, .inl u_26)), (f_places, .inl (cI, 255, .inl u_27)), (f_limits, .inl (cD, 255, .inr (.inr (.inr (.inl u_28)))))] := hD
    obtain ⟨w_22_0, w_22_1, w_22_2⟩ := w_22
    have b_x_21 := ti_b x_21
    have hP9 := hP.sub (ws' := [(x, .inr (7, [.ref x_signs, .int x_length])), (x_signs, .inl (cI, 255, .inl x_signsF)), (f, .inr (2, [.ref f_kinds, .ref f_signs, .ref f_sizes, .ref f_places, .ref f_limits, .ref f_starts, .ref f_sorts, .int u_23, .int f_sections, .int f_fifth])), (f_kinds, .inl (cI, 255, .inl u_24)), (f_signs, .inl (cI, 255, .inl u_25)), (f_sizes, .inl (cI, 255, .inl u_26)), (f_places, .inl (cI, 255, .inl u_27)), (f_limits, .inl (cD, 255, .inr (.inr (.inr (.inl u_28)))))]) [0, 1, 2, 3, 4, 5, 6, 7] rfl
    have hD9 := hD.sub (ws' := [(x, .inr (7, [.ref x_signs, .int x_length])), (x_signs, .inl (cI, 255, .inl x_signsF)), (f, .inr (2, [.ref f_kinds, .ref f_signs, .ref f_sizes, .ref f_places, .ref f_limits, .ref f_starts, .ref f_sorts, .int u_23, .int f_sections, .int f_fifth])), (f_kinds, .inl (cI, 255, .inl u_24)), (f_signs, .inl (cI, 255, .inl u_25)), (f_sizes, .inl (cI, 255, .inl u_26)), (f_places, .inl (cI, 255, .inl u_27)), (f_limits, .inl (cD, 255, .inr (.inr (.inr (.inl u_28)))))]) [0, 1, 2, 3, 4, 5, 6, 7] (by decide) rfl
    exact W.iret (v := x_21) hx hb hr (fun t ht hW => ⟨⟨x_21, (u_23, u_24, u_25, u_26, u_27, u_28), rfl, (by (try dsimp only); refine ⟨?_, ?_, ?_⟩ <;> first | omega | assumption), by rw [ht]; exact hP9, va_K.moved hW.alike hK, hD9⟩, hS.F ht⟩) hS.2.2 dX8_escaped_19

def ow_X8_isElapsed : List Cond := [Cond.methodLink RX8 46 yX10_smallAt, Cond.instanceMethod yX10_smallAt, Cond.selects RX10 yX10_smallAt yX10_smallAt, Cond.initialized RX10]
def pw_X8_isElapsed : List Cond := Cond.code yX8_isElapsed cX8_isElapsed 6 (some .boolean) :: (ow_X8_isElapsed ++ (pw_X10_smallAt))
set_option maxRecDepth 20000 in
theorem mo_X8_isElapsed : ∀ w ∈ ow_X8_isElapsed, w ∈ lw_tbl := by decide +kernel
set_option maxRecDepth 20000 in
theorem mc_X8_isElapsed : Cond.code yX8_isElapsed cX8_isElapsed 6 (some .boolean) ∈ lw_tbl := by decide +kernel
theorem m_X8_isElapsed : ∀ w ∈ pw_X8_isElapsed, w ∈ lw_tbl := List.forall_mem_cons.mpr ⟨mc_X8_isElapsed, (List.forall_mem_append.mpr ⟨mo_X8_isElapsed, m_X10_smallAt⟩)⟩
theorem ko_X8_isElapsed : ∀ w ∈ ow_X8_isElapsed, goodWord w = true := by decide +kernel
theorem k_X8_isElapsed : pw_X8_isElapsed.all goodWord = true := List.all_eq_true.mpr (List.forall_mem_cons.mpr ⟨by decide +kernel, (List.forall_mem_append.mpr ⟨ko_X8_isElapsed, (List.all_eq_true.mp k_X10_smallAt)⟩)⟩)
set_option maxHeartbeats 400000 in
set_option maxRecDepth 100000 in
theorem c_X8_isElapsed (l : Launch) (D : va_G) (cI cD cJ : ClassId) (sz : Nat) (x : Nat) (x_signs : Nat) (x_length : Int32) (x_signsF : Nat → Int32) (p1 : Int32) (p2 : Int32) (iv_x_length : 0 ≤ (x_length : Int32).toInt ∧ (x_length : Int32).toInt ≤ 255) (iv_x_signsF : ∀ k9 : Nat, k9 < 255 → 0 ≤ (x_signsF k9).toInt ∧ (x_signsF k9).toInt ≤ 255) : Met l yX8_isElapsed pw_X8_isElapsed ({ frames := 2, cells := 0, slots := 0, locals := 43 }) (va_Pc [.ref x, .int p1, .int p2] (fun U => va_P D vwCl [(x, .inr (7, [.ref x_signs, .int x_length])), (x_signs, .inl (cI, 255, .inl x_signsF))] U.heap ∧ va_K D vwCl (ty3 cI cD cJ) U)) (va_Qi (fun (r : Int32) (u : Unit) => (r.toInt = 0 ∨ r.toInt = 1)) (fun _ _ => True) (fun _ => False)) 0 0 (fun _ => False) := by
  refine Met.ofW (cc := cX8_isElapsed) (maxL := 6) (ret := (some .boolean)) (by decide +kernel) rfl ?_
  intro p e s m args below meth c s₁ B hml hv
  obtain ⟨rfl, hP, hK⟩ := hv
  have hx := B.exec
  have hb := B.bytes
  have hr := B.returns
  have hts := atoms_spec (ws := pw_X8_isElapsed) B.pre
  have hown : s.vm.findClass RX8 = some m.cls := findClass_of_methodNamed B.named
  have hlocks := B.notSynchronized
  have hS : va_S (fun _ => False) s.heap s.heap [] := va_S.rf
  have hw : ∀ (k : Nat) (w : Cond), ow_X8_isElapsed[k]? = some w → w.before _ s = true := fun k w h => hts w (List.mem_cons_of_mem _ (have h9 := List.mem_of_getElem? h; List.mem_append_left _ h9))
  have i_X10_smallAt : ∀ w ∈ pw_X10_smallAt, w ∈ pw_X8_isElapsed := fun w h9 => List.mem_cons_of_mem _ (List.mem_append_right _ (h9))
  have n_0 : ((0 : Int32)).toInt = 0 := by decide
  have n_1 : ((1 : Int32)).toInt = 1 := by decide
  have n_104 : ((104 : Int32)).toInt = 104 := by decide
  have n_109 : ((109 : Int32)).toInt = 109 := by decide
  have n_115 : ((115 : Int32)).toInt = 115 := by decide
  have n_2 : ((2 : Int32)).toInt = 2 := by decide
  have hl := lv_entry ([.ref x, .int p1, .int p2]) (n := 6) (Nat.le_of_ble_eq_true rfl)
  rw [lg_entry_eq]
  generalize (lg_sl ([.ref x, .int p1, .int p2]) ++ List.replicate (6 - (lg_sl ([.ref x, .int p1, .int p2])).length) Slot.unset).toArray = ls at hl ⊢
  have hl : lv_has ls 6 [(0, .ref x), (1, .int p1), (2, .int p2)] := hl
  have b_p1 := ti_b p1
  have b_p2 := ti_b p2
  refine zz_cap (fun Z hZ1 hZ2 => ?_)
  refine lv_aload_n hx hb dX8_isElapsed_0 rfl (lv_at hl 0 rfl) ?_
  refine lv_iload_n hx hb dX8_isElapsed_1 rfl (lv_at hl 1 rfl) ?_
  have hPc := hP.sub (ws' := [(x, .inr (7, [.ref x_signs, .int x_length])), (x_signs, .inl (cI, 255, .inl x_signsF))]) [0, 1] rfl
  refine va_calli (va_runV (As := [.int p1]) (rest := []) ⟨hx, hb, hml, hown, hts⟩ (c_X10_smallAt l D cI cD cJ s.heap.size x x_signs x_length x_signsF p1 (by omega) (by assumption)) (cwV 1 hts (goodIn_app (goodIn_r _ [1, 2, 3, 4] rfl (by decide +kernel)) (goodIn_sub i_X10_smallAt k_X10_smallAt)) rfl rfl rfl (by decide +kernel) ⟨Nat.le_of_ble_eq_true rfl, Nat.le_of_ble_eq_true rfl⟩) ⟨fun a U g mk q => by obtain ⟨q0, qP, qK⟩ := q; exact ⟨q0, qP, va_K.moved (u := U) (U := U.calling g mk a) (Vm.Alike.refl U.vm) qK⟩, va_recv hK hPc (ci := 7) (q0 := 0) rfl rfl, fun U hU hW => ⟨rfl, by rw [hU]; exact hPc, va_K.moved hW.alike hK⟩⟩ rfl rfl hl.1 rfl (lv_room (Nat.le_of_ble_eq_true rfl)) dX8_isElapsed_2 ⟨Nat.le_of_ble_eq_true rfl, Nat.le_of_ble_eq_true rfl⟩) hS (fun q _ h => h.elim) (fun q h => h.elim) (fun x_1 u t H1 locs ht hvm w_2 hB hz1 hk1 hS => ?_)
  have hP : va_P D vwCl [(x, .inr (7, [.ref x_signs, .int x_length])), (x_signs, .inl (cI, 255, .inl x_signsF))] H1 := hP.kept (fun k9 q9 h9 => hk1 q9.1 (vx_lt hP h9) (fun h => h))
  generalize H1 = H at hP hS ⊢
  try dsimp only at w_2
  refine lv_istore_n (lv' := [(3, .int x_1), (0, .ref x), (1, .int p1), (2, .int p2)]) hx hb dX8_isElapsed_5 rfl hl (by decide) rfl (fun ls hl => ?_)
  refine lv_iload_n hx hb dX8_isElapsed_6 rfl (lv_at hl 0 rfl) ?_
  refine lv_bipush (v := 104) hx hb dX8_isElapsed_7 (by decide) ?_
  have K_29 : ∀ (z_3 : Int32) (H : Heap) (locs : List Loc) (ls : Array Slot), ((z_3 : Int32).toInt = 0 ∨ (z_3 : Int32).toInt = 1) → va_P D vwCl [(x, .inr (7, [.ref x_signs, .int x_length])), (x_signs, .inl (cI, 255, .inl x_signsF))] H → va_S (fun _ => False) s.heap H locs → lv_has ls 6 [(3, .int x_1), (0, .ref x), (1, .int p1), (2, .int p2)] → Z 0 0 H locs (F0 m 29 ls [.int z_3]) := by
    intro z_3 H locs ls g29_0 hP hS hl
    refine hZ2 ?_
    refine lv_istore (lv' := [(4, .int z_3), (3, .int x_1), (0, .ref x), (1, .int p1), (2, .int p2)]) hx hb dX8_isElapsed_29 hl (by decide) rfl (fun ls hl => ?_)
    refine lv_iload_n hx hb dX8_isElapsed_31 rfl (lv_at hl 4 rfl) ?_
    refine lv_iload_n hx hb dX8_isElapsed_32 rfl (lv_at hl 3 rfl) ?_
    refine lv_isub hx hb dX8_isElapsed_33 ?_
    refine lv_topi (fun x_4 ex_4 => ?_)
    have b_p2 := ti_b p2
    have b_p1 := ti_b p1
    have tx_4 := ti_sub ex_4
    refine lv_iconst (v := 2) hx hb dX8_isElapsed_34 (by decide) ?_
    have K_54 : ∀ (z_5 : Int32) (H : Heap) (locs : List Loc) (ls : Array Slot), ((z_5 : Int32).toInt = 0 ∨ (z_5 : Int32).toInt = 1) → va_P D vwCl [(x, .inr (7, [.ref x_signs, .int x_length])), (x_signs, .inl (cI, 255, .inl x_signsF))] H → va_S (fun _ => False) s.heap H locs → lv_has ls 6 [(4, .int z_3), (1, .int p1), (2, .int p2)] → Z 0 0 H locs (F0 m 54 ls [.int z_5]) := by
      intro z_5 H locs ls g54_0 hP hS hl
      refine hZ2 ?_
      refine lv_istore (lv' := [(5, .int z_5), (4, .int z_3), (1, .int p1), (2, .int p2)]) hx hb dX8_isElapsed_54 hl (by decide) rfl (fun ls hl => ?_)
      refine lv_iload hx hb dX8_isElapsed_56 (lv_at hl 1 rfl) ?_
      refine lv_if_eq (tgt := 77) hx hb dX8_isElapsed_58 (by decide) (fun c_6 => ?_) (fun c_6 => ?_)
      · have ic_6 : (z_3 : Int32).toInt = (0 : Int32).toInt := (fa_eq z_3 0).mp c_6
        refine lv_iconst (v := 0) hx hb dX8_isElapsed_77 (by decide) ?_
        exact W.zret (v := 0) hx hb hr rfl (fun t ht hW => ⟨⟨0, (), rfl, (by (try dsimp only); first | omega | assumption), trivial⟩, hS.F ht⟩) hS.2.2 dX8_isElapsed_78
      · have ic_6 : ¬ ((z_3 : Int32).toInt = (0 : Int32).toInt) := fun h9 => c_6 ((fa_eq z_3 0).mpr h9)
        refine lv_iload_n hx hb dX8_isElapsed_61 rfl (lv_at hl 3 rfl) ?_
        refine lv_iload_n hx hb dX8_isElapsed_62 rfl (lv_at hl 2 rfl) ?_
        refine lv_isub hx hb dX8_isElapsed_63 ?_
        refine lv_topi (fun x_7 ex_7 => ?_)
        have b_p2 := ti_b p2
        have b_p1 := ti_b p1
        have tx_7 := ti_sub ex_7
        refine lv_iconst (v := 1) hx hb dX8_isElapsed_64 (by decide) ?_
        have K_73 : ∀ (H : Heap) (locs : List Loc) (ls : Array Slot), va_P D vwCl [(x, .inr (7, [.ref x_signs, .int x_length])), (x_signs, .inl (cI, 255, .inl x_signsF))] H → va_S (fun _ => False) s.heap H locs → lv_has ls 6 [] → Z 0 0 H locs (F0 m 73 ls []) := by
          intro  H locs ls  hP hS hl
          refine hZ2 ?_
          refine lv_iconst (v := 1) hx hb dX8_isElapsed_73 (by decide) ?_
          refine lv_goto (tgt := 78) hx hb dX8_isElapsed_74 (by decide) ?_
          exact W.zret (v := 1) hx hb hr rfl (fun t ht hW => ⟨⟨1, (), rfl, (by (try dsimp only); first | omega | assumption), trivial⟩, hS.F ht⟩) hS.2.2 dX8_isElapsed_78
        refine lv_icmp_eq (tgt := 73) hx hb dX8_isElapsed_65 (by decide) (fun c_8 => ?_) (fun c_8 => ?_)
        · have ic_8 : (x_7 : Int32).toInt = (1 : Int32).toInt := (fa_eq x_7 1).mp c_8
          exact hZ1 (K_73  _ _ _ hP hS (lv_sub hl [] rfl))
        · have ic_8 : ¬ ((x_7 : Int32).toInt = (1 : Int32).toInt) := fun h9 => c_8 ((fa_eq x_7 1).mpr h9)
          refine lv_iload hx hb dX8_isElapsed_68 (lv_at hl 0 rfl) ?_
          refine lv_if_eq (tgt := 77) hx hb dX8_isElapsed_70 (by decide) (fun c_9 => ?_) (fun c_9 => ?_)
          · have ic_9 : (z_5 : Int32).toInt = (0 : Int32).toInt := (fa_eq z_5 0).mp c_9
            refine lv_iconst (v := 0) hx hb dX8_isElapsed_77 (by decide) ?_
            exact W.zret (v := 0) hx hb hr rfl (fun t ht hW => ⟨⟨0, (), rfl, (by (try dsimp only); first | omega | assumption), trivial⟩, hS.F ht⟩) hS.2.2 dX8_isElapsed_78
          · have ic_9 : ¬ ((z_5 : Int32).toInt = (0 : Int32).toInt) := fun h9 => c_9 ((fa_eq z_5 0).mpr h9)
            exact hZ1 (K_73  _ _ _ hP hS (lv_sub hl [] rfl))
    have K_53 : ∀ (H : Heap) (locs : List Loc) (ls : Array Slot), va_P D vwCl [(x, .inr (7, [.ref x_signs, .int x_length])), (x_signs, .inl (cI, 255, .inl x_signsF))] H → va_S (fun _ => False) s.heap H locs → lv_has ls 6 [(4, .int z_3), (1, .int p1), (2, .int p2)] → Z 0 0 H locs (F0 m 53 ls []) := by
      intro  H locs ls  hP hS hl
      refine hZ2 ?_
      refine lv_iconst (v := 0) hx hb dX8_isElapsed_53 (by decide) ?_
      exact hZ1 (K_54 0 _ _ _ (by omega) hP hS hl)
    refine lv_icmp_ne (tgt := 53) hx hb dX8_isElapsed_35 (by decide) (fun c_10 => ?_) (fun c_10 => ?_)
    · have ic_10 : ¬ ((x_4 : Int32).toInt = (2 : Int32).toInt) := fun h9 => c_10 ((fa_eq x_4 2).mpr h9)
      exact hZ1 (K_53  _ _ _ hP hS (lv_sub hl [0, 3, 4] rfl))
    · have ic_10 : (x_4 : Int32).toInt = (2 : Int32).toInt := (fa_eq x_4 2).mp c_10
      refine lv_aload_n hx hb dX8_isElapsed_38 rfl (lv_at hl 2 rfl) ?_
      refine lv_iload_n hx hb dX8_isElapsed_39 rfl (lv_at hl 3 rfl) ?_
      refine lv_iconst (v := 1) hx hb dX8_isElapsed_40 (by decide) ?_
      refine lv_iadd hx hb dX8_isElapsed_41 ?_
      refine lv_topi (fun x_11 ex_11 => ?_)
      have b_p1 := ti_b p1
      have tx_11 := ti_add ex_11
      have hPc := hP.sub (ws' := [(x, .inr (7, [.ref x_signs, .int x_length])), (x_signs, .inl (cI, 255, .inl x_signsF))]) [0, 1] rfl
      refine va_calli (va_runV (As := [.int x_11]) (rest := []) ⟨hx, hb, hml, hown, hts⟩ (c_X10_smallAt l D cI cD cJ H.size x x_signs x_length x_signsF x_11 (by omega) (by assumption)) (cwV 1 hts (goodIn_app (goodIn_r _ [1, 2, 3, 4] rfl (by decide +kernel)) (goodIn_sub i_X10_smallAt k_X10_smallAt)) rfl rfl rfl (by decide +kernel) ⟨Nat.le_of_ble_eq_true rfl, Nat.le_of_ble_eq_true rfl⟩) ⟨fun a U g mk q => by obtain ⟨q0, qP, qK⟩ := q; exact ⟨q0, qP, va_K.moved (u := U) (U := U.calling g mk a) (Vm.Alike.refl U.vm) qK⟩, va_recv hK hPc (ci := 7) (q0 := 0) rfl rfl, fun U hU hW => ⟨rfl, by rw [hU]; exact hPc, va_K.moved hW.alike hK⟩⟩ rfl rfl hl.1 rfl (lv_room (Nat.le_of_ble_eq_true rfl)) dX8_isElapsed_42 ⟨Nat.le_of_ble_eq_true rfl, Nat.le_of_ble_eq_true rfl⟩) hS (fun q _ h => h.elim) (fun q h => h.elim) (fun x_12 u t H1 locs ht hvm w_13 hB hz1 hk1 hS => ?_)
      have hP : va_P D vwCl [(x, .inr (7, [.ref x_signs, .int x_length])), (x_signs, .inl (cI, 255, .inl x_signsF))] H1 := hP.kept (fun k9 q9 h9 => hk1 q9.1 (vx_lt hP h9) (fun h => h))
      generalize H1 = H at hP hS ⊢
      try dsimp only at w_13
      refine lv_iload_n hx hb dX8_isElapsed_45 rfl (lv_at hl 1 rfl) ?_
      refine lv_icmp_ne (tgt := 53) hx hb dX8_isElapsed_46 (by decide) (fun c_14 => ?_) (fun c_14 => ?_)
      · have ic_14 : ¬ ((x_12 : Int32).toInt = (x_1 : Int32).toInt) := fun h9 => c_14 ((fa_eq x_12 x_1).mpr h9)
        exact hZ1 (K_53  _ _ _ hP hS (lv_sub hl [0, 3, 4] rfl))
      · have ic_14 : (x_12 : Int32).toInt = (x_1 : Int32).toInt := (fa_eq x_12 x_1).mp c_14
        refine lv_iconst (v := 1) hx hb dX8_isElapsed_49 (by decide) ?_
        refine lv_goto (tgt := 54) hx hb dX8_isElapsed_50 (by decide) ?_
        exact hZ1 (K_54 1 _ _ _ (by omega) hP hS (lv_sub hl [0, 3, 4] rfl))
  have K_24 : ∀ (H : Heap) (locs : List Loc) (ls : Array Slot), va_P D vwCl [(x, .inr (7, [.ref x_signs, .int x_length])), (x_signs, .inl (cI, 255, .inl x_signsF))] H → va_S (fun _ => False) s.heap H locs → lv_has ls 6 [(3, .int x_1), (0, .ref x), (1, .int p1), (2, .int p2)] → Z 0 0 H locs (F0 m 24 ls []) := by
    intro  H locs ls  hP hS hl
    refine hZ2 ?_
    refine lv_iconst (v := 1) hx hb dX8_isElapsed_24 (by decide) ?_
    refine lv_goto (tgt := 29) hx hb dX8_isElapsed_25 (by decide) ?_
    exact hZ1 (K_29 1 _ _ _ (by omega) hP hS hl)
  refine lv_icmp_eq (tgt := 24) hx hb dX8_isElapsed_9 (by decide) (fun c_15 => ?_) (fun c_15 => ?_)
  · have ic_15 : (x_1 : Int32).toInt = (104 : Int32).toInt := (fa_eq x_1 104).mp c_15
    exact hZ1 (K_24  _ _ _ hP hS hl)
  · have ic_15 : ¬ ((x_1 : Int32).toInt = (104 : Int32).toInt) := fun h9 => c_15 ((fa_eq x_1 104).mpr h9)
    refine lv_iload_n hx hb dX8_isElapsed_12 rfl (lv_at hl 0 rfl) ?_
    refine lv_bipush (v := 109) hx hb dX8_isElapsed_13 (by decide) ?_
    refine lv_icmp_eq (tgt := 24) hx hb dX8_isElapsed_15 (by decide) (fun c_16 => ?_) (fun c_16 => ?_)
    · have ic_16 : (x_1 : Int32).toInt = (109 : Int32).toInt := (fa_eq x_1 109).mp c_16
      exact hZ1 (K_24  _ _ _ hP hS hl)
    · have ic_16 : ¬ ((x_1 : Int32).toInt = (109 : Int32).toInt) := fun h9 => c_16 ((fa_eq x_1 109).mpr h9)
      refine lv_iload_n hx hb dX8_isElapsed_18 rfl (lv_at hl 0 rfl) ?_
      refine lv_bipush (v := 115) hx hb dX8_isElapsed_19 (by decide) ?_
      refine lv_icmp_ne (tgt := 28) hx hb dX8_isElapsed_21 (by decide) (fun c_17 => ?_) (fun c_17 => ?_)
      · have ic_17 : ¬ ((x_1 : Int32).toInt = (115 : Int32).toInt) := fun h9 => c_17 ((fa_eq x_1 115).mpr h9)
        refine lv_iconst (v := 0) hx hb dX8_isElapsed_28 (by decide) ?_
        exact hZ1 (K_29 0 _ _ _ (by omega) hP hS hl)
      · have ic_17 : (x_1 : Int32).toInt = (115 : Int32).toInt := (fa_eq x_1 115).mp c_17
        exact hZ1 (K_24  _ _ _ hP hS hl)

def ow_X8_relation : List Cond := []
def pw_X8_relation : List Cond := Cond.code yX8_relation cX8_relation 2 (some .int) :: (ow_X8_relation)
set_option maxRecDepth 20000 in
theorem mo_X8_relation : ∀ w ∈ ow_X8_relation, w ∈ lw_tbl := by decide +kernel
set_option maxRecDepth 20000 in
theorem mc_X8_relation : Cond.code yX8_relation cX8_relation 2 (some .int) ∈ lw_tbl := by decide +kernel
theorem m_X8_relation : ∀ w ∈ pw_X8_relation, w ∈ lw_tbl := List.forall_mem_cons.mpr ⟨mc_X8_relation, mo_X8_relation⟩
theorem ko_X8_relation : ∀ w ∈ ow_X8_relation, goodWord w = true := by decide +kernel
theorem k_X8_relation : pw_X8_relation.all goodWord = true := List.all_eq_true.mpr (List.forall_mem_cons.mpr ⟨by decide +kernel, ko_X8_relation⟩)
set_option maxHeartbeats 400000 in
set_option maxRecDepth 100000 in
theorem c_X8_relation (l : Launch) (D : va_G) (cI cD cJ : ClassId) (sz : Nat) (p1 : Int32) (p2 : Int32) : Met l yX8_relation pw_X8_relation ({ frames := 0, cells := 0, slots := 0, locals := 0 }) (va_Pc [.int p1, .int p2] (fun U => va_P D vwCl [] U.heap ∧ va_K D vwCl (ty3 cI cD cJ) U)) (va_Qi (fun (r : Int32) (u : Unit) => (0 ≤ r.toInt ∧ r.toInt ≤ 7)) (fun _ _ => True) (fun _ => False)) 0 0 (fun _ => False) := by
  refine Met.ofW (cc := cX8_relation) (maxL := 2) (ret := (some .int)) (by decide +kernel) rfl ?_
  intro p e s m args below meth c s₁ B hml hv
  obtain ⟨rfl, hP, hK⟩ := hv
  have hx := B.exec
  have hb := B.bytes
  have hr := B.returns
  have hts := atoms_spec (ws := pw_X8_relation) B.pre
  have hown : s.vm.findClass RX8 = some m.cls := findClass_of_methodNamed B.named
  have hlocks := B.notSynchronized
  have hS : va_S (fun _ => False) s.heap s.heap [] := va_S.rf
  have hw : ∀ (k : Nat) (w : Cond), ow_X8_relation[k]? = some w → w.before _ s = true := fun k w h => hts w (List.mem_cons_of_mem _ (have h9 := List.mem_of_getElem? h; h9))
  have n_0 : ((0 : Int32)).toInt = 0 := by decide
  have n_1 : ((1 : Int32)).toInt = 1 := by decide
  have n_2 : ((2 : Int32)).toInt = 2 := by decide
  have n_3 : ((3 : Int32)).toInt = 3 := by decide
  have n_4 : ((4 : Int32)).toInt = 4 := by decide
  have n_5 : ((5 : Int32)).toInt = 5 := by decide
  have n_6 : ((6 : Int32)).toInt = 6 := by decide
  have n_61 : ((61 : Int32)).toInt = 61 := by decide
  have n_62 : ((62 : Int32)).toInt = 62 := by decide
  have hl := lv_entry ([.int p1, .int p2]) (n := 2) (Nat.le_of_ble_eq_true rfl)
  rw [lg_entry_eq]
  generalize (lg_sl ([.int p1, .int p2]) ++ List.replicate (2 - (lg_sl ([.int p1, .int p2])).length) Slot.unset).toArray = ls at hl ⊢
  have hl : lv_has ls 2 [(0, .int p1), (1, .int p2)] := hl
  have b_p1 := ti_b p1
  have b_p2 := ti_b p2
  refine lv_iload_n hx hb dX8_relation_0 rfl (lv_at hl 0 rfl) ?_
  rcases (show (p1 : Int32).toInt < 60 ∨ 62 < (p1 : Int32).toInt ∨ (p1 : Int32).toInt = 60 ∨ (p1 : Int32).toInt = 61 ∨ (p1 : Int32).toInt = 62 by omega) with v_1 | v_1 | v_1 | v_1 | v_1
  · refine lv_tableOut (tgt := 65) hx hb dX8_relation_1 (Or.inl v_1) (by decide) ?_
    refine lv_iconst (v := 0) hx hb dX8_relation_65 (by decide) ?_
    exact W.iret (v := 0) hx hb hr (fun t ht hW => ⟨⟨0, (), rfl, (by (try dsimp only); first | omega | assumption), trivial⟩, hS.F ht⟩) hS.2.2 dX8_relation_66
  · refine lv_tableOut (tgt := 65) hx hb dX8_relation_1 (Or.inr v_1) (by decide) ?_
    refine lv_iconst (v := 0) hx hb dX8_relation_65 (by decide) ?_
    exact W.iret (v := 0) hx hb hr (fun t ht hW => ⟨⟨0, (), rfl, (by (try dsimp only); first | omega | assumption), trivial⟩, hS.F ht⟩) hS.2.2 dX8_relation_66
  · refine lv_tableIn (off := 27) (tgt := 28) hx hb dX8_relation_1 (by omega) (by omega) (by rw [v_1]; rfl) (by decide) ?_
    refine lv_iload_n hx hb dX8_relation_28 rfl (lv_at hl 1 rfl) ?_
    refine lv_bipush (v := 61) hx hb dX8_relation_29 (by decide) ?_
    refine lv_icmp_ne (tgt := 38) hx hb dX8_relation_31 (by decide) (fun c_2 => ?_) (fun c_2 => ?_)
    · have ic_2 : ¬ ((p2 : Int32).toInt = (61 : Int32).toInt) := fun h9 => c_2 ((fa_eq p2 61).mpr h9)
      refine lv_iload_n hx hb dX8_relation_38 rfl (lv_at hl 1 rfl) ?_
      refine lv_bipush (v := 62) hx hb dX8_relation_39 (by decide) ?_
      refine lv_icmp_ne (tgt := 48) hx hb dX8_relation_41 (by decide) (fun c_3 => ?_) (fun c_3 => ?_)
      · have ic_3 : ¬ ((p2 : Int32).toInt = (62 : Int32).toInt) := fun h9 => c_3 ((fa_eq p2 62).mpr h9)
        refine lv_iconst (v := 1) hx hb dX8_relation_48 (by decide) ?_
        exact W.iret (v := 1) hx hb hr (fun t ht hW => ⟨⟨1, (), rfl, (by (try dsimp only); first | omega | assumption), trivial⟩, hS.F ht⟩) hS.2.2 dX8_relation_49
      · have ic_3 : (p2 : Int32).toInt = (62 : Int32).toInt := (fa_eq p2 62).mp c_3
        refine lv_iconst (v := 5) hx hb dX8_relation_44 (by decide) ?_
        refine lv_goto (tgt := 49) hx hb dX8_relation_45 (by decide) ?_
        exact W.iret (v := 5) hx hb hr (fun t ht hW => ⟨⟨5, (), rfl, (by (try dsimp only); first | omega | assumption), trivial⟩, hS.F ht⟩) hS.2.2 dX8_relation_49
    · have ic_2 : (p2 : Int32).toInt = (61 : Int32).toInt := (fa_eq p2 61).mp c_2
      refine lv_iconst (v := 3) hx hb dX8_relation_34 (by decide) ?_
      refine lv_goto (tgt := 49) hx hb dX8_relation_35 (by decide) ?_
      exact W.iret (v := 3) hx hb hr (fun t ht hW => ⟨⟨3, (), rfl, (by (try dsimp only); first | omega | assumption), trivial⟩, hS.F ht⟩) hS.2.2 dX8_relation_49
  · refine lv_tableIn (off := 62) (tgt := 63) hx hb dX8_relation_1 (by omega) (by omega) (by rw [v_1]; rfl) (by decide) ?_
    refine lv_iconst (v := 2) hx hb dX8_relation_63 (by decide) ?_
    exact W.iret (v := 2) hx hb hr (fun t ht hW => ⟨⟨2, (), rfl, (by (try dsimp only); first | omega | assumption), trivial⟩, hS.F ht⟩) hS.2.2 dX8_relation_64
  · refine lv_tableIn (off := 49) (tgt := 50) hx hb dX8_relation_1 (by omega) (by omega) (by rw [v_1]; rfl) (by decide) ?_
    refine lv_iload_n hx hb dX8_relation_50 rfl (lv_at hl 1 rfl) ?_
    refine lv_bipush (v := 61) hx hb dX8_relation_51 (by decide) ?_
    refine lv_icmp_ne (tgt := 61) hx hb dX8_relation_53 (by decide) (fun c_4 => ?_) (fun c_4 => ?_)
    · have ic_4 : ¬ ((p2 : Int32).toInt = (61 : Int32).toInt) := fun h9 => c_4 ((fa_eq p2 61).mpr h9)
      refine lv_iconst (v := 4) hx hb dX8_relation_61 (by decide) ?_
      exact W.iret (v := 4) hx hb hr (fun t ht hW => ⟨⟨4, (), rfl, (by (try dsimp only); first | omega | assumption), trivial⟩, hS.F ht⟩) hS.2.2 dX8_relation_62
    · have ic_4 : (p2 : Int32).toInt = (61 : Int32).toInt := (fa_eq p2 61).mp c_4
      refine lv_bipush (v := 6) hx hb dX8_relation_56 (by decide) ?_
      refine lv_goto (tgt := 62) hx hb dX8_relation_58 (by decide) ?_
      exact W.iret (v := 6) hx hb hr (fun t ht hW => ⟨⟨6, (), rfl, (by (try dsimp only); first | omega | assumption), trivial⟩, hS.F ht⟩) hS.2.2 dX8_relation_62

def ow_X8_nearest : List Cond := [Cond.constantDouble RX8 110 (4611686018427387904), Cond.constantLong RX8 104 (9007199254740992), Cond.constantLong RX8 106 (2), Cond.constantDouble RX8 108 (4602678819172646912), Cond.constantLong RX8 102 (10)]
def pw_X8_nearest : List Cond := Cond.code yX8_nearest cX8_nearest 12 (some .double) :: (ow_X8_nearest)
set_option maxRecDepth 20000 in
theorem mo_X8_nearest : ∀ w ∈ ow_X8_nearest, w ∈ lw_tbl := by decide +kernel
set_option maxRecDepth 20000 in
theorem mc_X8_nearest : Cond.code yX8_nearest cX8_nearest 12 (some .double) ∈ lw_tbl := by decide +kernel
theorem m_X8_nearest : ∀ w ∈ pw_X8_nearest, w ∈ lw_tbl := List.forall_mem_cons.mpr ⟨mc_X8_nearest, mo_X8_nearest⟩
theorem ko_X8_nearest : ∀ w ∈ ow_X8_nearest, goodWord w = true := by decide +kernel
theorem k_X8_nearest : pw_X8_nearest.all goodWord = true := List.all_eq_true.mpr (List.forall_mem_cons.mpr ⟨by decide +kernel, ko_X8_nearest⟩)
set_option maxHeartbeats 400000 in
set_option maxRecDepth 100000 in
theorem c_X8_nearest (l : Launch) (D : va_G) (cI cD cJ : ClassId) (sz : Nat) (p1 : Int32) (p2 : Int32) (p3 : Int32) : MetD lw_cs l yX8_nearest pw_X8_nearest ({ frames := 0, cells := 0, slots := 0, locals := 0 }) (va_Pc [.int p1, .int p2, .int p3] (fun U => va_P D vwCl [] U.heap ∧ va_K D vwCl (ty3 cI cD cJ) U)) (va_Qd (fun (r : UInt64) (u : Unit) => True) (fun _ _ => True) (fun _ => False)) 0 0 (fun _ => False) := by
  refine MetD.ofW (cc := cX8_nearest) (maxL := 12) (ret := (some .double)) (by decide +kernel) rfl ?_
  intro p e s m args below meth c s₁ B hml hv hd0
  obtain ⟨rfl, hP, hK⟩ := hv
  have hx := B.exec
  have hb := B.bytes
  have hr := B.returns
  have hts := atoms_spec (ws := pw_X8_nearest) B.pre
  have hown : s.vm.findClass RX8 = some m.cls := findClass_of_methodNamed B.named
  have hlocks := B.notSynchronized
  have hS : va_S (fun _ => False) s.heap s.heap [] := va_S.rf
  have hw : ∀ {d9 : Drawn} (k : Nat) (w : Cond), ow_X8_nearest[k]? = some w → w.before _ (s.setDrawn d9) = true := fun k w h => dr_words hts _ w (List.mem_cons_of_mem _ (have h9 := List.mem_of_getElem? h; h9))
  have n_0 : ((0 : Int32)).toInt = 0 := by decide
  have n_1 : ((1 : Int32)).toInt = 1 := by decide
  have n_100 : ((100 : Int32)).toInt = 100 := by decide
  have nl_0 : ((0 : Int64)).toInt = 0 := by decide
  have nl_1 : ((1 : Int64)).toInt = 1 := by decide
  have nl_10 : ((10 : Int64)).toInt = 10 := by decide
  have nl_2 : ((2 : Int64)).toInt = 2 := by decide
  have nl_9007199254740992 : ((9007199254740992 : Int64)).toInt = 9007199254740992 := by decide
  have hl := lv_entry ([.int p1, .int p2, .int p3]) (n := 12) (Nat.le_of_ble_eq_true rfl)
  rw [lg_entry_eq]
  generalize (lg_sl ([.int p1, .int p2, .int p3]) ++ List.replicate (12 - (lg_sl ([.int p1, .int p2, .int p3])).length) Slot.unset).toArray = ls at hl ⊢
  have hl : lv_has ls 12 [(0, .int p1), (1, .int p2), (2, .int p3)] := hl
  have b_p1 := ti_b p1
  have b_p2 := ti_b p2
  have b_p3 := ti_b p3
  refine zz_capD (fun Z hZ1 hZ2 => ?_)
  refine lv_iload_n hx hb dX8_nearest_0 rfl (lv_at hl 0 rfl) ?_
  have K_10 : ∀ (H : Heap) (locs : List Loc) (ls : Array Slot) (dq10_1 : Drawn), s.drawn.sameBut dq10_1 lw_cs → va_P D vwCl [] H → va_S (fun _ => False) s.heap H locs → lv_has ls 12 [(0, .int p1), (1, .int p2), (2, .int p3)] → Z dq10_1 0 0 H locs (F0 m 10 ls []) := by
    intro  H locs ls dq10_1 hdq10_1  hP hS hl
    refine hZ2 ?_
    refine lv_lconst (v := 1) hx hb dX8_nearest_10 (by decide) ?_
    refine lv_lstore_n (lv' := [(3, .long 1), (0, .int p1), (1, .int p2), (2, .int p3)]) hx hb dX8_nearest_11 rfl hl (by decide) rfl (fun ls hl => ?_)
    refine lv_iconst (v := 0) hx hb dX8_nearest_12 (by decide) ?_
    refine lv_istore (lv' := [(5, .int 0), (3, .long 1), (0, .int p1), (1, .int p2), (2, .int p3)]) hx hb dX8_nearest_13 hl (by decide) rfl (fun ls hl => ?_)
    have L_15 : ∀ (N : Nat) (x_2 : Int32) (y_3 : Int64) (H : Heap) (locs : List Loc) (ls : Array Slot) (dq15_4 : Drawn), s.drawn.sameBut dq15_4 lw_cs → (0 ≤ (x_2 : Int32).toInt) → ((2147483647 - (x_2 : Int32).toInt).toNat < N) → va_P D vwCl [] H → va_S (fun _ => False) s.heap H locs → lv_has ls 12 [(5, .int x_2), (3, .long y_3), (0, .int p1), (1, .int p2), (2, .int p3)] → Z dq15_4 0 0 H locs (F0 m 15 ls []) := by
      intro N
      induction N with
      | zero => intro _ _ _ _ _ _ _ _ hmu; exact absurd hmu (Nat.not_lt_zero _)
      | succ N ih_15 =>
        intro x_2 y_3 H locs ls dq15_4 hdq15_4 g15_0 hmu hP hS hl
        refine hZ2 ?_
        refine lv_iload hx hb dX8_nearest_15 (lv_at hl 0 rfl) ?_
        refine lv_iload_n hx hb dX8_nearest_17 rfl (lv_at hl 4 rfl) ?_
        refine lv_icmp_ge (tgt := 33) hx hb dX8_nearest_18 (by decide) (fun c_5 => ?_) (fun c_5 => ?_)
        · have ic_5 : (p3 : Int32).toInt ≤ (x_2 : Int32).toInt := (fa_le p3 x_2).mp c_5
          refine lv_iload_n hx hb dX8_nearest_33 rfl (lv_at hl 2 rfl) ?_
          refine lv_i2l hx hb dX8_nearest_34 rfl ?_
          refine lv_topl (fun y_6 ey_6 => ?_)
          have ty_6 := tl_i2l ey_6
          refine lv_lstore (lv' := [(5, .long y_6), (3, .long y_3), (0, .int p1), (1, .int p2), (2, .int p3)]) hx hb dX8_nearest_35 hl (by decide) rfl (fun ls hl => ?_)
          refine lv_iload_n hx hb dX8_nearest_37 rfl (lv_at hl 3 rfl) ?_
          refine lv_i2l hx hb dX8_nearest_38 rfl ?_
          refine lv_topl (fun y_7 ey_7 => ?_)
          have ty_7 := tl_i2l ey_7
          refine lv_lstore (lv' := [(7, .long y_7), (5, .long y_6), (3, .long y_3), (0, .int p1), (1, .int p2), (2, .int p3)]) hx hb dX8_nearest_39 hl (by decide) rfl (fun ls hl => ?_)
          refine lv_dconst1 hx hb dX8_nearest_41 ?_
          refine lv_dstore (lv' := [(9, .double FP.dconst1), (7, .long y_7), (5, .long y_6), (3, .long y_3), (0, .int p1), (1, .int p2), (2, .int p3)]) hx hb dX8_nearest_42 hl (by decide) rfl (fun ls hl => ?_)
          refine lv_iconst (v := 0) hx hb dX8_nearest_44 (by decide) ?_
          refine lv_istore (lv' := [(11, .int 0), (9, .double FP.dconst1), (7, .long y_7), (5, .long y_6), (3, .long y_3), (0, .int p1), (1, .int p2), (2, .int p3)]) hx hb dX8_nearest_45 hl (by decide) rfl (fun ls hl => ?_)
          have L_47 : ∀ (N : Nat) (x_8 : Int32) (d_9 : UInt64) (y_10 : Int64) (y_11 : Int64) (H : Heap) (locs : List Loc) (ls : Array Slot) (dq47_12 : Drawn), s.drawn.sameBut dq47_12 lw_cs → (0 ≤ (x_8 : Int32).toInt) → ((2147483647 - (x_8 : Int32).toInt).toNat < N) → va_P D vwCl [] H → va_S (fun _ => False) s.heap H locs → lv_has ls 12 [(11, .int x_8), (9, .double d_9), (7, .long y_10), (5, .long y_11), (3, .long y_3)] → Z dq47_12 0 0 H locs (F0 m 47 ls []) := by
            intro N
            induction N with
            | zero => intro _ _ _ _ _ _ _ _ _ _ hmu; exact absurd hmu (Nat.not_lt_zero _)
            | succ N ih_47 =>
              intro x_8 d_9 y_10 y_11 H locs ls dq47_12 hdq47_12 g47_0 hmu hP hS hl
              refine hZ2 ?_
              refine lv_iload hx hb dX8_nearest_47 (lv_at hl 0 rfl) ?_
              refine lv_bipush (v := 100) hx hb dX8_nearest_49 (by decide) ?_
              have K_124 : ∀ (H : Heap) (locs : List Loc) (ls : Array Slot) (dq124_13 : Drawn), s.drawn.sameBut dq124_13 lw_cs → va_P D vwCl [] H → va_S (fun _ => False) s.heap H locs → lv_has ls 12 [(9, .double d_9), (5, .long y_11)] → Z dq124_13 0 0 H locs (F0 m 124 ls []) := by
                intro  H locs ls dq124_13 hdq124_13  hP hS hl
                refine hZ2 ?_
                refine lv_lload hx hb dX8_nearest_124 (lv_at hl 1 rfl) ?_
                refine lv_lconst (v := 1) hx hb dX8_nearest_126 (by decide) ?_
                refine lv_ladd hx hb dX8_nearest_127 ?_
                refine lv_topl (fun y_14 ey_14 => ?_)
                have b_y_11 := tl_b y_11
                have ty_14 := tl_add ey_14
                refine lv_iconst (v := 1) hx hb dX8_nearest_128 (by decide) ?_
                refine lv_lshr hx hb dX8_nearest_129 rfl ?_
                refine lv_topl (fun y_15 ey_15 => ?_)
                refine lv_l2d hx hb dX8_nearest_130 ?_
                refine lv_topd (fun d_16 ed_16 => ?_)
                refine lv_dload hx hb dX8_nearest_131 (lv_at hl 0 rfl) ?_
                refine lv_ldc2d (v := 4611686018427387904) hx hb hown (hw 0 (.constantDouble RX8 110 (4611686018427387904)) rfl) dX8_nearest_133 ?_
                refine lv_dmul_any hdq124_13 lw_bits hx hb dX8_nearest_136 (fun d_17 dhd_18 ad_17 hd_18 => ?_)
                refine lv_dmul_any hd_18 lw_bits hx hb dX8_nearest_137 (fun d_19 dhd_20 ad_19 hd_20 => ?_)
                refine W.endD hd_20 ?_
                exact W.dret (v := d_19) hx hb hr (fun t ht hW => ⟨⟨d_19, (), rfl, trivial, trivial⟩, hS.F ht⟩) hS.2.2 dX8_nearest_138
              refine lv_icmp_ge (tgt := 124) hx hb dX8_nearest_51 (by decide) (fun c_21 => ?_) (fun c_21 => ?_)
              · have ic_21 : (100 : Int32).toInt ≤ (x_8 : Int32).toInt := (fa_le 100 x_8).mp c_21
                exact hZ1 (K_124  _ _ _ dq47_12 hdq47_12 hP hS (lv_sub hl [1, 3] rfl))
              · have ic_21 : ¬ ((100 : Int32).toInt ≤ (x_8 : Int32).toInt) := fun h9 => c_21 ((fa_le 100 x_8).mpr h9)
                refine lv_lload hx hb dX8_nearest_54 (lv_at hl 3 rfl) ?_
                refine lv_ldc2 (v := 9007199254740992) hx hb hown (hw 1 (.constantLong RX8 104 (9007199254740992)) rfl) dX8_nearest_56 ?_
                refine W.lcmp hx hb dX8_nearest_59 ?_
                refine lv_topi (fun x_22 ex_22 => ?_)
                have tx_22 := ti_lcmp ex_22
                refine lv_if_ge (tgt := 124) hx hb dX8_nearest_60 (by decide) (fun c_23 => ?_) (fun c_23 => ?_)
                · have ic_23 : (0 : Int32).toInt ≤ (x_22 : Int32).toInt := (fa_le 0 x_22).mp c_23
                  exact hZ1 (K_124  _ _ _ dq47_12 hdq47_12 hP hS (lv_sub hl [1, 3] rfl))
                · have ic_23 : ¬ ((0 : Int32).toInt ≤ (x_22 : Int32).toInt) := fun h9 => c_23 ((fa_le 0 x_22).mpr h9)
                  refine lv_lload hx hb dX8_nearest_63 (lv_at hl 2 rfl) ?_
                  refine lv_ldc2 (v := 2) hx hb hown (hw 2 (.constantLong RX8 106 (2)) rfl) dX8_nearest_65 ?_
                  refine lv_lmul hx hb dX8_nearest_68 ?_
                  refine lv_topl (fun y_24 ey_24 => ?_)
                  refine lv_lstore (lv' := [(7, .long y_24), (11, .int x_8), (9, .double d_9), (5, .long y_11), (3, .long y_3)]) hx hb dX8_nearest_69 hl (by decide) rfl (fun ls hl => ?_)
                  refine lv_lload hx hb dX8_nearest_71 (lv_at hl 3 rfl) ?_
                  refine lv_ldc2 (v := 2) hx hb hown (hw 2 (.constantLong RX8 106 (2)) rfl) dX8_nearest_73 ?_
                  refine lv_lmul hx hb dX8_nearest_76 ?_
                  refine lv_topl (fun y_25 ey_25 => ?_)
                  refine lv_lload hx hb dX8_nearest_77 (lv_at hl 0 rfl) ?_
                  refine lv_lload_n hx hb dX8_nearest_79 rfl (lv_at hl 4 rfl) ?_
                  refine W.lcmp hx hb dX8_nearest_80 ?_
                  refine lv_topi (fun x_26 ex_26 => ?_)
                  have tx_26 := ti_lcmp ex_26
                  have K_89 : ∀ (z_28 : Int32) (H : Heap) (locs : List Loc) (ls : Array Slot) (dq89_27 : Drawn), s.drawn.sameBut dq89_27 lw_cs → ((z_28 : Int32).toInt = 0 ∨ (z_28 : Int32).toInt = 1) → va_P D vwCl [] H → va_S (fun _ => False) s.heap H locs → lv_has ls 12 [(7, .long y_24), (11, .int x_8), (9, .double d_9), (3, .long y_3)] → Z dq89_27 0 0 H locs (F0 m 89 ls [.int z_28, .long y_25]) := by
                    intro z_28 H locs ls dq89_27 hdq89_27 g89_0 hP hS hl
                    refine hZ2 ?_
                    refine lv_i2l hx hb dX8_nearest_89 rfl ?_
                    refine lv_topl (fun y_29 ey_29 => ?_)
                    have ty_29 := tl_i2l ey_29
                    refine lv_ladd hx hb dX8_nearest_90 ?_
                    refine lv_topl (fun y_30 ey_30 => ?_)
                    have b_y_25 := tl_b y_25
                    have b_y_29 := tl_b y_29
                    have ty_30 := tl_add ey_30
                    refine lv_lstore (lv' := [(5, .long y_30), (7, .long y_24), (11, .int x_8), (9, .double d_9), (3, .long y_3)]) hx hb dX8_nearest_91 hl (by decide) rfl (fun ls hl => ?_)
                    refine lv_lload hx hb dX8_nearest_93 (lv_at hl 1 rfl) ?_
                    refine lv_lload hx hb dX8_nearest_95 (lv_at hl 1 rfl) ?_
                    refine lv_lload_n hx hb dX8_nearest_97 rfl (lv_at hl 4 rfl) ?_
                    refine W.lcmp hx hb dX8_nearest_98 ?_
                    refine lv_topi (fun x_31 ex_31 => ?_)
                    have tx_31 := ti_lcmp ex_31
                    have K_107 : ∀ (z_33 : Int64) (H : Heap) (locs : List Loc) (ls : Array Slot) (dq107_32 : Drawn), s.drawn.sameBut dq107_32 lw_cs → va_P D vwCl [] H → va_S (fun _ => False) s.heap H locs → lv_has ls 12 [(5, .long y_30), (11, .int x_8), (9, .double d_9), (3, .long y_3)] → Z dq107_32 0 0 H locs (F0 m 107 ls [.long z_33, .long y_24]) := by
                      intro z_33 H locs ls dq107_32 hdq107_32  hP hS hl
                      refine hZ2 ?_
                      refine lv_lsub hx hb dX8_nearest_107 ?_
                      refine lv_topl (fun y_34 ey_34 => ?_)
                      have b_y_24 := tl_b y_24
                      have b_z_33 := tl_b z_33
                      have ty_34 := tl_sub ey_34
                      refine lv_lstore (lv' := [(7, .long y_34), (5, .long y_30), (11, .int x_8), (9, .double d_9), (3, .long y_3)]) hx hb dX8_nearest_108 hl (by decide) rfl (fun ls hl => ?_)
                      refine lv_dload hx hb dX8_nearest_110 (lv_at hl 3 rfl) ?_
                      refine lv_ldc2d (v := 4602678819172646912) hx hb hown (hw 3 (.constantDouble RX8 108 (4602678819172646912)) rfl) dX8_nearest_112 ?_
                      refine lv_dmul_any hdq107_32 lw_bits hx hb dX8_nearest_115 (fun d_35 dhd_36 ad_35 hd_36 => ?_)
                      refine lv_dstore (lv' := [(9, .double d_35), (7, .long y_34), (5, .long y_30), (11, .int x_8), (3, .long y_3)]) hx hb dX8_nearest_116 hl (by decide) rfl (fun ls hl => ?_)
                      obtain ⟨x_37, ex_37⟩ : ∃ y : Int32, y = x_8 + 1 := ⟨_, rfl⟩
                      have b_x_8 := ti_b x_8
                      have tx_37 := ti_add ex_37
                      refine lv_iinc (v := x_37) (lv' := [(11, .int x_37), (9, .double d_35), (7, .long y_34), (5, .long y_30), (3, .long y_3)]) hx hb dX8_nearest_118 hl (k := 3) rfl (by rw [ex_37]; rfl) (by decide) rfl (fun ls hl => ?_)
                      refine lv_goto (tgt := 47) hx hb dX8_nearest_121 (by decide) ?_
                      exact hZ1 (ih_47 x_37 d_35 y_34 y_30 _ _ _ dhd_36 hd_36 (by omega) (by omega) hP hS hl)
                    refine lv_if_lt (tgt := 106) hx hb dX8_nearest_99 (by decide) (fun c_38 => ?_) (fun c_38 => ?_)
                    · have ic_38 : (x_31 : Int32).toInt < (0 : Int32).toInt := (fa_lt x_31 0).mp c_38
                      refine lv_lconst (v := 0) hx hb dX8_nearest_106 (by decide) ?_
                      exact hZ1 (K_107 0 _ _ _ dq89_27 hdq89_27 hP hS (lv_sub hl [0, 2, 3, 4] rfl))
                    · have ic_38 : ¬ ((x_31 : Int32).toInt < (0 : Int32).toInt) := fun h9 => c_38 ((fa_lt x_31 0).mpr h9)
                      refine lv_lload_n hx hb dX8_nearest_102 rfl (lv_at hl 4 rfl) ?_
                      refine lv_goto (tgt := 107) hx hb dX8_nearest_103 (by decide) ?_
                      exact hZ1 (K_107 y_3 _ _ _ dq89_27 hdq89_27 hP hS (lv_sub hl [0, 2, 3, 4] rfl))
                  refine lv_if_lt (tgt := 88) hx hb dX8_nearest_81 (by decide) (fun c_39 => ?_) (fun c_39 => ?_)
                  · have ic_39 : (x_26 : Int32).toInt < (0 : Int32).toInt := (fa_lt x_26 0).mp c_39
                    refine lv_iconst (v := 0) hx hb dX8_nearest_88 (by decide) ?_
                    exact hZ1 (K_89 0 _ _ _ dq47_12 hdq47_12 (by omega) hP hS (lv_sub hl [0, 1, 2, 4] rfl))
                  · have ic_39 : ¬ ((x_26 : Int32).toInt < (0 : Int32).toInt) := fun h9 => c_39 ((fa_lt x_26 0).mpr h9)
                    refine lv_iconst (v := 1) hx hb dX8_nearest_84 (by decide) ?_
                    refine lv_goto (tgt := 89) hx hb dX8_nearest_85 (by decide) ?_
                    exact hZ1 (K_89 1 _ _ _ dq47_12 hdq47_12 (by omega) hP hS (lv_sub hl [0, 1, 2, 4] rfl))
          exact hZ1 (L_47 (((2147483647 - (0 : Int32).toInt).toNat) + 1) 0 FP.dconst1 y_7 y_6 _ _ _ dq15_4 hdq15_4 (by omega) (by omega) hP hS (lv_sub hl [0, 1, 2, 3, 4] rfl))
        · have ic_5 : ¬ ((p3 : Int32).toInt ≤ (x_2 : Int32).toInt) := fun h9 => c_5 ((fa_le p3 x_2).mpr h9)
          refine lv_lload_n hx hb dX8_nearest_21 rfl (lv_at hl 1 rfl) ?_
          refine lv_ldc2 (v := 10) hx hb hown (hw 4 (.constantLong RX8 102 (10)) rfl) dX8_nearest_22 ?_
          refine lv_lmul hx hb dX8_nearest_25 ?_
          refine lv_topl (fun y_40 ey_40 => ?_)
          refine lv_lstore_n (lv' := [(3, .long y_40), (5, .int x_2), (0, .int p1), (1, .int p2), (2, .int p3)]) hx hb dX8_nearest_26 rfl hl (by decide) rfl (fun ls hl => ?_)
          obtain ⟨x_41, ex_41⟩ : ∃ y : Int32, y = x_2 + 1 := ⟨_, rfl⟩
          have b_x_2 := ti_b x_2
          have tx_41 := ti_add ex_41
          refine lv_iinc (v := x_41) (lv' := [(5, .int x_41), (3, .long y_40), (0, .int p1), (1, .int p2), (2, .int p3)]) hx hb dX8_nearest_27 hl (k := 1) rfl (by rw [ex_41]; rfl) (by decide) rfl (fun ls hl => ?_)
          refine lv_goto (tgt := 15) hx hb dX8_nearest_30 (by decide) ?_
          exact hZ1 (ih_15 x_41 y_40 _ _ _ dq15_4 hdq15_4 (by omega) (by omega) hP hS hl)
    exact hZ1 (L_15 (((2147483647 - (0 : Int32).toInt).toNat) + 1) 0 1 _ _ _ dq10_1 hdq10_1 (by omega) (by omega) hP hS hl)
  refine lv_if_ne (tgt := 10) hx hb dX8_nearest_1 (by decide) (fun c_42 => ?_) (fun c_42 => ?_)
  · have ic_42 : ¬ ((p1 : Int32).toInt = (0 : Int32).toInt) := fun h9 => c_42 ((fa_eq p1 0).mpr h9)
    exact hZ1 (K_10  _ _ _ s.drawn hd0 hP hS hl)
  · have ic_42 : (p1 : Int32).toInt = (0 : Int32).toInt := (fa_eq p1 0).mp c_42
    refine lv_iload_n hx hb dX8_nearest_4 rfl (lv_at hl 1 rfl) ?_
    refine lv_if_ne (tgt := 10) hx hb dX8_nearest_5 (by decide) (fun c_43 => ?_) (fun c_43 => ?_)
    · have ic_43 : ¬ ((p2 : Int32).toInt = (0 : Int32).toInt) := fun h9 => c_43 ((fa_eq p2 0).mpr h9)
      exact hZ1 (K_10  _ _ _ s.drawn hd0 hP hS hl)
    · have ic_43 : (p2 : Int32).toInt = (0 : Int32).toInt := (fa_eq p2 0).mp c_43
      refine lv_dconst0 hx hb dX8_nearest_8 ?_
      refine W.endD hd0 ?_
      exact W.dret (v := FP.dconst0) hx hb hr (fun t ht hW => ⟨⟨FP.dconst0, (), rfl, trivial, trivial⟩, hS.F ht⟩) hS.2.2 dX8_nearest_9

def ow_X8_readCondition : List Cond := [Cond.methodLink RX8 29 yX10_at, Cond.instanceMethod yX10_at, Cond.selects RX10 yX10_at yX10_at, Cond.initialized RX10, Cond.methodLink RX8 85 yX8_relation, Cond.static yX8_relation, Cond.initialized RX8, Cond.methodLink RX8 88 yX10_digitsFrom, Cond.instanceMethod yX10_digitsFrom, Cond.selects RX10 yX10_digitsFrom yX10_digitsFrom, Cond.methodLink RX8 91 yX10_numberOf, Cond.instanceMethod yX10_numberOf, Cond.selects RX10 yX10_numberOf yX10_numberOf, Cond.methodLink RX8 94 yX8_nearest, Cond.static yX8_nearest, Cond.methodLink RX8 98 yX2_addCondition, Cond.instanceMethod yX2_addCondition, Cond.selects RX2 yX2_addCondition yX2_addCondition, Cond.initialized RX2]
def pw_X8_readCondition : List Cond := Cond.code yX8_readCondition cX8_readCondition 14 (some .boolean) :: (ow_X8_readCondition ++ (pw_X10_at ++ (pw_X8_relation ++ (pw_X10_digitsFrom ++ (pw_X10_numberOf ++ (pw_X8_nearest ++ (pw_X2_addCondition)))))))
set_option maxRecDepth 20000 in
theorem mo_X8_readCondition : ∀ w ∈ ow_X8_readCondition, w ∈ lw_tbl := by decide +kernel
set_option maxRecDepth 20000 in
theorem mc_X8_readCondition : Cond.code yX8_readCondition cX8_readCondition 14 (some .boolean) ∈ lw_tbl := by decide +kernel
theorem m_X8_readCondition : ∀ w ∈ pw_X8_readCondition, w ∈ lw_tbl := List.forall_mem_cons.mpr ⟨mc_X8_readCondition, (List.forall_mem_append.mpr ⟨mo_X8_readCondition, (List.forall_mem_append.mpr ⟨m_X10_at, (List.forall_mem_append.mpr ⟨m_X8_relation, (List.forall_mem_append.mpr ⟨m_X10_digitsFrom, (List.forall_mem_append.mpr ⟨m_X10_numberOf, (List.forall_mem_append.mpr ⟨m_X8_nearest, m_X2_addCondition⟩)⟩)⟩)⟩)⟩)⟩)⟩
theorem ko_X8_readCondition : ∀ w ∈ ow_X8_readCondition, goodWord w = true := by decide +kernel
theorem k_X8_readCondition : pw_X8_readCondition.all goodWord = true := List.all_eq_true.mpr (List.forall_mem_cons.mpr ⟨by decide +kernel, (List.forall_mem_append.mpr ⟨ko_X8_readCondition, (List.forall_mem_append.mpr ⟨(List.all_eq_true.mp k_X10_at), (List.forall_mem_append.mpr ⟨(List.all_eq_true.mp k_X8_relation), (List.forall_mem_append.mpr ⟨(List.all_eq_true.mp k_X10_digitsFrom), (List.forall_mem_append.mpr ⟨(List.all_eq_true.mp k_X10_numberOf), (List.forall_mem_append.mpr ⟨(List.all_eq_true.mp k_X8_nearest), (List.all_eq_true.mp k_X2_addCondition)⟩)⟩)⟩)⟩)⟩)⟩)⟩)
set_option maxHeartbeats 400000 in
set_option maxRecDepth 100000 in
theorem c_X8_readCondition (l : Launch) (D : va_G) (cI cD cJ : ClassId) (sz : Nat) (x : Nat) (x_signs : Nat) (x_length : Int32) (x_signsF : Nat → Int32) (f : Nat) (f_kinds : Nat) (f_signs : Nat) (f_sizes : Nat) (f_places : Nat) (f_limits : Nat) (f_starts : Nat) (f_sorts : Nat) (f_count : Int32) (f_sections : Int32) (f_fifth : Int32) (f_kindsF : Nat → Int32) (f_signsF : Nat → Int32) (f_sizesF : Nat → Int32) (f_placesF : Nat → Int32) (f_limitsF : Nat → UInt64) (p1 : Int32) (p2 : Int32) (ha1 : 0 ≤ p1.toInt) (ha2 : p1.toInt ≤ 300) (iv_x_length : 0 ≤ (x_length : Int32).toInt ∧ (x_length : Int32).toInt ≤ 255) (iv_x_signsF : ∀ k9 : Nat, k9 < 255 → 0 ≤ (x_signsF k9).toInt ∧ (x_signsF k9).toInt ≤ 255) (iv_f_count : 0 ≤ (f_count : Int32).toInt ∧ (f_count : Int32).toInt ≤ 255) (iv_f_sections : 0 ≤ (f_sections : Int32).toInt ∧ (f_sections : Int32).toInt ≤ 4) (iv_f_sizesF : ∀ k9 : Nat, k9 < 255 → (f_sizesF k9).toInt ≤ 100000) : MetD lw_cs l yX8_readCondition pw_X8_readCondition ({ frames := 3, cells := 0, slots := 0, locals := 65 }) (va_Pc [.ref x, .ref f, .int p1, .int p2] (fun U => U.heap.size = sz ∧ va_P D vwCl [(x, .inr (7, [.ref x_signs, .int x_length])), (x_signs, .inl (cI, 255, .inl x_signsF)), (f, .inr (2, [.ref f_kinds, .ref f_signs, .ref f_sizes, .ref f_places, .ref f_limits, .ref f_starts, .ref f_sorts, .int f_count, .int f_sections, .int f_fifth])), (f_kinds, .inl (cI, 255, .inl f_kindsF)), (f_signs, .inl (cI, 255, .inl f_signsF)), (f_sizes, .inl (cI, 255, .inl f_sizesF)), (f_places, .inl (cI, 255, .inl f_placesF)), (f_limits, .inl (cD, 255, .inr (.inr (.inr (.inl f_limitsF)))))] U.heap ∧ va_K D vwCl (ty3 cI cD cJ) U ∧ va_D (fun _ => True) [(x, .inr (7, [.ref x_signs, .int x_length])), (x_signs, .inl (cI, 255, .inl x_signsF)), (f, .inr (2, [.ref f_kinds, .ref f_signs, .ref f_sizes, .ref f_places, .ref f_limits, .ref f_starts, .ref f_sorts, .int f_count, .int f_sections, .int f_fifth])), (f_kinds, .inl (cI, 255, .inl f_kindsF)), (f_signs, .inl (cI, 255, .inl f_signsF)), (f_sizes, .inl (cI, 255, .inl f_sizesF)), (f_places, .inl (cI, 255, .inl f_placesF)), (f_limits, .inl (cD, 255, .inr (.inr (.inr (.inl f_limitsF)))))])) (va_Qi (fun (r : Int32) (u : Int32 × (Nat → Int32) × (Nat → Int32) × (Nat → Int32) × (Nat → Int32) × (Nat → UInt64)) => match u with | (f_count2, f_kindsF2, f_signsF2, f_sizesF2, f_placesF2, f_limitsF2) => (r.toInt = 0 ∨ r.toInt = 1) ∧ (0 ≤ (f_count2 : Int32).toInt ∧ (f_count2 : Int32).toInt ≤ 255) ∧ (∀ k9 : Nat, k9 < 255 → (f_sizesF2 k9).toInt ≤ 100000)) (fun (u : Int32 × (Nat → Int32) × (Nat → Int32) × (Nat → Int32) × (Nat → Int32) × (Nat → UInt64)) (t : State) => match u with | (f_count2, f_kindsF2, f_signsF2, f_sizesF2, f_placesF2, f_limitsF2) => va_P D vwCl [(x, .inr (7, [.ref x_signs, .int x_length])), (x_signs, .inl (cI, 255, .inl x_signsF)), (f, .inr (2, [.ref f_kinds, .ref f_signs, .ref f_sizes, .ref f_places, .ref f_limits, .ref f_starts, .ref f_sorts, .int f_count2, .int f_sections, .int f_fifth])), (f_kinds, .inl (cI, 255, .inl f_kindsF2)), (f_signs, .inl (cI, 255, .inl f_signsF2)), (f_sizes, .inl (cI, 255, .inl f_sizesF2)), (f_places, .inl (cI, 255, .inl f_placesF2)), (f_limits, .inl (cD, 255, .inr (.inr (.inr (.inl f_limitsF2)))))] t.heap ∧ va_K D vwCl (ty3 cI cD cJ) t ∧ va_D (va_A [(x, .inr (7, [.ref x_signs, .int x_length])), (x_signs, .inl (cI, 255, .inl x_signsF)), (f, .inr (2, [.ref f_kinds, .ref f_signs, .ref f_sizes, .ref f_places, .ref f_limits, .ref f_starts, .ref f_sorts, .int f_count, .int f_sections, .int f_fifth])), (f_kinds, .inl (cI, 255, .inl f_kindsF)), (f_signs, .inl (cI, 255, .inl f_signsF)), (f_sizes, .inl (cI, 255, .inl f_sizesF)), (f_places, .inl (cI, 255, .inl f_placesF)), (f_limits, .inl (cD, 255, .inr (.inr (.inr (.inl f_limitsF)))))] sz) [(x, .inr (7, [.ref x_signs, .int x_length])), (x_signs, .inl (cI, 255, .inl x_signsF)), (f, .inr (2, [.ref f_kinds, .ref f_signs, .ref f_sizes, .ref f_places, .ref f_limits, .ref f_starts, .ref f_sorts, .int f_count2, .int f_sections, .int f_fifth])), (f_kinds, .inl (cI, 255, .inl f_kindsF2)), (f_signs, .inl (cI, 255, .inl f_signsF2)), (f_sizes, .inl (cI, 255, .inl f_sizesF2)), (f_places, .inl (cI, 255, .inl f_placesF2)), (f_limits, .inl (cD, 255, .inr (.inr (.inr (.inl f_limitsF2)))))]) (va_A [(x, .inr (7, [.ref x_signs, .int x_length])), (x_signs, .inl (cI, 255, .inl x_signsF)), (f, .inr (2, [.ref f_kinds, .ref f_signs, .ref f_sizes, .ref f_places, .ref f_limits, .ref f_starts, .ref f_sorts, .int f_count, .int f_sections, .int f_fifth])), (f_kinds, .inl (cI, 255, .inl f_kindsF)), (f_signs, .inl (cI, 255, .inl f_signsF)), (f_sizes, .inl (cI, 255, .inl f_sizesF)), (f_places, .inl (cI, 255, .inl f_placesF)), (f_limits, .inl (cD, 255, .inr (.inr (.inr (.inl f_limitsF)))))] sz)) 0 0 (va_A [(x, .inr (7, [.ref x_signs, .int x_length])), (x_signs, .inl (cI, 255, .inl x_signsF)), (f, .inr (2, [.ref f_kinds, .ref f_signs, .ref f_sizes, .ref f_places, .ref f_limits, .ref f_starts, .ref f_sorts, .int f_count, .int f_sections, .int f_fifth])), (f_kinds, .inl (cI, 255, .inl f_kindsF)), (f_signs, .inl (cI, 255, .inl f_signsF)), (f_sizes, .inl (cI, 255, .inl f_sizesF)), (f_places, .inl (cI, 255, .inl f_placesF)), (f_limits, .inl (cD, 255, .inr (.inr (.inr (.inl f_limitsF)))))] sz) := by
  refine MetD.ofW (cc := cX8_readCondition) (maxL := 14) (ret := (some .boolean)) (by decide +kernel) rfl ?_
  intro p e s m args below meth c s₁ B hml hv hd0
  obtain ⟨rfl, hsz, hP, hK, hD0⟩ := hv
  have hx := B.exec
  have hb := B.bytes
  have hr := B.returns
  have hts := atoms_spec (ws := pw_X8_readCondition) B.pre
  have hown : s.vm.findClass RX8 = some m.cls := findClass_of_methodNamed B.named
  have hlocks := B.notSynchronized
  subst hsz
  have hD := hD0.self (sz := s.heap.size)
  generalize hAe : va_A [(x, .inr (7, [.ref x_signs, .int x_length])), (x_signs, .inl (cI, 255, .inl x_signsF)), (f, .inr (2, [.ref f_kinds, .ref f_signs, .ref f_sizes, .ref f_places, .ref f_limits, .ref f_starts, .ref f_sorts, .int f_count, .int f_sections, .int f_fifth])), (f_kinds, .inl (cI, 255, .inl f_kindsF)), (f_signs, .inl (cI, 255, .inl f_signsF)), (f_sizes, .inl (cI, 255, .inl f_sizesF)), (f_places, .inl (cI, 255, .inl f_placesF)), (f_limits, .inl (cD, 255, .inr (.inr (.inr (.inl f_limitsF)))))] s.heap.size = A at hD ⊢
  have hA : ∀ q : Nat, s.heap.size ≤ q → A q := fun q h => by rw [← hAe]; exact Or.inr h
  have hS : va_S A s.heap s.heap [] := va_S.rf
  have hw : ∀ {d9 : Drawn} (k : Nat) (w : Cond), ow_X8_readCondition[k]? = some w → w.before _ (s.setDrawn d9) = true := fun k w h => dr_words hts _ w (List.mem_cons_of_mem _ (have h9 := List.mem_of_getElem? h; List.mem_append_left _ h9))
  have i_X10_at : ∀ w ∈ pw_X10_at, w ∈ pw_X8_readCondition := fun w h9 => List.mem_cons_of_mem _ (List.mem_append_right _ (List.mem_append_left _ h9))
  have i_X8_relation : ∀ w ∈ pw_X8_relation, w ∈ pw_X8_readCondition := fun w h9 => List.mem_cons_of_mem _ (List.mem_append_right _ (List.mem_append_right _ (List.mem_append_left _ h9)))
  have i_X10_digitsFrom : ∀ w ∈ pw_X10_digitsFrom, w ∈ pw_X8_readCondition := fun w h9 => List.mem_cons_of_mem _ (List.mem_append_right _ (List.mem_append_right _ (List.mem_append_right _ (List.mem_append_left _ h9))))
  have i_X10_numberOf : ∀ w ∈ pw_X10_numberOf, w ∈ pw_X8_readCondition := fun w h9 => List.mem_cons_of_mem _ (List.mem_append_right _ (List.mem_append_right _ (List.mem_append_right _ (List.mem_append_right _ (List.mem_append_left _ h9)))))
  have i_X8_nearest : ∀ w ∈ pw_X8_nearest, w ∈ pw_X8_readCondition := fun w h9 => List.mem_cons_of_mem _ (List.mem_append_right _ (List.mem_append_right _ (List.mem_append_right _ (List.mem_append_right _ (List.mem_append_right _ (List.mem_append_left _ h9))))))
  have i_X2_addCondition : ∀ w ∈ pw_X2_addCondition, w ∈ pw_X8_readCondition := fun w h9 => List.mem_cons_of_mem _ (List.mem_append_right _ (List.mem_append_right _ (List.mem_append_right _ (List.mem_append_right _ (List.mem_append_right _ (List.mem_append_right _ (h9)))))))
  have n_0 : ((0 : Int32)).toInt = 0 := by decide
  have n_1 : ((1 : Int32)).toInt = 1 := by decide
  have n_2 : ((2 : Int32)).toInt = 2 := by decide
  have n_3 : ((3 : Int32)).toInt = 3 := by decide
  have n_4 : ((4 : Int32)).toInt = 4 := by decide
  have n_45 : ((45 : Int32)).toInt = 45 := by decide
  have n_46 : ((46 : Int32)).toInt = 46 := by decide
  have n_9 : ((9 : Int32)).toInt = 9 := by decide
  have hl := lv_entry ([.ref x, .ref f, .int p1, .int p2]) (n := 14) (Nat.le_of_ble_eq_true rfl)
  rw [lg_entry_eq]
  generalize (lg_sl ([.ref x, .ref f, .int p1, .int p2]) ++ List.replicate (14 - (lg_sl ([.ref x, .ref f, .int p1, .int p2])).length) Slot.unset).toArray = ls at hl ⊢
  have hl : lv_has ls 14 [(0, .ref x), (1, .ref f), (2, .int p1), (3, .int p2)] := hl
  have b_p1 := ti_b p1
  have b_p2 := ti_b p2
  refine zz_capD (fun Z hZ1 hZ2 => ?_)
  refine lv_aload_n hx hb dX8_readCondition_0 rfl (lv_at hl 0 rfl) ?_
  refine lv_iload_n hx hb dX8_readCondition_1 rfl (lv_at hl 2 rfl) ?_
  refine lv_iconst (v := 1) hx hb dX8_readCondition_2 (by decide) ?_
  refine lv_iadd hx hb dX8_readCondition_3 ?_
  refine lv_topi (fun x_1 ex_1 => ?_)
  have b_p1 := ti_b p1
  have tx_1 := ti_add ex_1
  have hPc := hP.sub (ws' := [(x, .inr (7, [.ref x_signs, .int x_length])), (x_signs, .inl (cI, 255, .inl x_signsF))]) [0, 1] rfl
  refine va_calli (va_runV (As := [.int x_1]) (rest := []) ⟨hx, hb, hml, hown, (dr_words hts _)⟩ (c_X10_at l D cI cD cJ s.heap.size x x_signs x_length x_signsF x_1 (by omega) (by assumption)) (cwV 1 (dr_words hts _) (goodIn_app (goodIn_r _ [1, 2, 3, 4] rfl (by decide +kernel)) (goodIn_sub i_X10_at k_X10_at)) rfl rfl rfl (by decide +kernel) ⟨Nat.le_of_ble_eq_true rfl, Nat.le_of_ble_eq_true rfl⟩) ⟨fun a U g mk q => by obtain ⟨q0, qP, qK⟩ := q; exact ⟨q0, qP, va_K.moved (u := U) (U := U.calling g mk a) (Vm.Alike.refl U.vm) qK⟩, va_recv hK hPc (ci := 7) (q0 := 0) rfl rfl, fun U hU hW => ⟨rfl, by rw [hU]; exact hPc, va_K.moved hW.alike hK⟩⟩ rfl rfl hl.1 rfl (lv_room (Nat.le_of_ble_eq_true rfl)) dX8_readCondition_4 ⟨Nat.le_of_ble_eq_true rfl, Nat.le_of_ble_eq_true rfl⟩) hS (fun q _ h => h.elim) (fun q h => h.elim) (fun x_2 u t H1 locs ht hvm w_3 hB hz1 hk1 hS => ?_)
  have hP : va_P D vwCl [(x, .inr (7, [.ref x_signs, .int x_length])), (x_signs, .inl (cI, 255, .inl x_signsF)), (f, .inr (2, [.ref f_kinds, .ref f_signs, .ref f_sizes, .ref f_places, .ref f_limits, .ref f_starts, .ref f_sorts, .int f_count, .int f_sections, .int f_fifth])), (f_kinds, .inl (cI, 255, .inl f_kindsF)), (f_signs, .inl (cI, 255, .inl f_signsF)), (f_sizes, .inl (cI, 255, .inl f_sizesF)), (f_places, .inl (cI, 255, .inl f_placesF)), (f_limits, .inl (cD, 255, .inr (.inr (.inr (.inl f_limitsF)))))] H1 := hP.kept (fun k9 q9 h9 => hk1 q9.1 (vx_lt hP h9) (fun h => h))
  generalize H1 = H at hP hS ⊢
  try dsimp only at w_3
  refine lv_aload_n hx hb dX8_readCondition_7 rfl (lv_at hl 0 rfl) ?_
  refine lv_iload_n hx hb dX8_readCondition_8 rfl (lv_at hl 2 rfl) ?_
  refine lv_iconst (v := 2) hx hb dX8_readCondition_9 (by decide) ?_
  refine lv_iadd hx hb dX8_readCondition_10 ?_
  refine lv_topi (fun x_4 ex_4 => ?_)
  have b_p1 := ti_b p1
  have tx_4 := ti_add ex_4
  have hPc := hP.sub (ws' := [(x, .inr (7, [.ref x_signs, .int x_length])), (x_signs, .inl (cI, 255, .inl x_signsF))]) [0, 1] rfl
  refine va_calli (va_runV (As := [.int x_4]) (rest := [.int x_2]) ⟨hx, hb, hml, hown, (dr_words hts _)⟩ (c_X10_at l D cI cD cJ H.size x x_signs x_length x_signsF x_4 (by omega) (by assumption)) (cwV 1 (dr_words hts _) (goodIn_app (goodIn_r _ [1, 2, 3, 4] rfl (by decide +kernel)) (goodIn_sub i_X10_at k_X10_at)) rfl rfl rfl (by decide +kernel) ⟨Nat.le_of_ble_eq_true rfl, Nat.le_of_ble_eq_true rfl⟩) ⟨fun a U g mk q => by obtain ⟨q0, qP, qK⟩ := q; exact ⟨q0, qP, va_K.moved (u := U) (U := U.calling g mk a) (Vm.Alike.refl U.vm) qK⟩, va_recv hK hPc (ci := 7) (q0 := 0) rfl rfl, fun U hU hW => ⟨rfl, by rw [hU]; exact hPc, va_K.moved hW.alike hK⟩⟩ rfl rfl hl.1 rfl (lv_room (Nat.le_of_ble_eq_true rfl)) dX8_readCondition_11 ⟨Nat.le_of_ble_eq_true rfl, Nat.le_of_ble_eq_true rfl⟩) hS (fun q _ h => h.elim) (fun q h => h.elim) (fun x_5 u t H1 locs ht hvm w_6 hB hz1 hk1 hS => ?_)
  have hP : va_P D vwCl [(x, .inr (7, [.ref x_signs, .int x_length])), (x_signs, .inl (cI, 255, .inl x_signsF)), (f, .inr (2, [.ref f_kinds, .ref f_signs, .ref f_sizes, .ref f_places, .ref f_limits, .ref f_starts, .ref f_sorts, .int f_count, .int f_sections, .int f_fifth])), (f_kinds, .inl (cI, 255, .inl f_kindsF)), (f_signs, .inl (cI, 255, .inl f_signsF)), (f_sizes, .inl (cI, 255, .inl f_sizesF)), (f_places, .inl (cI, 255, .inl f_placesF)), (f_limits, .inl (cD, 255, .inr (.inr (.inr (.inl f_limitsF)))))] H1 := hP.kept (fun k9 q9 h9 => hk1 q9.1 (vx_lt hP h9) (fun h => h))
  generalize H1 = H at hP hS ⊢
  try dsimp only at w_6
  have hPc := hP.sub (ws' := []) [] rfl
  refine va_calli (va_runS (As := [.int x_2, .int x_5]) (rest := []) ⟨hx, hb, hml, hown, (dr_words hts _)⟩ (c_X8_relation l D cI cD cJ H.size x_2 x_5) (va_cwS 2 (dr_words hts _) (goodIn_app (goodIn_r _ [5, 6, 7] rfl (by decide +kernel)) (goodIn_sub i_X8_relation k_X8_relation)) rfl rfl rfl (by decide +kernel) ⟨Nat.le_of_ble_eq_true rfl, Nat.le_of_ble_eq_true rfl⟩) ⟨fun a U g mk q => by obtain ⟨q0, qP, qK⟩ := q; exact ⟨q0, qP, va_K.moved (u := U) (U := U.calling g mk a) (Vm.Alike.refl U.vm) qK⟩, fun U hU hW => ⟨rfl, by rw [hU]; exact hPc, va_K.moved hW.alike hK⟩⟩ rfl rfl hl.1 rfl (lv_room (Nat.le_of_ble_eq_true rfl)) dX8_readCondition_14 ⟨Nat.le_of_ble_eq_true rfl, Nat.le_of_ble_eq_true rfl⟩) hS (fun q _ h => h.elim) (fun q h => h.elim) (fun x_7 u t H1 locs ht hvm w_8 hB hz1 hk1 hS => ?_)
  have hP : va_P D vwCl [(x, .inr (7, [.ref x_signs, .int x_length])), (x_signs, .inl (cI, 255, .inl x_signsF)), (f, .inr (2, [.ref f_kinds, .ref f_signs, .ref f_sizes, .ref f_places, .ref f_limits, .ref f_starts, .ref f_sorts, .int f_count, .int f_sections, .int f_fifth])), (f_kinds, .inl (cI, 255, .inl f_kindsF)), (f_signs, .inl (cI, 255, .inl f_signsF)), (f_sizes, .inl (cI, 255, .inl f_sizesF)), (f_places, .inl (cI, 255, .inl f_placesF)), (f_limits, .inl (cD, 255, .inr (.inr (.inr (.inl f_limitsF)))))] H1 := hP.kept (fun k9 q9 h9 => hk1 q9.1 (vx_lt hP h9) (fun h => h))
  generalize H1 = H at hP hS ⊢
  try dsimp only at w_8
  refine lv_istore (lv' := [(4, .int x_7), (0, .ref x), (1, .ref f), (2, .int p1), (3, .int p2)]) hx hb dX8_readCondition_17 hl (by decide) rfl (fun ls hl => ?_)
  refine lv_iload hx hb dX8_readCondition_19 (lv_at hl 0 rfl) ?_
  refine lv_if_ne (tgt := 26) hx hb dX8_readCondition_21 (by decide) (fun c_9 => ?_) (fun c_9 => ?_)
  · have ic_9 : ¬ ((x_7 : Int32).toInt = (0 : Int32).toInt) := fun h9 => c_9 ((fa_eq x_7 0).mpr h9)
    refine lv_iload hx hb dX8_readCondition_26 (lv_at hl 0 rfl) ?_
    refine lv_iconst (v := 1) hx hb dX8_readCondition_28 (by decide) ?_
    have K_49 : ∀ (z_11 : Int32) (H : Heap) (locs : List Loc) (ls : Array Slot) (dq49_10 : Drawn), s.drawn.sameBut dq49_10 lw_cs → ((z_11 : Int32).toInt = 0 ∨ (z_11 : Int32).toInt = 1) → va_P D vwCl [(x, .inr (7, [.ref x_signs, .int x_length])), (x_signs, .inl (cI, 255, .inl x_signsF)), (f, .inr (2, [.ref f_kinds, .ref f_signs, .ref f_sizes, .ref f_places, .ref f_limits, .ref f_starts, .ref f_sorts, .int f_count, .int f_sections, .int f_fifth])), (f_kinds, .inl (cI, 255, .inl f_kindsF)), (f_signs, .inl (cI, 255, .inl f_signsF)), (f_sizes, .inl (cI, 255, .inl f_sizesF)), (f_places, .inl (cI, 255, .inl f_placesF)), (f_limits, .inl (cD, 255, .inr (.inr (.inr (.inl f_limitsF)))))] H → va_D A [(x, .inr (7, [.ref x_signs, .int x_length])), (x_signs, .inl (cI, 255, .inl x_signsF)), (f, .inr (2, [.ref f_kinds, .ref f_signs, .ref f_sizes, .ref f_places, .ref f_limits, .ref f_starts, .ref f_sorts, .int f_count, .int f_sections, .int f_fifth])), (f_kinds, .inl (cI, 255, .inl f_kindsF)), (f_signs, .inl (cI, 255, .inl f_signsF)), (f_sizes, .inl (cI, 255, .inl f_sizesF)), (f_places, .inl (cI, 255, .inl f_placesF)), (f_limits, .inl (cD, 255, .inr (.inr (.inr (.inl f_limitsF)))))] → va_S A s.heap H locs → lv_has ls 14 [(4, .int x_7), (0, .ref x), (1, .ref f), (2, .int p1), (3, .int p2)] → Z dq49_10 0 0 H locs (F0 m 49 ls [.int z_11]) := by
      intro z_11 H locs ls dq49_10 hdq49_10 g49_0 hP hD hS hl
      refine hZ2 ?_
      refine lv_istore (lv' := [(5, .int z_11), (4, .int x_7), (0, .ref x), (1, .ref f), (2, .int p1), (3, .int p2)]) hx hb dX8_readCondition_49 hl (by decide) rfl (fun ls hl => ?_)
      refine lv_iload_n hx hb dX8_readCondition_51 rfl (lv_at hl 4 rfl) ?_
      refine lv_iload hx hb dX8_readCondition_52 (lv_at hl 0 rfl) ?_
      have K_62 : ∀ (z_13 : Int32) (H : Heap) (locs : List Loc) (ls : Array Slot) (dq62_12 : Drawn), s.drawn.sameBut dq62_12 lw_cs → (2 ≤ (z_13 : Int32).toInt) → ((z_13 : Int32).toInt ≤ 3) → va_P D vwCl [(x, .inr (7, [.ref x_signs, .int x_length])), (x_signs, .inl (cI, 255, .inl x_signsF)), (f, .inr (2, [.ref f_kinds, .ref f_signs, .ref f_sizes, .ref f_places, .ref f_limits, .ref f_starts, .ref f_sorts, .int f_count, .int f_sections, .int f_fifth])), (f_kinds, .inl (cI, 255, .inl f_kindsF)), (f_signs, .inl (cI, 255, .inl f_signsF)), (f_sizes, .inl (cI, 255, .inl f_sizesF)), (f_places, .inl (cI, 255, .inl f_placesF)), (f_limits, .inl (cD, 255, .inr (.inr (.inr (.inl f_limitsF)))))] H → va_D A [(x, .inr (7, [.ref x_signs, .int x_length])), (x_signs, .inl (cI, 255, .inl x_signsF)), (f, .inr (2, [.ref f_kinds, .ref f_signs, .ref f_sizes, .ref f_places, .ref f_limits, .ref f_starts, .ref f_sorts, .int f_count, .int f_sections, .int f_fifth])), (f_kinds, .inl (cI, 255, .inl f_kindsF)), (f_signs, .inl (cI, 255, .inl f_signsF)), (f_sizes, .inl (cI, 255, .inl f_sizesF)), (f_places, .inl (cI, 255, .inl f_placesF)), (f_limits, .inl (cD, 255, .inr (.inr (.inr (.inl f_limitsF)))))] → va_S A s.heap H locs → lv_has ls 14 [(4, .int x_7), (0, .ref x), (1, .ref f), (2, .int p1), (3, .int p2)] → Z dq62_12 0 0 H locs (F0 m 62 ls [.int z_13, .int p1]) := by
        intro z_13 H locs ls dq62_12 hdq62_12 g62_0 g62_1 hP hD hS hl
        refine hZ2 ?_
        refine lv_iadd hx hb dX8_readCondition_62 ?_
        refine lv_topi (fun x_14 ex_14 => ?_)
        have b_p1 := ti_b p1
        have b_z_13 := ti_b z_13
        have tx_14 := ti_add ex_14
        refine lv_istore (lv' := [(6, .int x_14), (4, .int x_7), (0, .ref x), (1, .ref f), (2, .int p1), (3, .int p2)]) hx hb dX8_readCondition_63 hl (by decide) rfl (fun ls hl => ?_)
        refine lv_aload_n hx hb dX8_readCondition_65 rfl (lv_at hl 2 rfl) ?_
        refine lv_iload hx hb dX8_readCondition_66 (lv_at hl 0 rfl) ?_
        have hPc := hP.sub (ws' := [(x, .inr (7, [.ref x_signs, .int x_length])), (x_signs, .inl (cI, 255, .inl x_signsF))]) [0, 1] rfl
        refine va_calli (va_runV (As := [.int x_14]) (rest := []) ⟨hx, hb, hml, hown, (dr_words hts _)⟩ (c_X10_at l D cI cD cJ H.size x x_signs x_length x_signsF x_14 (by omega) (by assumption)) (cwV 1 (dr_words hts _) (goodIn_app (goodIn_r _ [1, 2, 3, 4] rfl (by decide +kernel)) (goodIn_sub i_X10_at k_X10_at)) rfl rfl rfl (by decide +kernel) ⟨Nat.le_of_ble_eq_true rfl, Nat.le_of_ble_eq_true rfl⟩) ⟨fun a U g mk q => by obtain ⟨q0, qP, qK⟩ := q; exact ⟨q0, qP, va_K.moved (u := U) (U := U.calling g mk a) (Vm.Alike.refl U.vm) qK⟩, va_recv hK hPc (ci := 7) (q0 := 0) rfl rfl, fun U hU hW => ⟨rfl, by rw [hU]; exact hPc, va_K.moved hW.alike hK⟩⟩ rfl rfl hl.1 rfl (lv_room (Nat.le_of_ble_eq_true rfl)) dX8_readCondition_68 ⟨Nat.le_of_ble_eq_true rfl, Nat.le_of_ble_eq_true rfl⟩) hS (fun q _ h => h.elim) (fun q h => h.elim) (fun x_15 u t H1 locs ht hvm w_16 hB hz1 hk1 hS => ?_)
        have hP : va_P D vwCl [(x, .inr (7, [.ref x_signs, .int x_length])), (x_signs, .inl (cI, 255, .inl x_signsF)), (f, .inr (2, [.ref f_kinds, .ref f_signs, .ref f_sizes, .ref f_places, .ref f_limits, .ref f_starts, .ref f_sorts, .int f_count, .int f_sections, .int f_fifth])), (f_kinds, .inl (cI, 255, .inl f_kindsF)), (f_signs, .inl (cI, 255, .inl f_signsF)), (f_sizes, .inl (cI, 255, .inl f_sizesF)), (f_places, .inl (cI, 255, .inl f_placesF)), (f_limits, .inl (cD, 255, .inr (.inr (.inr (.inl f_limitsF)))))] H1 := hP.kept (fun k9 q9 h9 => hk1 q9.1 (vx_lt hP h9) (fun h => h))
        generalize H1 = H at hP hS ⊢
        try dsimp only at w_16
        refine lv_bipush (v := 45) hx hb dX8_readCondition_71 (by decide) ?_
        have K_81 : ∀ (z_18 : Int32) (H : Heap) (locs : List Loc) (ls : Array Slot) (dq81_17 : Drawn), s.drawn.sameBut dq81_17 lw_cs → ((z_18 : Int32).toInt = 0 ∨ (z_18 : Int32).toInt = 1) → va_P D vwCl [(x, .inr (7, [.ref x_signs, .int x_length])), (x_signs, .inl (cI, 255, .inl x_signsF)), (f, .inr (2, [.ref f_kinds, .ref f_signs, .ref f_sizes, .ref f_places, .ref f_limits, .ref f_starts, .ref f_sorts, .int f_count, .int f_sections, .int f_fifth])), (f_kinds, .inl (cI, 255, .inl f_kindsF)), (f_signs, .inl (cI, 255, .inl f_signsF)), (f_sizes, .inl (cI, 255, .inl f_sizesF)), (f_places, .inl (cI, 255, .inl f_placesF)), (f_limits, .inl (cD, 255, .inr (.inr (.inr (.inl f_limitsF)))))] H → va_D A [(x, .inr (7, [.ref x_signs, .int x_length])), (x_signs, .inl (cI, 255, .inl x_signsF)), (f, .inr (2, [.ref f_kinds, .ref f_signs, .ref f_sizes, .ref f_places, .ref f_limits, .ref f_starts, .ref f_sorts, .int f_count, .int f_sections, .int f_fifth])), (f_kinds, .inl (cI, 255, .inl f_kindsF)), (f_signs, .inl (cI, 255, .inl f_signsF)), (f_sizes, .inl (cI, 255, .inl f_sizesF)), (f_places, .inl (cI, 255, .inl f_placesF)), (f_limits, .inl (cD, 255, .inr (.inr (.inr (.inl f_limitsF)))))] → va_S A s.heap H locs → lv_has ls 14 [(6, .int x_14), (4, .int x_7), (0, .ref x), (1, .ref f), (2, .int p1), (3, .int p2)] → Z dq81_17 0 0 H locs (F0 m 81 ls [.int z_18]) := by
          intro z_18 H locs ls dq81_17 hdq81_17 g81_0 hP hD hS hl
          refine hZ2 ?_
          refine lv_istore (lv' := [(7, .int z_18), (6, .int x_14), (4, .int x_7), (0, .ref x), (1, .ref f), (2, .int p1), (3, .int p2)]) hx hb dX8_readCondition_81 hl (by decide) rfl (fun ls hl => ?_)
          refine lv_iload hx hb dX8_readCondition_83 (lv_at hl 0 rfl) ?_
          have K_91 : ∀ (x_19 : Int32) (H : Heap) (locs : List Loc) (ls : Array Slot) (dq91_20 : Drawn), s.drawn.sameBut dq91_20 lw_cs → (0 ≤ (x_19 : Int32).toInt) → ((x_19 : Int32).toInt ≤ 400) → va_P D vwCl [(x, .inr (7, [.ref x_signs, .int x_length])), (x_signs, .inl (cI, 255, .inl x_signsF)), (f, .inr (2, [.ref f_kinds, .ref f_signs, .ref f_sizes, .ref f_places, .ref f_limits, .ref f_starts, .ref f_sorts, .int f_count, .int f_sections, .int f_fifth])), (f_kinds, .inl (cI, 255, .inl f_kindsF)), (f_signs, .inl (cI, 255, .inl f_signsF)), (f_sizes, .inl (cI, 255, .inl f_sizesF)), (f_places, .inl (cI, 255, .inl f_placesF)), (f_limits, .inl (cD, 255, .inr (.inr (.inr (.inl f_limitsF)))))] H → va_D A [(x, .inr (7, [.ref x_signs, .int x_length])), (x_signs, .inl (cI, 255, .inl x_signsF)), (f, .inr (2, [.ref f_kinds, .ref f_signs, .ref f_sizes, .ref f_places, .ref f_limits, .ref f_starts, .ref f_sorts, .int f_count, .int f_sections, .int f_fifth])), (f_kinds, .inl (cI, 255, .inl f_kindsF)), (f_signs, .inl (cI, 255, .inl f_signsF)), (f_sizes, .inl (cI, 255, .inl f_sizesF)), (f_places, .inl (cI, 255, .inl f_placesF)), (f_limits, .inl (cD, 255, .inr (.inr (.inr (.inl f_limitsF)))))] → va_S A s.heap H locs → lv_has ls 14 [(7, .int z_18), (6, .int x_19), (4, .int x_7), (0, .ref x), (1, .ref f), (2, .int p1), (3, .int p2)] → Z dq91_20 0 0 H locs (F0 m 91 ls []) := by
            intro x_19 H locs ls dq91_20 hdq91_20 g91_0 g91_1 hP hD hS hl
            refine hZ2 ?_
            refine lv_aload_n hx hb dX8_readCondition_91 rfl (lv_at hl 3 rfl) ?_
            refine lv_iload hx hb dX8_readCondition_92 (lv_at hl 1 rfl) ?_
            refine lv_bipush (v := 9) hx hb dX8_readCondition_94 (by decide) ?_
            have hPc := hP.sub (ws' := [(x, .inr (7, [.ref x_signs, .int x_length])), (x_signs, .inl (cI, 255, .inl x_signsF))]) [0, 1] rfl
            refine va_calli (va_runV (As := [.int x_19, .int 9]) (rest := []) ⟨hx, hb, hml, hown, (dr_words hts _)⟩ (c_X10_digitsFrom l D cI cD cJ H.size x x_signs x_length x_signsF x_19 9 (by omega) (by assumption)) (cwV 2 (dr_words hts _) (goodIn_app (goodIn_r _ [8, 9, 10, 4] rfl (by decide +kernel)) (goodIn_sub i_X10_digitsFrom k_X10_digitsFrom)) rfl rfl rfl (by decide +kernel) ⟨Nat.le_of_ble_eq_true rfl, Nat.le_of_ble_eq_true rfl⟩) ⟨fun a U g mk q => by obtain ⟨q0, qP, qK⟩ := q; exact ⟨q0, qP, va_K.moved (u := U) (U := U.calling g mk a) (Vm.Alike.refl U.vm) qK⟩, va_recv hK hPc (ci := 7) (q0 := 0) rfl rfl, fun U hU hW => ⟨rfl, by rw [hU]; exact hPc, va_K.moved hW.alike hK⟩⟩ rfl rfl hl.1 rfl (lv_room (Nat.le_of_ble_eq_true rfl)) dX8_readCondition_96 ⟨Nat.le_of_ble_eq_true rfl, Nat.le_of_ble_eq_true rfl⟩) hS (fun q _ h => h.elim) (fun q h => h.elim) (fun x_21 u t H1 locs ht hvm w_22 hB hz1 hk1 hS => ?_)
            have hP : va_P D vwCl [(x, .inr (7, [.ref x_signs, .int x_length])), (x_signs, .inl (cI, 255, .inl x_signsF)), (f, .inr (2, [.ref f_kinds, .ref f_signs, .ref f_sizes, .ref f_places, .ref f_limits, .ref f_starts, .ref f_sorts, .int f_count, .int f_sections, .int f_fifth])), (f_kinds, .inl (cI, 255, .inl f_kindsF)), (f_signs, .inl (cI, 255, .inl f_signsF)), (f_sizes, .inl (cI, 255, .inl f_sizesF)), (f_places, .inl (cI, 255, .inl f_placesF)), (f_limits, .inl (cD, 255, .inr (.inr (.inr (.inl f_limitsF)))))] H1 := hP.kept (fun k9 q9 h9 => hk1 q9.1 (vx_lt hP h9) (fun h => h))
            generalize H1 = H at hP hS ⊢
            try dsimp only at w_22
            have b_x_21 := ti_b x_21
            refine lv_istore (lv' := [(8, .int x_21), (7, .int z_18), (6, .int x_19), (4, .int x_7), (0, .ref x), (1, .ref f), (2, .int p1), (3, .int p2)]) hx hb dX8_readCondition_99 hl (by decide) rfl (fun ls hl => ?_)
            refine lv_iload hx hb dX8_readCondition_101 (lv_at hl 2 rfl) ?_
            refine lv_iload hx hb dX8_readCondition_103 (lv_at hl 0 rfl) ?_
            refine lv_iadd hx hb dX8_readCondition_105 ?_
            refine lv_topi (fun x_23 ex_23 => ?_)
            have b_x_19 := ti_b x_19
            have b_x_21 := ti_b x_21
            have tx_23 := ti_add ex_23
            refine lv_istore (lv' := [(9, .int x_23), (8, .int x_21), (7, .int z_18), (6, .int x_19), (4, .int x_7), (0, .ref x), (1, .ref f), (2, .int p1), (3, .int p2)]) hx hb dX8_readCondition_106 hl (by decide) rfl (fun ls hl => ?_)
            refine lv_iconst (v := 0) hx hb dX8_readCondition_108 (by decide) ?_
            refine lv_istore (lv' := [(10, .int 0), (9, .int x_23), (8, .int x_21), (7, .int z_18), (6, .int x_19), (4, .int x_7), (0, .ref x), (1, .ref f), (2, .int p1), (3, .int p2)]) hx hb dX8_readCondition_109 hl (by decide) rfl (fun ls hl => ?_)
            refine lv_aload_n hx hb dX8_readCondition_111 rfl (lv_at hl 6 rfl) ?_
            refine lv_iload hx hb dX8_readCondition_112 (lv_at hl 1 rfl) ?_
            have hPc := hP.sub (ws' := [(x, .inr (7, [.ref x_signs, .int x_length])), (x_signs, .inl (cI, 255, .inl x_signsF))]) [0, 1] rfl
            refine va_calli (va_runV (As := [.int x_23]) (rest := []) ⟨hx, hb, hml, hown, (dr_words hts _)⟩ (c_X10_at l D cI cD cJ H.size x x_signs x_length x_signsF x_23 (by omega) (by assumption)) (cwV 1 (dr_words hts _) (goodIn_app (goodIn_r _ [1, 2, 3, 4] rfl (by decide +kernel)) (goodIn_sub i_X10_at k_X10_at)) rfl rfl rfl (by decide +kernel) ⟨Nat.le_of_ble_eq_true rfl, Nat.le_of_ble_eq_true rfl⟩) ⟨fun a U g mk q => by obtain ⟨q0, qP, qK⟩ := q; exact ⟨q0, qP, va_K.moved (u := U) (U := U.calling g mk a) (Vm.Alike.refl U.vm) qK⟩, va_recv hK hPc (ci := 7) (q0 := 0) rfl rfl, fun U hU hW => ⟨rfl, by rw [hU]; exact hPc, va_K.moved hW.alike hK⟩⟩ rfl rfl hl.1 rfl (lv_room (Nat.le_of_ble_eq_true rfl)) dX8_readCondition_114 ⟨Nat.le_of_ble_eq_true rfl, Nat.le_of_ble_eq_true rfl⟩) hS (fun q _ h => h.elim) (fun q h => h.elim) (fun x_24 u t H1 locs ht hvm w_25 hB hz1 hk1 hS => ?_)
            have hP : va_P D vwCl [(x, .inr (7, [.ref x_signs, .int x_length])), (x_signs, .inl (cI, 255, .inl x_signsF)), (f, .inr (2, [.ref f_kinds, .ref f_signs, .ref f_sizes, .ref f_places, .ref f_limits, .ref f_starts, .ref f_sorts, .int f_count, .int f_sections, .int f_fifth])), (f_kinds, .inl (cI, 255, .inl f_kindsF)), (f_signs, .inl (cI, 255, .inl f_signsF)), (f_sizes, .inl (cI, 255, .inl f_sizesF)), (f_places, .inl (cI, 255, .inl f_placesF)), (f_limits, .inl (cD, 255, .inr (.inr (.inr (.inl f_limitsF)))))] H1 := hP.kept (fun k9 q9 h9 => hk1 q9.1 (vx_lt hP h9) (fun h => h))
            generalize H1 = H at hP hS ⊢
            try dsimp only at w_25
            refine lv_bipush (v := 46) hx hb dX8_readCondition_117 (by decide) ?_
            have K_150 : ∀ (x_26 : Int32) (x_27 : Int32) (H : Heap) (locs : List Loc) (ls : Array Slot) (dq150_28 : Drawn), s.drawn.sameBut dq150_28 lw_cs → (0 ≤ (x_26 : Int32).toInt) → ((x_26 : Int32).toInt ≤ 9) → ((x_26 : Int32).toInt ≤ (x_27 : Int32).toInt) → ((x_27 : Int32).toInt ≤ 900) → va_P D vwCl [(x, .inr (7, [.ref x_signs, .int x_length])), (x_signs, .inl (cI, 255, .inl x_signsF)), (f, .inr (2, [.ref f_kinds, .ref f_signs, .ref f_sizes, .ref f_places, .ref f_limits, .ref f_starts, .ref f_sorts, .int f_count, .int f_sections, .int f_fifth])), (f_kinds, .inl (cI, 255, .inl f_kindsF)), (f_signs, .inl (cI, 255, .inl f_signsF)), (f_sizes, .inl (cI, 255, .inl f_sizesF)), (f_places, .inl (cI, 255, .inl f_placesF)), (f_limits, .inl (cD, 255, .inr (.inr (.inr (.inl f_limitsF)))))] H → va_D A [(x, .inr (7, [.ref x_signs, .int x_length])), (x_signs, .inl (cI, 255, .inl x_signsF)), (f, .inr (2, [.ref f_kinds, .ref f_signs, .ref f_sizes, .ref f_places, .ref f_limits, .ref f_starts, .ref f_sorts, .int f_count, .int f_sections, .int f_fifth])), (f_kinds, .inl (cI, 255, .inl f_kindsF)), (f_signs, .inl (cI, 255, .inl f_signsF)), (f_sizes, .inl (cI, 255, .inl f_sizesF)), (f_places, .inl (cI, 255, .inl f_placesF)), (f_limits, .inl (cD, 255, .inr (.inr (.inr (.inl f_limitsF)))))] → va_S A s.heap H locs → lv_has ls 14 [(10, .int x_26), (9, .int x_27), (8, .int x_21), (7, .int z_18), (6, .int x_19), (4, .int x_7), (0, .ref x), (1, .ref f), (2, .int p1), (3, .int p2)] → Z dq150_28 0 0 H locs (F0 m 150 ls []) := by
              intro x_26 x_27 H locs ls dq150_28 hdq150_28 g150_0 g150_1 g150_2 g150_3 hP hD hS hl
              refine hZ2 ?_
              refine lv_iload hx hb dX8_readCondition_150 (lv_at hl 2 rfl) ?_
              refine lv_if_eq (tgt := 161) hx hb dX8_readCondition_152 (by decide) (fun c_29 => ?_) (fun c_29 => ?_)
              · have ic_29 : (x_21 : Int32).toInt = (0 : Int32).toInt := (fa_eq x_21 0).mp c_29
                refine lv_iconst (v := 0) hx hb dX8_readCondition_161 (by decide) ?_
                refine W.endD hdq150_28 ?_
                have hP9 := hP.sub (ws' := [(x, .inr (7, [.ref x_signs, .int x_length])), (x_signs, .inl (cI, 255, .inl x_signsF)), (f, .inr (2, [.ref f_kinds, .ref f_signs, .ref f_sizes, .ref f_places, .ref f_limits, .ref f_starts, .ref f_sorts, .int f_count, .int f_sections, .int f_fifth])), (f_kinds, .inl (cI, 255, .inl f_kindsF)), (f_signs, .inl (cI, 255, .inl f_signsF)), (f_sizes, .inl (cI, 255, .inl f_sizesF)), (f_places, .inl (cI, 255, .inl f_placesF)), (f_limits, .inl (cD, 255, .inr (.inr (.inr (.inl f_limitsF)))))]) [0, 1, 2, 3, 4, 5, 6, 7] rfl
                have hD9 := hD.sub (ws' := [(x, .inr (7, [.ref x_signs, .int x_length])), (x_signs, .inl (cI, 255, .inl x_signsF)), (f, .inr (2, [.ref f_kinds, .ref f_signs, .ref f_sizes, .ref f_places, .ref f_limits, .ref f_starts, .ref f_sorts, .int f_count, .int f_sections, .int f_fifth])), (f_kinds, .inl (cI, 255, .inl f_kindsF)), (f_signs, .inl (cI, 255, .inl f_signsF)), (f_sizes, .inl (cI, 255, .inl f_sizesF)), (f_places, .inl (cI, 255, .inl f_placesF)), (f_limits, .inl (cD, 255, .inr (.inr (.inr (.inl f_limitsF)))))]) [0, 1, 2, 3, 4, 5, 6, 7] (by decide) rfl
                exact W.zret (v := 0) hx hb hr rfl (fun t ht hW => ⟨⟨0, (f_count, f_kindsF, f_signsF, f_sizesF, f_placesF, f_limitsF), rfl, (by (try dsimp only); refine ⟨?_, ?_, ?_⟩ <;> first | omega | assumption), by rw [ht]; exact hP9, va_K.moved hW.alike hK, hD9⟩, hS.F ht⟩) hS.2.2 dX8_readCondition_162
              · have ic_29 : ¬ ((x_21 : Int32).toInt = (0 : Int32).toInt) := fun h9 => c_29 ((fa_eq x_21 0).mpr h9)
                refine lv_iload hx hb dX8_readCondition_155 (lv_at hl 1 rfl) ?_
                refine lv_iload_n hx hb dX8_readCondition_157 rfl (lv_at hl 9 rfl) ?_
                refine lv_icmp_eq (tgt := 163) hx hb dX8_readCondition_158 (by decide) (fun c_30 => ?_) (fun c_30 => ?_)
                · have ic_30 : (x_27 : Int32).toInt = (p2 : Int32).toInt := (fa_eq x_27 p2).mp c_30
                  refine lv_aload_n hx hb dX8_readCondition_163 rfl (lv_at hl 6 rfl) ?_
                  refine lv_iload hx hb dX8_readCondition_164 (lv_at hl 1 rfl) ?_
                  refine lv_iload hx hb dX8_readCondition_166 (lv_at hl 0 rfl) ?_
                  refine lv_isub hx hb dX8_readCondition_168 ?_
                  refine lv_topi (fun x_31 ex_31 => ?_)
                  have b_x_27 := ti_b x_27
                  have b_x_26 := ti_b x_26
                  have tx_31 := ti_sub ex_31
                  refine lv_iload hx hb dX8_readCondition_169 (lv_at hl 0 rfl) ?_
                  have hPc := hP.sub (ws' := [(x, .inr (7, [.ref x_signs, .int x_length])), (x_signs, .inl (cI, 255, .inl x_signsF))]) [0, 1] rfl
                  refine va_calli (va_runV (As := [.int x_31, .int x_26]) (rest := []) ⟨hx, hb, hml, hown, (dr_words hts _)⟩ (c_X10_numberOf l D cI cD cJ H.size x x_signs x_length x_signsF x_31 x_26 (by omega) (by omega) (by omega) (by omega) (by omega) (by assumption)) (cwV 2 (dr_words hts _) (goodIn_app (goodIn_r _ [11, 12, 13, 4] rfl (by decide +kernel)) (goodIn_sub i_X10_numberOf k_X10_numberOf)) rfl rfl rfl (by decide +kernel) ⟨Nat.le_of_ble_eq_true rfl, Nat.le_of_ble_eq_true rfl⟩) ⟨fun a U g mk q => by obtain ⟨q0, qP, qK⟩ := q; exact ⟨q0, qP, va_K.moved (u := U) (U := U.calling g mk a) (Vm.Alike.refl U.vm) qK⟩, va_recv hK hPc (ci := 7) (q0 := 0) rfl rfl, fun U hU hW => ⟨rfl, by rw [hU]; exact hPc, va_K.moved hW.alike hK⟩⟩ rfl rfl hl.1 rfl (lv_room (Nat.le_of_ble_eq_true rfl)) dX8_readCondition_171 ⟨Nat.le_of_ble_eq_true rfl, Nat.le_of_ble_eq_true rfl⟩) hS (fun q _ h => h.elim) (fun q h => h.elim) (fun x_32 u t H1 locs ht hvm w_33 hB hz1 hk1 hS => ?_)
                  have hP : va_P D vwCl [(x, .inr (7, [.ref x_signs, .int x_length])), (x_signs, .inl (cI, 255, .inl x_signsF)), (f, .inr (2, [.ref f_kinds, .ref f_signs, .ref f_sizes, .ref f_places, .ref f_limits, .ref f_starts, .ref f_sorts, .int f_count, .int f_sections, .int f_fifth])), (f_kinds, .inl (cI, 255, .inl f_kindsF)), (f_signs, .inl (cI, 255, .inl f_signsF)), (f_sizes, .inl (cI, 255, .inl f_sizesF)), (f_places, .inl (cI, 255, .inl f_placesF)), (f_limits, .inl (cD, 255, .inr (.inr (.inr (.inl f_limitsF)))))] H1 := hP.kept (fun k9 q9 h9 => hk1 q9.1 (vx_lt hP h9) (fun h => h))
                  generalize H1 = H at hP hS ⊢
                  try dsimp only at w_33
                  have b_x_32 := ti_b x_32
                  refine lv_istore (lv' := [(11, .int x_32), (10, .int x_26), (9, .int x_27), (8, .int x_21), (7, .int z_18), (6, .int x_19), (4, .int x_7), (0, .ref x), (1, .ref f), (2, .int p1), (3, .int p2)]) hx hb dX8_readCondition_174 hl (by decide) rfl (fun ls hl => ?_)
                  refine lv_aload_n hx hb dX8_readCondition_176 rfl (lv_at hl 7 rfl) ?_
                  refine lv_iload hx hb dX8_readCondition_177 (lv_at hl 5 rfl) ?_
                  refine lv_iload hx hb dX8_readCondition_179 (lv_at hl 3 rfl) ?_
                  have hPc := hP.sub (ws' := [(x, .inr (7, [.ref x_signs, .int x_length])), (x_signs, .inl (cI, 255, .inl x_signsF))]) [0, 1] rfl
                  refine va_calli (va_runV (As := [.int x_19, .int x_21]) (rest := []) ⟨hx, hb, hml, hown, (dr_words hts _)⟩ (c_X10_numberOf l D cI cD cJ H.size x x_signs x_length x_signsF x_19 x_21 (by omega) (by omega) (by omega) (by omega) (by omega) (by assumption)) (cwV 2 (dr_words hts _) (goodIn_app (goodIn_r _ [11, 12, 13, 4] rfl (by decide +kernel)) (goodIn_sub i_X10_numberOf k_X10_numberOf)) rfl rfl rfl (by decide +kernel) ⟨Nat.le_of_ble_eq_true rfl, Nat.le_of_ble_eq_true rfl⟩) ⟨fun a U g mk q => by obtain ⟨q0, qP, qK⟩ := q; exact ⟨q0, qP, va_K.moved (u := U) (U := U.calling g mk a) (Vm.Alike.refl U.vm) qK⟩, va_recv hK hPc (ci := 7) (q0 := 0) rfl rfl, fun U hU hW => ⟨rfl, by rw [hU]; exact hPc, va_K.moved hW.alike hK⟩⟩ rfl rfl hl.1 rfl (lv_room (Nat.le_of_ble_eq_true rfl)) dX8_readCondition_181 ⟨Nat.le_of_ble_eq_true rfl, Nat.le_of_ble_eq_true rfl⟩) hS (fun q _ h => h.elim) (fun q h => h.elim) (fun x_34 u t H1 locs ht hvm w_35 hB hz1 hk1 hS => ?_)
                  have hP : va_P D vwCl [(x, .inr (7, [.ref x_signs, .int x_length])), (x_signs, .inl (cI, 255, .inl x_signsF)), (f, .inr (2, [.ref f_kinds, .ref f_signs, .ref f_sizes, .ref f_places, .ref f_limits, .ref f_starts, .ref f_sorts, .int f_count, .int f_sections, .int f_fifth])), (f_kinds, .inl (cI, 255, .inl f_kindsF)), (f_signs, .inl (cI, 255, .inl f_signsF)), (f_sizes, .inl (cI, 255, .inl f_sizesF)), (f_places, .inl (cI, 255, .inl f_placesF)), (f_limits, .inl (cD, 255, .inr (.inr (.inr (.inl f_limitsF)))))] H1 := hP.kept (fun k9 q9 h9 => hk1 q9.1 (vx_lt hP h9) (fun h => h))
                  generalize H1 = H at hP hS ⊢
                  try dsimp only at w_35
                  have b_x_34 := ti_b x_34
                  refine lv_iload hx hb dX8_readCondition_184 (lv_at hl 0 rfl) ?_
                  refine lv_iload hx hb dX8_readCondition_186 (lv_at hl 1 rfl) ?_
                  have hPc := hP.sub (ws' := []) [] rfl
                  refine va_calldD hdq150_28 (va_runS_D (As := [.int x_34, .int x_32, .int x_26]) (rest := []) ⟨hx, hb, hml, hown, (dr_words hts _)⟩ (c_X8_nearest l D cI cD cJ H.size x_34 x_32 x_26) (va_cwS 3 (dr_words hts _) (goodIn_app (goodIn_r _ [14, 15, 7] rfl (by decide +kernel)) (goodIn_sub i_X8_nearest k_X8_nearest)) rfl rfl rfl (by decide +kernel) ⟨Nat.le_of_ble_eq_true rfl, Nat.le_of_ble_eq_true rfl⟩) ⟨fun a U g mk q => by obtain ⟨q0, qP, qK⟩ := q; exact ⟨q0, qP, va_K.moved (u := U) (U := U.calling g mk a) (Vm.Alike.refl U.vm) qK⟩, fun U hU hW => ⟨rfl, by rw [hU]; exact hPc, va_K.moved hW.alike hK⟩⟩ rfl rfl hl.1 rfl (lv_room (Nat.le_of_ble_eq_true rfl)) dX8_readCondition_188 ⟨Nat.le_of_ble_eq_true rfl, Nat.le_of_ble_eq_true rfl⟩) hS (fun q _ h => h.elim) (fun q h => h.elim) (fun d_36 u t H1 locs ht hvm w_37 hB hz1 hk1 hS dhd_38 hd_38 => ?_)
                  have hP : va_P D vwCl [(x, .inr (7, [.ref x_signs, .int x_length])), (x_signs, .inl (cI, 255, .inl x_signsF)), (f, .inr (2, [.ref f_kinds, .ref f_signs, .ref f_sizes, .ref f_places, .ref f_limits, .ref f_starts, .ref f_sorts, .int f_count, .int f_sections, .int f_fifth])), (f_kinds, .inl (cI, 255, .inl f_kindsF)), (f_signs, .inl (cI, 255, .inl f_signsF)), (f_sizes, .inl (cI, 255, .inl f_sizesF)), (f_places, .inl (cI, 255, .inl f_placesF)), (f_limits, .inl (cD, 255, .inr (.inr (.inr (.inl f_limitsF)))))] H1 := hP.kept (fun k9 q9 h9 => hk1 q9.1 (vx_lt hP h9) (fun h => h))
                  generalize H1 = H at hP hS ⊢
                  refine lv_dstore (lv' := [(12, .double d_36), (11, .int x_32), (10, .int x_26), (9, .int x_27), (8, .int x_21), (7, .int z_18), (6, .int x_19), (4, .int x_7), (0, .ref x), (1, .ref f), (2, .int p1), (3, .int p2)]) hx hb dX8_readCondition_191 hl (by decide) rfl (fun ls hl => ?_)
                  refine lv_aload_n hx hb dX8_readCondition_193 rfl (lv_at hl 9 rfl) ?_
                  refine lv_iload hx hb dX8_readCondition_194 (lv_at hl 7 rfl) ?_
                  refine lv_iload hx hb dX8_readCondition_196 (lv_at hl 5 rfl) ?_
                  have K_209 : ∀ (z_40 : UInt64) (H : Heap) (locs : List Loc) (ls : Array Slot) (dq209_39 : Drawn), s.drawn.sameBut dq209_39 lw_cs → va_P D vwCl [(x, .inr (7, [.ref x_signs, .int x_length])), (x_signs, .inl (cI, 255, .inl x_signsF)), (f, .inr (2, [.ref f_kinds, .ref f_signs, .ref f_sizes, .ref f_places, .ref f_limits, .ref f_starts, .ref f_sorts, .int f_count, .int f_sections, .int f_fifth])), (f_kinds, .inl (cI, 255, .inl f_kindsF)), (f_signs, .inl (cI, 255, .inl f_signsF)), (f_sizes, .inl (cI, 255, .inl f_sizesF)), (f_places, .inl (cI, 255, .inl f_placesF)), (f_limits, .inl (cD, 255, .inr (.inr (.inr (.inl f_limitsF)))))] H → va_D A [(x, .inr (7, [.ref x_signs, .int x_length])), (x_signs, .inl (cI, 255, .inl x_signsF)), (f, .inr (2, [.ref f_kinds, .ref f_signs, .ref f_sizes, .ref f_places, .ref f_limits, .ref f_starts, .ref f_sorts, .int f_count, .int f_sections, .int f_fifth])), (f_kinds, .inl (cI, 255, .inl f_kindsF)), (f_signs, .inl (cI, 255, .inl f_signsF)), (f_sizes, .inl (cI, 255, .inl f_sizesF)), (f_places, .inl (cI, 255, .inl f_placesF)), (f_limits, .inl (cD, 255, .inr (.inr (.inr (.inl f_limitsF)))))] → va_S A s.heap H locs → lv_has ls 14 [(2, .int p1)] → Z dq209_39 0 0 H locs (F0 m 209 ls [.double z_40, .int x_7, .ref f]) := by
                    intro z_40 H locs ls dq209_39 hdq209_39  hP hD hS hl
                    refine hZ2 ?_
                    refine lv_iload_n hx hb dX8_readCondition_209 rfl (lv_at hl 0 rfl) ?_
                    have hPc := hP.sub (ws' := [(f, .inr (2, [.ref f_kinds, .ref f_signs, .ref f_sizes, .ref f_places, .ref f_limits, .ref f_starts, .ref f_sorts, .int f_count, .int f_sections, .int f_fifth])), (f_kinds, .inl (cI, 255, .inl f_kindsF)), (f_signs, .inl (cI, 255, .inl f_signsF)), (f_sizes, .inl (cI, 255, .inl f_sizesF)), (f_places, .inl (cI, 255, .inl f_placesF)), (f_limits, .inl (cD, 255, .inr (.inr (.inr (.inl f_limitsF)))))]) [2, 3, 4, 5, 6, 7] rfl
                    have hDc := hD.sub (ws' := [(f, .inr (2, [.ref f_kinds, .ref f_signs, .ref f_sizes, .ref f_places, .ref f_limits, .ref f_starts, .ref f_sorts, .int f_count, .int f_sections, .int f_fifth])), (f_kinds, .inl (cI, 255, .inl f_kindsF)), (f_signs, .inl (cI, 255, .inl f_signsF)), (f_sizes, .inl (cI, 255, .inl f_sizesF)), (f_places, .inl (cI, 255, .inl f_placesF)), (f_limits, .inl (cD, 255, .inr (.inr (.inr (.inl f_limitsF)))))]) [2, 3, 4, 5, 6, 7] (by decide) rfl
                    have hFc := va_free (wc := [(f, .inr (2, [.ref f_kinds, .ref f_signs, .ref f_sizes, .ref f_places, .ref f_limits, .ref f_starts, .ref f_sorts, .int f_count, .int f_sections, .int f_fifth])), (f_kinds, .inl (cI, 255, .inl f_kindsF)), (f_signs, .inl (cI, 255, .inl f_signsF)), (f_sizes, .inl (cI, 255, .inl f_sizesF)), (f_places, .inl (cI, 255, .inl f_placesF)), (f_limits, .inl (cD, 255, .inr (.inr (.inr (.inl f_limitsF)))))]) hD hS hA [2, 3, 4, 5, 6, 7] rfl
                    refine va_callv (va_runV (As := [.int x_7, .double z_40, .int p1]) (rest := []) ⟨hx, hb, hml, hown, (dr_words hts _)⟩ (c_X2_addCondition l D cI cD cJ H.size f f_kinds f_signs f_sizes f_places f_limits f_starts f_sorts f_count f_sections f_fifth f_kindsF f_signsF f_sizesF f_placesF f_limitsF x_7 z_40 p1 (by omega) (by omega) (by omega) (by assumption)) (cwV 3 (dr_words hts _) (goodIn_app (goodIn_r _ [16, 17, 18, 19] rfl (by decide +kernel)) (goodIn_sub i_X2_addCondition k_X2_addCondition)) rfl rfl rfl (by decide +kernel) ⟨Nat.le_of_ble_eq_true rfl, Nat.le_of_ble_eq_true rfl⟩) ⟨fun a U g mk q => by obtain ⟨q0, q1, qP, qK, qD⟩ := q; exact ⟨q0, q1, qP, va_K.moved (u := U) (U := U.calling g mk a) (Vm.Alike.refl U.vm) qK, qD⟩, va_recv hK hPc (ci := 2) (q0 := 0) rfl rfl, fun U hU hW => ⟨rfl, by rw [hU], by rw [hU]; exact hPc, va_K.moved hW.alike hK, hDc.weaken (fun _ _ _ _ => trivial)⟩⟩ rfl rfl hl.1 rfl (lv_room (Nat.le_of_ble_eq_true rfl)) dX8_readCondition_210 ⟨Nat.le_of_ble_eq_true rfl, Nat.le_of_ble_eq_true rfl⟩) hS (fun q _ h => hFc q h) hFc (fun u t H1 locs ht hvm w_41 hB hz1 hk1 hS => ?_)
                    obtain ⟨u_42, u_43, u_44, u_45, u_46, u_47⟩ := u
                    obtain ⟨hP1, hK1, hD1⟩ := hB
                    rw [ht] at hP1
                    try dsimp only at w_41
                    obtain ⟨hP, hD⟩ := va_join (wr := [(x, .inr (7, [.ref x_signs, .int x_length])), (x_signs, .inl (cI, 255, .inl x_signsF))]) (w1 := [(f, .inr (2, [.ref f_kinds, .ref f_signs, .ref f_sizes, .ref f_places, .ref f_limits, .ref f_starts, .ref f_sorts, .int u_42, .int f_sections, .int f_fifth])), (f_kinds, .inl (cI, 255, .inl u_43)), (f_signs, .inl (cI, 255, .inl u_44)), (f_sizes, .inl (cI, 255, .inl u_45)), (f_places, .inl (cI, 255, .inl u_46)), (f_limits, .inl (cD, 255, .inr (.inr (.inr (.inl u_47)))))]) hP hD [2, 3, 4, 5, 6, 7] [0, 1] rfl rfl (by decide) (by decide) hk1 hFc hP1 hD1
                    generalize H1 = H at hP hS ⊢
                    have hP : va_P D vwCl [(x, .inr (7, [.ref x_signs, .int x_length])), (x_signs, .inl (cI, 255, .inl x_signsF)), (f, .inr (2, [.ref f_kinds, .ref f_signs, .ref f_sizes, .ref f_places, .ref f_limits, .ref f_starts, .ref f_sorts, .int u_42, .int f_sections, .int f_fifth])), (f_kinds, .inl (cI, 255, .inl u_43)), (f_signs, .inl (cI, 255, .inl u_44)), (f_sizes, .inl (cI, 255, .inl u_45)), (f_places, .inl (cI, 255, .inl u_46)), (f_limits, .inl (cD, 255, .inr (.inr (.inr (.inl u_47)))))] H := hP
                    have hD : va_D A [(x, .inr (7, [.ref x_signs, .int x_length])), (x_signs, .inl (cI, 255, .inl x_signsF)), (f, .inr (2, [.ref f_kinds, .ref f_signs, .ref f_sizes, .ref f_places, .ref f_limits, .ref f_starts, .ref f_sorts, .int u_42, .int f_sections, .int f_fifth])), (f_kinds, .inl (cI, 255, .inl u_43)), (f_signs, .inl (cI, 255, .inl u_44)), (f_sizes, .inl (cI, 255, .inl u_45)), (f_places, .inl (cI, 255, .inl u_46)), (f_limits, .inl (cD, 255, .inr (.inr (.inr (.inl u_47)))))] := hD
                    obtain ⟨w_41_0, w_41_1⟩ := w_41
                    refine lv_iconst (v := 1) hx hb dX8_readCondition_213 (by decide) ?_
                    refine W.endD hdq209_39 ?_
                    have hP9 := hP.sub (ws' := [(x, .inr (7, [.ref x_signs, .int x_length])), (x_signs, .inl (cI, 255, .inl x_signsF)), (f, .inr (2, [.ref f_kinds, .ref f_signs, .ref f_sizes, .ref f_places, .ref f_limits, .ref f_starts, .ref f_sorts, .int u_42, .int f_sections, .int f_fifth])), (f_kinds, .inl (cI, 255, .inl u_43)), (f_signs, .inl (cI, 255, .inl u_44)), (f_sizes, .inl (cI, 255, .inl u_45)), (f_places, .inl (cI, 255, .inl u_46)), (f_limits, .inl (cD, 255, .inr (.inr (.inr (.inl u_47)))))]) [0, 1, 2, 3, 4, 5, 6, 7] rfl
                    have hD9 := hD.sub (ws' := [(x, .inr (7, [.ref x_signs, .int x_length])), (x_signs, .inl (cI, 255, .inl x_signsF)), (f, .inr (2, [.ref f_kinds, .ref f_signs, .ref f_sizes, .ref f_places, .ref f_limits, .ref f_starts, .ref f_sorts, .int u_42, .int f_sections, .int f_fifth])), (f_kinds, .inl (cI, 255, .inl u_43)), (f_signs, .inl (cI, 255, .inl u_44)), (f_sizes, .inl (cI, 255, .inl u_45)), (f_places, .inl (cI, 255, .inl u_46)), (f_limits, .inl (cD, 255, .inr (.inr (.inr (.inl u_47)))))]) [0, 1, 2, 3, 4, 5, 6, 7] (by decide) rfl
                    exact W.zret (v := 1) hx hb hr rfl (fun t ht hW => ⟨⟨1, (u_42, u_43, u_44, u_45, u_46, u_47), rfl, (by (try dsimp only); refine ⟨?_, ?_, ?_⟩ <;> first | omega | assumption), by rw [ht]; exact hP9, va_K.moved hW.alike hK, hD9⟩, hS.F ht⟩) hS.2.2 dX8_readCondition_214
                  refine lv_if_eq (tgt := 207) hx hb dX8_readCondition_198 (by decide) (fun c_48 => ?_) (fun c_48 => ?_)
                  · have ic_48 : (z_18 : Int32).toInt = (0 : Int32).toInt := (fa_eq z_18 0).mp c_48
                    refine lv_dload hx hb dX8_readCondition_207 (lv_at hl 0 rfl) ?_
                    exact hZ1 (K_209 d_36 _ _ _ dhd_38 hd_38 hP hD hS (lv_sub hl [10] rfl))
                  · have ic_48 : ¬ ((z_18 : Int32).toInt = (0 : Int32).toInt) := fun h9 => c_48 ((fa_eq z_18 0).mpr h9)
                    refine lv_dload hx hb dX8_readCondition_201 (lv_at hl 0 rfl) ?_
                    refine lv_dneg hx hb dX8_readCondition_203 ?_
                    refine lv_topd (fun d_49 ed_49 => ?_)
                    refine lv_goto (tgt := 209) hx hb dX8_readCondition_204 (by decide) ?_
                    exact hZ1 (K_209 d_49 _ _ _ dhd_38 hd_38 hP hD hS (lv_sub hl [10] rfl))
                · have ic_30 : ¬ ((x_27 : Int32).toInt = (p2 : Int32).toInt) := fun h9 => c_30 ((fa_eq x_27 p2).mpr h9)
                  refine lv_iconst (v := 0) hx hb dX8_readCondition_161 (by decide) ?_
                  refine W.endD hdq150_28 ?_
                  have hP9 := hP.sub (ws' := [(x, .inr (7, [.ref x_signs, .int x_length])), (x_signs, .inl (cI, 255, .inl x_signsF)), (f, .inr (2, [.ref f_kinds, .ref f_signs, .ref f_sizes, .ref f_places, .ref f_limits, .ref f_starts, .ref f_sorts, .int f_count, .int f_sections, .int f_fifth])), (f_kinds, .inl (cI, 255, .inl f_kindsF)), (f_signs, .inl (cI, 255, .inl f_signsF)), (f_sizes, .inl (cI, 255, .inl f_sizesF)), (f_places, .inl (cI, 255, .inl f_placesF)), (f_limits, .inl (cD, 255, .inr (.inr (.inr (.inl f_limitsF)))))]) [0, 1, 2, 3, 4, 5, 6, 7] rfl
                  have hD9 := hD.sub (ws' := [(x, .inr (7, [.ref x_signs, .int x_length])), (x_signs, .inl (cI, 255, .inl x_signsF)), (f, .inr (2, [.ref f_kinds, .ref f_signs, .ref f_sizes, .ref f_places, .ref f_limits, .ref f_starts, .ref f_sorts, .int f_count, .int f_sections, .int f_fifth])), (f_kinds, .inl (cI, 255, .inl f_kindsF)), (f_signs, .inl (cI, 255, .inl f_signsF)), (f_sizes, .inl (cI, 255, .inl f_sizesF)), (f_places, .inl (cI, 255, .inl f_placesF)), (f_limits, .inl (cD, 255, .inr (.inr (.inr (.inl f_limitsF)))))]) [0, 1, 2, 3, 4, 5, 6, 7] (by decide) rfl
                  exact W.zret (v := 0) hx hb hr rfl (fun t ht hW => ⟨⟨0, (f_count, f_kindsF, f_signsF, f_sizesF, f_placesF, f_limitsF), rfl, (by (try dsimp only); refine ⟨?_, ?_, ?_⟩ <;> first | omega | assumption), by rw [ht]; exact hP9, va_K.moved hW.alike hK, hD9⟩, hS.F ht⟩) hS.2.2 dX8_readCondition_162
            refine lv_icmp_ne (tgt := 150) hx hb dX8_readCondition_119 (by decide) (fun c_50 => ?_) (fun c_50 => ?_)
            · have ic_50 : ¬ ((x_24 : Int32).toInt = (46 : Int32).toInt) := fun h9 => c_50 ((fa_eq x_24 46).mpr h9)
              exact hZ1 (K_150 0 x_23 _ _ _ dq91_20 hdq91_20 (by omega) (by omega) (by omega) (by omega) hP hD hS hl)
            · have ic_50 : (x_24 : Int32).toInt = (46 : Int32).toInt := (fa_eq x_24 46).mp c_50
              refine lv_aload_n hx hb dX8_readCondition_122 rfl (lv_at hl 6 rfl) ?_
              refine lv_iload hx hb dX8_readCondition_123 (lv_at hl 1 rfl) ?_
              refine lv_iconst (v := 1) hx hb dX8_readCondition_125 (by decide) ?_
              refine lv_iadd hx hb dX8_readCondition_126 ?_
              refine lv_topi (fun x_51 ex_51 => ?_)
              have tx_51 := ti_add ex_51
              refine lv_bipush (v := 9) hx hb dX8_readCondition_127 (by decide) ?_
              have hPc := hP.sub (ws' := [(x, .inr (7, [.ref x_signs, .int x_length])), (x_signs, .inl (cI, 255, .inl x_signsF))]) [0, 1] rfl
              refine va_calli (va_runV (As := [.int x_51, .int 9]) (rest := []) ⟨hx, hb, hml, hown, (dr_words hts _)⟩ (c_X10_digitsFrom l D cI cD cJ H.size x x_signs x_length x_signsF x_51 9 (by omega) (by assumption)) (cwV 2 (dr_words hts _) (goodIn_app (goodIn_r _ [8, 9, 10, 4] rfl (by decide +kernel)) (goodIn_sub i_X10_digitsFrom k_X10_digitsFrom)) rfl rfl rfl (by decide +kernel) ⟨Nat.le_of_ble_eq_true rfl, Nat.le_of_ble_eq_true rfl⟩) ⟨fun a U g mk q => by obtain ⟨q0, qP, qK⟩ := q; exact ⟨q0, qP, va_K.moved (u := U) (U := U.calling g mk a) (Vm.Alike.refl U.vm) qK⟩, va_recv hK hPc (ci := 7) (q0 := 0) rfl rfl, fun U hU hW => ⟨rfl, by rw [hU]; exact hPc, va_K.moved hW.alike hK⟩⟩ rfl rfl hl.1 rfl (lv_room (Nat.le_of_ble_eq_true rfl)) dX8_readCondition_129 ⟨Nat.le_of_ble_eq_true rfl, Nat.le_of_ble_eq_true rfl⟩) hS (fun q _ h => h.elim) (fun q h => h.elim) (fun x_52 u t H1 locs ht hvm w_53 hB hz1 hk1 hS => ?_)
              have hP : va_P D vwCl [(x, .inr (7, [.ref x_signs, .int x_length])), (x_signs, .inl (cI, 255, .inl x_signsF)), (f, .inr (2, [.ref f_kinds, .ref f_signs, .ref f_sizes, .ref f_places, .ref f_limits, .ref f_starts, .ref f_sorts, .int f_count, .int f_sections, .int f_fifth])), (f_kinds, .inl (cI, 255, .inl f_kindsF)), (f_signs, .inl (cI, 255, .inl f_signsF)), (f_sizes, .inl (cI, 255, .inl f_sizesF)), (f_places, .inl (cI, 255, .inl f_placesF)), (f_limits, .inl (cD, 255, .inr (.inr (.inr (.inl f_limitsF)))))] H1 := hP.kept (fun k9 q9 h9 => hk1 q9.1 (vx_lt hP h9) (fun h => h))
              generalize H1 = H at hP hS ⊢
              try dsimp only at w_53
              have b_x_52 := ti_b x_52
              refine lv_istore (lv' := [(10, .int x_52), (9, .int x_23), (8, .int x_21), (7, .int z_18), (6, .int x_19), (4, .int x_7), (0, .ref x), (1, .ref f), (2, .int p1), (3, .int p2)]) hx hb dX8_readCondition_132 hl (by decide) rfl (fun ls hl => ?_)
              refine lv_iload hx hb dX8_readCondition_134 (lv_at hl 0 rfl) ?_
              refine lv_if_ne (tgt := 141) hx hb dX8_readCondition_136 (by decide) (fun c_54 => ?_) (fun c_54 => ?_)
              · have ic_54 : ¬ ((x_52 : Int32).toInt = (0 : Int32).toInt) := fun h9 => c_54 ((fa_eq x_52 0).mpr h9)
                refine lv_iload hx hb dX8_readCondition_141 (lv_at hl 1 rfl) ?_
                refine lv_iconst (v := 1) hx hb dX8_readCondition_143 (by decide) ?_
                refine lv_iload hx hb dX8_readCondition_144 (lv_at hl 0 rfl) ?_
                refine lv_iadd hx hb dX8_readCondition_146 ?_
                refine lv_topi (fun x_55 ex_55 => ?_)
                have b_x_52 := ti_b x_52
                have tx_55 := ti_add ex_55
                refine lv_iadd hx hb dX8_readCondition_147 ?_
                refine lv_topi (fun x_56 ex_56 => ?_)
                have tx_56 := ti_add ex_56
                refine lv_istore (lv' := [(9, .int x_56), (10, .int x_52), (8, .int x_21), (7, .int z_18), (6, .int x_19), (4, .int x_7), (0, .ref x), (1, .ref f), (2, .int p1), (3, .int p2)]) hx hb dX8_readCondition_148 hl (by decide) rfl (fun ls hl => ?_)
                exact hZ1 (K_150 x_52 x_56 _ _ _ dq91_20 hdq91_20 (by omega) (by omega) (by omega) (by omega) hP hD hS (lv_sub hl [1, 0, 2, 3, 4, 5, 6, 7, 8, 9] rfl))
              · have ic_54 : (x_52 : Int32).toInt = (0 : Int32).toInt := (fa_eq x_52 0).mp c_54
                refine lv_iconst (v := 0) hx hb dX8_readCondition_139 (by decide) ?_
                refine W.endD hdq91_20 ?_
                have hP9 := hP.sub (ws' := [(x, .inr (7, [.ref x_signs, .int x_length])), (x_signs, .inl (cI, 255, .inl x_signsF)), (f, .inr (2, [.ref f_kinds, .ref f_signs, .ref f_sizes, .ref f_places, .ref f_limits, .ref f_starts, .ref f_sorts, .int f_count, .int f_sections, .int f_fifth])), (f_kinds, .inl (cI, 255, .inl f_kindsF)), (f_signs, .inl (cI, 255, .inl f_signsF)), (f_sizes, .inl (cI, 255, .inl f_sizesF)), (f_places, .inl (cI, 255, .inl f_placesF)), (f_limits, .inl (cD, 255, .inr (.inr (.inr (.inl f_limitsF)))))]) [0, 1, 2, 3, 4, 5, 6, 7] rfl
                have hD9 := hD.sub (ws' := [(x, .inr (7, [.ref x_signs, .int x_length])), (x_signs, .inl (cI, 255, .inl x_signsF)), (f, .inr (2, [.ref f_kinds, .ref f_signs, .ref f_sizes, .ref f_places, .ref f_limits, .ref f_starts, .ref f_sorts, .int f_count, .int f_sections, .int f_fifth])), (f_kinds, .inl (cI, 255, .inl f_kindsF)), (f_signs, .inl (cI, 255, .inl f_signsF)), (f_sizes, .inl (cI, 255, .inl f_sizesF)), (f_places, .inl (cI, 255, .inl f_placesF)), (f_limits, .inl (cD, 255, .inr (.inr (.inr (.inl f_limitsF)))))]) [0, 1, 2, 3, 4, 5, 6, 7] (by decide) rfl
                exact W.zret (v := 0) hx hb hr rfl (fun t ht hW => ⟨⟨0, (f_count, f_kindsF, f_signsF, f_sizesF, f_placesF, f_limitsF), rfl, (by (try dsimp only); refine ⟨?_, ?_, ?_⟩ <;> first | omega | assumption), by rw [ht]; exact hP9, va_K.moved hW.alike hK, hD9⟩, hS.F ht⟩) hS.2.2 dX8_readCondition_140
          refine lv_if_eq (tgt := 91) hx hb dX8_readCondition_85 (by decide) (fun c_57 => ?_) (fun c_57 => ?_)
          · have ic_57 : (z_18 : Int32).toInt = (0 : Int32).toInt := (fa_eq z_18 0).mp c_57
            exact hZ1 (K_91 x_14 _ _ _ dq81_17 hdq81_17 (by omega) (by omega) hP hD hS hl)
          · have ic_57 : ¬ ((z_18 : Int32).toInt = (0 : Int32).toInt) := fun h9 => c_57 ((fa_eq z_18 0).mpr h9)
            obtain ⟨x_58, ex_58⟩ : ∃ y : Int32, y = x_14 + 1 := ⟨_, rfl⟩
            have tx_58 := ti_add ex_58
            refine lv_iinc (v := x_58) (lv' := [(6, .int x_58), (7, .int z_18), (4, .int x_7), (0, .ref x), (1, .ref f), (2, .int p1), (3, .int p2)]) hx hb dX8_readCondition_88 hl (k := 1) rfl (by rw [ex_58]; rfl) (by decide) rfl (fun ls hl => ?_)
            exact hZ1 (K_91 x_58 _ _ _ dq81_17 hdq81_17 (by omega) (by omega) hP hD hS (lv_sub hl [1, 0, 2, 3, 4, 5, 6] rfl))
        refine lv_icmp_ne (tgt := 80) hx hb dX8_readCondition_73 (by decide) (fun c_59 => ?_) (fun c_59 => ?_)
        · have ic_59 : ¬ ((x_15 : Int32).toInt = (45 : Int32).toInt) := fun h9 => c_59 ((fa_eq x_15 45).mpr h9)
          refine lv_iconst (v := 0) hx hb dX8_readCondition_80 (by decide) ?_
          exact hZ1 (K_81 0 _ _ _ dq62_12 hdq62_12 (by omega) hP hD hS hl)
        · have ic_59 : (x_15 : Int32).toInt = (45 : Int32).toInt := (fa_eq x_15 45).mp c_59
          refine lv_iconst (v := 1) hx hb dX8_readCondition_76 (by decide) ?_
          refine lv_goto (tgt := 81) hx hb dX8_readCondition_77 (by decide) ?_
          exact hZ1 (K_81 1 _ _ _ dq62_12 hdq62_12 (by omega) hP hD hS hl)
      refine lv_if_eq (tgt := 61) hx hb dX8_readCondition_54 (by decide) (fun c_60 => ?_) (fun c_60 => ?_)
      · have ic_60 : (z_11 : Int32).toInt = (0 : Int32).toInt := (fa_eq z_11 0).mp c_60
        refine lv_iconst (v := 3) hx hb dX8_readCondition_61 (by decide) ?_
        exact hZ1 (K_62 3 _ _ _ dq49_10 hdq49_10 (by omega) (by omega) hP hD hS (lv_sub hl [1, 2, 3, 4, 5] rfl))
      · have ic_60 : ¬ ((z_11 : Int32).toInt = (0 : Int32).toInt) := fun h9 => c_60 ((fa_eq z_11 0).mpr h9)
        refine lv_iconst (v := 2) hx hb dX8_readCondition_57 (by decide) ?_
        refine lv_goto (tgt := 62) hx hb dX8_readCondition_58 (by decide) ?_
        exact hZ1 (K_62 2 _ _ _ dq49_10 hdq49_10 (by omega) (by omega) hP hD hS (lv_sub hl [1, 2, 3, 4, 5] rfl))
    have K_44 : ∀ (H : Heap) (locs : List Loc) (ls : Array Slot) (dq44_61 : Drawn), s.drawn.sameBut dq44_61 lw_cs → va_P D vwCl [(x, .inr (7, [.ref x_signs, .int x_length])), (x_signs, .inl (cI, 255, .inl x_signsF)), (f, .inr (2, [.ref f_kinds, .ref f_signs, .ref f_sizes, .ref f_places, .ref f_limits, .ref f_starts, .ref f_sorts, .int f_count, .int f_sections, .int f_fifth])), (f_kinds, .inl (cI, 255, .inl f_kindsF)), (f_signs, .inl (cI, 255, .inl f_signsF)), (f_sizes, .inl (cI, 255, .inl f_sizesF)), (f_places, .inl (cI, 255, .inl f_placesF)), (f_limits, .inl (cD, 255, .inr (.inr (.inr (.inl f_limitsF)))))] H → va_D A [(x, .inr (7, [.ref x_signs, .int x_length])), (x_signs, .inl (cI, 255, .inl x_signsF)), (f, .inr (2, [.ref f_kinds, .ref f_signs, .ref f_sizes, .ref f_places, .ref f_limits, .ref f_starts, .ref f_sorts, .int f_count, .int f_sections, .int f_fifth])), (f_kinds, .inl (cI, 255, .inl f_kindsF)), (f_signs, .inl (cI, 255, .inl f_signsF)), (f_sizes, .inl (cI, 255, .inl f_sizesF)), (f_places, .inl (cI, 255, .inl f_placesF)), (f_limits, .inl (cD, 255, .inr (.inr (.inr (.inl f_limitsF)))))] → va_S A s.heap H locs → lv_has ls 14 [(4, .int x_7), (0, .ref x), (1, .ref f), (2, .int p1), (3, .int p2)] → Z dq44_61 0 0 H locs (F0 m 44 ls []) := by
      intro  H locs ls dq44_61 hdq44_61  hP hD hS hl
      refine hZ2 ?_
      refine lv_iconst (v := 1) hx hb dX8_readCondition_44 (by decide) ?_
      refine lv_goto (tgt := 49) hx hb dX8_readCondition_45 (by decide) ?_
      exact hZ1 (K_49 1 _ _ _ dq44_61 hdq44_61 (by omega) hP hD hS hl)
    refine lv_icmp_eq (tgt := 44) hx hb dX8_readCondition_29 (by decide) (fun c_62 => ?_) (fun c_62 => ?_)
    · have ic_62 : (x_7 : Int32).toInt = (1 : Int32).toInt := (fa_eq x_7 1).mp c_62
      exact hZ1 (K_44  _ _ _ s.drawn hd0 hP hD hS hl)
    · have ic_62 : ¬ ((x_7 : Int32).toInt = (1 : Int32).toInt) := fun h9 => c_62 ((fa_eq x_7 1).mpr h9)
      refine lv_iload hx hb dX8_readCondition_32 (lv_at hl 0 rfl) ?_
      refine lv_iconst (v := 2) hx hb dX8_readCondition_34 (by decide) ?_
      refine lv_icmp_eq (tgt := 44) hx hb dX8_readCondition_35 (by decide) (fun c_63 => ?_) (fun c_63 => ?_)
      · have ic_63 : (x_7 : Int32).toInt = (2 : Int32).toInt := (fa_eq x_7 2).mp c_63
        exact hZ1 (K_44  _ _ _ s.drawn hd0 hP hD hS hl)
      · have ic_63 : ¬ ((x_7 : Int32).toInt = (2 : Int32).toInt) := fun h9 => c_63 ((fa_eq x_7 2).mpr h9)
        refine lv_iload hx hb dX8_readCondition_38 (lv_at hl 0 rfl) ?_
        refine lv_iconst (v := 4) hx hb dX8_readCondition_40 (by decide) ?_
        refine lv_icmp_ne (tgt := 48) hx hb dX8_readCondition_41 (by decide) (fun c_64 => ?_) (fun c_64 => ?_)
        · have ic_64 : ¬ ((x_7 : Int32).toInt = (4 : Int32).toInt) := fun h9 => c_64 ((fa_eq x_7 4).mpr h9)
          refine lv_iconst (v := 0) hx hb dX8_readCondition_48 (by decide) ?_
          exact hZ1 (K_49 0 _ _ _ s.drawn hd0 (by omega) hP hD hS hl)
        · have ic_64 : (x_7 : Int32).toInt = (4 : Int32).toInt := (fa_eq x_7 4).mp c_64
          exact hZ1 (K_44  _ _ _ s.drawn hd0 hP hD hS hl)
  · have ic_9 : (x_7 : Int32).toInt = (0 : Int32).toInt := (fa_eq x_7 0).mp c_9
    refine lv_iconst (v := 0) hx hb dX8_readCondition_24 (by decide) ?_
    refine W.endD hd0 ?_
    have hP9 := hP.sub (ws' := [(x, .inr (7, [.ref x_signs, .int x_length])), (x_signs, .inl (cI, 255, .inl x_signsF)), (f, .inr (2, [.ref f_kinds, .ref f_signs, .ref f_sizes, .ref f_places, .ref f_limits, .ref f_starts, .ref f_sorts, .int f_count, .int f_sections, .int f_fifth])), (f_kinds, .inl (cI, 255, .inl f_kindsF)), (f_signs, .inl (cI, 255, .inl f_signsF)), (f_sizes, .inl (cI, 255, .inl f_sizesF)), (f_places, .inl (cI, 255, .inl f_placesF)), (f_limits, .inl (cD, 255, .inr (.inr (.inr (.inl f_limitsF)))))]) [0, 1, 2, 3, 4, 5, 6, 7] rfl
    have hD9 := hD.sub (ws' := [(x, .inr (7, [.ref x_signs, .int x_length])), (x_signs, .inl (cI, 255, .inl x_signsF)), (f, .inr (2, [.ref f_kinds, .ref f_signs, .ref f_sizes, .ref f_places, .ref f_limits, .ref f_starts, .ref f_sorts, .int f_count, .int f_sections, .int f_fifth])), (f_kinds, .inl (cI, 255, .inl f_kindsF)), (f_signs, .inl (cI, 255, .inl f_signsF)), (f_sizes, .inl (cI, 255, .inl f_sizesF)), (f_places, .inl (cI, 255, .inl f_placesF)), (f_limits, .inl (cD, 255, .inr (.inr (.inr (.inl f_limitsF)))))]) [0, 1, 2, 3, 4, 5, 6, 7] (by decide) rfl
    exact W.zret (v := 0) hx hb hr rfl (fun t ht hW => ⟨⟨0, (f_count, f_kindsF, f_signsF, f_sizesF, f_placesF, f_limitsF), rfl, (by (try dsimp only); refine ⟨?_, ?_, ?_⟩ <;> first | omega | assumption), by rw [ht]; exact hP9, va_K.moved hW.alike hK, hD9⟩, hS.F ht⟩) hS.2.2 dX8_readCondition_25

def ow_X8_bracket : List Cond := [Cond.methodLink RX8 69 yX10_find, Cond.instanceMethod yX10_find, Cond.selects RX10 yX10_find yX10_find, Cond.initialized RX10, Cond.methodLink RX8 77 yX8_isElapsed, Cond.static yX8_isElapsed, Cond.initialized RX8, Cond.methodLink RX8 81 yX8_readCondition, Cond.static yX8_readCondition, Cond.methodLink RX8 73 yX8_bad, Cond.static yX8_bad, Cond.methodLink RX8 46 yX10_smallAt, Cond.instanceMethod yX10_smallAt, Cond.selects RX10 yX10_smallAt yX10_smallAt, Cond.methodLink RX8 58 yX2_add, Cond.instanceMethod yX2_add, Cond.selects RX2 yX2_add yX2_add, Cond.initialized RX2]
def pw_X8_bracket : List Cond := Cond.code yX8_bracket cX8_bracket 4 (some .int) :: (ow_X8_bracket ++ (pw_X10_find ++ (pw_X8_isElapsed ++ (pw_X8_readCondition ++ (pw_X8_bad ++ (pw_X10_smallAt ++ (pw_X2_add)))))))
set_option maxRecDepth 20000 in
theorem mo_X8_bracket : ∀ w ∈ ow_X8_bracket, w ∈ lw_tbl := by decide +kernel
set_option maxRecDepth 20000 in
theorem mc_X8_bracket : Cond.code yX8_bracket cX8_bracket 4 (some .int) ∈ lw_tbl := by decide +kernel
theorem m_X8_bracket : ∀ w ∈ pw_X8_bracket, w ∈ lw_tbl := List.forall_mem_cons.mpr ⟨mc_X8_bracket, (List.forall_mem_append.mpr ⟨mo_X8_bracket, (List.forall_mem_append.mpr ⟨m_X10_find, (List.forall_mem_append.mpr ⟨m_X8_isElapsed, (List.forall_mem_append.mpr ⟨m_X8_readCondition, (List.forall_mem_append.mpr ⟨m_X8_bad, (List.forall_mem_append.mpr ⟨m_X10_smallAt, m_X2_add⟩)⟩)⟩)⟩)⟩)⟩)⟩
theorem ko_X8_bracket : ∀ w ∈ ow_X8_bracket, goodWord w = true := by decide +kernel
theorem k_X8_bracket : pw_X8_bracket.all goodWord = true := List.all_eq_true.mpr (List.forall_mem_cons.mpr ⟨by decide +kernel, (List.forall_mem_append.mpr ⟨ko_X8_bracket, (List.forall_mem_append.mpr ⟨(List.all_eq_true.mp k_X10_find), (List.forall_mem_append.mpr ⟨(List.all_eq_true.mp k_X8_isElapsed), (List.forall_mem_append.mpr ⟨(List.all_eq_true.mp k_X8_readCondition), (List.forall_mem_append.mpr ⟨(List.all_eq_true.mp k_X8_bad), (List.forall_mem_append.mpr ⟨(List.all_eq_true.mp k_X10_smallAt), (List.all_eq_true.mp k_X2_add)⟩)⟩)⟩)⟩)⟩)⟩)⟩)
set_option maxHeartbeats 400000 in
set_option maxRecDepth 100000 in
theorem c_X8_bracket (l : Launch) (D : va_G) (cI cD cJ : ClassId) (sz : Nat) (x : Nat) (x_signs : Nat) (x_length : Int32) (x_signsF : Nat → Int32) (f : Nat) (f_kinds : Nat) (f_signs : Nat) (f_sizes : Nat) (f_places : Nat) (f_limits : Nat) (f_starts : Nat) (f_sorts : Nat) (f_count : Int32) (f_sections : Int32) (f_fifth : Int32) (f_kindsF : Nat → Int32) (f_signsF : Nat → Int32) (f_sizesF : Nat → Int32) (f_placesF : Nat → Int32) (f_limitsF : Nat → UInt64) (p1 : Int32) (ha1 : 0 ≤ p1.toInt) (ha2 : p1.toInt ≤ 300) (iv_x_length : 0 ≤ (x_length : Int32).toInt ∧ (x_length : Int32).toInt ≤ 255) (iv_x_signsF : ∀ k9 : Nat, k9 < 255 → 0 ≤ (x_signsF k9).toInt ∧ (x_signsF k9).toInt ≤ 255) (iv_f_count : 0 ≤ (f_count : Int32).toInt ∧ (f_count : Int32).toInt ≤ 255) (iv_f_sections : 0 ≤ (f_sections : Int32).toInt ∧ (f_sections : Int32).toInt ≤ 4) (iv_f_sizesF : ∀ k9 : Nat, k9 < 255 → (f_sizesF k9).toInt ≤ 100000) : MetD lw_cs l yX8_bracket pw_X8_bracket ({ frames := 4, cells := 0, slots := 0, locals := 98 }) (va_Pc [.ref x, .ref f, .int p1] (fun U => U.heap.size = sz ∧ va_P D vwCl [(x, .inr (7, [.ref x_signs, .int x_length])), (x_signs, .inl (cI, 255, .inl x_signsF)), (f, .inr (2, [.ref f_kinds, .ref f_signs, .ref f_sizes, .ref f_places, .ref f_limits, .ref f_starts, .ref f_sorts, .int f_count, .int f_sections, .int f_fifth])), (f_kinds, .inl (cI, 255, .inl f_kindsF)), (f_signs, .inl (cI, 255, .inl f_signsF)), (f_sizes, .inl (cI, 255, .inl f_sizesF)), (f_places, .inl (cI, 255, .inl f_placesF)), (f_limits, .inl (cD, 255, .inr (.inr (.inr (.inl f_limitsF)))))] U.heap ∧ va_K D vwCl (ty3 cI cD cJ) U ∧ va_D (fun _ => True) [(x, .inr (7, [.ref x_signs, .int x_length])), (x_signs, .inl (cI, 255, .inl x_signsF)), (f, .inr (2, [.ref f_kinds, .ref f_signs, .ref f_sizes, .ref f_places, .ref f_limits, .ref f_starts, .ref f_sorts, .int f_count, .int f_sections, .int f_fifth])), (f_kinds, .inl (cI, 255, .inl f_kindsF)), (f_signs, .inl (cI, 255, .inl f_signsF)), (f_sizes, .inl (cI, 255, .inl f_sizesF)), (f_places, .inl (cI, 255, .inl f_placesF)), (f_limits, .inl (cD, 255, .inr (.inr (.inr (.inl f_limitsF)))))])) (va_Qi (fun (r : Int32) (u : Int32 × (Nat → Int32) × (Nat → Int32) × (Nat → Int32) × (Nat → Int32) × (Nat → UInt64)) => match u with | (f_count2, f_kindsF2, f_signsF2, f_sizesF2, f_placesF2, f_limitsF2) => (0 ≤ r.toInt ∧ r.toInt ≤ 1000) ∧ (0 ≤ (f_count2 : Int32).toInt ∧ (f_count2 : Int32).toInt ≤ 255) ∧ (∀ k9 : Nat, k9 < 255 → (f_sizesF2 k9).toInt ≤ 100000)) (fun (u : Int32 × (Nat → Int32) × (Nat → Int32) × (Nat → Int32) × (Nat → Int32) × (Nat → UInt64)) (t : State) => match u with | (f_count2, f_kindsF2, f_signsF2, f_sizesF2, f_placesF2, f_limitsF2) => va_P D vwCl [(x, .inr (7, [.ref x_signs, .int x_length])), (x_signs, .inl (cI, 255, .inl x_signsF)), (f, .inr (2, [.ref f_kinds, .ref f_signs, .ref f_sizes, .ref f_places, .ref f_limits, .ref f_starts, .ref f_sorts, .int f_count2, .int f_sections, .int f_fifth])), (f_kinds, .inl (cI, 255, .inl f_kindsF2)), (f_signs, .inl (cI, 255, .inl f_signsF2)), (f_sizes, .inl (cI, 255, .inl f_sizesF2)), (f_places, .inl (cI, 255, .inl f_placesF2)), (f_limits, .inl (cD, 255, .inr (.inr (.inr (.inl f_limitsF2)))))] t.heap ∧ va_K D vwCl (ty3 cI cD cJ) t ∧ va_D (va_A [(x, .inr (7, [.ref x_signs, .int x_length])), (x_signs, .inl (cI, 255, .inl x_signsF)), (f, .inr (2, [.ref f_kinds, .ref f_signs, .ref f_sizes, .ref f_places, .ref f_limits, .ref f_starts, .ref f_sorts, .int f_count, .int f_sections, .int f_fifth])), (f_kinds, .inl (cI, 255, .inl f_kindsF)), (f_signs, .inl (cI, 255, .inl f_signsF)), (f_sizes, .inl (cI, 255, .inl f_sizesF)), (f_places, .inl (cI, 255, .inl f_placesF)), (f_limits, .inl (cD, 255, .inr (.inr (.inr (.inl f_limitsF)))))] sz) [(x, .inr (7, [.ref x_signs, .int x_length])), (x_signs, .inl (cI, 255, .inl x_signsF)), (f, .inr (2, [.ref f_kinds, .ref f_signs, .ref f_sizes, .ref f_places, .ref f_limits, .ref f_starts, .ref f_sorts, .int f_count2, .int f_sections, .int f_fifth])), (f_kinds, .inl (cI, 255, .inl f_kindsF2)), (f_signs, .inl (cI, 255, .inl f_signsF2)), (f_sizes, .inl (cI, 255, .inl f_sizesF2)), (f_places, .inl (cI, 255, .inl f_placesF2)), (f_limits, .inl (cD, 255, .inr (.inr (.inr (.inl f_limitsF2)))))]) (va_A [(x, .inr (7, [.ref x_signs, .int x_length])), (x_signs, .inl (cI, 255, .inl x_signsF)), (f, .inr (2, [.ref f_kinds, .ref f_signs, .ref f_sizes, .ref f_places, .ref f_limits, .ref f_starts, .ref f_sorts, .int f_count, .int f_sections, .int f_fifth])), (f_kinds, .inl (cI, 255, .inl f_kindsF)), (f_signs, .inl (cI, 255, .inl f_signsF)), (f_sizes, .inl (cI, 255, .inl f_sizesF)), (f_places, .inl (cI, 255, .inl f_placesF)), (f_limits, .inl (cD, 255, .inr (.inr (.inr (.inl f_limitsF)))))] sz)) 0 0 (va_A [(x, .inr (7, [.ref x_signs, .int x_length])), (x_signs, .inl (cI, 255, .inl x_signsF)), (f, .inr (2, [.ref f_kinds, .ref f_signs, .ref f_sizes, .ref f_places, .ref f_limits, .ref f_starts, .ref f_sorts, .int f_count, .int f_sections, .int f_fifth])), (f_kinds, .inl (cI, 255, .inl f_kindsF)), (f_signs, .inl (cI, 255, .inl f_signsF)), (f_sizes, .inl (cI, 255, .inl f_sizesF)), (f_places, .inl (cI, 255, .inl f_placesF)), (f_limits, .inl (cD, 255, .inr (.inr (.inr (.inl f_limitsF)))))] sz) := by
  refine MetD.ofW (cc := cX8_bracket) (maxL := 4) (ret := (some .int)) (by decide +kernel) rfl ?_
  intro p e s m args below meth c s₁ B hml hv hd0
  obtain ⟨rfl, hsz, hP, hK, hD0⟩ := hv
  have hx := B.exec
  have hb := B.bytes
  have hr := B.returns
  have hts := atoms_spec (ws := pw_X8_bracket) B.pre
  have hown : s.vm.findClass RX8 = some m.cls := findClass_of_methodNamed B.named
  have hlocks := B.notSynchronized
  subst hsz
  have hD := hD0.self (sz := s.heap.size)
  generalize hAe : va_A [(x, .inr (7, [.ref x_signs, .int x_length])), (x_signs, .inl (cI, 255, .inl x_signsF)), (f, .inr (2, [.ref f_kinds, .ref f_signs, .ref f_sizes, .ref f_places, .ref f_limits, .ref f_starts, .ref f_sorts, .int f_count, .int f_sections, .int f_fifth])), (f_kinds, .inl (cI, 255, .inl f_kindsF)), (f_signs, .inl (cI, 255, .inl f_signsF)), (f_sizes, .inl (cI, 255, .inl f_sizesF)), (f_places, .inl (cI, 255, .inl f_placesF)), (f_limits, .inl (cD, 255, .inr (.inr (.inr (.inl f_limitsF)))))] s.heap.size = A at hD ⊢
  have hA : ∀ q : Nat, s.heap.size ≤ q → A q := fun q h => by rw [← hAe]; exact Or.inr h
  have hS : va_S A s.heap s.heap [] := va_S.rf
  have hw : ∀ {d9 : Drawn} (k : Nat) (w : Cond), ow_X8_bracket[k]? = some w → w.before _ (s.setDrawn d9) = true := fun k w h => dr_words hts _ w (List.mem_cons_of_mem _ (have h9 := List.mem_of_getElem? h; List.mem_append_left _ h9))
  have i_X10_find : ∀ w ∈ pw_X10_find, w ∈ pw_X8_bracket := fun w h9 => List.mem_cons_of_mem _ (List.mem_append_right _ (List.mem_append_left _ h9))
  have i_X8_isElapsed : ∀ w ∈ pw_X8_isElapsed, w ∈ pw_X8_bracket := fun w h9 => List.mem_cons_of_mem _ (List.mem_append_right _ (List.mem_append_right _ (List.mem_append_left _ h9)))
  have i_X8_readCondition : ∀ w ∈ pw_X8_readCondition, w ∈ pw_X8_bracket := fun w h9 => List.mem_cons_of_mem _ (List.mem_append_right _ (List.mem_append_right _ (List.mem_append_right _ (List.mem_append_left _ h9))))
  have i_X8_bad : ∀ w ∈ pw_X8_bad, w ∈ pw_X8_bracket := fun w h9 => List.mem_cons_of_mem _ (List.mem_append_right _ (List.mem_append_right _ (List.mem_append_right _ (List.mem_append_right _ (List.mem_append_left _ h9)))))
  have i_X10_smallAt : ∀ w ∈ pw_X10_smallAt, w ∈ pw_X8_bracket := fun w h9 => List.mem_cons_of_mem _ (List.mem_append_right _ (List.mem_append_right _ (List.mem_append_right _ (List.mem_append_right _ (List.mem_append_right _ (List.mem_append_left _ h9))))))
  have i_X2_add : ∀ w ∈ pw_X2_add, w ∈ pw_X8_bracket := fun w h9 => List.mem_cons_of_mem _ (List.mem_append_right _ (List.mem_append_right _ (List.mem_append_right _ (List.mem_append_right _ (List.mem_append_right _ (List.mem_append_right _ (h9)))))))
  have n_m1 : (((-1) : Int32)).toInt = (-1) := by decide
  have n_0 : ((0 : Int32)).toInt = 0 := by decide
  have n_1 : ((1 : Int32)).toInt = 1 := by decide
  have n_3 : ((3 : Int32)).toInt = 3 := by decide
  have n_93 : ((93 : Int32)).toInt = 93 := by decide
  have hl := lv_entry ([.ref x, .ref f, .int p1]) (n := 4) (Nat.le_of_ble_eq_true rfl)
  rw [lg_entry_eq]
  generalize (lg_sl ([.ref x, .ref f, .int p1]) ++ List.replicate (4 - (lg_sl ([.ref x, .ref f, .int p1])).length) Slot.unset).toArray = ls at hl ⊢
  have hl : lv_has ls 4 [(0, .ref x), (1, .ref f), (2, .int p1)] := hl
  have b_p1 := ti_b p1
  refine lv_aload_n hx hb dX8_bracket_0 rfl (lv_at hl 0 rfl) ?_
  refine lv_bipush (v := 93) hx hb dX8_bracket_1 (by decide) ?_
  refine lv_iload_n hx hb dX8_bracket_3 rfl (lv_at hl 2 rfl) ?_
  refine lv_iconst (v := 1) hx hb dX8_bracket_4 (by decide) ?_
  refine lv_iadd hx hb dX8_bracket_5 ?_
  refine lv_topi (fun x_1 ex_1 => ?_)
  have b_p1 := ti_b p1
  have tx_1 := ti_add ex_1
  have hPc := hP.sub (ws' := [(x, .inr (7, [.ref x_signs, .int x_length])), (x_signs, .inl (cI, 255, .inl x_signsF))]) [0, 1] rfl
  refine va_calli (va_runV (As := [.int 93, .int x_1]) (rest := []) ⟨hx, hb, hml, hown, (dr_words hts _)⟩ (c_X10_find l D cI cD cJ s.heap.size x x_signs x_length x_signsF 93 x_1 (by omega) (by assumption)) (cwV 2 (dr_words hts _) (goodIn_app (goodIn_r _ [1, 2, 3, 4] rfl (by decide +kernel)) (goodIn_sub i_X10_find k_X10_find)) rfl rfl rfl (by decide +kernel) ⟨Nat.le_of_ble_eq_true rfl, Nat.le_of_ble_eq_true rfl⟩) ⟨fun a U g mk q => by obtain ⟨q0, qP, qK⟩ := q; exact ⟨q0, qP, va_K.moved (u := U) (U := U.calling g mk a) (Vm.Alike.refl U.vm) qK⟩, va_recv hK hPc (ci := 7) (q0 := 0) rfl rfl, fun U hU hW => ⟨rfl, by rw [hU]; exact hPc, va_K.moved hW.alike hK⟩⟩ rfl rfl hl.1 rfl (lv_room (Nat.le_of_ble_eq_true rfl)) dX8_bracket_6 ⟨Nat.le_of_ble_eq_true rfl, Nat.le_of_ble_eq_true rfl⟩) hS (fun q _ h => h.elim) (fun q h => h.elim) (fun x_2 u t H1 locs ht hvm w_3 hB hz1 hk1 hS => ?_)
  have hP : va_P D vwCl [(x, .inr (7, [.ref x_signs, .int x_length])), (x_signs, .inl (cI, 255, .inl x_signsF)), (f, .inr (2, [.ref f_kinds, .ref f_signs, .ref f_sizes, .ref f_places, .ref f_limits, .ref f_starts, .ref f_sorts, .int f_count, .int f_sections, .int f_fifth])), (f_kinds, .inl (cI, 255, .inl f_kindsF)), (f_signs, .inl (cI, 255, .inl f_signsF)), (f_sizes, .inl (cI, 255, .inl f_sizesF)), (f_places, .inl (cI, 255, .inl f_placesF)), (f_limits, .inl (cD, 255, .inr (.inr (.inr (.inl f_limitsF)))))] H1 := hP.kept (fun k9 q9 h9 => hk1 q9.1 (vx_lt hP h9) (fun h => h))
  generalize H1 = H at hP hS ⊢
  try dsimp only at w_3
  refine lv_istore_n (lv' := [(3, .int x_2), (0, .ref x), (1, .ref f), (2, .int p1)]) hx hb dX8_bracket_9 rfl hl (by decide) rfl (fun ls hl => ?_)
  refine lv_iload_n hx hb dX8_bracket_10 rfl (lv_at hl 0 rfl) ?_
  refine lv_iconst (v := (-1)) hx hb dX8_bracket_11 (by decide) ?_
  refine lv_icmp_ne (tgt := 25) hx hb dX8_bracket_12 (by decide) (fun c_4 => ?_) (fun c_4 => ?_)
  · have ic_4 : ¬ ((x_2 : Int32).toInt = ((-1) : Int32).toInt) := fun h9 => c_4 ((fa_eq x_2 (-1)).mpr h9)
    refine lv_aload_n hx hb dX8_bracket_25 rfl (lv_at hl 1 rfl) ?_
    refine lv_iload_n hx hb dX8_bracket_26 rfl (lv_at hl 3 rfl) ?_
    refine lv_iconst (v := 1) hx hb dX8_bracket_27 (by decide) ?_
    refine lv_iadd hx hb dX8_bracket_28 ?_
    refine lv_topi (fun x_5 ex_5 => ?_)
    have b_p1 := ti_b p1
    have tx_5 := ti_add ex_5
    refine lv_iload_n hx hb dX8_bracket_29 rfl (lv_at hl 0 rfl) ?_
    have hPc := hP.sub (ws' := [(x, .inr (7, [.ref x_signs, .int x_length])), (x_signs, .inl (cI, 255, .inl x_signsF))]) [0, 1] rfl
    refine va_calli (va_runS (As := [.ref x, .int x_5, .int x_2]) (rest := []) ⟨hx, hb, hml, hown, (dr_words hts _)⟩ (c_X8_isElapsed l D cI cD cJ H.size x x_signs x_length x_signsF x_5 x_2 (by omega) (by assumption)) (va_cwS 3 (dr_words hts _) (goodIn_app (goodIn_r _ [5, 6, 7] rfl (by decide +kernel)) (goodIn_sub i_X8_isElapsed k_X8_isElapsed)) rfl rfl rfl (by decide +kernel) ⟨Nat.le_of_ble_eq_true rfl, Nat.le_of_ble_eq_true rfl⟩) ⟨fun a U g mk q => by obtain ⟨q0, qP, qK⟩ := q; exact ⟨q0, qP, va_K.moved (u := U) (U := U.calling g mk a) (Vm.Alike.refl U.vm) qK⟩, fun U hU hW => ⟨rfl, by rw [hU]; exact hPc, va_K.moved hW.alike hK⟩⟩ rfl rfl hl.1 rfl (lv_room (Nat.le_of_ble_eq_true rfl)) dX8_bracket_30 ⟨Nat.le_of_ble_eq_true rfl, Nat.le_of_ble_eq_true rfl⟩) hS (fun q _ h => h.elim) (fun q h => h.elim) (fun x_6 u t H1 locs ht hvm w_7 hB hz1 hk1 hS => ?_)
    have hP : va_P D vwCl [(x, .inr (7, [.ref x_signs, .int x_length])), (x_signs, .inl (cI, 255, .inl x_signsF)), (f, .inr (2, [.ref f_kinds, .ref f_signs, .ref f_sizes, .ref f_places, .ref f_limits, .ref f_starts, .ref f_sorts, .int f_count, .int f_sections, .int f_fifth])), (f_kinds, .inl (cI, 255, .inl f_kindsF)), (f_signs, .inl (cI, 255, .inl f_signsF)), (f_sizes, .inl (cI, 255, .inl f_sizesF)), (f_places, .inl (cI, 255, .inl f_placesF)), (f_limits, .inl (cD, 255, .inr (.inr (.inr (.inl f_limitsF)))))] H1 := hP.kept (fun k9 q9 h9 => hk1 q9.1 (vx_lt hP h9) (fun h => h))
    generalize H1 = H at hP hS ⊢
    try dsimp only at w_7
    have b_x_6 := ti_b x_6
    refine lv_if_eq (tgt := 57) hx hb dX8_bracket_33 (by decide) (fun c_8 => ?_) (fun c_8 => ?_)
    · have ic_8 : (x_6 : Int32).toInt = (0 : Int32).toInt := (fa_eq x_6 0).mp c_8
      refine lv_aload_n hx hb dX8_bracket_57 rfl (lv_at hl 1 rfl) ?_
      refine lv_aload_n hx hb dX8_bracket_58 rfl (lv_at hl 2 rfl) ?_
      refine lv_iload_n hx hb dX8_bracket_59 rfl (lv_at hl 3 rfl) ?_
      refine lv_iload_n hx hb dX8_bracket_60 rfl (lv_at hl 0 rfl) ?_
      have hPc := hP.sub (ws' := [(x, .inr (7, [.ref x_signs, .int x_length])), (x_signs, .inl (cI, 255, .inl x_signsF)), (f, .inr (2, [.ref f_kinds, .ref f_signs, .ref f_sizes, .ref f_places, .ref f_limits, .ref f_starts, .ref f_sorts, .int f_count, .int f_sections, .int f_fifth])), (f_kinds, .inl (cI, 255, .inl f_kindsF)), (f_signs, .inl (cI, 255, .inl f_signsF)), (f_sizes, .inl (cI, 255, .inl f_sizesF)), (f_places, .inl (cI, 255, .inl f_placesF)), (f_limits, .inl (cD, 255, .inr (.inr (.inr (.inl f_limitsF)))))]) [0, 1, 2, 3, 4, 5, 6, 7] rfl
      have hDc := hD.sub (ws' := [(x, .inr (7, [.ref x_signs, .int x_length])), (x_signs, .inl (cI, 255, .inl x_signsF)), (f, .inr (2, [.ref f_kinds, .ref f_signs, .ref f_sizes, .ref f_places, .ref f_limits, .ref f_starts, .ref f_sorts, .int f_count, .int f_sections, .int f_fifth])), (f_kinds, .inl (cI, 255, .inl f_kindsF)), (f_signs, .inl (cI, 255, .inl f_signsF)), (f_sizes, .inl (cI, 255, .inl f_sizesF)), (f_places, .inl (cI, 255, .inl f_placesF)), (f_limits, .inl (cD, 255, .inr (.inr (.inr (.inl f_limitsF)))))]) [0, 1, 2, 3, 4, 5, 6, 7] (by decide) rfl
      have hFc := va_free (wc := [(x, .inr (7, [.ref x_signs, .int x_length])), (x_signs, .inl (cI, 255, .inl x_signsF)), (f, .inr (2, [.ref f_kinds, .ref f_signs, .ref f_sizes, .ref f_places, .ref f_limits, .ref f_starts, .ref f_sorts, .int f_count, .int f_sections, .int f_fifth])), (f_kinds, .inl (cI, 255, .inl f_kindsF)), (f_signs, .inl (cI, 255, .inl f_signsF)), (f_sizes, .inl (cI, 255, .inl f_sizesF)), (f_places, .inl (cI, 255, .inl f_placesF)), (f_limits, .inl (cD, 255, .inr (.inr (.inr (.inl f_limitsF)))))]) hD hS hA [0, 1, 2, 3, 4, 5, 6, 7] rfl
      refine va_calliD hd0 (va_runS_D (As := [.ref x, .ref f, .int p1, .int x_2]) (rest := []) ⟨hx, hb, hml, hown, (dr_words hts _)⟩ (c_X8_readCondition l D cI cD cJ H.size x x_signs x_length x_signsF f f_kinds f_signs f_sizes f_places f_limits f_starts f_sorts f_count f_sections f_fifth f_kindsF f_signsF f_sizesF f_placesF f_limitsF p1 x_2 (by omega) (by omega) (by omega) (by assumption) (by omega) (by omega) (by assumption)) (va_cwS 4 (dr_words hts _) (goodIn_app (goodIn_r _ [8, 9, 7] rfl (by decide +kernel)) (goodIn_sub i_X8_readCondition k_X8_readCondition)) rfl rfl rfl (by decide +kernel) ⟨Nat.le_of_ble_eq_true rfl, Nat.le_of_ble_eq_true rfl⟩) ⟨fun a U g mk q => by obtain ⟨q0, q1, qP, qK, qD⟩ := q; exact ⟨q0, q1, qP, va_K.moved (u := U) (U := U.calling g mk a) (Vm.Alike.refl U.vm) qK, qD⟩, fun U hU hW => ⟨rfl, by rw [hU], by rw [hU]; exact hPc, va_K.moved hW.alike hK, hDc.weaken (fun _ _ _ _ => trivial)⟩⟩ rfl rfl hl.1 rfl (lv_room (Nat.le_of_ble_eq_true rfl)) dX8_bracket_61 ⟨Nat.le_of_ble_eq_true rfl, Nat.le_of_ble_eq_true rfl⟩) hS (fun q _ h => hFc q h) hFc (fun x_9 u t H1 locs ht hvm w_10 hB hz1 hk1 hS dhd_11 hd_11 => ?_)
      obtain ⟨u_12, u_13, u_14, u_15, u_16, u_17⟩ := u
      obtain ⟨hP1, hK1, hD1⟩ := hB
      rw [ht] at hP1
      try dsimp only at w_10
      obtain ⟨hP, hD⟩ := va_join (wr := []) (w1 := [(x, .inr (7, [.ref x_signs, .int x_length])), (x_signs, .inl (cI, 255, .inl x_signsF)), (f, .inr (2, [.ref f_kinds, .ref f_signs, .ref f_sizes, .ref f_places, .ref f_limits, .ref f_starts, .ref f_sorts, .int u_12, .int f_sections, .int f_fifth])), (f_kinds, .inl (cI, 255, .inl u_13)), (f_signs, .inl (cI, 255, .inl u_14)), (f_sizes, .inl (cI, 255, .inl u_15)), (f_places, .inl (cI, 255, .inl u_16)), (f_limits, .inl (cD, 255, .inr (.inr (.inr (.inl u_17)))))]) hP hD [0, 1, 2, 3, 4, 5, 6, 7] [] rfl rfl (by decide) (by decide) hk1 hFc hP1 hD1
      generalize H1 = H at hP hS ⊢
      have hP : va_P D vwCl [(x, .inr (7, [.ref x_signs, .int x_length])), (x_signs, .inl (cI, 255, .inl x_signsF)), (f, .inr (2, [.ref f_kinds, .ref f_signs, .ref f_sizes, .ref f_places, .ref f_limits, .ref f_starts, .ref f_sorts, .int u_12, .int f_sections, .int f_fifth])), (f_kinds, .inl (cI, 255, .inl u_13)), (f_signs, .inl (cI, 255, .inl u_14)), (f_sizes, .inl (cI, 255, .inl u_15)), (f_places, .inl (cI, 255, .inl u_16)), (f_limits, .inl (cD, 255, .inr (.inr (.inr (.inl u_17)))))] H := hP
      have hD : va_D A [(x, .inr (7, [.ref x_signs, .int x_length])), (x_signs, .inl (cI, 255, .inl x_signsF)), (f, .inr (2, [.ref f_kinds, .ref f_signs, .ref f_sizes, .ref f_places, .ref f_limits, .ref f_starts, .ref f_sorts, .int u_12, .int f_sections, .int f_fifth])), (f_kinds, .inl (cI, 255, .inl u_13)), (f_signs, .inl (cI, 255, .inl u_14)), (f_sizes, .inl (cI, 255, .inl u_15)), (f_places, .inl (cI, 255, .inl u_16)), (f_limits, .inl (cD, 255, .inr (.inr (.inr (.inl u_17)))))] := hD
      obtain ⟨w_10_0, w_10_1, w_10_2⟩ := w_10
      have b_x_9 := ti_b x_9
      refine lv_if_ne (tgt := 77) hx hb dX8_bracket_64 (by decide) (fun c_18 => ?_) (fun c_18 => ?_)
      · have ic_18 : ¬ ((x_9 : Int32).toInt = (0 : Int32).toInt) := fun h9 => c_18 ((fa_eq x_9 0).mpr h9)
        refine lv_iload_n hx hb dX8_bracket_77 rfl (lv_at hl 0 rfl) ?_
        refine lv_iconst (v := 1) hx hb dX8_bracket_78 (by decide) ?_
        refine lv_iadd hx hb dX8_bracket_79 ?_
        refine lv_topi (fun x_19 ex_19 => ?_)
        have b_x_2 := ti_b x_2
        have tx_19 := ti_add ex_19
        refine W.endD hd_11 ?_
        have hP9 := hP.sub (ws' := [(x, .inr (7, [.ref x_signs, .int x_length])), (x_signs, .inl (cI, 255, .inl x_signsF)), (f, .inr (2, [.ref f_kinds, .ref f_signs, .ref f_sizes, .ref f_places, .ref f_limits, .ref f_starts, .ref f_sorts, .int u_12, .int f_sections, .int f_fifth])), (f_kinds, .inl (cI, 255, .inl u_13)), (f_signs, .inl (cI, 255, .inl u_14)), (f_sizes, .inl (cI, 255, .inl u_15)), (f_places, .inl (cI, 255, .inl u_16)), (f_limits, .inl (cD, 255, .inr (.inr (.inr (.inl u_17)))))]) [0, 1, 2, 3, 4, 5, 6, 7] rfl
        have hD9 := hD.sub (ws' := [(x, .inr (7, [.ref x_signs, .int x_length])), (x_signs, .inl (cI, 255, .inl x_signsF)), (f, .inr (2, [.ref f_kinds, .ref f_signs, .ref f_sizes, .ref f_places, .ref f_limits, .ref f_starts, .ref f_sorts, .int u_12, .int f_sections, .int f_fifth])), (f_kinds, .inl (cI, 255, .inl u_13)), (f_signs, .inl (cI, 255, .inl u_14)), (f_sizes, .inl (cI, 255, .inl u_15)), (f_places, .inl (cI, 255, .inl u_16)), (f_limits, .inl (cD, 255, .inr (.inr (.inr (.inl u_17)))))]) [0, 1, 2, 3, 4, 5, 6, 7] (by decide) rfl
        exact W.iret (v := x_19) hx hb hr (fun t ht hW => ⟨⟨x_19, (u_12, u_13, u_14, u_15, u_16, u_17), rfl, (by (try dsimp only); refine ⟨?_, ?_, ?_⟩ <;> first | omega | assumption), by rw [ht]; exact hP9, va_K.moved hW.alike hK, hD9⟩, hS.F ht⟩) hS.2.2 dX8_bracket_80
      · have ic_18 : (x_9 : Int32).toInt = (0 : Int32).toInt := (fa_eq x_9 0).mp c_18
        refine lv_aload_n hx hb dX8_bracket_67 rfl (lv_at hl 1 rfl) ?_
        refine lv_aload_n hx hb dX8_bracket_68 rfl (lv_at hl 2 rfl) ?_
        refine lv_iload_n hx hb dX8_bracket_69 rfl (lv_at hl 3 rfl) ?_
        refine lv_iload_n hx hb dX8_bracket_70 rfl (lv_at hl 0 rfl) ?_
        refine lv_iconst (v := 1) hx hb dX8_bracket_71 (by decide) ?_
        refine lv_iadd hx hb dX8_bracket_72 ?_
        refine lv_topi (fun x_20 ex_20 => ?_)
        have b_x_2 := ti_b x_2
        have tx_20 := ti_add ex_20
        have hPc := hP.sub (ws' := [(x, .inr (7, [.ref x_signs, .int x_length])), (x_signs, .inl (cI, 255, .inl x_signsF)), (f, .inr (2, [.ref f_kinds, .ref f_signs, .ref f_sizes, .ref f_places, .ref f_limits, .ref f_starts, .ref f_sorts, .int u_12, .int f_sections, .int f_fifth])), (f_kinds, .inl (cI, 255, .inl u_13)), (f_signs, .inl (cI, 255, .inl u_14)), (f_sizes, .inl (cI, 255, .inl u_15)), (f_places, .inl (cI, 255, .inl u_16)), (f_limits, .inl (cD, 255, .inr (.inr (.inr (.inl u_17)))))]) [0, 1, 2, 3, 4, 5, 6, 7] rfl
        have hDc := hD.sub (ws' := [(x, .inr (7, [.ref x_signs, .int x_length])), (x_signs, .inl (cI, 255, .inl x_signsF)), (f, .inr (2, [.ref f_kinds, .ref f_signs, .ref f_sizes, .ref f_places, .ref f_limits, .ref f_starts, .ref f_sorts, .int u_12, .int f_sections, .int f_fifth])), (f_kinds, .inl (cI, 255, .inl u_13)), (f_signs, .inl (cI, 255, .inl u_14)), (f_sizes, .inl (cI, 255, .inl u_15)), (f_places, .inl (cI, 255, .inl u_16)), (f_limits, .inl (cD, 255, .inr (.inr (.inr (.inl u_17)))))]) [0, 1, 2, 3, 4, 5, 6, 7] (by decide) rfl
        have hFc := va_free (wc := [(x, .inr (7, [.ref x_signs, .int x_length])), (x_signs, .inl (cI, 255, .inl x_signsF)), (f, .inr (2, [.ref f_kinds, .ref f_signs, .ref f_sizes, .ref f_places, .ref f_limits, .ref f_starts, .ref f_sorts, .int u_12, .int f_sections, .int f_fifth])), (f_kinds, .inl (cI, 255, .inl u_13)), (f_signs, .inl (cI, 255, .inl u_14)), (f_sizes, .inl (cI, 255, .inl u_15)), (f_places, .inl (cI, 255, .inl u_16)), (f_limits, .inl (cD, 255, .inr (.inr (.inr (.inl u_17)))))]) hD hS hA [0, 1, 2, 3, 4, 5, 6, 7] rfl
        refine va_calli (va_runS (As := [.ref x, .ref f, .int p1, .int x_20]) (rest := []) ⟨hx, hb, hml, hown, (dr_words hts _)⟩ (c_X8_bad l D cI cD cJ H.size x x_signs x_length x_signsF f f_kinds f_signs f_sizes f_places f_limits f_starts f_sorts u_12 f_sections f_fifth u_13 u_14 u_15 u_16 u_17 p1 x_20 (by omega) (by assumption) (by omega) (by omega) (by assumption)) (va_cwS 4 (dr_words hts _) (goodIn_app (goodIn_r _ [10, 11, 7] rfl (by decide +kernel)) (goodIn_sub i_X8_bad k_X8_bad)) rfl rfl rfl (by decide +kernel) ⟨Nat.le_of_ble_eq_true rfl, Nat.le_of_ble_eq_true rfl⟩) ⟨fun a U g mk q => by obtain ⟨q0, q1, qP, qK, qD⟩ := q; exact ⟨q0, q1, qP, va_K.moved (u := U) (U := U.calling g mk a) (Vm.Alike.refl U.vm) qK, qD⟩, fun U hU hW => ⟨rfl, by rw [hU], by rw [hU]; exact hPc, va_K.moved hW.alike hK, hDc.weaken (fun _ _ _ _ => trivial)⟩⟩ rfl rfl hl.1 rfl (lv_room (Nat.le_of_ble_eq_true rfl)) dX8_bracket_73 ⟨Nat.le_of_ble_eq_true rfl, Nat.le_of_ble_eq_true rfl⟩) hS (fun q _ h => hFc q h) hFc (fun x_21 u t H1 locs ht hvm w_22 hB hz1 hk1 hS => ?_)
        obtain ⟨u_23, u_24, u_25, u_26, u_27, u_28⟩ := u
        obtain ⟨hP1, hK1, hD1⟩ := hB
        rw [ht] at hP1
        try dsimp only at w_22
        obtain ⟨hP, hD⟩ := va_join (wr := []) (w1 := [(x, .inr (7, [.ref x_signs, .int x_length])), (x_signs, .inl (cI, 255, .inl x_signsF)), (f, .inr (2, [.ref f_kinds, .ref f_signs, .ref f_sizes, .ref f_places, .ref f_limits, .ref f_starts, .ref f_sorts, .int u_23, .int f_sections, .int f_fifth])), (f_kinds, .inl (cI, 255, .inl u_24)), (f_signs, .inl (cI, 255, .inl u_25)), (f_sizes, .inl (cI, 255, .inl u_26)), (f_places, .inl (cI, 255, .inl u_27)), (f_limits, .inl (cD, 255, .inr (.inr (.inr (.inl u_28)))))]) hP hD [0, 1, 2, 3, 4, 5, 6, 7] [] rfl rfl (by decide) (by decide) hk1 hFc hP1 hD1
        generalize H1 = H at hP hS ⊢
        have hP : va_P D vwCl [(x, .inr (7, [.ref x_signs, .int x_length])), (x_signs, .inl (cI, 255, .inl x_signsF)), (f, .inr (2, [.ref f_kinds, .ref f_signs, .ref f_sizes, .ref f_places, .ref f_limits, .ref f_starts, .ref f_sorts, .int u_23, .int f_sections, .int f_fifth])), (f_kinds, .inl (cI, 255, .inl u_24)), (f_signs, .inl (cI, 255, .inl u_25)), (f_sizes, .inl (cI, 255, .inl u_26)), (f_places, .inl (cI, 255, .inl u_27)), (f_limits, .inl (cD, 255, .inr (.inr (.inr (.inl u_28)))))] H := hP
        have hD : va_D A [(x, .inr (7, [.ref x_signs, .int x_length])), (x_signs, .inl (cI, 255, .inl x_signsF)), (f, .inr (2, [.ref f_kinds, .ref f_signs, .ref f_sizes, .ref f_places, .ref f_limits, .ref f_starts, .ref f_sorts, .int u_23, .int f_sections, .int f_fifth])), (f_kinds, .inl (cI, 255, .inl u_24)), (f_signs, .inl (cI, 255, .inl u_25)), (f_sizes, .inl (cI, 255, .inl u_26)), (f_places, .inl (cI, 255, .inl u_27)), (f_limits, .inl (cD, 255, .inr (.inr (.inr (.inl u_28)))))] := hD
        obtain ⟨w_22_0, w_22_1, w_22_2⟩ := w_22
        have b_x_21 := ti_b x_21
        refine W.endD hd_11 ?_
        have hP9 := hP.sub (ws' := [(x, .inr (7, [.ref x_signs, .int x_length])), (x_signs, .inl (cI, 255, .inl x_signsF)), (f, .inr (2, [.ref f_kinds, .ref f_signs, .ref f_sizes, .ref f_places, .ref f_limits, .ref f_starts, .ref f_sorts, .int u_23, .int f_sections, .int f_fifth])), (f_kinds, .inl (cI, 255, .inl u_24)), (f_signs, .inl (cI, 255, .inl u_25)), (f_sizes, .inl (cI, 255, .inl u_26)), (f_places, .inl (cI, 255, .inl u_27)), (f_limits, .inl (cD, 255, .inr (.inr (.inr (.inl u_28)))))]) [0, 1, 2, 3, 4, 5, 6, 7] rfl
        have hD9 := hD.sub (ws' := [(x, .inr (7, [.ref x_signs, .int x_length])), (x_signs, .inl (cI, 255, .inl x_signsF)), (f, .inr (2, [.ref f_kinds, .ref f_signs, .ref f_sizes, .ref f_places, .ref f_limits, .ref f_starts, .ref f_sorts, .int u_23, .int f_sections, .int f_fifth])), (f_kinds, .inl (cI, 255, .inl u_24)), (f_signs, .inl (cI, 255, .inl u_25)), (f_sizes, .inl (cI, 255, .inl u_26)), (f_places, .inl (cI, 255, .inl u_27)), (f_limits, .inl (cD, 255, .inr (.inr (.inr (.inl u_28)))))]) [0, 1, 2, 3, 4, 5, 6, 7] (by decide) rfl
        exact W.iret (v := x_21) hx hb hr (fun t ht hW => ⟨⟨x_21, (u_23, u_24, u_25, u_26, u_27, u_28), rfl, (by (try dsimp only); refine ⟨?_, ?_, ?_⟩ <;> first | omega | assumption), by rw [ht]; exact hP9, va_K.moved hW.alike hK, hD9⟩, hS.F ht⟩) hS.2.2 dX8_bracket_76
    · have ic_8 : ¬ ((x_6 : Int32).toInt = (0 : Int32).toInt) := fun h9 => c_8 ((fa_eq x_6 0).mpr h9)
      refine lv_aload_n hx hb dX8_bracket_36 rfl (lv_at hl 2 rfl) ?_
      refine lv_iconst (v := 3) hx hb dX8_bracket_37 (by decide) ?_
      refine lv_aload_n hx hb dX8_bracket_38 rfl (lv_at hl 1 rfl) ?_
      refine lv_iload_n hx hb dX8_bracket_39 rfl (lv_at hl 3 rfl) ?_
      refine lv_iconst (v := 1) hx hb dX8_bracket_40 (by decide) ?_
      refine lv_iadd hx hb dX8_bracket_41 ?_
      refine lv_topi (fun x_29 ex_29 => ?_)
      have b_p1 := ti_b p1
      have tx_29 := ti_add ex_29
      have hPc := hP.sub (ws' := [(x, .inr (7, [.ref x_signs, .int x_length])), (x_signs, .inl (cI, 255, .inl x_signsF))]) [0, 1] rfl
      refine va_calli (va_runV (As := [.int x_29]) (rest := [.int 3, .ref f]) ⟨hx, hb, hml, hown, (dr_words hts _)⟩ (c_X10_smallAt l D cI cD cJ H.size x x_signs x_length x_signsF x_29 (by omega) (by assumption)) (cwV 1 (dr_words hts _) (goodIn_app (goodIn_r _ [12, 13, 14, 4] rfl (by decide +kernel)) (goodIn_sub i_X10_smallAt k_X10_smallAt)) rfl rfl rfl (by decide +kernel) ⟨Nat.le_of_ble_eq_true rfl, Nat.le_of_ble_eq_true rfl⟩) ⟨fun a U g mk q => by obtain ⟨q0, qP, qK⟩ := q; exact ⟨q0, qP, va_K.moved (u := U) (U := U.calling g mk a) (Vm.Alike.refl U.vm) qK⟩, va_recv hK hPc (ci := 7) (q0 := 0) rfl rfl, fun U hU hW => ⟨rfl, by rw [hU]; exact hPc, va_K.moved hW.alike hK⟩⟩ rfl rfl hl.1 rfl (lv_room (Nat.le_of_ble_eq_true rfl)) dX8_bracket_42 ⟨Nat.le_of_ble_eq_true rfl, Nat.le_of_ble_eq_true rfl⟩) hS (fun q _ h => h.elim) (fun q h => h.elim) (fun x_30 u t H1 locs ht hvm w_31 hB hz1 hk1 hS => ?_)
      have hP : va_P D vwCl [(x, .inr (7, [.ref x_signs, .int x_length])), (x_signs, .inl (cI, 255, .inl x_signsF)), (f, .inr (2, [.ref f_kinds, .ref f_signs, .ref f_sizes, .ref f_places, .ref f_limits, .ref f_starts, .ref f_sorts, .int f_count, .int f_sections, .int f_fifth])), (f_kinds, .inl (cI, 255, .inl f_kindsF)), (f_signs, .inl (cI, 255, .inl f_signsF)), (f_sizes, .inl (cI, 255, .inl f_sizesF)), (f_places, .inl (cI, 255, .inl f_placesF)), (f_limits, .inl (cD, 255, .inr (.inr (.inr (.inl f_limitsF)))))] H1 := hP.kept (fun k9 q9 h9 => hk1 q9.1 (vx_lt hP h9) (fun h => h))
      generalize H1 = H at hP hS ⊢
      try dsimp only at w_31
      refine lv_iload_n hx hb dX8_bracket_45 rfl (lv_at hl 0 rfl) ?_
      refine lv_iload_n hx hb dX8_bracket_46 rfl (lv_at hl 3 rfl) ?_
      refine lv_isub hx hb dX8_bracket_47 ?_
      refine lv_topi (fun x_32 ex_32 => ?_)
      have b_x_2 := ti_b x_2
      have b_p1 := ti_b p1
      have tx_32 := ti_sub ex_32
      refine lv_iconst (v := 1) hx hb dX8_bracket_48 (by decide) ?_
      refine lv_isub hx hb dX8_bracket_49 ?_
      refine lv_topi (fun x_33 ex_33 => ?_)
      have tx_33 := ti_sub ex_33
      refine lv_iload_n hx hb dX8_bracket_50 rfl (lv_at hl 3 rfl) ?_
      have hPc := hP.sub (ws' := [(f, .inr (2, [.ref f_kinds, .ref f_signs, .ref f_sizes, .ref f_places, .ref f_limits, .ref f_starts, .ref f_sorts, .int f_count, .int f_sections, .int f_fifth])), (f_kinds, .inl (cI, 255, .inl f_kindsF)), (f_signs, .inl (cI, 255, .inl f_signsF)), (f_sizes, .inl (cI, 255, .inl f_sizesF)), (f_places, .inl (cI, 255, .inl f_placesF)), (f_limits, .inl (cD, 255, .inr (.inr (.inr (.inl f_limitsF)))))]) [2, 3, 4, 5, 6, 7] rfl
      have hDc := hD.sub (ws' := [(f, .inr (2, [.ref f_kinds, .ref f_signs, .ref f_sizes, .ref f_places, .ref f_limits, .ref f_starts, .ref f_sorts, .int f_count, .int f_sections, .int f_fifth])), (f_kinds, .inl (cI, 255, .inl f_kindsF)), (f_signs, .inl (cI, 255, .inl f_signsF)), (f_sizes, .inl (cI, 255, .inl f_sizesF)), (f_places, .inl (cI, 255, .inl f_placesF)), (f_limits, .inl (cD, 255, .inr (.inr (.inr (.inl f_limitsF)))))]) [2, 3, 4, 5, 6, 7] (by decide) rfl
      have hFc := va_free (wc := [(f, .inr (2, [.ref f_kinds, .ref f_signs, .ref f_sizes, .ref f_places, .ref f_limits, .ref f_starts, .ref f_sorts, .int f_count, .int f_sections, .int f_fifth])), (f_kinds, .inl (cI, 255, .inl f_kindsF)), (f_signs, .inl (cI, 255, .inl f_signsF)), (f_sizes, .inl (cI, 255, .inl f_sizesF)), (f_places, .inl (cI, 255, .inl f_placesF)), (f_limits, .inl (cD, 255, .inr (.inr (.inr (.inl f_limitsF)))))]) hD hS hA [2, 3, 4, 5, 6, 7] rfl
      refine va_callv (va_runV (As := [.int 3, .int x_30, .int x_33, .int p1]) (rest := []) ⟨hx, hb, hml, hown, (dr_words hts _)⟩ (c_X2_add l D cI cD cJ H.size f f_kinds f_signs f_sizes f_places f_limits f_starts f_sorts f_count f_sections f_fifth f_kindsF f_signsF f_sizesF f_placesF f_limitsF 3 x_30 x_33 p1 (by omega) (by omega) (by omega) (by assumption)) (cwV 4 (dr_words hts _) (goodIn_app (goodIn_r _ [15, 16, 17, 18] rfl (by decide +kernel)) (goodIn_sub i_X2_add k_X2_add)) rfl rfl rfl (by decide +kernel) ⟨Nat.le_of_ble_eq_true rfl, Nat.le_of_ble_eq_true rfl⟩) ⟨fun a U g mk q => by obtain ⟨q0, q1, qP, qK, qD⟩ := q; exact ⟨q0, q1, qP, va_K.moved (u := U) (U := U.calling g mk a) (Vm.Alike.refl U.vm) qK, qD⟩, va_recv hK hPc (ci := 2) (q0 := 0) rfl rfl, fun U hU hW => ⟨rfl, by rw [hU], by rw [hU]; exact hPc, va_K.moved hW.alike hK, hDc.weaken (fun _ _ _ _ => trivial)⟩⟩ rfl rfl hl.1 rfl (lv_room (Nat.le_of_ble_eq_true rfl)) dX8_bracket_51 ⟨Nat.le_of_ble_eq_true rfl, Nat.le_of_ble_eq_true rfl⟩) hS (fun q _ h => hFc q h) hFc (fun u t H1 locs ht hvm w_34 hB hz1 hk1 hS => ?_)
      obtain ⟨u_35, u_36, u_37, u_38, u_39, u_40⟩ := u
      obtain ⟨hP1, hK1, hD1⟩ := hB
      rw [ht] at hP1
      try dsimp only at w_34
      obtain ⟨hP, hD⟩ := va_join (wr := [(x, .inr (7, [.ref x_signs, .int x_length])), (x_signs, .inl (cI, 255, .inl x_signsF))]) (w1 := [(f, .inr (2, [.ref f_kinds, .ref f_signs, .ref f_sizes, .ref f_places, .ref f_limits, .ref f_starts, .ref f_sorts, .int u_35, .int f_sections, .int f_fifth])), (f_kinds, .inl (cI, 255, .inl u_36)), (f_signs, .inl (cI, 255, .inl u_37)), (f_sizes, .inl (cI, 255, .inl u_38)), (f_places, .inl (cI, 255, .inl u_39)), (f_limits, .inl (cD, 255, .inr (.inr (.inr (.inl u_40)))))]) hP hD [2, 3, 4, 5, 6, 7] [0, 1] rfl rfl (by decide) (by decide) hk1 hFc hP1 hD1
      generalize H1 = H at hP hS ⊢
      have hP : va_P D vwCl [(x, .inr (7, [.ref x_signs, .int x_length])), (x_signs, .inl (cI, 255, .inl x_signsF)), (f, .inr (2, [.ref f_kinds, .ref f_signs, .ref f_sizes, .ref f_places, .ref f_limits, .ref f_starts, .ref f_sorts, .int u_35, .int f_sections, .int f_fifth])), (f_kinds, .inl (cI, 255, .inl u_36)), (f_signs, .inl (cI, 255, .inl u_37)), (f_sizes, .inl (cI, 255, .inl u_38)), (f_places, .inl (cI, 255, .inl u_39)), (f_limits, .inl (cD, 255, .inr (.inr (.inr (.inl u_40)))))] H := hP
      have hD : va_D A [(x, .inr (7, [.ref x_signs, .int x_length])), (x_signs, .inl (cI, 255, .inl x_signsF)), (f, .inr (2, [.ref f_kinds, .ref f_signs, .ref f_sizes, .ref f_places, .ref f_limits, .ref f_starts, .ref f_sorts, .int u_35, .int f_sections, .int f_fifth])), (f_kinds, .inl (cI, 255, .inl u_36)), (f_signs, .inl (cI, 255, .inl u_37)), (f_sizes, .inl (cI, 255, .inl u_38)), (f_places, .inl (cI, 255, .inl u_39)), (f_limits, .inl (cD, 255, .inr (.inr (.inr (.inl u_40)))))] := hD
      obtain ⟨w_34_0, w_34_1⟩ := w_34
      refine lv_goto (tgt := 77) hx hb dX8_bracket_54 (by decide) ?_
      refine lv_iload_n hx hb dX8_bracket_77 rfl (lv_at hl 0 rfl) ?_
      refine lv_iconst (v := 1) hx hb dX8_bracket_78 (by decide) ?_
      refine lv_iadd hx hb dX8_bracket_79 ?_
      refine lv_topi (fun x_41 ex_41 => ?_)
      have b_x_2 := ti_b x_2
      have tx_41 := ti_add ex_41
      refine W.endD hd0 ?_
      have hP9 := hP.sub (ws' := [(x, .inr (7, [.ref x_signs, .int x_length])), (x_signs, .inl (cI, 255, .inl x_signsF)), (f, .inr (2, [.ref f_kinds, .ref f_signs, .ref f_sizes, .ref f_places, .ref f_limits, .ref f_starts, .ref f_sorts, .int u_35, .int f_sections, .int f_fifth])), (f_kinds, .inl (cI, 255, .inl u_36)), (f_signs, .inl (cI, 255, .inl u_37)), (f_sizes, .inl (cI, 255, .inl u_38)), (f_places, .inl (cI, 255, .inl u_39)), (f_limits, .inl (cD, 255, .inr (.inr (.inr (.inl u_40)))))]) [0, 1, 2, 3, 4, 5, 6, 7] rfl
      have hD9 := hD.sub (ws' := [(x, .inr (7, [.ref x_signs, .int x_length])), (x_signs, .inl (cI, 255, .inl x_signsF)), (f, .inr (2, [.ref f_kinds, .ref f_signs, .ref f_sizes, .ref f_places, .ref f_limits, .ref f_starts, .ref f_sorts, .int u_35, .int f_sections, .int f_fifth])), (f_kinds, .inl (cI, 255, .inl u_36)), (f_signs, .inl (cI, 255, .inl u_37)), (f_sizes, .inl (cI, 255, .inl u_38)), (f_places, .inl (cI, 255, .inl u_39)), (f_limits, .inl (cD, 255, .inr (.inr (.inr (.inl u_40)))))]) [0, 1, 2, 3, 4, 5, 6, 7] (by decide) rfl
      exact W.iret (v := x_41) hx hb hr (fun t ht hW => ⟨⟨x_41, (u_35, u_36, u_37, u_38, u_39, u_40), rfl, (by (try dsimp only); refine ⟨?_, ?_, ?_⟩ <;> first | omega | assumption), by rw [ht]; exact hP9, va_K.moved hW.alike hK, hD9⟩, hS.F ht⟩) hS.2.2 dX8_bracket_80
  · have ic_4 : (x_2 : Int32).toInt = ((-1) : Int32).toInt := (fa_eq x_2 (-1)).mp c_4
    refine lv_aload_n hx hb dX8_bracket_15 rfl (lv_at hl 1 rfl) ?_
    refine lv_aload_n hx hb dX8_bracket_16 rfl (lv_at hl 2 rfl) ?_
    refine lv_iload_n hx hb dX8_bracket_17 rfl (lv_at hl 3 rfl) ?_
    refine lv_iload_n hx hb dX8_bracket_18 rfl (lv_at hl 3 rfl) ?_
    refine lv_iconst (v := 1) hx hb dX8_bracket_19 (by decide) ?_
    refine lv_iadd hx hb dX8_bracket_20 ?_
    refine lv_topi (fun x_42 ex_42 => ?_)
    have b_p1 := ti_b p1
    have tx_42 := ti_add ex_42
    have hPc := hP.sub (ws' := [(x, .inr (7, [.ref x_signs, .int x_length])), (x_signs, .inl (cI, 255, .inl x_signsF)), (f, .inr (2, [.ref f_kinds, .ref f_signs, .ref f_sizes, .ref f_places, .ref f_limits, .ref f_starts, .ref f_sorts, .int f_count, .int f_sections, .int f_fifth])), (f_kinds, .inl (cI, 255, .inl f_kindsF)), (f_signs, .inl (cI, 255, .inl f_signsF)), (f_sizes, .inl (cI, 255, .inl f_sizesF)), (f_places, .inl (cI, 255, .inl f_placesF)), (f_limits, .inl (cD, 255, .inr (.inr (.inr (.inl f_limitsF)))))]) [0, 1, 2, 3, 4, 5, 6, 7] rfl
    have hDc := hD.sub (ws' := [(x, .inr (7, [.ref x_signs, .int x_length])), (x_signs, .inl (cI, 255, .inl x_signsF)), (f, .inr (2, [.ref f_kinds, .ref f_signs, .ref f_sizes, .ref f_places, .ref f_limits, .ref f_starts, .ref f_sorts, .int f_count, .int f_sections, .int f_fifth])), (f_kinds, .inl (cI, 255, .inl f_kindsF)), (f_signs, .inl (cI, 255, .inl f_signsF)), (f_sizes, .inl (cI, 255, .inl f_sizesF)), (f_places, .inl (cI, 255, .inl f_placesF)), (f_limits, .inl (cD, 255, .inr (.inr (.inr (.inl f_limitsF)))))]) [0, 1, 2, 3, 4, 5, 6, 7] (by decide) rfl
    have hFc := va_free (wc := [(x, .inr (7, [.ref x_signs, .int x_length])), (x_signs, .inl (cI, 255, .inl x_signsF)), (f, .inr (2, [.ref f_kinds, .ref f_signs, .ref f_sizes, .ref f_places, .ref f_limits, .ref f_starts, .ref f_sorts, .int f_count, .int f_sections, .int f_fifth])), (f_kinds, .inl (cI, 255, .inl f_kindsF)), (f_signs, .inl (cI, 255, .inl f_signsF)), (f_sizes, .inl (cI, 255, .inl f_sizesF)), (f_places, .inl (cI, 255, .inl f_placesF)), (f_limits, .inl (cD, 255, .inr (.inr (.inr (.inl f_limitsF)))))]) hD hS hA [0, 1, 2, 3, 4, 5, 6, 7] rfl
    refine va_calli (va_runS (As := [.ref x, .ref f, .int p1, .int x_42]) (rest := []) ⟨hx, hb, hml, hown, (dr_words hts _)⟩ (c_X8_bad l D cI cD cJ H.size x x_signs x_length x_signsF f f_kinds f_signs f_sizes f_places f_limits f_starts f_sorts f_count f_sections f_fifth f_kindsF f_signsF f_sizesF f_placesF f_limitsF p1 x_42 (by omega) (by assumption) (by omega) (by omega) (by assumption)) (va_cwS 4 (dr_words hts _) (goodIn_app (goodIn_r _ [10, 11, 7] rfl (by decide +kernel)) (goodIn_sub i_X8_bad k_X8_bad)) rfl rfl rfl (by decide +kernel) ⟨Nat.le_of_ble_eq_true rfl, Nat.le_of_ble_eq_true rfl⟩) ⟨fun a U g mk q => by obtain ⟨q0, q1, qP, qK, qD⟩ := q; exact ⟨q0, q1, qP, va_K.moved (u := U) (U := U.calling g mk a) (Vm.Alike.refl U.vm) qK, qD⟩, fun U hU hW => ⟨rfl, by rw [hU], by rw [hU]; exact hPc, va_K.moved hW.alike hK, hDc.weaken (fun _ _ _ _ => trivial)⟩⟩ rfl rfl hl.1 rfl (lv_room (Nat.le_of_ble_eq_true rfl)) dX8_bracket_21 ⟨Nat.le_of_ble_eq_true rfl, Nat.le_of_ble_eq_true rfl⟩) hS (fun q _ h => hFc q h) hFc (fun x_43 u t H1 locs ht hvm w_44 hB hz1 hk1 hS => ?_)
    obtain ⟨u_45, u_46, u_47, u_48, u_49, u_50⟩ := u
    obtain ⟨hP1, hK1, hD1⟩ := hB
    rw [ht] at hP1
    try dsimp only at w_44
    obtain ⟨hP, hD⟩ := va_join (wr := []) (w1 := [(x, .inr (7, [.ref x_signs, .int x_length])), (x_signs, .inl (cI, 255, .inl x_signsF)), (f, .inr (2, [.ref f_kinds, .ref f_signs, .ref f_sizes, .ref f_places, .ref f_limits, .ref f_starts, .ref f_sorts, .int u_45, .int f_sections, .int f_fifth])), (f_kinds, .inl (cI, 255, .inl u_46)), (f_signs, .inl (cI, 255, .inl u_47)), (f_sizes, .inl (cI, 255, .inl u_48)), (f_places, .inl (cI, 255, .inl u_49)), (f_limits, .inl (cD, 255, .inr (.inr (.inr (.inl u_50)))))]) hP hD [0, 1, 2, 3, 4, 5, 6, 7] [] rfl rfl (by decide) (by decide) hk1 hFc hP1 hD1
    generalize H1 = H at hP hS ⊢
    have hP : va_P D vwCl [(x, .inr (7, [.ref x_signs, .int x_length])), (x_signs, .inl (cI, 255, .inl x_signsF)), (f, .inr (2, [.ref f_kinds, .ref f_signs, .ref f_sizes, .ref f_places, .ref f_limits, .ref f_starts, .ref f_sorts, .int u_45, .int f_sections, .int f_fifth])), (f_kinds, .inl (cI, 255, .inl u_46)), (f_signs, .inl (cI, 255, .inl u_47)), (f_sizes, .inl (cI, 255, .inl u_48)), (f_places, .inl (cI, 255, .inl u_49)), (f_limits, .inl (cD, 255, .inr (.inr (.inr (.inl u_50)))))] H := hP
    have hD : va_D A [(x, .inr (7, [.ref x_signs, .int x_length])), (x_signs, .inl (cI, 255, .inl x_signsF)), (f, .inr (2, [.ref f_kinds, .ref f_signs, .ref f_sizes, .ref f_places, .ref f_limits, .ref f_starts, .ref f_sorts, .int u_45, .int f_sections, .int f_fifth])), (f_kinds, .inl (cI, 255, .inl u_46)), (f_signs, .inl (cI, 255, .inl u_47)), (f_sizes, .inl (cI, 255, .inl u_48)), (f_places, .inl (cI, 255, .inl u_49)), (f_limits, .inl (cD, 255, .inr (.inr (.inr (.inl u_50)))))] := hD
    obtain ⟨w_44_0, w_44_1, w_44_2⟩ := w_44
    have b_x_43 := ti_b x_43
    refine W.endD hd0 ?_
    have hP9 := hP.sub (ws' := [(x, .inr (7, [.ref x_signs, .int x_length])), (x_signs, .inl (cI, 255, .inl x_signsF)), (f, .inr (2, [.ref f_kinds, .ref f_signs, .ref f_sizes, .ref f_places, .ref f_limits, .ref f_starts, .ref f_sorts, .int u_45, .int f_sections, .int f_fifth])), (f_kinds, .inl (cI, 255, .inl u_46)), (f_signs, .inl (cI, 255, .inl u_47)), (f_sizes, .inl (cI, 255, .inl u_48)), (f_places, .inl (cI, 255, .inl u_49)), (f_limits, .inl (cD, 255, .inr (.inr (.inr (.inl u_50)))))]) [0, 1, 2, 3, 4, 5, 6, 7] rfl
    have hD9 := hD.sub (ws' := [(x, .inr (7, [.ref x_signs, .int x_length])), (x_signs, .inl (cI, 255, .inl x_signsF)), (f, .inr (2, [.ref f_kinds, .ref f_signs, .ref f_sizes, .ref f_places, .ref f_limits, .ref f_starts, .ref f_sorts, .int u_45, .int f_sections, .int f_fifth])), (f_kinds, .inl (cI, 255, .inl u_46)), (f_signs, .inl (cI, 255, .inl u_47)), (f_sizes, .inl (cI, 255, .inl u_48)), (f_places, .inl (cI, 255, .inl u_49)), (f_limits, .inl (cD, 255, .inr (.inr (.inr (.inl u_50)))))]) [0, 1, 2, 3, 4, 5, 6, 7] (by decide) rfl
    exact W.iret (v := x_43) hx hb hr (fun t ht hW => ⟨⟨x_43, (u_45, u_46, u_47, u_48, u_49, u_50), rfl, (by (try dsimp only); refine ⟨?_, ?_, ?_⟩ <;> first | omega | assumption), by rw [ht]; exact hP9, va_K.moved hW.alike hK, hD9⟩, hS.F ht⟩) hS.2.2 dX8_bracket_24

def ow_X8_letters : List Cond := [Cond.methodLink RX8 134 yX8_mostOf, Cond.static yX8_mostOf, Cond.initialized RX8, Cond.methodLink RX8 58 yX2_add, Cond.instanceMethod yX2_add, Cond.selects RX2 yX2_add yX2_add, Cond.initialized RX2, Cond.methodLink RX8 73 yX8_bad, Cond.static yX8_bad, Cond.methodLink RX8 46 yX10_smallAt, Cond.instanceMethod yX10_smallAt, Cond.selects RX10 yX10_smallAt yX10_smallAt, Cond.initialized RX10]
def pw_X8_letters : List Cond := Cond.code yX8_letters cX8_letters 5 (some .int) :: (ow_X8_letters ++ (pw_X8_mostOf ++ (pw_X2_add ++ (pw_X8_bad ++ (pw_X10_smallAt)))))
set_option maxRecDepth 20000 in
theorem mo_X8_letters : ∀ w ∈ ow_X8_letters, w ∈ lw_tbl := by decide +kernel
set_option maxRecDepth 20000 in
theorem mc_X8_letters : Cond.code yX8_letters cX8_letters 5 (some .int) ∈ lw_tbl := by decide +kernel
theorem m_X8_letters : ∀ w ∈ pw_X8_letters, w ∈ lw_tbl := List.forall_mem_cons.mpr ⟨mc_X8_letters, (List.forall_mem_append.mpr ⟨mo_X8_letters, (List.forall_mem_append.mpr ⟨m_X8_mostOf, (List.forall_mem_append.mpr ⟨m_X2_add, (List.forall_mem_append.mpr ⟨m_X8_bad, m_X10_smallAt⟩)⟩)⟩)⟩)⟩
theorem ko_X8_letters : ∀ w ∈ ow_X8_letters, goodWord w = true := by decide +kernel
theorem k_X8_letters : pw_X8_letters.all goodWord = true := List.all_eq_true.mpr (List.forall_mem_cons.mpr ⟨by decide +kernel, (List.forall_mem_append.mpr ⟨ko_X8_letters, (List.forall_mem_append.mpr ⟨(List.all_eq_true.mp k_X8_mostOf), (List.forall_mem_append.mpr ⟨(List.all_eq_true.mp k_X2_add), (List.forall_mem_append.mpr ⟨(List.all_eq_true.mp k_X8_bad), (List.all_eq_true.mp k_X10_smallAt)⟩)⟩)⟩)⟩)⟩)
set_option maxHeartbeats 400000 in
set_option maxRecDepth 100000 in
theorem c_X8_letters (l : Launch) (D : va_G) (cI cD cJ : ClassId) (sz : Nat) (x : Nat) (x_signs : Nat) (x_length : Int32) (x_signsF : Nat → Int32) (f : Nat) (f_kinds : Nat) (f_signs : Nat) (f_sizes : Nat) (f_places : Nat) (f_limits : Nat) (f_starts : Nat) (f_sorts : Nat) (f_count : Int32) (f_sections : Int32) (f_fifth : Int32) (f_kindsF : Nat → Int32) (f_signsF : Nat → Int32) (f_sizesF : Nat → Int32) (f_placesF : Nat → Int32) (f_limitsF : Nat → UInt64) (p1 : Int32) (p2 : Int32) (ha1 : 0 ≤ p1.toInt) (ha2 : p1.toInt ≤ 300) (iv_x_length : 0 ≤ (x_length : Int32).toInt ∧ (x_length : Int32).toInt ≤ 255) (iv_x_signsF : ∀ k9 : Nat, k9 < 255 → 0 ≤ (x_signsF k9).toInt ∧ (x_signsF k9).toInt ≤ 255) (iv_f_count : 0 ≤ (f_count : Int32).toInt ∧ (f_count : Int32).toInt ≤ 255) (iv_f_sections : 0 ≤ (f_sections : Int32).toInt ∧ (f_sections : Int32).toInt ≤ 4) (iv_f_sizesF : ∀ k9 : Nat, k9 < 255 → (f_sizesF k9).toInt ≤ 100000) : Met l yX8_letters pw_X8_letters ({ frames := 2, cells := 0, slots := 0, locals := 47 }) (va_Pc [.ref x, .ref f, .int p1, .int p2] (fun U => U.heap.size = sz ∧ va_P D vwCl [(x, .inr (7, [.ref x_signs, .int x_length])), (x_signs, .inl (cI, 255, .inl x_signsF)), (f, .inr (2, [.ref f_kinds, .ref f_signs, .ref f_sizes, .ref f_places, .ref f_limits, .ref f_starts, .ref f_sorts, .int f_count, .int f_sections, .int f_fifth])), (f_kinds, .inl (cI, 255, .inl f_kindsF)), (f_signs, .inl (cI, 255, .inl f_signsF)), (f_sizes, .inl (cI, 255, .inl f_sizesF)), (f_places, .inl (cI, 255, .inl f_placesF)), (f_limits, .inl (cD, 255, .inr (.inr (.inr (.inl f_limitsF)))))] U.heap ∧ va_K D vwCl (ty3 cI cD cJ) U ∧ va_D (fun _ => True) [(x, .inr (7, [.ref x_signs, .int x_length])), (x_signs, .inl (cI, 255, .inl x_signsF)), (f, .inr (2, [.ref f_kinds, .ref f_signs, .ref f_sizes, .ref f_places, .ref f_limits, .ref f_starts, .ref f_sorts, .int f_count, .int f_sections, .int f_fifth])), (f_kinds, .inl (cI, 255, .inl f_kindsF)), (f_signs, .inl (cI, 255, .inl f_signsF)), (f_sizes, .inl (cI, 255, .inl f_sizesF)), (f_places, .inl (cI, 255, .inl f_placesF)), (f_limits, .inl (cD, 255, .inr (.inr (.inr (.inl f_limitsF)))))])) (va_Qi (fun (r : Int32) (u : Int32 × (Nat → Int32) × (Nat → Int32) × (Nat → Int32) × (Nat → Int32) × (Nat → UInt64)) => match u with | (f_count2, f_kindsF2, f_signsF2, f_sizesF2, f_placesF2, f_limitsF2) => (0 ≤ r.toInt ∧ r.toInt ≤ 1000) ∧ (0 ≤ (f_count2 : Int32).toInt ∧ (f_count2 : Int32).toInt ≤ 255) ∧ (∀ k9 : Nat, k9 < 255 → (f_sizesF2 k9).toInt ≤ 100000)) (fun (u : Int32 × (Nat → Int32) × (Nat → Int32) × (Nat → Int32) × (Nat → Int32) × (Nat → UInt64)) (t : State) => match u with | (f_count2, f_kindsF2, f_signsF2, f_sizesF2, f_placesF2, f_limitsF2) => va_P D vwCl [(x, .inr (7, [.ref x_signs, .int x_length])), (x_signs, .inl (cI, 255, .inl x_signsF)), (f, .inr (2, [.ref f_kinds, .ref f_signs, .ref f_sizes, .ref f_places, .ref f_limits, .ref f_starts, .ref f_sorts, .int f_count2, .int f_sections, .int f_fifth])), (f_kinds, .inl (cI, 255, .inl f_kindsF2)), (f_signs, .inl (cI, 255, .inl f_signsF2)), (f_sizes, .inl (cI, 255, .inl f_sizesF2)), (f_places, .inl (cI, 255, .inl f_placesF2)), (f_limits, .inl (cD, 255, .inr (.inr (.inr (.inl f_limitsF2)))))] t.heap ∧ va_K D vwCl (ty3 cI cD cJ) t ∧ va_D (va_A [(x, .inr (7, [.ref x_signs, .int x_length])), (x_signs, .inl (cI, 255, .inl x_signsF)), (f, .inr (2, [.ref f_kinds, .ref f_signs, .ref f_sizes, .ref f_places, .ref f_limits, .ref f_starts, .ref f_sorts, .int f_count, .int f_sections, .int f_fifth])), (f_kinds, .inl (cI, 255, .inl f_kindsF)), (f_signs, .inl (cI, 255, .inl f_signsF)), (f_sizes, .inl (cI, 255, .inl f_sizesF)), (f_places, .inl (cI, 255, .inl f_placesF)), (f_limits, .inl (cD, 255, .inr (.inr (.inr (.inl f_limitsF)))))] sz) [(x, .inr (7, [.ref x_signs, .int x_length])), (x_signs, .inl (cI, 255, .inl x_signsF)), (f, .inr (2, [.ref f_kinds, .ref f_signs, .ref f_sizes, .ref f_places, .ref f_limits, .ref f_starts, .ref f_sorts, .int f_count2, .int f_sections, .int f_fifth])), (f_kinds, .inl (cI, 255, .inl f_kindsF2)), (f_signs, .inl (cI, 255, .inl f_signsF2)), (f_sizes, .inl (cI, 255, .inl f_sizesF2)), (f_places, .inl (cI, 255, .inl f_placesF2)), (f_limits, .inl (cD, 255, .inr (.inr (.inr (.inl f_limitsF2)))))]) (va_A [(x, .inr (7, [.ref x_signs, .int x_length])), (x_signs, .inl (cI, 255, .inl x_signsF)), (f, .inr (2, [.ref f_kinds, .ref f_signs, .ref f_sizes, .ref f_places, .ref f_limits, .ref f_starts, .ref f_sorts, .int f_count, .int f_sections, .int f_fifth])), (f_kinds, .inl (cI, 255, .inl f_kindsF)), (f_signs, .inl (cI, 255, .inl f_signsF)), (f_sizes, .inl (cI, 255, .inl f_sizesF)), (f_places, .inl (cI, 255, .inl f_placesF)), (f_limits, .inl (cD, 255, .inr (.inr (.inr (.inl f_limitsF)))))] sz)) 0 0 (va_A [(x, .inr (7, [.ref x_signs, .int x_length])), (x_signs, .inl (cI, 255, .inl x_signsF)), (f, .inr (2, [.ref f_kinds, .ref f_signs, .ref f_sizes, .ref f_places, .ref f_limits, .ref f_starts, .ref f_sorts, .int f_count, .int f_sections, .int f_fifth])), (f_kinds, .inl (cI, 255, .inl f_kindsF)), (f_signs, .inl (cI, 255, .inl f_signsF)), (f_sizes, .inl (cI, 255, .inl f_sizesF)), (f_places, .inl (cI, 255, .inl f_placesF)), (f_limits, .inl (cD, 255, .inr (.inr (.inr (.inl f_limitsF)))))] sz) := by
  refine Met.ofW (cc := cX8_letters) (maxL := 5) (ret := (some .int)) (by decide +kernel) rfl ?_
  intro p e s m args below meth c s₁ B hml hv
  obtain ⟨rfl, hsz, hP, hK, hD0⟩ := hv
  have hx := B.exec
  have hb := B.bytes
  have hr := B.returns
  have hts := atoms_spec (ws := pw_X8_letters) B.pre
  have hown : s.vm.findClass RX8 = some m.cls := findClass_of_methodNamed B.named
  have hlocks := B.notSynchronized
  subst hsz
  have hD := hD0.self (sz := s.heap.size)
  generalize hAe : va_A [(x, .inr (7, [.ref x_signs, .int x_length])), (x_signs, .inl (cI, 255, .inl x_signsF)), (f, .inr (2, [.ref f_kinds, .ref f_signs, .ref f_sizes, .ref f_places, .ref f_limits, .ref f_starts, .ref f_sorts, .int f_count, .int f_sections, .int f_fifth])), (f_kinds, .inl (cI, 255, .inl f_kindsF)), (f_signs, .inl (cI, 255, .inl f_signsF)), (f_sizes, .inl (cI, 255, .inl f_sizesF)), (f_places, .inl (cI, 255, .inl f_placesF)), (f_limits, .inl (cD, 255, .inr (.inr (.inr (.inl f_limitsF)))))] s.heap.size = A at hD ⊢
  have hA : ∀ q : Nat, s.heap.size ≤ q → A q := fun q h => by rw [← hAe]; exact Or.inr h
  have hS : va_S A s.heap s.heap [] := va_S.rf
  have hw : ∀ (k : Nat) (w : Cond), ow_X8_letters[k]? = some w → w.before _ s = true := fun k w h => hts w (List.mem_cons_of_mem _ (have h9 := List.mem_of_getElem? h; List.mem_append_left _ h9))
  have i_X8_mostOf : ∀ w ∈ pw_X8_mostOf, w ∈ pw_X8_letters := fun w h9 => List.mem_cons_of_mem _ (List.mem_append_right _ (List.mem_append_left _ h9))
  have i_X2_add : ∀ w ∈ pw_X2_add, w ∈ pw_X8_letters := fun w h9 => List.mem_cons_of_mem _ (List.mem_append_right _ (List.mem_append_right _ (List.mem_append_left _ h9)))
  have i_X8_bad : ∀ w ∈ pw_X8_bad, w ∈ pw_X8_letters := fun w h9 => List.mem_cons_of_mem _ (List.mem_append_right _ (List.mem_append_right _ (List.mem_append_right _ (List.mem_append_left _ h9))))
  have i_X10_smallAt : ∀ w ∈ pw_X10_smallAt, w ∈ pw_X8_letters := fun w h9 => List.mem_cons_of_mem _ (List.mem_append_right _ (List.mem_append_right _ (List.mem_append_right _ (List.mem_append_right _ (h9)))))
  have n_0 : ((0 : Int32)).toInt = 0 := by decide
  have n_1 : ((1 : Int32)).toInt = 1 := by decide
  have n_13 : ((13 : Int32)).toInt = 13 := by decide
  have n_255 : ((255 : Int32)).toInt = 255 := by decide
  have hl := lv_entry ([.ref x, .ref f, .int p1, .int p2]) (n := 5) (Nat.le_of_ble_eq_true rfl)
  rw [lg_entry_eq]
  generalize (lg_sl ([.ref x, .ref f, .int p1, .int p2]) ++ List.replicate (5 - (lg_sl ([.ref x, .ref f, .int p1, .int p2])).length) Slot.unset).toArray = ls at hl ⊢
  have hl : lv_has ls 5 [(0, .ref x), (1, .ref f), (2, .int p1), (3, .int p2)] := hl
  have b_p1 := ti_b p1
  have b_p2 := ti_b p2
  refine zz_cap (fun Z hZ1 hZ2 => ?_)
  refine lv_iconst (v := 0) hx hb dX8_letters_0 (by decide) ?_
  refine lv_istore (lv' := [(4, .int 0), (0, .ref x), (1, .ref f), (2, .int p1), (3, .int p2)]) hx hb dX8_letters_1 hl (by decide) rfl (fun ls hl => ?_)
  have L_3 : ∀ (N : Nat) (x_1 : Int32) (H : Heap) (locs : List Loc) (ls : Array Slot), (0 ≤ (x_1 : Int32).toInt) → ((x_1 : Int32).toInt ≤ 255) → ((300 - (x_1 : Int32).toInt).toNat < N) → va_P D vwCl [(x, .inr (7, [.ref x_signs, .int x_length])), (x_signs, .inl (cI, 255, .inl x_signsF)), (f, .inr (2, [.ref f_kinds, .ref f_signs, .ref f_sizes, .ref f_places, .ref f_limits, .ref f_starts, .ref f_sorts, .int f_count, .int f_sections, .int f_fifth])), (f_kinds, .inl (cI, 255, .inl f_kindsF)), (f_signs, .inl (cI, 255, .inl f_signsF)), (f_sizes, .inl (cI, 255, .inl f_sizesF)), (f_places, .inl (cI, 255, .inl f_placesF)), (f_limits, .inl (cD, 255, .inr (.inr (.inr (.inl f_limitsF)))))] H → va_D A [(x, .inr (7, [.ref x_signs, .int x_length])), (x_signs, .inl (cI, 255, .inl x_signsF)), (f, .inr (2, [.ref f_kinds, .ref f_signs, .ref f_sizes, .ref f_places, .ref f_limits, .ref f_starts, .ref f_sorts, .int f_count, .int f_sections, .int f_fifth])), (f_kinds, .inl (cI, 255, .inl f_kindsF)), (f_signs, .inl (cI, 255, .inl f_signsF)), (f_sizes, .inl (cI, 255, .inl f_sizesF)), (f_places, .inl (cI, 255, .inl f_placesF)), (f_limits, .inl (cD, 255, .inr (.inr (.inr (.inl f_limitsF)))))] → va_S A s.heap H locs → lv_has ls 5 [(4, .int x_1), (0, .ref x), (1, .ref f), (2, .int p1), (3, .int p2)] → Z 0 0 H locs (F0 m 3 ls []) := by
    intro N
    induction N with
    | zero => intro _ _ _ _ _ _ hmu; exact absurd hmu (Nat.not_lt_zero _)
    | succ N ih_3 =>
      intro x_1 H locs ls g3_0 g3_1 hmu hP hD hS hl
      refine hZ2 ?_
      refine lv_iload hx hb dX8_letters_3 (lv_at hl 0 rfl) ?_
      refine lv_sipush (v := 255) hx hb dX8_letters_5 (by decide) ?_
      have K_29 : ∀ (H : Heap) (locs : List Loc) (ls : Array Slot), (0 ≤ (x_1 : Int32).toInt) → ((x_1 : Int32).toInt ≤ 255) → va_P D vwCl [(x, .inr (7, [.ref x_signs, .int x_length])), (x_signs, .inl (cI, 255, .inl x_signsF)), (f, .inr (2, [.ref f_kinds, .ref f_signs, .ref f_sizes, .ref f_places, .ref f_limits, .ref f_starts, .ref f_sorts, .int f_count, .int f_sections, .int f_fifth])), (f_kinds, .inl (cI, 255, .inl f_kindsF)), (f_signs, .inl (cI, 255, .inl f_signsF)), (f_sizes, .inl (cI, 255, .inl f_sizesF)), (f_places, .inl (cI, 255, .inl f_placesF)), (f_limits, .inl (cD, 255, .inr (.inr (.inr (.inl f_limitsF)))))] H → va_D A [(x, .inr (7, [.ref x_signs, .int x_length])), (x_signs, .inl (cI, 255, .inl x_signsF)), (f, .inr (2, [.ref f_kinds, .ref f_signs, .ref f_sizes, .ref f_places, .ref f_limits, .ref f_starts, .ref f_sorts, .int f_count, .int f_sections, .int f_fifth])), (f_kinds, .inl (cI, 255, .inl f_kindsF)), (f_signs, .inl (cI, 255, .inl f_signsF)), (f_sizes, .inl (cI, 255, .inl f_sizesF)), (f_places, .inl (cI, 255, .inl f_placesF)), (f_limits, .inl (cD, 255, .inr (.inr (.inr (.inl f_limitsF)))))] → va_S A s.heap H locs → lv_has ls 5 [(4, .int x_1), (0, .ref x), (1, .ref f), (2, .int p1), (3, .int p2)] → Z 0 0 H locs (F0 m 29 ls []) := by
        intro  H locs ls g29_0 g29_1 hP hD hS hl
        refine hZ2 ?_
        refine lv_iload hx hb dX8_letters_29 (lv_at hl 0 rfl) ?_
        refine lv_iload_n hx hb dX8_letters_31 rfl (lv_at hl 4 rfl) ?_
        have hPc := hP.sub (ws' := []) [] rfl
        refine va_calli (va_runS (As := [.int p2]) (rest := [.int x_1]) ⟨hx, hb, hml, hown, hts⟩ (c_X8_mostOf l D cI cD cJ H.size p2) (va_cwS 1 hts (goodIn_app (goodIn_r _ [1, 2, 3] rfl (by decide +kernel)) (goodIn_sub i_X8_mostOf k_X8_mostOf)) rfl rfl rfl (by decide +kernel) ⟨Nat.le_of_ble_eq_true rfl, Nat.le_of_ble_eq_true rfl⟩) ⟨fun a U g mk q => by obtain ⟨q0, qP, qK⟩ := q; exact ⟨q0, qP, va_K.moved (u := U) (U := U.calling g mk a) (Vm.Alike.refl U.vm) qK⟩, fun U hU hW => ⟨rfl, by rw [hU]; exact hPc, va_K.moved hW.alike hK⟩⟩ rfl rfl hl.1 rfl (lv_room (Nat.le_of_ble_eq_true rfl)) dX8_letters_32 ⟨Nat.le_of_ble_eq_true rfl, Nat.le_of_ble_eq_true rfl⟩) hS (fun q _ h => h.elim) (fun q h => h.elim) (fun x_2 u t H1 locs ht hvm w_3 hB hz1 hk1 hS => ?_)
        have hP : va_P D vwCl [(x, .inr (7, [.ref x_signs, .int x_length])), (x_signs, .inl (cI, 255, .inl x_signsF)), (f, .inr (2, [.ref f_kinds, .ref f_signs, .ref f_sizes, .ref f_places, .ref f_limits, .ref f_starts, .ref f_sorts, .int f_count, .int f_sections, .int f_fifth])), (f_kinds, .inl (cI, 255, .inl f_kindsF)), (f_signs, .inl (cI, 255, .inl f_signsF)), (f_sizes, .inl (cI, 255, .inl f_sizesF)), (f_places, .inl (cI, 255, .inl f_placesF)), (f_limits, .inl (cD, 255, .inr (.inr (.inr (.inl f_limitsF)))))] H1 := hP.kept (fun k9 q9 h9 => hk1 q9.1 (vx_lt hP h9) (fun h => h))
        generalize H1 = H at hP hS ⊢
        have b_x_2 := ti_b x_2
        refine lv_icmp_le (tgt := 49) hx hb dX8_letters_35 (by decide) (fun c_4 => ?_) (fun c_4 => ?_)
        · have ic_4 : (x_1 : Int32).toInt ≤ (x_2 : Int32).toInt := (fa_le x_1 x_2).mp c_4
          refine lv_aload_n hx hb dX8_letters_49 rfl (lv_at hl 2 rfl) ?_
          refine lv_bipush (v := 13) hx hb dX8_letters_50 (by decide) ?_
          refine lv_iload_n hx hb dX8_letters_52 rfl (lv_at hl 4 rfl) ?_
          refine lv_iload hx hb dX8_letters_53 (lv_at hl 0 rfl) ?_
          refine lv_iload_n hx hb dX8_letters_55 rfl (lv_at hl 3 rfl) ?_
          have hPc := hP.sub (ws' := [(f, .inr (2, [.ref f_kinds, .ref f_signs, .ref f_sizes, .ref f_places, .ref f_limits, .ref f_starts, .ref f_sorts, .int f_count, .int f_sections, .int f_fifth])), (f_kinds, .inl (cI, 255, .inl f_kindsF)), (f_signs, .inl (cI, 255, .inl f_signsF)), (f_sizes, .inl (cI, 255, .inl f_sizesF)), (f_places, .inl (cI, 255, .inl f_placesF)), (f_limits, .inl (cD, 255, .inr (.inr (.inr (.inl f_limitsF)))))]) [2, 3, 4, 5, 6, 7] rfl
          have hDc := hD.sub (ws' := [(f, .inr (2, [.ref f_kinds, .ref f_signs, .ref f_sizes, .ref f_places, .ref f_limits, .ref f_starts, .ref f_sorts, .int f_count, .int f_sections, .int f_fifth])), (f_kinds, .inl (cI, 255, .inl f_kindsF)), (f_signs, .inl (cI, 255, .inl f_signsF)), (f_sizes, .inl (cI, 255, .inl f_sizesF)), (f_places, .inl (cI, 255, .inl f_placesF)), (f_limits, .inl (cD, 255, .inr (.inr (.inr (.inl f_limitsF)))))]) [2, 3, 4, 5, 6, 7] (by decide) rfl
          have hFc := va_free (wc := [(f, .inr (2, [.ref f_kinds, .ref f_signs, .ref f_sizes, .ref f_places, .ref f_limits, .ref f_starts, .ref f_sorts, .int f_count, .int f_sections, .int f_fifth])), (f_kinds, .inl (cI, 255, .inl f_kindsF)), (f_signs, .inl (cI, 255, .inl f_signsF)), (f_sizes, .inl (cI, 255, .inl f_sizesF)), (f_places, .inl (cI, 255, .inl f_placesF)), (f_limits, .inl (cD, 255, .inr (.inr (.inr (.inl f_limitsF)))))]) hD hS hA [2, 3, 4, 5, 6, 7] rfl
          refine va_callv (va_runV (As := [.int 13, .int p2, .int x_1, .int p1]) (rest := []) ⟨hx, hb, hml, hown, hts⟩ (c_X2_add l D cI cD cJ H.size f f_kinds f_signs f_sizes f_places f_limits f_starts f_sorts f_count f_sections f_fifth f_kindsF f_signsF f_sizesF f_placesF f_limitsF 13 p2 x_1 p1 (by omega) (by omega) (by omega) (by assumption)) (cwV 4 hts (goodIn_app (goodIn_r _ [4, 5, 6, 7] rfl (by decide +kernel)) (goodIn_sub i_X2_add k_X2_add)) rfl rfl rfl (by decide +kernel) ⟨Nat.le_of_ble_eq_true rfl, Nat.le_of_ble_eq_true rfl⟩) ⟨fun a U g mk q => by obtain ⟨q0, q1, qP, qK, qD⟩ := q; exact ⟨q0, q1, qP, va_K.moved (u := U) (U := U.calling g mk a) (Vm.Alike.refl U.vm) qK, qD⟩, va_recv hK hPc (ci := 2) (q0 := 0) rfl rfl, fun U hU hW => ⟨rfl, by rw [hU], by rw [hU]; exact hPc, va_K.moved hW.alike hK, hDc.weaken (fun _ _ _ _ => trivial)⟩⟩ rfl rfl hl.1 rfl (lv_room (Nat.le_of_ble_eq_true rfl)) dX8_letters_56 ⟨Nat.le_of_ble_eq_true rfl, Nat.le_of_ble_eq_true rfl⟩) hS (fun q _ h => hFc q h) hFc (fun u t H1 locs ht hvm w_5 hB hz1 hk1 hS => ?_)
          obtain ⟨u_6, u_7, u_8, u_9, u_10, u_11⟩ := u
          obtain ⟨hP1, hK1, hD1⟩ := hB
          rw [ht] at hP1
          try dsimp only at w_5
          obtain ⟨hP, hD⟩ := va_join (wr := [(x, .inr (7, [.ref x_signs, .int x_length])), (x_signs, .inl (cI, 255, .inl x_signsF))]) (w1 := [(f, .inr (2, [.ref f_kinds, .ref f_signs, .ref f_sizes, .ref f_places, .ref f_limits, .ref f_starts, .ref f_sorts, .int u_6, .int f_sections, .int f_fifth])), (f_kinds, .inl (cI, 255, .inl u_7)), (f_signs, .inl (cI, 255, .inl u_8)), (f_sizes, .inl (cI, 255, .inl u_9)), (f_places, .inl (cI, 255, .inl u_10)), (f_limits, .inl (cD, 255, .inr (.inr (.inr (.inl u_11)))))]) hP hD [2, 3, 4, 5, 6, 7] [0, 1] rfl rfl (by decide) (by decide) hk1 hFc hP1 hD1
          generalize H1 = H at hP hS ⊢
          have hP : va_P D vwCl [(x, .inr (7, [.ref x_signs, .int x_length])), (x_signs, .inl (cI, 255, .inl x_signsF)), (f, .inr (2, [.ref f_kinds, .ref f_signs, .ref f_sizes, .ref f_places, .ref f_limits, .ref f_starts, .ref f_sorts, .int u_6, .int f_sections, .int f_fifth])), (f_kinds, .inl (cI, 255, .inl u_7)), (f_signs, .inl (cI, 255, .inl u_8)), (f_sizes, .inl (cI, 255, .inl u_9)), (f_places, .inl (cI, 255, .inl u_10)), (f_limits, .inl (cD, 255, .inr (.inr (.inr (.inl u_11)))))] H := hP
          have hD : va_D A [(x, .inr (7, [.ref x_signs, .int x_length])), (x_signs, .inl (cI, 255, .inl x_signsF)), (f, .inr (2, [.ref f_kinds, .ref f_signs, .ref f_sizes, .ref f_places, .ref f_limits, .ref f_starts, .ref f_sorts, .int u_6, .int f_sections, .int f_fifth])), (f_kinds, .inl (cI, 255, .inl u_7)), (f_signs, .inl (cI, 255, .inl u_8)), (f_sizes, .inl (cI, 255, .inl u_9)), (f_places, .inl (cI, 255, .inl u_10)), (f_limits, .inl (cD, 255, .inr (.inr (.inr (.inl u_11)))))] := hD
          obtain ⟨w_5_0, w_5_1⟩ := w_5
          refine lv_iload_n hx hb dX8_letters_59 rfl (lv_at hl 3 rfl) ?_
          refine lv_iload hx hb dX8_letters_60 (lv_at hl 0 rfl) ?_
          refine lv_iadd hx hb dX8_letters_62 ?_
          refine lv_topi (fun x_12 ex_12 => ?_)
          have b_p1 := ti_b p1
          have b_x_1 := ti_b x_1
          have tx_12 := ti_add ex_12
          have hP9 := hP.sub (ws' := [(x, .inr (7, [.ref x_signs, .int x_length])), (x_signs, .inl (cI, 255, .inl x_signsF)), (f, .inr (2, [.ref f_kinds, .ref f_signs, .ref f_sizes, .ref f_places, .ref f_limits, .ref f_starts, .ref f_sorts, .int u_6, .int f_sections, .int f_fifth])), (f_kinds, .inl (cI, 255, .inl u_7)), (f_signs, .inl (cI, 255, .inl u_8)), (f_sizes, .inl (cI, 255, .inl u_9)), (f_places, .inl (cI, 255, .inl u_10)), (f_limits, .inl (cD, 255, .inr (.inr (.inr (.inl u_11)))))]) [0, 1, 2, 3, 4, 5, 6, 7] rfl
          have hD9 := hD.sub (ws' := [(x, .inr (7, [.ref x_signs, .int x_length])), (x_signs, .inl (cI, 255, .inl x_signsF)), (f, .inr (2, [.ref f_kinds, .ref f_signs, .ref f_sizes, .ref f_places, .ref f_limits, .ref f_starts, .ref f_sorts, .int u_6, .int f_sections, .int f_fifth])), (f_kinds, .inl (cI, 255, .inl u_7)), (f_signs, .inl (cI, 255, .inl u_8)), (f_sizes, .inl (cI, 255, .inl u_9)), (f_places, .inl (cI, 255, .inl u_10)), (f_limits, .inl (cD, 255, .inr (.inr (.inr (.inl u_11)))))]) [0, 1, 2, 3, 4, 5, 6, 7] (by decide) rfl
          exact W.iret (v := x_12) hx hb hr (fun t ht hW => ⟨⟨x_12, (u_6, u_7, u_8, u_9, u_10, u_11), rfl, (by (try dsimp only); refine ⟨?_, ?_, ?_⟩ <;> first | omega | assumption), by rw [ht]; exact hP9, va_K.moved hW.alike hK, hD9⟩, hS.F ht⟩) hS.2.2 dX8_letters_63
        · have ic_4 : ¬ ((x_1 : Int32).toInt ≤ (x_2 : Int32).toInt) := fun h9 => c_4 ((fa_le x_1 x_2).mpr h9)
          refine lv_aload_n hx hb dX8_letters_38 rfl (lv_at hl 1 rfl) ?_
          refine lv_aload_n hx hb dX8_letters_39 rfl (lv_at hl 2 rfl) ?_
          refine lv_iload_n hx hb dX8_letters_40 rfl (lv_at hl 3 rfl) ?_
          refine lv_iload_n hx hb dX8_letters_41 rfl (lv_at hl 3 rfl) ?_
          refine lv_iload hx hb dX8_letters_42 (lv_at hl 0 rfl) ?_
          refine lv_iadd hx hb dX8_letters_44 ?_
          refine lv_topi (fun x_13 ex_13 => ?_)
          have b_p1 := ti_b p1
          have b_x_1 := ti_b x_1
          have tx_13 := ti_add ex_13
          have hPc := hP.sub (ws' := [(x, .inr (7, [.ref x_signs, .int x_length])), (x_signs, .inl (cI, 255, .inl x_signsF)), (f, .inr (2, [.ref f_kinds, .ref f_signs, .ref f_sizes, .ref f_places, .ref f_limits, .ref f_starts, .ref f_sorts, .int f_count, .int f_sections, .int f_fifth])), (f_kinds, .inl (cI, 255, .inl f_kindsF)), (f_signs, .inl (cI, 255, .inl f_signsF)), (f_sizes, .inl (cI, 255, .inl f_sizesF)), (f_places, .inl (cI, 255, .inl f_placesF)), (f_limits, .inl (cD, 255, .inr (.inr (.inr (.inl f_limitsF)))))]) [0, 1, 2, 3, 4, 5, 6, 7] rfl
          have hDc := hD.sub (ws' := [(x, .inr (7, [.ref x_signs, .int x_length])), (x_signs, .inl (cI, 255, .inl x_signsF)), (f, .inr (2, [.ref f_kinds, .ref f_signs, .ref f_sizes, .ref f_places, .ref f_limits, .ref f_starts, .ref f_sorts, .int f_count, .int f_sections, .int f_fifth])), (f_kinds, .inl (cI, 255, .inl f_kindsF)), (f_signs, .inl (cI, 255, .inl f_signsF)), (f_sizes, .inl (cI, 255, .inl f_sizesF)), (f_places, .inl (cI, 255, .inl f_placesF)), (f_limits, .inl (cD, 255, .inr (.inr (.inr (.inl f_limitsF)))))]) [0, 1, 2, 3, 4, 5, 6, 7] (by decide) rfl
          have hFc := va_free (wc := [(x, .inr (7, [.ref x_signs, .int x_length])), (x_signs, .inl (cI, 255, .inl x_signsF)), (f, .inr (2, [.ref f_kinds, .ref f_signs, .ref f_sizes, .ref f_places, .ref f_limits, .ref f_starts, .ref f_sorts, .int f_count, .int f_sections, .int f_fifth])), (f_kinds, .inl (cI, 255, .inl f_kindsF)), (f_signs, .inl (cI, 255, .inl f_signsF)), (f_sizes, .inl (cI, 255, .inl f_sizesF)), (f_places, .inl (cI, 255, .inl f_placesF)), (f_limits, .inl (cD, 255, .inr (.inr (.inr (.inl f_limitsF)))))]) hD hS hA [0, 1, 2, 3, 4, 5, 6, 7] rfl
          refine va_calli (va_runS (As := [.ref x, .ref f, .int p1, .int x_13]) (rest := []) ⟨hx, hb, hml, hown, hts⟩ (c_X8_bad l D cI cD cJ H.size x x_signs x_length x_signsF f f_kinds f_signs f_sizes f_places f_limits f_starts f_sorts f_count f_sections f_fifth f_kindsF f_signsF f_sizesF f_placesF f_limitsF p1 x_13 (by omega) (by assumption) (by omega) (by omega) (by assumption)) (va_cwS 4 hts (goodIn_app (goodIn_r _ [8, 9, 3] rfl (by decide +kernel)) (goodIn_sub i_X8_bad k_X8_bad)) rfl rfl rfl (by decide +kernel) ⟨Nat.le_of_ble_eq_true rfl, Nat.le_of_ble_eq_true rfl⟩) ⟨fun a U g mk q => by obtain ⟨q0, q1, qP, qK, qD⟩ := q; exact ⟨q0, q1, qP, va_K.moved (u := U) (U := U.calling g mk a) (Vm.Alike.refl U.vm) qK, qD⟩, fun U hU hW => ⟨rfl, by rw [hU], by rw [hU]; exact hPc, va_K.moved hW.alike hK, hDc.weaken (fun _ _ _ _ => trivial)⟩⟩ rfl rfl hl.1 rfl (lv_room (Nat.le_of_ble_eq_true rfl)) dX8_letters_45 ⟨Nat.le_of_ble_eq_true rfl, Nat.le_of_ble_eq_true rfl⟩) hS (fun q _ h => hFc q h) hFc (fun x_14 u t H1 locs ht hvm w_15 hB hz1 hk1 hS => ?_)
          obtain ⟨u_16, u_17, u_18, u_19, u_20, u_21⟩ := u
          obtain ⟨hP1, hK1, hD1⟩ := hB
          rw [ht] at hP1
          try dsimp only at w_15
          obtain ⟨hP, hD⟩ := va_join (wr := []) (w1 := [(x, .inr (7, [.ref x_signs, .int x_length])), (x_signs, .inl (cI, 255, .inl x_signsF)), (f, .inr (2, [.ref f_kinds, .ref f_signs, .ref f_sizes, .ref f_places, .ref f_limits, .ref f_starts, .ref f_sorts, .int u_16, .int f_sections, .int f_fifth])), (f_kinds, .inl (cI, 255, .inl u_17)), (f_signs, .inl (cI, 255, .inl u_18)), (f_sizes, .inl (cI, 255, .inl u_19)), (f_places, .inl (cI, 255, .inl u_20)), (f_limits, .inl (cD, 255, .inr (.inr (.inr (.inl u_21)))))]) hP hD [0, 1, 2, 3, 4, 5, 6, 7] [] rfl rfl (by decide) (by decide) hk1 hFc hP1 hD1
          generalize H1 = H at hP hS ⊢
          have hP : va_P D vwCl [(x, .inr (7, [.ref x_signs, .int x_length])), (x_signs, .inl (cI, 255, .inl x_signsF)), (f, .inr (2, [.ref f_kinds, .ref f_signs, .ref f_sizes, .ref f_places, .ref f_limits, .ref f_starts, .ref f_sorts, .int u_16, .int f_sections, .int f_fifth])), (f_kinds, .inl (cI, 255, .inl u_17)), (f_signs, .inl (cI, 255, .inl u_18)), (f_sizes, .inl (cI, 255, .inl u_19)), (f_places, .inl (cI, 255, .inl u_20)), (f_limits, .inl (cD, 255, .inr (.inr (.inr (.inl u_21)))))] H := hP
          have hD : va_D A [(x, .inr (7, [.ref x_signs, .int x_length])), (x_signs, .inl (cI, 255, .inl x_signsF)), (f, .inr (2, [.ref f_kinds, .ref f_signs, .ref f_sizes, .ref f_places, .ref f_limits, .ref f_starts, .ref f_sorts, .int u_16, .int f_sections, .int f_fifth])), (f_kinds, .inl (cI, 255, .inl u_17)), (f_signs, .inl (cI, 255, .inl u_18)), (f_sizes, .inl (cI, 255, .inl u_19)), (f_places, .inl (cI, 255, .inl u_20)), (f_limits, .inl (cD, 255, .inr (.inr (.inr (.inl u_21)))))] := hD
          obtain ⟨w_15_0, w_15_1, w_15_2⟩ := w_15
          have b_x_14 := ti_b x_14
          have hP9 := hP.sub (ws' := [(x, .inr (7, [.ref x_signs, .int x_length])), (x_signs, .inl (cI, 255, .inl x_signsF)), (f, .inr (2, [.ref f_kinds, .ref f_signs, .ref f_sizes, .ref f_places, .ref f_limits, .ref f_starts, .ref f_sorts, .int u_16, .int f_sections, .int f_fifth])), (f_kinds, .inl (cI, 255, .inl u_17)), (f_signs, .inl (cI, 255, .inl u_18)), (f_sizes, .inl (cI, 255, .inl u_19)), (f_places, .inl (cI, 255, .inl u_20)), (f_limits, .inl (cD, 255, .inr (.inr (.inr (.inl u_21)))))]) [0, 1, 2, 3, 4, 5, 6, 7] rfl
          have hD9 := hD.sub (ws' := [(x, .inr (7, [.ref x_signs, .int x_length])), (x_signs, .inl (cI, 255, .inl x_signsF)), (f, .inr (2, [.ref f_kinds, .ref f_signs, .ref f_sizes, .ref f_places, .ref f_limits, .ref f_starts, .ref f_sorts, .int u_16, .int f_sections, .int f_fifth])), (f_kinds, .inl (cI, 255, .inl u_17)), (f_signs, .inl (cI, 255, .inl u_18)), (f_sizes, .inl (cI, 255, .inl u_19)), (f_places, .inl (cI, 255, .inl u_20)), (f_limits, .inl (cD, 255, .inr (.inr (.inr (.inl u_21)))))]) [0, 1, 2, 3, 4, 5, 6, 7] (by decide) rfl
          exact W.iret (v := x_14) hx hb hr (fun t ht hW => ⟨⟨x_14, (u_16, u_17, u_18, u_19, u_20, u_21), rfl, (by (try dsimp only); refine ⟨?_, ?_, ?_⟩ <;> first | omega | assumption), by rw [ht]; exact hP9, va_K.moved hW.alike hK, hD9⟩, hS.F ht⟩) hS.2.2 dX8_letters_48
      refine lv_icmp_ge (tgt := 29) hx hb dX8_letters_8 (by decide) (fun c_22 => ?_) (fun c_22 => ?_)
      · have ic_22 : (255 : Int32).toInt ≤ (x_1 : Int32).toInt := (fa_le 255 x_1).mp c_22
        exact hZ1 (K_29  _ _ _ (by omega) (by omega) hP hD hS hl)
      · have ic_22 : ¬ ((255 : Int32).toInt ≤ (x_1 : Int32).toInt) := fun h9 => c_22 ((fa_le 255 x_1).mpr h9)
        refine lv_aload_n hx hb dX8_letters_11 rfl (lv_at hl 1 rfl) ?_
        refine lv_iload_n hx hb dX8_letters_12 rfl (lv_at hl 3 rfl) ?_
        refine lv_iload hx hb dX8_letters_13 (lv_at hl 0 rfl) ?_
        refine lv_iadd hx hb dX8_letters_15 ?_
        refine lv_topi (fun x_23 ex_23 => ?_)
        have b_p1 := ti_b p1
        have b_x_1 := ti_b x_1
        have tx_23 := ti_add ex_23
        have hPc := hP.sub (ws' := [(x, .inr (7, [.ref x_signs, .int x_length])), (x_signs, .inl (cI, 255, .inl x_signsF))]) [0, 1] rfl
        refine va_calli (va_runV (As := [.int x_23]) (rest := []) ⟨hx, hb, hml, hown, hts⟩ (c_X10_smallAt l D cI cD cJ H.size x x_signs x_length x_signsF x_23 (by omega) (by assumption)) (cwV 1 hts (goodIn_app (goodIn_r _ [10, 11, 12, 13] rfl (by decide +kernel)) (goodIn_sub i_X10_smallAt k_X10_smallAt)) rfl rfl rfl (by decide +kernel) ⟨Nat.le_of_ble_eq_true rfl, Nat.le_of_ble_eq_true rfl⟩) ⟨fun a U g mk q => by obtain ⟨q0, qP, qK⟩ := q; exact ⟨q0, qP, va_K.moved (u := U) (U := U.calling g mk a) (Vm.Alike.refl U.vm) qK⟩, va_recv hK hPc (ci := 7) (q0 := 0) rfl rfl, fun U hU hW => ⟨rfl, by rw [hU]; exact hPc, va_K.moved hW.alike hK⟩⟩ rfl rfl hl.1 rfl (lv_room (Nat.le_of_ble_eq_true rfl)) dX8_letters_16 ⟨Nat.le_of_ble_eq_true rfl, Nat.le_of_ble_eq_true rfl⟩) hS (fun q _ h => h.elim) (fun q h => h.elim) (fun x_24 u t H1 locs ht hvm w_25 hB hz1 hk1 hS => ?_)
        have hP : va_P D vwCl [(x, .inr (7, [.ref x_signs, .int x_length])), (x_signs, .inl (cI, 255, .inl x_signsF)), (f, .inr (2, [.ref f_kinds, .ref f_signs, .ref f_sizes, .ref f_places, .ref f_limits, .ref f_starts, .ref f_sorts, .int f_count, .int f_sections, .int f_fifth])), (f_kinds, .inl (cI, 255, .inl f_kindsF)), (f_signs, .inl (cI, 255, .inl f_signsF)), (f_sizes, .inl (cI, 255, .inl f_sizesF)), (f_places, .inl (cI, 255, .inl f_placesF)), (f_limits, .inl (cD, 255, .inr (.inr (.inr (.inl f_limitsF)))))] H1 := hP.kept (fun k9 q9 h9 => hk1 q9.1 (vx_lt hP h9) (fun h => h))
        generalize H1 = H at hP hS ⊢
        try dsimp only at w_25
        refine lv_iload_n hx hb dX8_letters_19 rfl (lv_at hl 4 rfl) ?_
        refine lv_icmp_ne (tgt := 29) hx hb dX8_letters_20 (by decide) (fun c_26 => ?_) (fun c_26 => ?_)
        · have ic_26 : ¬ ((x_24 : Int32).toInt = (p2 : Int32).toInt) := fun h9 => c_26 ((fa_eq x_24 p2).mpr h9)
          exact hZ1 (K_29  _ _ _ (by omega) (by omega) hP hD hS hl)
        · have ic_26 : (x_24 : Int32).toInt = (p2 : Int32).toInt := (fa_eq x_24 p2).mp c_26
          obtain ⟨x_27, ex_27⟩ : ∃ y : Int32, y = x_1 + 1 := ⟨_, rfl⟩
          have b_x_1 := ti_b x_1
          have tx_27 := ti_add ex_27
          refine lv_iinc (v := x_27) (lv' := [(4, .int x_27), (0, .ref x), (1, .ref f), (2, .int p1), (3, .int p2)]) hx hb dX8_letters_23 hl (k := 0) rfl (by rw [ex_27]; rfl) (by decide) rfl (fun ls hl => ?_)
          refine lv_goto (tgt := 3) hx hb dX8_letters_26 (by decide) ?_
          exact hZ1 (ih_3 x_27 _ _ _ (by omega) (by omega) (by omega) hP hD hS hl)
  exact hZ1 (L_3 (((300 - (0 : Int32).toInt).toNat) + 1) 0 _ _ _ (by omega) (by omega) (by omega) hP hD hS hl)

def ow_X8_divisor : List Cond := [Cond.methodLink RX8 112 yX2_sections, Cond.instanceMethod yX2_sections, Cond.selects RX2 yX2_sections yX2_sections, Cond.initialized RX2, Cond.methodLink RX8 115 yX2_to, Cond.instanceMethod yX2_to, Cond.selects RX2 yX2_to yX2_to, Cond.methodLink RX8 118 yX2_kindIn, Cond.instanceMethod yX2_kindIn, Cond.selects RX2 yX2_kindIn yX2_kindIn, Cond.methodLink RX8 88 yX10_digitsFrom, Cond.instanceMethod yX10_digitsFrom, Cond.selects RX10 yX10_digitsFrom yX10_digitsFrom, Cond.initialized RX10, Cond.methodLink RX8 29 yX10_at, Cond.instanceMethod yX10_at, Cond.selects RX10 yX10_at yX10_at, Cond.methodLink RX8 91 yX10_numberOf, Cond.instanceMethod yX10_numberOf, Cond.selects RX10 yX10_numberOf yX10_numberOf, Cond.methodLink RX8 58 yX2_add, Cond.instanceMethod yX2_add, Cond.selects RX2 yX2_add yX2_add, Cond.methodLink RX8 73 yX8_bad, Cond.static yX8_bad, Cond.initialized RX8]
def pw_X8_divisor : List Cond := Cond.code yX8_divisor cX8_divisor 5 (some .int) :: (ow_X8_divisor ++ (pw_X2_sections ++ (pw_X2_to ++ (pw_X2_kindIn ++ (pw_X10_digitsFrom ++ (pw_X10_at ++ (pw_X10_numberOf ++ (pw_X2_add ++ (pw_X8_bad)))))))))
set_option maxRecDepth 20000 in
theorem mo_X8_divisor : ∀ w ∈ ow_X8_divisor, w ∈ lw_tbl := by decide +kernel
set_option maxRecDepth 20000 in
theorem mc_X8_divisor : Cond.code yX8_divisor cX8_divisor 5 (some .int) ∈ lw_tbl := by decide +kernel
theorem m_X8_divisor : ∀ w ∈ pw_X8_divisor, w ∈ lw_tbl := List.forall_mem_cons.mpr ⟨mc_X8_divisor, (List.forall_mem_append.mpr ⟨mo_X8_divisor, (List.forall_mem_append.mpr ⟨m_X2_sections, (List.forall_mem_append.mpr ⟨m_X2_to, (List.forall_mem_append.mpr ⟨m_X2_kindIn, (List.forall_mem_append.mpr ⟨m_X10_digitsFrom, (List.forall_mem_append.mpr ⟨m_X10_at, (List.forall_mem_append.mpr ⟨m_X10_numberOf, (List.forall_mem_append.mpr ⟨m_X2_add, m_X8_bad⟩)⟩)⟩)⟩)⟩)⟩)⟩)⟩)⟩
theorem ko_X8_divisor : ∀ w ∈ ow_X8_divisor, goodWord w = true := by decide +kernel
theorem k_X8_divisor : pw_X8_divisor.all goodWord = true := List.all_eq_true.mpr (List.forall_mem_cons.mpr ⟨by decide +kernel, (List.forall_mem_append.mpr ⟨ko_X8_divisor, (List.forall_mem_append.mpr ⟨(List.all_eq_true.mp k_X2_sections), (List.forall_mem_append.mpr ⟨(List.all_eq_true.mp k_X2_to), (List.forall_mem_append.mpr ⟨(List.all_eq_true.mp k_X2_kindIn), (List.forall_mem_append.mpr ⟨(List.all_eq_true.mp k_X10_digitsFrom), (List.forall_mem_append.mpr ⟨(List.all_eq_true.mp k_X10_at), (List.forall_mem_append.mpr ⟨(List.all_eq_true.mp k_X10_numberOf), (List.forall_mem_append.mpr ⟨(List.all_eq_true.mp k_X2_add), (List.all_eq_true.mp k_X8_bad)⟩)⟩)⟩)⟩)⟩)⟩)⟩)⟩)⟩)
set_option maxHeartbeats 400000 in
set_option maxRecDepth 100000 in
theorem c_X8_divisor (l : Launch) (D : va_G) (cI cD cJ : ClassId) (sz : Nat) (x : Nat) (x_signs : Nat) (x_length : Int32) (x_signsF : Nat → Int32) (f : Nat) (f_kinds : Nat) (f_signs : Nat) (f_sizes : Nat) (f_places : Nat) (f_limits : Nat) (f_starts : Nat) (f_sorts : Nat) (f_count : Int32) (f_sections : Int32) (f_fifth : Int32) (f_kindsF : Nat → Int32) (f_signsF : Nat → Int32) (f_sizesF : Nat → Int32) (f_placesF : Nat → Int32) (f_limitsF : Nat → UInt64) (f_startsF : Nat → Int32) (p1 : Int32) (ha1 : 0 ≤ p1.toInt) (ha2 : p1.toInt ≤ 300) (iv_x_length : 0 ≤ (x_length : Int32).toInt ∧ (x_length : Int32).toInt ≤ 255) (iv_x_signsF : ∀ k9 : Nat, k9 < 255 → 0 ≤ (x_signsF k9).toInt ∧ (x_signsF k9).toInt ≤ 255) (iv_f_count : 0 ≤ (f_count : Int32).toInt ∧ (f_count : Int32).toInt ≤ 255) (iv_f_sections : 0 ≤ (f_sections : Int32).toInt ∧ (f_sections : Int32).toInt ≤ 4) (iv_f_sizesF : ∀ k9 : Nat, k9 < 255 → (f_sizesF k9).toInt ≤ 100000) (iv_f_startsF : ∀ k9 : Nat, k9 < 4 → 0 ≤ (f_startsF k9).toInt ∧ (f_startsF k9).toInt ≤ 255) : Met l yX8_divisor pw_X8_divisor ({ frames := 3, cells := 0, slots := 0, locals := 65 }) (va_Pc [.ref x, .ref f, .int p1] (fun U => U.heap.size = sz ∧ va_P D vwCl [(x, .inr (7, [.ref x_signs, .int x_length])), (x_signs, .inl (cI, 255, .inl x_signsF)), (f, .inr (2, [.ref f_kinds, .ref f_signs, .ref f_sizes, .ref f_places, .ref f_limits, .ref f_starts, .ref f_sorts, .int f_count, .int f_sections, .int f_fifth])), (f_kinds, .inl (cI, 255, .inl f_kindsF)), (f_signs, .inl (cI, 255, .inl f_signsF)), (f_sizes, .inl (cI, 255, .inl f_sizesF)), (f_places, .inl (cI, 255, .inl f_placesF)), (f_limits, .inl (cD, 255, .inr (.inr (.inr (.inl f_limitsF))))), (f_starts, .inl (cI, 4, .inl f_startsF))] U.heap ∧ va_K D vwCl (ty3 cI cD cJ) U ∧ va_D (fun _ => True) [(x, .inr (7, [.ref x_signs, .int x_length])), (x_signs, .inl (cI, 255, .inl x_signsF)), (f, .inr (2, [.ref f_kinds, .ref f_signs, .ref f_sizes, .ref f_places, .ref f_limits, .ref f_starts, .ref f_sorts, .int f_count, .int f_sections, .int f_fifth])), (f_kinds, .inl (cI, 255, .inl f_kindsF)), (f_signs, .inl (cI, 255, .inl f_signsF)), (f_sizes, .inl (cI, 255, .inl f_sizesF)), (f_places, .inl (cI, 255, .inl f_placesF)), (f_limits, .inl (cD, 255, .inr (.inr (.inr (.inl f_limitsF))))), (f_starts, .inl (cI, 4, .inl f_startsF))])) (va_Qi (fun (r : Int32) (u : Int32 × (Nat → Int32) × (Nat → Int32) × (Nat → Int32) × (Nat → Int32) × (Nat → UInt64)) => match u with | (f_count2, f_kindsF2, f_signsF2, f_sizesF2, f_placesF2, f_limitsF2) => (0 ≤ r.toInt ∧ r.toInt ≤ 1000) ∧ (0 ≤ (f_count2 : Int32).toInt ∧ (f_count2 : Int32).toInt ≤ 255) ∧ (∀ k9 : Nat, k9 < 255 → (f_sizesF2 k9).toInt ≤ 100000)) (fun (u : Int32 × (Nat → Int32) × (Nat → Int32) × (Nat → Int32) × (Nat → Int32) × (Nat → UInt64)) (t : State) => match u with | (f_count2, f_kindsF2, f_signsF2, f_sizesF2, f_placesF2, f_limitsF2) => va_P D vwCl [(x, .inr (7, [.ref x_signs, .int x_length])), (x_signs, .inl (cI, 255, .inl x_signsF)), (f, .inr (2, [.ref f_kinds, .ref f_signs, .ref f_sizes, .ref f_places, .ref f_limits, .ref f_starts, .ref f_sorts, .int f_count2, .int f_sections, .int f_fifth])), (f_kinds, .inl (cI, 255, .inl f_kindsF2)), (f_signs, .inl (cI, 255, .inl f_signsF2)), (f_sizes, .inl (cI, 255, .inl f_sizesF2)), (f_places, .inl (cI, 255, .inl f_placesF2)), (f_limits, .inl (cD, 255, .inr (.inr (.inr (.inl f_limitsF2))))), (f_starts, .inl (cI, 4, .inl f_startsF))] t.heap ∧ va_K D vwCl (ty3 cI cD cJ) t ∧ va_D (va_A [(x, .inr (7, [.ref x_signs, .int x_length])), (x_signs, .inl (cI, 255, .inl x_signsF)), (f, .inr (2, [.ref f_kinds, .ref f_signs, .ref f_sizes, .ref f_places, .ref f_limits, .ref f_starts, .ref f_sorts, .int f_count, .int f_sections, .int f_fifth])), (f_kinds, .inl (cI, 255, .inl f_kindsF)), (f_signs, .inl (cI, 255, .inl f_signsF)), (f_sizes, .inl (cI, 255, .inl f_sizesF)), (f_places, .inl (cI, 255, .inl f_placesF)), (f_limits, .inl (cD, 255, .inr (.inr (.inr (.inl f_limitsF))))), (f_starts, .inl (cI, 4, .inl f_startsF))] sz) [(x, .inr (7, [.ref x_signs, .int x_length])), (x_signs, .inl (cI, 255, .inl x_signsF)), (f, .inr (2, [.ref f_kinds, .ref f_signs, .ref f_sizes, .ref f_places, .ref f_limits, .ref f_starts, .ref f_sorts, .int f_count2, .int f_sections, .int f_fifth])), (f_kinds, .inl (cI, 255, .inl f_kindsF2)), (f_signs, .inl (cI, 255, .inl f_signsF2)), (f_sizes, .inl (cI, 255, .inl f_sizesF2)), (f_places, .inl (cI, 255, .inl f_placesF2)), (f_limits, .inl (cD, 255, .inr (.inr (.inr (.inl f_limitsF2))))), (f_starts, .inl (cI, 4, .inl f_startsF))]) (va_A [(x, .inr (7, [.ref x_signs, .int x_length])), (x_signs, .inl (cI, 255, .inl x_signsF)), (f, .inr (2, [.ref f_kinds, .ref f_signs, .ref f_sizes, .ref f_places, .ref f_limits, .ref f_starts, .ref f_sorts, .int f_count, .int f_sections, .int f_fifth])), (f_kinds, .inl (cI, 255, .inl f_kindsF)), (f_signs, .inl (cI, 255, .inl f_signsF)), (f_sizes, .inl (cI, 255, .inl f_sizesF)), (f_places, .inl (cI, 255, .inl f_placesF)), (f_limits, .inl (cD, 255, .inr (.inr (.inr (.inl f_limitsF))))), (f_starts, .inl (cI, 4, .inl f_startsF))] sz)) 0 0 (va_A [(x, .inr (7, [.ref x_signs, .int x_length])), (x_signs, .inl (cI, 255, .inl x_signsF)), (f, .inr (2, [.ref f_kinds, .ref f_signs, .ref f_sizes, .ref f_places, .ref f_limits, .ref f_starts, .ref f_sorts, .int f_count, .int f_sections, .int f_fifth])), (f_kinds, .inl (cI, 255, .inl f_kindsF)), (f_signs, .inl (cI, 255, .inl f_signsF)), (f_sizes, .inl (cI, 255, .inl f_sizesF)), (f_places, .inl (cI, 255, .inl f_placesF)), (f_limits, .inl (cD, 255, .inr (.inr (.inr (.inl f_limitsF))))), (f_starts, .inl (cI, 4, .inl f_startsF))] sz) := by
  refine Met.ofW (cc := cX8_divisor) (maxL := 5) (ret := (some .int)) (by decide +kernel) rfl ?_
  intro p e s m args below meth c s₁ B hml hv
  obtain ⟨rfl, hsz, hP, hK, hD0⟩ := hv
  have hx := B.exec
  have hb := B.bytes
  have hr := B.returns
  have hts := atoms_spec (ws := pw_X8_divisor) B.pre
  have hown : s.vm.findClass RX8 = some m.cls := findClass_of_methodNamed B.named
  have hlocks := B.notSynchronized
  subst hsz
  have hD := hD0.self (sz := s.heap.size)
  generalize hAe : va_A [(x, .inr (7, [.ref x_signs, .int x_length])), (x_signs, .inl (cI, 255, .inl x_signsF)), (f, .inr (2, [.ref f_kinds, .ref f_signs, .ref f_sizes, .ref f_places, .ref f_limits, .ref f_starts, .ref f_sorts, .int f_count, .int f_sections, .int f_fifth])), (f_kinds, .inl (cI, 255, .inl f_kindsF)), (f_signs, .inl (cI, 255, .inl f_signsF)), (f_sizes, .inl (cI, 255, .inl f_sizesF)), (f_places, .inl (cI, 255, .inl f_placesF)), (f_limits, .inl (cD, 255, .inr (.inr (.inr (.inl f_limitsF))))), (f_starts, .inl (cI, 4, .inl f_startsF))] s.heap.size = A at hD ⊢
  have hA : ∀ q : Nat, s.heap.size ≤ q → A q := fun q h => by rw [← hAe]; exact Or.inr h
  have hS : va_S A s.heap s.heap [] := va_S.rf
  have hw : ∀ (k : Nat) (w : Cond), ow_X8_divisor[k]? = some w → w.before _ s = true := fun k w h => hts w (List.mem_cons_of_mem _ (have h9 := List.mem_of_getElem? h; List.mem_append_left _ h9))
  have i_X2_sections : ∀ w ∈ pw_X2_sections, w ∈ pw_X8_divisor := fun w h9 => List.mem_cons_of_mem _ (List.mem_append_right _ (List.mem_append_left _ h9))
  have i_X2_to : ∀ w ∈ pw_X2_to, w ∈ pw_X8_divisor := fun w h9 => List.mem_cons_of_mem _ (List.mem_append_right _ (List.mem_append_right _ (List.mem_append_left _ h9)))
  have i_X2_kindIn : ∀ w ∈ pw_X2_kindIn, w ∈ pw_X8_divisor := fun w h9 => List.mem_cons_of_mem _ (List.mem_append_right _ (List.mem_append_right _ (List.mem_append_right _ (List.mem_append_left _ h9))))
  have i_X10_digitsFrom : ∀ w ∈ pw_X10_digitsFrom, w ∈ pw_X8_divisor := fun w h9 => List.mem_cons_of_mem _ (List.mem_append_right _ (List.mem_append_right _ (List.mem_append_right _ (List.mem_append_right _ (List.mem_append_left _ h9)))))
  have i_X10_at : ∀ w ∈ pw_X10_at, w ∈ pw_X8_divisor := fun w h9 => List.mem_cons_of_mem _ (List.mem_append_right _ (List.mem_append_right _ (List.mem_append_right _ (List.mem_append_right _ (List.mem_append_right _ (List.mem_append_left _ h9))))))
  have i_X10_numberOf : ∀ w ∈ pw_X10_numberOf, w ∈ pw_X8_divisor := fun w h9 => List.mem_cons_of_mem _ (List.mem_append_right _ (List.mem_append_right _ (List.mem_append_right _ (List.mem_append_right _ (List.mem_append_right _ (List.mem_append_right _ (List.mem_append_left _ h9)))))))
  have i_X2_add : ∀ w ∈ pw_X2_add, w ∈ pw_X8_divisor := fun w h9 => List.mem_cons_of_mem _ (List.mem_append_right _ (List.mem_append_right _ (List.mem_append_right _ (List.mem_append_right _ (List.mem_append_right _ (List.mem_append_right _ (List.mem_append_right _ (List.mem_append_left _ h9))))))))
  have i_X8_bad : ∀ w ∈ pw_X8_bad, w ∈ pw_X8_divisor := fun w h9 => List.mem_cons_of_mem _ (List.mem_append_right _ (List.mem_append_right _ (List.mem_append_right _ (List.mem_append_right _ (List.mem_append_right _ (List.mem_append_right _ (List.mem_append_right _ (List.mem_append_right _ (h9)))))))))
  have n_1 : ((1 : Int32)).toInt = 1 := by decide
  have n_14 : ((14 : Int32)).toInt = 14 := by decide
  have n_3 : ((3 : Int32)).toInt = 3 := by decide
  have n_8 : ((8 : Int32)).toInt = 8 := by decide
  have hl := lv_entry ([.ref x, .ref f, .int p1]) (n := 5) (Nat.le_of_ble_eq_true rfl)
  rw [lg_entry_eq]
  generalize (lg_sl ([.ref x, .ref f, .int p1]) ++ List.replicate (5 - (lg_sl ([.ref x, .ref f, .int p1])).length) Slot.unset).toArray = ls at hl ⊢
  have hl : lv_has ls 5 [(0, .ref x), (1, .ref f), (2, .int p1)] := hl
  have b_p1 := ti_b p1
  refine lv_aload_n hx hb dX8_divisor_0 rfl (lv_at hl 1 rfl) ?_
  refine lv_aload_n hx hb dX8_divisor_1 rfl (lv_at hl 1 rfl) ?_
  have hPc := hP.sub (ws' := [(f, .inr (2, [.ref f_kinds, .ref f_signs, .ref f_sizes, .ref f_places, .ref f_limits, .ref f_starts, .ref f_sorts, .int f_count, .int f_sections, .int f_fifth]))]) [2] rfl
  refine va_calli (va_runV (As := []) (rest := [.ref f]) ⟨hx, hb, hml, hown, hts⟩ (c_X2_sections l D cI cD cJ s.heap.size f f_kinds f_signs f_sizes f_places f_limits f_starts f_sorts f_count f_sections f_fifth (by omega) (by omega)) (cwV 0 hts (goodIn_app (goodIn_r _ [1, 2, 3, 4] rfl (by decide +kernel)) (goodIn_sub i_X2_sections k_X2_sections)) rfl rfl rfl (by decide +kernel) ⟨Nat.le_of_ble_eq_true rfl, Nat.le_of_ble_eq_true rfl⟩) ⟨fun a U g mk q => by obtain ⟨q0, qP, qK⟩ := q; exact ⟨q0, qP, va_K.moved (u := U) (U := U.calling g mk a) (Vm.Alike.refl U.vm) qK⟩, va_recv hK hPc (ci := 2) (q0 := 0) rfl rfl, fun U hU hW => ⟨rfl, by rw [hU]; exact hPc, va_K.moved hW.alike hK⟩⟩ rfl rfl hl.1 rfl (lv_room (Nat.le_of_ble_eq_true rfl)) dX8_divisor_2 ⟨Nat.le_of_ble_eq_true rfl, Nat.le_of_ble_eq_true rfl⟩) hS (fun q _ h => h.elim) (fun q h => h.elim) (fun x_1 u t H1 locs ht hvm w_2 hB hz1 hk1 hS => ?_)
  have hP : va_P D vwCl [(x, .inr (7, [.ref x_signs, .int x_length])), (x_signs, .inl (cI, 255, .inl x_signsF)), (f, .inr (2, [.ref f_kinds, .ref f_signs, .ref f_sizes, .ref f_places, .ref f_limits, .ref f_starts, .ref f_sorts, .int f_count, .int f_sections, .int f_fifth])), (f_kinds, .inl (cI, 255, .inl f_kindsF)), (f_signs, .inl (cI, 255, .inl f_signsF)), (f_sizes, .inl (cI, 255, .inl f_sizesF)), (f_places, .inl (cI, 255, .inl f_placesF)), (f_limits, .inl (cD, 255, .inr (.inr (.inr (.inl f_limitsF))))), (f_starts, .inl (cI, 4, .inl f_startsF))] H1 := hP.kept (fun k9 q9 h9 => hk1 q9.1 (vx_lt hP h9) (fun h => h))
  generalize H1 = H at hP hS ⊢
  try dsimp only at w_2
  refine lv_iconst (v := 1) hx hb dX8_divisor_5 (by decide) ?_
  refine lv_isub hx hb dX8_divisor_6 ?_
  refine lv_topi (fun x_3 ex_3 => ?_)
  have b_x_1 := ti_b x_1
  have tx_3 := ti_sub ex_3
  have hPc := hP.sub (ws' := [(f, .inr (2, [.ref f_kinds, .ref f_signs, .ref f_sizes, .ref f_places, .ref f_limits, .ref f_starts, .ref f_sorts, .int f_count, .int f_sections, .int f_fifth])), (f_starts, .inl (cI, 4, .inl f_startsF))]) [2, 8] rfl
  refine va_calli (va_runV (As := [.int x_3]) (rest := []) ⟨hx, hb, hml, hown, hts⟩ (c_X2_to l D cI cD cJ H.size f f_kinds f_signs f_sizes f_places f_limits f_starts f_sorts f_count f_sections f_fifth f_startsF x_3 (by omega) (by omega) (by omega) (by assumption)) (cwV 1 hts (goodIn_app (goodIn_r _ [5, 6, 7, 4] rfl (by decide +kernel)) (goodIn_sub i_X2_to k_X2_to)) rfl rfl rfl (by decide +kernel) ⟨Nat.le_of_ble_eq_true rfl, Nat.le_of_ble_eq_true rfl⟩) ⟨fun a U g mk q => by obtain ⟨q0, qP, qK⟩ := q; exact ⟨q0, qP, va_K.moved (u := U) (U := U.calling g mk a) (Vm.Alike.refl U.vm) qK⟩, va_recv hK hPc (ci := 2) (q0 := 0) rfl rfl, fun U hU hW => ⟨rfl, by rw [hU]; exact hPc, va_K.moved hW.alike hK⟩⟩ rfl rfl hl.1 rfl (lv_room (Nat.le_of_ble_eq_true rfl)) dX8_divisor_7 ⟨Nat.le_of_ble_eq_true rfl, Nat.le_of_ble_eq_true rfl⟩) hS (fun q _ h => h.elim) (fun q h => h.elim) (fun x_4 u t H1 locs ht hvm w_5 hB hz1 hk1 hS => ?_)
  have hP : va_P D vwCl [(x, .inr (7, [.ref x_signs, .int x_length])), (x_signs, .inl (cI, 255, .inl x_signsF)), (f, .inr (2, [.ref f_kinds, .ref f_signs, .ref f_sizes, .ref f_places, .ref f_limits, .ref f_starts, .ref f_sorts, .int f_count, .int f_sections, .int f_fifth])), (f_kinds, .inl (cI, 255, .inl f_kindsF)), (f_signs, .inl (cI, 255, .inl f_signsF)), (f_sizes, .inl (cI, 255, .inl f_sizesF)), (f_places, .inl (cI, 255, .inl f_placesF)), (f_limits, .inl (cD, 255, .inr (.inr (.inr (.inl f_limitsF))))), (f_starts, .inl (cI, 4, .inl f_startsF))] H1 := hP.kept (fun k9 q9 h9 => hk1 q9.1 (vx_lt hP h9) (fun h => h))
  generalize H1 = H at hP hS ⊢
  try dsimp only at w_5
  refine lv_iconst (v := 1) hx hb dX8_divisor_10 (by decide) ?_
  refine lv_isub hx hb dX8_divisor_11 ?_
  refine lv_topi (fun x_6 ex_6 => ?_)
  have b_x_4 := ti_b x_4
  have tx_6 := ti_sub ex_6
  refine lv_istore_n (lv' := [(3, .int x_6), (0, .ref x), (1, .ref f), (2, .int p1)]) hx hb dX8_divisor_12 rfl hl (by decide) rfl (fun ls hl => ?_)
  refine lv_aload_n hx hb dX8_divisor_13 rfl (lv_at hl 2 rfl) ?_
  refine lv_aload_n hx hb dX8_divisor_14 rfl (lv_at hl 2 rfl) ?_
  have hPc := hP.sub (ws' := [(f, .inr (2, [.ref f_kinds, .ref f_signs, .ref f_sizes, .ref f_places, .ref f_limits, .ref f_starts, .ref f_sorts, .int f_count, .int f_sections, .int f_fifth]))]) [2] rfl
  refine va_calli (va_runV (As := []) (rest := [.ref f]) ⟨hx, hb, hml, hown, hts⟩ (c_X2_sections l D cI cD cJ H.size f f_kinds f_signs f_sizes f_places f_limits f_starts f_sorts f_count f_sections f_fifth (by omega) (by omega)) (cwV 0 hts (goodIn_app (goodIn_r _ [1, 2, 3, 4] rfl (by decide +kernel)) (goodIn_sub i_X2_sections k_X2_sections)) rfl rfl rfl (by decide +kernel) ⟨Nat.le_of_ble_eq_true rfl, Nat.le_of_ble_eq_true rfl⟩) ⟨fun a U g mk q => by obtain ⟨q0, qP, qK⟩ := q; exact ⟨q0, qP, va_K.moved (u := U) (U := U.calling g mk a) (Vm.Alike.refl U.vm) qK⟩, va_recv hK hPc (ci := 2) (q0 := 0) rfl rfl, fun U hU hW => ⟨rfl, by rw [hU]; exact hPc, va_K.moved hW.alike hK⟩⟩ rfl rfl hl.1 rfl (lv_room (Nat.le_of_ble_eq_true rfl)) dX8_divisor_15 ⟨Nat.le_of_ble_eq_true rfl, Nat.le_of_ble_eq_true rfl⟩) hS (fun q _ h => h.elim) (fun q h => h.elim) (fun x_7 u t H1 locs ht hvm w_8 hB hz1 hk1 hS => ?_)
  have hP : va_P D vwCl [(x, .inr (7, [.ref x_signs, .int x_length])), (x_signs, .inl (cI, 255, .inl x_signsF)), (f, .inr (2, [.ref f_kinds, .ref f_signs, .ref f_sizes, .ref f_places, .ref f_limits, .ref f_starts, .ref f_sorts, .int f_count, .int f_sections, .int f_fifth])), (f_kinds, .inl (cI, 255, .inl f_kindsF)), (f_signs, .inl (cI, 255, .inl f_signsF)), (f_sizes, .inl (cI, 255, .inl f_sizesF)), (f_places, .inl (cI, 255, .inl f_placesF)), (f_limits, .inl (cD, 255, .inr (.inr (.inr (.inl f_limitsF))))), (f_starts, .inl (cI, 4, .inl f_startsF))] H1 := hP.kept (fun k9 q9 h9 => hk1 q9.1 (vx_lt hP h9) (fun h => h))
  generalize H1 = H at hP hS ⊢
  try dsimp only at w_8
  refine lv_iconst (v := 1) hx hb dX8_divisor_18 (by decide) ?_
  refine lv_isub hx hb dX8_divisor_19 ?_
  refine lv_topi (fun x_9 ex_9 => ?_)
  have b_x_7 := ti_b x_7
  have tx_9 := ti_sub ex_9
  refine lv_iload_n hx hb dX8_divisor_20 rfl (lv_at hl 0 rfl) ?_
  have hPc := hP.sub (ws' := [(f, .inr (2, [.ref f_kinds, .ref f_signs, .ref f_sizes, .ref f_places, .ref f_limits, .ref f_starts, .ref f_sorts, .int f_count, .int f_sections, .int f_fifth])), (f_kinds, .inl (cI, 255, .inl f_kindsF)), (f_starts, .inl (cI, 4, .inl f_startsF))]) [2, 3, 8] rfl
  refine va_calli (va_runV (As := [.int x_9, .int x_6]) (rest := []) ⟨hx, hb, hml, hown, hts⟩ (c_X2_kindIn l D cI cD cJ H.size f f_kinds f_signs f_sizes f_places f_limits f_starts f_sorts f_count f_sections f_fifth f_kindsF f_startsF x_9 x_6 (by omega) (by omega) (by omega) (by assumption)) (cwV 2 hts (goodIn_app (goodIn_r _ [8, 9, 10, 4] rfl (by decide +kernel)) (goodIn_sub i_X2_kindIn k_X2_kindIn)) rfl rfl rfl (by decide +kernel) ⟨Nat.le_of_ble_eq_true rfl, Nat.le_of_ble_eq_true rfl⟩) ⟨fun a U g mk q => by obtain ⟨q0, qP, qK⟩ := q; exact ⟨q0, qP, va_K.moved (u := U) (U := U.calling g mk a) (Vm.Alike.refl U.vm) qK⟩, va_recv hK hPc (ci := 2) (q0 := 0) rfl rfl, fun U hU hW => ⟨rfl, by rw [hU]; exact hPc, va_K.moved hW.alike hK⟩⟩ rfl rfl hl.1 rfl (lv_room (Nat.le_of_ble_eq_true rfl)) dX8_divisor_21 ⟨Nat.le_of_ble_eq_true rfl, Nat.le_of_ble_eq_true rfl⟩) hS (fun q _ h => h.elim) (fun q h => h.elim) (fun x_10 u t H1 locs ht hvm w_11 hB hz1 hk1 hS => ?_)
  have hP : va_P D vwCl [(x, .inr (7, [.ref x_signs, .int x_length])), (x_signs, .inl (cI, 255, .inl x_signsF)), (f, .inr (2, [.ref f_kinds, .ref f_signs, .ref f_sizes, .ref f_places, .ref f_limits, .ref f_starts, .ref f_sorts, .int f_count, .int f_sections, .int f_fifth])), (f_kinds, .inl (cI, 255, .inl f_kindsF)), (f_signs, .inl (cI, 255, .inl f_signsF)), (f_sizes, .inl (cI, 255, .inl f_sizesF)), (f_places, .inl (cI, 255, .inl f_placesF)), (f_limits, .inl (cD, 255, .inr (.inr (.inr (.inl f_limitsF))))), (f_starts, .inl (cI, 4, .inl f_startsF))] H1 := hP.kept (fun k9 q9 h9 => hk1 q9.1 (vx_lt hP h9) (fun h => h))
  generalize H1 = H at hP hS ⊢
  have b_x_10 := ti_b x_10
  refine lv_bipush (v := 8) hx hb dX8_divisor_24 (by decide) ?_
  refine lv_icmp_eq (tgt := 39) hx hb dX8_divisor_26 (by decide) (fun c_12 => ?_) (fun c_12 => ?_)
  · have ic_12 : (x_10 : Int32).toInt = (8 : Int32).toInt := (fa_eq x_10 8).mp c_12
    refine lv_aload_n hx hb dX8_divisor_39 rfl (lv_at hl 1 rfl) ?_
    refine lv_iload_n hx hb dX8_divisor_40 rfl (lv_at hl 3 rfl) ?_
    refine lv_iconst (v := 3) hx hb dX8_divisor_41 (by decide) ?_
    have hPc := hP.sub (ws' := [(x, .inr (7, [.ref x_signs, .int x_length])), (x_signs, .inl (cI, 255, .inl x_signsF))]) [0, 1] rfl
    refine va_calli (va_runV (As := [.int p1, .int 3]) (rest := []) ⟨hx, hb, hml, hown, hts⟩ (c_X10_digitsFrom l D cI cD cJ H.size x x_signs x_length x_signsF p1 3 (by omega) (by assumption)) (cwV 2 hts (goodIn_app (goodIn_r _ [11, 12, 13, 14] rfl (by decide +kernel)) (goodIn_sub i_X10_digitsFrom k_X10_digitsFrom)) rfl rfl rfl (by decide +kernel) ⟨Nat.le_of_ble_eq_true rfl, Nat.le_of_ble_eq_true rfl⟩) ⟨fun a U g mk q => by obtain ⟨q0, qP, qK⟩ := q; exact ⟨q0, qP, va_K.moved (u := U) (U := U.calling g mk a) (Vm.Alike.refl U.vm) qK⟩, va_recv hK hPc (ci := 7) (q0 := 0) rfl rfl, fun U hU hW => ⟨rfl, by rw [hU]; exact hPc, va_K.moved hW.alike hK⟩⟩ rfl rfl hl.1 rfl (lv_room (Nat.le_of_ble_eq_true rfl)) dX8_divisor_42 ⟨Nat.le_of_ble_eq_true rfl, Nat.le_of_ble_eq_true rfl⟩) hS (fun q _ h => h.elim) (fun q h => h.elim) (fun x_13 u t H1 locs ht hvm w_14 hB hz1 hk1 hS => ?_)
    have hP : va_P D vwCl [(x, .inr (7, [.ref x_signs, .int x_length])), (x_signs, .inl (cI, 255, .inl x_signsF)), (f, .inr (2, [.ref f_kinds, .ref f_signs, .ref f_sizes, .ref f_places, .ref f_limits, .ref f_starts, .ref f_sorts, .int f_count, .int f_sections, .int f_fifth])), (f_kinds, .inl (cI, 255, .inl f_kindsF)), (f_signs, .inl (cI, 255, .inl f_signsF)), (f_sizes, .inl (cI, 255, .inl f_sizesF)), (f_places, .inl (cI, 255, .inl f_placesF)), (f_limits, .inl (cD, 255, .inr (.inr (.inr (.inl f_limitsF))))), (f_starts, .inl (cI, 4, .inl f_startsF))] H1 := hP.kept (fun k9 q9 h9 => hk1 q9.1 (vx_lt hP h9) (fun h => h))
    generalize H1 = H at hP hS ⊢
    try dsimp only at w_14
    have b_x_13 := ti_b x_13
    refine lv_istore (lv' := [(4, .int x_13), (3, .int x_6), (0, .ref x), (1, .ref f), (2, .int p1)]) hx hb dX8_divisor_45 hl (by decide) rfl (fun ls hl => ?_)
    refine lv_aload_n hx hb dX8_divisor_47 rfl (lv_at hl 3 rfl) ?_
    refine lv_bipush (v := 14) hx hb dX8_divisor_48 (by decide) ?_
    refine lv_aload_n hx hb dX8_divisor_50 rfl (lv_at hl 2 rfl) ?_
    refine lv_iload_n hx hb dX8_divisor_51 rfl (lv_at hl 4 rfl) ?_
    have hPc := hP.sub (ws' := [(x, .inr (7, [.ref x_signs, .int x_length])), (x_signs, .inl (cI, 255, .inl x_signsF))]) [0, 1] rfl
    refine va_calli (va_runV (As := [.int p1]) (rest := [.int 14, .ref f]) ⟨hx, hb, hml, hown, hts⟩ (c_X10_at l D cI cD cJ H.size x x_signs x_length x_signsF p1 (by omega) (by assumption)) (cwV 1 hts (goodIn_app (goodIn_r _ [15, 16, 17, 14] rfl (by decide +kernel)) (goodIn_sub i_X10_at k_X10_at)) rfl rfl rfl (by decide +kernel) ⟨Nat.le_of_ble_eq_true rfl, Nat.le_of_ble_eq_true rfl⟩) ⟨fun a U g mk q => by obtain ⟨q0, qP, qK⟩ := q; exact ⟨q0, qP, va_K.moved (u := U) (U := U.calling g mk a) (Vm.Alike.refl U.vm) qK⟩, va_recv hK hPc (ci := 7) (q0 := 0) rfl rfl, fun U hU hW => ⟨rfl, by rw [hU]; exact hPc, va_K.moved hW.alike hK⟩⟩ rfl rfl hl.1 rfl (lv_room (Nat.le_of_ble_eq_true rfl)) dX8_divisor_52 ⟨Nat.le_of_ble_eq_true rfl, Nat.le_of_ble_eq_true rfl⟩) hS (fun q _ h => h.elim) (fun q h => h.elim) (fun x_15 u t H1 locs ht hvm w_16 hB hz1 hk1 hS => ?_)
    have hP : va_P D vwCl [(x, .inr (7, [.ref x_signs, .int x_length])), (x_signs, .inl (cI, 255, .inl x_signsF)), (f, .inr (2, [.ref f_kinds, .ref f_signs, .ref f_sizes, .ref f_places, .ref f_limits, .ref f_starts, .ref f_sorts, .int f_count, .int f_sections, .int f_fifth])), (f_kinds, .inl (cI, 255, .inl f_kindsF)), (f_signs, .inl (cI, 255, .inl f_signsF)), (f_sizes, .inl (cI, 255, .inl f_sizesF)), (f_places, .inl (cI, 255, .inl f_placesF)), (f_limits, .inl (cD, 255, .inr (.inr (.inr (.inl f_limitsF))))), (f_starts, .inl (cI, 4, .inl f_startsF))] H1 := hP.kept (fun k9 q9 h9 => hk1 q9.1 (vx_lt hP h9) (fun h => h))
    generalize H1 = H at hP hS ⊢
    try dsimp only at w_16
    refine lv_aload_n hx hb dX8_divisor_55 rfl (lv_at hl 2 rfl) ?_
    refine lv_iload_n hx hb dX8_divisor_56 rfl (lv_at hl 4 rfl) ?_
    refine lv_iload hx hb dX8_divisor_57 (lv_at hl 0 rfl) ?_
    have hPc := hP.sub (ws' := [(x, .inr (7, [.ref x_signs, .int x_length])), (x_signs, .inl (cI, 255, .inl x_signsF))]) [0, 1] rfl
    refine va_calli (va_runV (As := [.int p1, .int x_13]) (rest := [.int x_15, .int 14, .ref f]) ⟨hx, hb, hml, hown, hts⟩ (c_X10_numberOf l D cI cD cJ H.size x x_signs x_length x_signsF p1 x_13 (by omega) (by omega) (by omega) (by omega) (by omega) (by assumption)) (cwV 2 hts (goodIn_app (goodIn_r _ [18, 19, 20, 14] rfl (by decide +kernel)) (goodIn_sub i_X10_numberOf k_X10_numberOf)) rfl rfl rfl (by decide +kernel) ⟨Nat.le_of_ble_eq_true rfl, Nat.le_of_ble_eq_true rfl⟩) ⟨fun a U g mk q => by obtain ⟨q0, qP, qK⟩ := q; exact ⟨q0, qP, va_K.moved (u := U) (U := U.calling g mk a) (Vm.Alike.refl U.vm) qK⟩, va_recv hK hPc (ci := 7) (q0 := 0) rfl rfl, fun U hU hW => ⟨rfl, by rw [hU]; exact hPc, va_K.moved hW.alike hK⟩⟩ rfl rfl hl.1 rfl (lv_room (Nat.le_of_ble_eq_true rfl)) dX8_divisor_59 ⟨Nat.le_of_ble_eq_true rfl, Nat.le_of_ble_eq_true rfl⟩) hS (fun q _ h => h.elim) (fun q h => h.elim) (fun x_17 u t H1 locs ht hvm w_18 hB hz1 hk1 hS => ?_)
    have hP : va_P D vwCl [(x, .inr (7, [.ref x_signs, .int x_length])), (x_signs, .inl (cI, 255, .inl x_signsF)), (f, .inr (2, [.ref f_kinds, .ref f_signs, .ref f_sizes, .ref f_places, .ref f_limits, .ref f_starts, .ref f_sorts, .int f_count, .int f_sections, .int f_fifth])), (f_kinds, .inl (cI, 255, .inl f_kindsF)), (f_signs, .inl (cI, 255, .inl f_signsF)), (f_sizes, .inl (cI, 255, .inl f_sizesF)), (f_places, .inl (cI, 255, .inl f_placesF)), (f_limits, .inl (cD, 255, .inr (.inr (.inr (.inl f_limitsF))))), (f_starts, .inl (cI, 4, .inl f_startsF))] H1 := hP.kept (fun k9 q9 h9 => hk1 q9.1 (vx_lt hP h9) (fun h => h))
    generalize H1 = H at hP hS ⊢
    try dsimp only at w_18
    have b_x_17 := ti_b x_17
    refine lv_iload_n hx hb dX8_divisor_62 rfl (lv_at hl 4 rfl) ?_
    have hPc := hP.sub (ws' := [(f, .inr (2, [.ref f_kinds, .ref f_signs, .ref f_sizes, .ref f_places, .ref f_limits, .ref f_starts, .ref f_sorts, .int f_count, .int f_sections, .int f_fifth])), (f_kinds, .inl (cI, 255, .inl f_kindsF)), (f_signs, .inl (cI, 255, .inl f_signsF)), (f_sizes, .inl (cI, 255, .inl f_sizesF)), (f_places, .inl (cI, 255, .inl f_placesF)), (f_limits, .inl (cD, 255, .inr (.inr (.inr (.inl f_limitsF)))))]) [2, 3, 4, 5, 6, 7] rfl
    have hDc := hD.sub (ws' := [(f, .inr (2, [.ref f_kinds, .ref f_signs, .ref f_sizes, .ref f_places, .ref f_limits, .ref f_starts, .ref f_sorts, .int f_count, .int f_sections, .int f_fifth])), (f_kinds, .inl (cI, 255, .inl f_kindsF)), (f_signs, .inl (cI, 255, .inl f_signsF)), (f_sizes, .inl (cI, 255, .inl f_sizesF)), (f_places, .inl (cI, 255, .inl f_placesF)), (f_limits, .inl (cD, 255, .inr (.inr (.inr (.inl f_limitsF)))))]) [2, 3, 4, 5, 6, 7] (by decide) rfl
    have hFc := va_free (wc := [(f, .inr (2, [.ref f_kinds, .ref f_signs, .ref f_sizes, .ref f_places, .ref f_limits, .ref f_starts, .ref f_sorts, .int f_count, .int f_sections, .int f_fifth])), (f_kinds, .inl (cI, 255, .inl f_kindsF)), (f_signs, .inl (cI, 255, .inl f_signsF)), (f_sizes, .inl (cI, 255, .inl f_sizesF)), (f_places, .inl (cI, 255, .inl f_placesF)), (f_limits, .inl (cD, 255, .inr (.inr (.inr (.inl f_limitsF)))))]) hD hS hA [2, 3, 4, 5, 6, 7] rfl
    refine va_callv (va_runV (As := [.int 14, .int x_15, .int x_17, .int p1]) (rest := []) ⟨hx, hb, hml, hown, hts⟩ (c_X2_add l D cI cD cJ H.size f f_kinds f_signs f_sizes f_places f_limits f_starts f_sorts f_count f_sections f_fifth f_kindsF f_signsF f_sizesF f_placesF f_limitsF 14 x_15 x_17 p1 (by omega) (by omega) (by omega) (by assumption)) (cwV 4 hts (goodIn_app (goodIn_r _ [21, 22, 23, 4] rfl (by decide +kernel)) (goodIn_sub i_X2_add k_X2_add)) rfl rfl rfl (by decide +kernel) ⟨Nat.le_of_ble_eq_true rfl, Nat.le_of_ble_eq_true rfl⟩) ⟨fun a U g mk q => by obtain ⟨q0, q1, qP, qK, qD⟩ := q; exact ⟨q0, q1, qP, va_K.moved (u := U) (U := U.calling g mk a) (Vm.Alike.refl U.vm) qK, qD⟩, va_recv hK hPc (ci := 2) (q0 := 0) rfl rfl, fun U hU hW => ⟨rfl, by rw [hU], by rw [hU]; exact hPc, va_K.moved hW.alike hK, hDc.weaken (fun _ _ _ _ => trivial)⟩⟩ rfl rfl hl.1 rfl (lv_room (Nat.le_of_ble_eq_true rfl)) dX8_divisor_63 ⟨Nat.le_of_ble_eq_true rfl, Nat.le_of_ble_eq_true rfl⟩) hS (fun q _ h => hFc q h) hFc (fun u t H1 locs ht hvm w_19 hB hz1 hk1 hS => ?_)
    obtain ⟨u_20, u_21, u_22, u_23, u_24, u_25⟩ := u
    obtain ⟨hP1, hK1, hD1⟩ := hB
    rw [ht] at hP1
    try dsimp only at w_19
    obtain ⟨hP, hD⟩ := va_join (wr := [(x, .inr (7, [.ref x_signs, .int x_length])), (x_signs, .inl (cI, 255, .inl x_signsF)), (f_starts, .inl (cI, 4, .inl f_startsF))]) (w1 := [(f, .inr (2, [.ref f_kinds, .ref f_signs, .ref f_sizes, .ref f_places, .ref f_limits, .ref f_starts, .ref f_sorts, .int u_20, .int f_sections, .int f_fifth])), (f_kinds, .inl (cI, 255, .inl u_21)), (f_signs, .inl (cI, 255, .inl u_22)), (f_sizes, .inl (cI, 255, .inl u_23)), (f_places, .inl (cI, 255, .inl u_24)), (f_limits, .inl (cD, 255, .inr (.inr (.inr (.inl u_25)))))]) hP hD [2, 3, 4, 5, 6, 7] [0, 1, 8] rfl rfl (by decide) (by decide) hk1 hFc hP1 hD1
    generalize H1 = H at hP hS ⊢
    have hP : va_P D vwCl [(x, .inr (7, [.ref x_signs, .int x_length])), (x_signs, .inl (cI, 255, .inl x_signsF)), (f_starts, .inl (cI, 4, .inl f_startsF)), (f, .inr (2, [.ref f_kinds, .ref f_signs, .ref f_sizes, .ref f_places, .ref f_limits, .ref f_starts, .ref f_sorts, .int u_20, .int f_sections, .int f_fifth])), (f_kinds, .inl (cI, 255, .inl u_21)), (f_signs, .inl (cI, 255, .inl u_22)), (f_sizes, .inl (cI, 255, .inl u_23)), (f_places, .inl (cI, 255, .inl u_24)), (f_limits, .inl (cD, 255, .inr (.inr (.inr (.inl u_25)))))] H := hP
    have hD : va_D A [(x, .inr (7, [.ref x_signs, .int x_length])), (x_signs, .inl (cI, 255, .inl x_signsF)), (f_starts, .inl (cI, 4, .inl f_startsF)), (f, .inr (2, [.ref f_kinds, .ref f_signs, .ref f_sizes, .ref f_places, .ref f_limits, .ref f_starts, .ref f_sorts, .int u_20, .int f_sections, .int f_fifth])), (f_kinds, .inl (cI, 255, .inl u_21)), (f_signs, .inl (cI, 255, .inl u_22)), (f_sizes, .inl (cI, 255, .inl u_23)), (f_places, .inl (cI, 255, .inl u_24)), (f_limits, .inl (cD, 255, .inr (.inr (.inr (.inl u_25)))))] := hD
    obtain ⟨w_19_0, w_19_1⟩ := w_19
    refine lv_iload_n hx hb dX8_divisor_66 rfl (lv_at hl 4 rfl) ?_
    refine lv_iload hx hb dX8_divisor_67 (lv_at hl 0 rfl) ?_
    refine lv_iadd hx hb dX8_divisor_69 ?_
    refine lv_topi (fun x_26 ex_26 => ?_)
    have b_p1 := ti_b p1
    have b_x_13 := ti_b x_13
    have tx_26 := ti_add ex_26
    have hP9 := hP.sub (ws' := [(x, .inr (7, [.ref x_signs, .int x_length])), (x_signs, .inl (cI, 255, .inl x_signsF)), (f, .inr (2, [.ref f_kinds, .ref f_signs, .ref f_sizes, .ref f_places, .ref f_limits, .ref f_starts, .ref f_sorts, .int u_20, .int f_sections, .int f_fifth])), (f_kinds, .inl (cI, 255, .inl u_21)), (f_signs, .inl (cI, 255, .inl u_22)), (f_sizes, .inl (cI, 255, .inl u_23)), (f_places, .inl (cI, 255, .inl u_24)), (f_limits, .inl (cD, 255, .inr (.inr (.inr (.inl u_25))))), (f_starts, .inl (cI, 4, .inl f_startsF))]) [0, 1, 3, 4, 5, 6, 7, 8, 2] rfl
    have hD9 := hD.sub (ws' := [(x, .inr (7, [.ref x_signs, .int x_length])), (x_signs, .inl (cI, 255, .inl x_signsF)), (f, .inr (2, [.ref f_kinds, .ref f_signs, .ref f_sizes, .ref f_places, .ref f_limits, .ref f_starts, .ref f_sorts, .int u_20, .int f_sections, .int f_fifth])), (f_kinds, .inl (cI, 255, .inl u_21)), (f_signs, .inl (cI, 255, .inl u_22)), (f_sizes, .inl (cI, 255, .inl u_23)), (f_places, .inl (cI, 255, .inl u_24)), (f_limits, .inl (cD, 255, .inr (.inr (.inr (.inl u_25))))), (f_starts, .inl (cI, 4, .inl f_startsF))]) [0, 1, 3, 4, 5, 6, 7, 8, 2] (by decide) rfl
    exact W.iret (v := x_26) hx hb hr (fun t ht hW => ⟨⟨x_26, (u_20, u_21, u_22, u_23, u_24, u_25), rfl, (by (try dsimp only); refine ⟨?_, ?_, ?_⟩ <;> first | omega | assumption), by rw [ht]; exact hP9, va_K.moved hW.alike hK, hD9⟩, hS.F ht⟩) hS.2.2 dX8_divisor_70
  · have ic_12 : ¬ ((x_10 : Int32).toInt = (8 : Int32).toInt) := fun h9 => c_12 ((fa_eq x_10 8).mpr h9)
    refine lv_aload_n hx hb dX8_divisor_29 rfl (lv_at hl 1 rfl) ?_
    refine lv_aload_n hx hb dX8_divisor_30 rfl (lv_at hl 2 rfl) ?_
    refine lv_iload_n hx hb dX8_divisor_31 rfl (lv_at hl 3 rfl) ?_
    refine lv_iload_n hx hb dX8_divisor_32 rfl (lv_at hl 3 rfl) ?_
    refine lv_iconst (v := 1) hx hb dX8_divisor_33 (by decide) ?_
    refine lv_iadd hx hb dX8_divisor_34 ?_
    refine lv_topi (fun x_27 ex_27 => ?_)
    have b_p1 := ti_b p1
    have tx_27 := ti_add ex_27
    have hPc := hP.sub (ws' := [(x, .inr (7, [.ref x_signs, .int x_length])), (x_signs, .inl (cI, 255, .inl x_signsF)), (f, .inr (2, [.ref f_kinds, .ref f_signs, .ref f_sizes, .ref f_places, .ref f_limits, .ref f_starts, .ref f_sorts, .int f_count, .int f_sections, .int f_fifth])), (f_kinds, .inl (cI, 255, .inl f_kindsF)), (f_signs, .inl (cI, 255, .inl f_signsF)), (f_sizes, .inl (cI, 255, .inl f_sizesF)), (f_places, .inl (cI, 255, .inl f_placesF)), (f_limits, .inl (cD, 255, .inr (.inr (.inr (.inl f_limitsF)))))]) [0, 1, 2, 3, 4, 5, 6, 7] rfl
    have hDc := hD.sub (ws' := [(x, .inr (7, [.ref x_signs, .int x_length])), (x_signs, .inl (cI, 255, .inl x_signsF)), (f, .inr (2, [.ref f_kinds, .ref f_signs, .ref f_sizes, .ref f_places, .ref f_limits, .ref f_starts, .ref f_sorts, .int f_count, .int f_sections, .int f_fifth])), (f_kinds, .inl (cI, 255, .inl f_kindsF)), (f_signs, .inl (cI, 255, .inl f_signsF)), (f_sizes, .inl (cI, 255, .inl f_sizesF)), (f_places, .inl (cI, 255, .inl f_placesF)), (f_limits, .inl (cD, 255, .inr (.inr (.inr (.inl f_limitsF)))))]) [0, 1, 2, 3, 4, 5, 6, 7] (by decide) rfl
    have hFc := va_free (wc := [(x, .inr (7, [.ref x_signs, .int x_length])), (x_signs, .inl (cI, 255, .inl x_signsF)), (f, .inr (2, [.ref f_kinds, .ref f_signs, .ref f_sizes, .ref f_places, .ref f_limits, .ref f_starts, .ref f_sorts, .int f_count, .int f_sections, .int f_fifth])), (f_kinds, .inl (cI, 255, .inl f_kindsF)), (f_signs, .inl (cI, 255, .inl f_signsF)), (f_sizes, .inl (cI, 255, .inl f_sizesF)), (f_places, .inl (cI, 255, .inl f_placesF)), (f_limits, .inl (cD, 255, .inr (.inr (.inr (.inl f_limitsF)))))]) hD hS hA [0, 1, 2, 3, 4, 5, 6, 7] rfl
    refine va_calli (va_runS (As := [.ref x, .ref f, .int p1, .int x_27]) (rest := []) ⟨hx, hb, hml, hown, hts⟩ (c_X8_bad l D cI cD cJ H.size x x_signs x_length x_signsF f f_kinds f_signs f_sizes f_places f_limits f_starts f_sorts f_count f_sections f_fifth f_kindsF f_signsF f_sizesF f_placesF f_limitsF p1 x_27 (by omega) (by assumption) (by omega) (by omega) (by assumption)) (va_cwS 4 hts (goodIn_app (goodIn_r _ [24, 25, 26] rfl (by decide +kernel)) (goodIn_sub i_X8_bad k_X8_bad)) rfl rfl rfl (by decide +kernel) ⟨Nat.le_of_ble_eq_true rfl, Nat.le_of_ble_eq_true rfl⟩) ⟨fun a U g mk q => by obtain ⟨q0, q1, qP, qK, qD⟩ := q; exact ⟨q0, q1, qP, va_K.moved (u := U) (U := U.calling g mk a) (Vm.Alike.refl U.vm) qK, qD⟩, fun U hU hW => ⟨rfl, by rw [hU], by rw [hU]; exact hPc, va_K.moved hW.alike hK, hDc.weaken (fun _ _ _ _ => trivial)⟩⟩ rfl rfl hl.1 rfl (lv_room (Nat.le_of_ble_eq_true rfl)) dX8_divisor_35 ⟨Nat.le_of_ble_eq_true rfl, Nat.le_of_ble_eq_true rfl⟩) hS (fun q _ h => hFc q h) hFc (fun x_28 u t H1 locs ht hvm w_29 hB hz1 hk1 hS => ?_)
    obtain ⟨u_30, u_31, u_32, u_33, u_34, u_35⟩ := u
    obtain ⟨hP1, hK1, hD1⟩ := hB
    rw [ht] at hP1
    try dsimp only at w_29
    obtain ⟨hP, hD⟩ := va_join (wr := [(f_starts, .inl (cI, 4, .inl f_startsF))]) (w1 := [(x, .inr (7, [.ref x_signs, .int x_length])), (x_signs, .inl (cI, 255, .inl x_signsF)), (f, .inr (2, [.ref f_kinds, .ref f_signs, .ref f_sizes, .ref f_places, .ref f_limits, .ref f_starts, .ref f_sorts, .int u_30, .int f_sections, .int f_fifth])), (f_kinds, .inl (cI, 255, .inl u_31)), (f_signs, .inl (cI, 255, .inl u_32)), (f_sizes, .inl (cI, 255, .inl u_33)), (f_places, .inl (cI, 255, .inl u_34)), (f_limits, .inl (cD, 255, .inr (.inr (.inr (.inl u_35)))))]) hP hD [0, 1, 2, 3, 4, 5, 6, 7] [8] rfl rfl (by decide) (by decide) hk1 hFc hP1 hD1
    generalize H1 = H at hP hS ⊢
    have hP : va_P D vwCl [(f_starts, .inl (cI, 4, .inl f_startsF)), (x, .inr (7, [.ref x_signs, .int x_length])), (x_signs, .inl (cI, 255, .inl x_signsF)), (f, .inr (2, [.ref f_kinds, .ref f_signs, .ref f_sizes, .ref f_places, .ref f_limits, .ref f_starts, .ref f_sorts, .int u_30, .int f_sections, .int f_fifth])), (f_kinds, .inl (cI, 255, .inl u_31)), (f_signs, .inl (cI, 255, .inl u_32)), (f_sizes, .inl (cI, 255, .inl u_33)), (f_places, .inl (cI, 255, .inl u_34)), (f_limits, .inl (cD, 255, .inr (.inr (.inr (.inl u_35)))))] H := hP
    have hD : va_D A [(f_starts, .inl (cI, 4, .inl f_startsF)), (x, .inr (7, [.ref x_signs, .int x_length])), (x_signs, .inl (cI, 255, .inl x_signsF)), (f, .inr (2, [.ref f_kinds, .ref f_signs, .ref f_sizes, .ref f_places, .ref f_limits, .ref f_starts, .ref f_sorts, .int u_30, .int f_sections, .int f_fifth])), (f_kinds, .inl (cI, 255, .inl u_31)), (f_signs, .inl (cI, 255, .inl u_32)), (f_sizes, .inl (cI, 255, .inl u_33)), (f_places, .inl (cI, 255, .inl u_34)), (f_limits, .inl (cD, 255, .inr (.inr (.inr (.inl u_35)))))] := hD
    obtain ⟨w_29_0, w_29_1, w_29_2⟩ := w_29
    have b_x_28 := ti_b x_28
    have hP9 := hP.sub (ws' := [(x, .inr (7, [.ref x_signs, .int x_length])), (x_signs, .inl (cI, 255, .inl x_signsF)), (f, .inr (2, [.ref f_kinds, .ref f_signs, .ref f_sizes, .ref f_places, .ref f_limits, .ref f_starts, .ref f_sorts, .int u_30, .int f_sections, .int f_fifth])), (f_kinds, .inl (cI, 255, .inl u_31)), (f_signs, .inl (cI, 255, .inl u_32)), (f_sizes, .inl (cI, 255, .inl u_33)), (f_places, .inl (cI, 255, .inl u_34)), (f_limits, .inl (cD, 255, .inr (.inr (.inr (.inl u_35))))), (f_starts, .inl (cI, 4, .inl f_startsF))]) [1, 2, 3, 4, 5, 6, 7, 8, 0] rfl
    have hD9 := hD.sub (ws' := [(x, .inr (7, [.ref x_signs, .int x_length])), (x_signs, .inl (cI, 255, .inl x_signsF)), (f, .inr (2, [.ref f_kinds, .ref f_signs, .ref f_sizes, .ref f_places, .ref f_limits, .ref f_starts, .ref f_sorts, .int u_30, .int f_sections, .int f_fifth])), (f_kinds, .inl (cI, 255, .inl u_31)), (f_signs, .inl (cI, 255, .inl u_32)), (f_sizes, .inl (cI, 255, .inl u_33)), (f_places, .inl (cI, 255, .inl u_34)), (f_limits, .inl (cD, 255, .inr (.inr (.inr (.inl u_35))))), (f_starts, .inl (cI, 4, .inl f_startsF))]) [1, 2, 3, 4, 5, 6, 7, 8, 0] (by decide) rfl
    exact W.iret (v := x_28) hx hb hr (fun t ht hW => ⟨⟨x_28, (u_30, u_31, u_32, u_33, u_34, u_35), rfl, (by (try dsimp only); refine ⟨?_, ?_, ?_⟩ <;> first | omega | assumption), by rw [ht]; exact hP9, va_K.moved hW.alike hK, hD9⟩, hS.F ht⟩) hS.2.2 dX8_divisor_38

