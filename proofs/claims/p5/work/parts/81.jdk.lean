def ow_J0_coder_7d493 : List Cond := [Cond.fieldLink RJ0 38 "java/lang/String" "COMPACT_STRINGS" "Z", Cond.fieldLink RJ0 15 "java/lang/String" "coder" "B"]
def pw_J0_coder_7d493 : List Cond := Cond.code yJ0_coder_7d493 cJ0_coder_7d493 1 (some .byte) :: (ow_J0_coder_7d493)
set_option maxRecDepth 20000 in
theorem mo_J0_coder_7d493 : ∀ w ∈ ow_J0_coder_7d493, w ∈ lw_tbl := by decide +kernel
set_option maxRecDepth 20000 in
theorem mc_J0_coder_7d493 : Cond.code yJ0_coder_7d493 cJ0_coder_7d493 1 (some .byte) ∈ lw_tbl := by decide +kernel
theorem m_J0_coder_7d493 : ∀ w ∈ pw_J0_coder_7d493, w ∈ lw_tbl := List.forall_mem_cons.mpr ⟨mc_J0_coder_7d493, mo_J0_coder_7d493⟩
theorem ko_J0_coder_7d493 : ∀ w ∈ ow_J0_coder_7d493, goodWord w = true := by decide +kernel
theorem k_J0_coder_7d493 : pw_J0_coder_7d493.all goodWord = true := List.all_eq_true.mpr (List.forall_mem_cons.mpr ⟨by decide +kernel, ko_J0_coder_7d493⟩)
set_option maxHeartbeats 400000 in
set_option maxRecDepth 100000 in
theorem c_J0_coder_7d493 (l : Launch) (D : va_G) (cI cD cJ : ClassId) (sz : Nat) (zq : Nat) (zt : Nat) (zN : Nat) (zf : Nat → Int32) (hN : zN < 2 ^ 31) : Met l yJ0_coder_7d493 pw_J0_coder_7d493 ({ frames := 0, cells := 0, slots := 0, locals := 0 }) (va_Pc [.ref zq] (fun U => va_P D vwCl [] U.heap ∧ va_K D vwCl (ty3 cI cD cJ) U ∧ TZ1 zq zt zN zf (fun _ => False) U U.heap)) (va_Qi (fun (r : Int32) (u : Unit) => r.toInt = 0) (fun _ _ => True) (fun _ => False)) 0 0 (fun _ => False) := by
  refine MetF_ofW (cc := cJ0_coder_7d493) (maxL := 1) (ret := (some .byte)) (by decide +kernel) rfl ?_
  intro p e s m args below meth c s₁ B hml hv
  obtain ⟨rfl, hP, hK, hE0⟩ := hv
  have hx := B.exec
  have hb := B.bytes
  have hr := B.returns
  have hts := atoms_spec (ws := pw_J0_coder_7d493) B.pre
  have hown : s.vm.findClass RJ0 = some m.cls := findClass_of_methodNamed B.named
  have hlocks := B.notSynchronized
  have hS : va_S (fun _ => False) s.heap s.heap [] := va_S.rf
  have hw : ∀ (k : Nat) (w : Cond), ow_J0_coder_7d493[k]? = some w → w.before _ s = true := fun k w h => hts w (List.mem_cons_of_mem _ (have h9 := List.mem_of_getElem? h; h9))
  have n_0 : ((0 : Int32)).toInt = 0 := by decide
  have n_1 : ((1 : Int32)).toInt = 1 := by decide
  have hl := lv_entry ([.ref zq]) (n := 1) (Nat.le_of_ble_eq_true rfl)
  rw [lg_entry_eq]
  generalize (lg_sl ([.ref zq]) ++ List.replicate (1 - (lg_sl ([.ref zq])).length) Slot.unset).toArray = ls at hl ⊢
  have hl : lv_has ls 1 [(0, .ref zq)] := hl
  refine va_gets hx hb hE0.2.2.2.2.1 hS hown (hw 0 (.fieldLink RJ0 38 "java/lang/String" "COMPACT_STRINGS" "Z") rfl) (fun _ h9 => h9) dJ0_coder_7d493_0 ?_
  refine lv_if_eq (tgt := 13) hx hb dJ0_coder_7d493_3 (by decide) (fun c_1 => by have ic_1 : (1 : Int32).toInt = (0 : Int32).toInt := (fa_eq 1 0).mp c_1; exfalso; omega) (fun c_1 => ?_)
  have ic_1 : ¬ ((1 : Int32).toInt = (0 : Int32).toInt) := fun h9 => c_1 ((fa_eq 1 0).mpr h9)
  refine lv_aload_n hx hb dJ0_coder_7d493_6 rfl (lv_at hl 0 rfl) ?_
  refine vk_getf hx hb hE0.2.1 hS hown (hw 1 (.fieldLink RJ0 15 "java/lang/String" "coder" "B") rfl) (fun _ h9 => h9) dJ0_coder_7d493_7 ?_
  refine lv_goto (tgt := 14) hx hb dJ0_coder_7d493_10 (by decide) ?_
  exact W.zret (v := 0) hx hb hr rfl (fun t ht hW => ⟨⟨0, (), rfl, (by (try dsimp only); first | omega | assumption), trivial⟩, hS.F ht⟩) hS.2.2 dJ0_coder_7d493_14

def ow_J0_length_8abf5 : List Cond := [Cond.fieldLink RJ0 9 "java/lang/String" "value" "[B", Cond.methodLink RJ0 335 yJ0_coder_7d493, Cond.instanceMethod yJ0_coder_7d493, Cond.selects RJ0 yJ0_coder_7d493 yJ0_coder_7d493, Cond.initialized RJ0]
def pw_J0_length_8abf5 : List Cond := Cond.code yJ0_length_8abf5 cJ0_length_8abf5 1 (some .int) :: (ow_J0_length_8abf5 ++ (pw_J0_coder_7d493))
set_option maxRecDepth 20000 in
theorem mo_J0_length_8abf5 : ∀ w ∈ ow_J0_length_8abf5, w ∈ lw_tbl := by decide +kernel
set_option maxRecDepth 20000 in
theorem mc_J0_length_8abf5 : Cond.code yJ0_length_8abf5 cJ0_length_8abf5 1 (some .int) ∈ lw_tbl := by decide +kernel
theorem m_J0_length_8abf5 : ∀ w ∈ pw_J0_length_8abf5, w ∈ lw_tbl := List.forall_mem_cons.mpr ⟨mc_J0_length_8abf5, (List.forall_mem_append.mpr ⟨mo_J0_length_8abf5, m_J0_coder_7d493⟩)⟩
theorem ko_J0_length_8abf5 : ∀ w ∈ ow_J0_length_8abf5, goodWord w = true := by decide +kernel
theorem k_J0_length_8abf5 : pw_J0_length_8abf5.all goodWord = true := List.all_eq_true.mpr (List.forall_mem_cons.mpr ⟨by decide +kernel, (List.forall_mem_append.mpr ⟨ko_J0_length_8abf5, (List.all_eq_true.mp k_J0_coder_7d493)⟩)⟩)
set_option maxHeartbeats 400000 in
set_option maxRecDepth 100000 in
theorem c_J0_length_8abf5 (l : Launch) (D : va_G) (cI cD cJ : ClassId) (sz : Nat) (zq : Nat) (zt : Nat) (zN : Nat) (zf : Nat → Int32) (hN : zN < 2 ^ 31) : Met l yJ0_length_8abf5 pw_J0_length_8abf5 ({ frames := 1, cells := 0, slots := 0, locals := 20 }) (va_Pc [.ref zq] (fun U => va_P D vwCl [] U.heap ∧ va_K D vwCl (ty3 cI cD cJ) U ∧ TZ1 zq zt zN zf (fun _ => False) U U.heap)) (va_Qi (fun (r : Int32) (u : Unit) => r.toInt = (zN : Int)) (fun _ _ => True) (fun _ => False)) 0 0 (fun _ => False) := by
  refine MetF_ofW (cc := cJ0_length_8abf5) (maxL := 1) (ret := (some .int)) (by decide +kernel) rfl ?_
  intro p e s m args below meth c s₁ B hml hv
  obtain ⟨rfl, hP, hK, hE0⟩ := hv
  have hx := B.exec
  have hb := B.bytes
  have hr := B.returns
  have hts := atoms_spec (ws := pw_J0_length_8abf5) B.pre
  have hown : s.vm.findClass RJ0 = some m.cls := findClass_of_methodNamed B.named
  have hlocks := B.notSynchronized
  have hS : va_S (fun _ => False) s.heap s.heap [] := va_S.rf
  have hw : ∀ (k : Nat) (w : Cond), ow_J0_length_8abf5[k]? = some w → w.before _ s = true := fun k w h => hts w (List.mem_cons_of_mem _ (have h9 := List.mem_of_getElem? h; List.mem_append_left _ h9))
  have i_J0_coder_7d493 : ∀ w ∈ pw_J0_coder_7d493, w ∈ pw_J0_length_8abf5 := fun w h9 => List.mem_cons_of_mem _ (List.mem_append_right _ (h9))
  have n_0 : ((0 : Int32)).toInt = 0 := by decide
  have hl := lv_entry ([.ref zq]) (n := 1) (Nat.le_of_ble_eq_true rfl)
  rw [lg_entry_eq]
  generalize (lg_sl ([.ref zq]) ++ List.replicate (1 - (lg_sl ([.ref zq])).length) Slot.unset).toArray = ls at hl ⊢
  have hl : lv_has ls 1 [(0, .ref zq)] := hl
  refine lv_aload_n hx hb dJ0_length_8abf5_0 rfl (lv_at hl 0 rfl) ?_
  refine vk_getf hx hb hE0.2.2.1 hS hown (hw 0 (.fieldLink RJ0 9 "java/lang/String" "value" "[B") rfl) (fun _ h9 => h9) dJ0_length_8abf5_1 ?_
  refine va_tlen hx hb hE0.2.2.2.1 hS (v := Int32.ofNat zN) rfl dJ0_length_8abf5_4 ?_
  refine lv_topi (fun x_1 ex_1 => ?_)
  have tx_1 : (x_1 : Int32).toInt = (zN : Int) := by rw [ex_1]; exact nI_toInt (n := zN) hN
  have b_x_1 := ti_b x_1
  refine lv_aload_n hx hb dJ0_length_8abf5_5 rfl (lv_at hl 0 rfl) ?_
  have hPc := hP.sub (ws' := []) [] rfl
  refine va_calli (va_runV (As := []) (rest := [.int x_1]) ⟨hx, hb, hml, hown, hts⟩ (c_J0_coder_7d493 l D cI cD cJ s.heap.size zq zt zN zf (by omega)) (cwV 0 hts (goodIn_app (goodIn_r _ [2, 3, 4, 5] rfl (by decide +kernel)) (goodIn_sub i_J0_coder_7d493 k_J0_coder_7d493)) rfl rfl rfl (by decide +kernel) ⟨Nat.le_of_ble_eq_true rfl, Nat.le_of_ble_eq_true rfl⟩) ⟨fun a U g mk q => by obtain ⟨q0, qP, qK, hq0⟩ := q; exact ⟨q0, qP, va_K.moved (u := U) (U := U.calling g mk a) (Vm.Alike.refl U.vm) qK, TZ1.same hq0 rfl⟩, va_Orecv hE0.1 hS, fun U hU hW => ⟨rfl, by rw [hU]; exact hPc, va_K.moved hW.alike hK, by rw [hU]; exact TZ1.warm hW hE0 hS (fun q h => h.elim)⟩⟩ rfl rfl hl.1 rfl (lv_room (Nat.le_of_ble_eq_true rfl)) dJ0_length_8abf5_6 ⟨Nat.le_of_ble_eq_true rfl, Nat.le_of_ble_eq_true rfl⟩) hS (fun q _ h => h.elim) (fun q h => h.elim) (fun x_2 u t H1 locs ht hvm w_3 hB hz1 hk1 hS => ?_)
  have hP : va_P D vwCl [] H1 := hP.kept (fun k9 q9 h9 => hk1 q9.1 (vx_lt hP h9) (fun h => h))
  generalize H1 = H at hP hS ⊢
  try dsimp only at w_3
  have b_x_2 := ti_b x_2
  have hc0 : x_2 = 0 := (fa_eq _ _).mpr (by omega)
  subst hc0
  refine lv_ishr hx hb dJ0_length_8abf5_9 ?_
  refine lv_topi (fun x_4 ex_4 => ?_)
  exact W.iret (v := x_4) hx hb hr (fun t ht hW => ⟨⟨x_4, (), rfl, (by (try dsimp only); rw [ex_4, sb_shr0]; assumption), trivial⟩, hS.F ht⟩) hS.2.2 dJ0_length_8abf5_10

def ow_J0_isLatin1_aae02 : List Cond := [Cond.fieldLink RJ0 38 "java/lang/String" "COMPACT_STRINGS" "Z", Cond.fieldLink RJ0 15 "java/lang/String" "coder" "B"]
def pw_J0_isLatin1_aae02 : List Cond := Cond.code yJ0_isLatin1_aae02 cJ0_isLatin1_aae02 1 (some .boolean) :: (ow_J0_isLatin1_aae02)
set_option maxRecDepth 20000 in
theorem mo_J0_isLatin1_aae02 : ∀ w ∈ ow_J0_isLatin1_aae02, w ∈ lw_tbl := by decide +kernel
set_option maxRecDepth 20000 in
theorem mc_J0_isLatin1_aae02 : Cond.code yJ0_isLatin1_aae02 cJ0_isLatin1_aae02 1 (some .boolean) ∈ lw_tbl := by decide +kernel
theorem m_J0_isLatin1_aae02 : ∀ w ∈ pw_J0_isLatin1_aae02, w ∈ lw_tbl := List.forall_mem_cons.mpr ⟨mc_J0_isLatin1_aae02, mo_J0_isLatin1_aae02⟩
theorem ko_J0_isLatin1_aae02 : ∀ w ∈ ow_J0_isLatin1_aae02, goodWord w = true := by decide +kernel
theorem k_J0_isLatin1_aae02 : pw_J0_isLatin1_aae02.all goodWord = true := List.all_eq_true.mpr (List.forall_mem_cons.mpr ⟨by decide +kernel, ko_J0_isLatin1_aae02⟩)
set_option maxHeartbeats 400000 in
set_option maxRecDepth 100000 in
theorem c_J0_isLatin1_aae02 (l : Launch) (D : va_G) (cI cD cJ : ClassId) (sz : Nat) (zq : Nat) (zt : Nat) (zN : Nat) (zf : Nat → Int32) (hN : zN < 2 ^ 31) : Met l yJ0_isLatin1_aae02 pw_J0_isLatin1_aae02 ({ frames := 0, cells := 0, slots := 0, locals := 0 }) (va_Pc [.ref zq] (fun U => va_P D vwCl [] U.heap ∧ va_K D vwCl (ty3 cI cD cJ) U ∧ TZ1 zq zt zN zf (fun _ => False) U U.heap)) (va_Qi (fun (r : Int32) (u : Unit) => r.toInt = 1) (fun _ _ => True) (fun _ => False)) 0 0 (fun _ => False) := by
  refine MetF_ofW (cc := cJ0_isLatin1_aae02) (maxL := 1) (ret := (some .boolean)) (by decide +kernel) rfl ?_
  intro p e s m args below meth c s₁ B hml hv
  obtain ⟨rfl, hP, hK, hE0⟩ := hv
  have hx := B.exec
  have hb := B.bytes
  have hr := B.returns
  have hts := atoms_spec (ws := pw_J0_isLatin1_aae02) B.pre
  have hown : s.vm.findClass RJ0 = some m.cls := findClass_of_methodNamed B.named
  have hlocks := B.notSynchronized
  have hS : va_S (fun _ => False) s.heap s.heap [] := va_S.rf
  have hw : ∀ (k : Nat) (w : Cond), ow_J0_isLatin1_aae02[k]? = some w → w.before _ s = true := fun k w h => hts w (List.mem_cons_of_mem _ (have h9 := List.mem_of_getElem? h; h9))
  have n_0 : ((0 : Int32)).toInt = 0 := by decide
  have n_1 : ((1 : Int32)).toInt = 1 := by decide
  have hl := lv_entry ([.ref zq]) (n := 1) (Nat.le_of_ble_eq_true rfl)
  rw [lg_entry_eq]
  generalize (lg_sl ([.ref zq]) ++ List.replicate (1 - (lg_sl ([.ref zq])).length) Slot.unset).toArray = ls at hl ⊢
  have hl : lv_has ls 1 [(0, .ref zq)] := hl
  refine va_gets hx hb hE0.2.2.2.2.1 hS hown (hw 0 (.fieldLink RJ0 38 "java/lang/String" "COMPACT_STRINGS" "Z") rfl) (fun _ h9 => h9) dJ0_isLatin1_aae02_0 ?_
  refine lv_if_eq (tgt := 17) hx hb dJ0_isLatin1_aae02_3 (by decide) (fun c_1 => by have ic_1 : (1 : Int32).toInt = (0 : Int32).toInt := (fa_eq 1 0).mp c_1; exfalso; omega) (fun c_1 => ?_)
  have ic_1 : ¬ ((1 : Int32).toInt = (0 : Int32).toInt) := fun h9 => c_1 ((fa_eq 1 0).mpr h9)
  refine lv_aload_n hx hb dJ0_isLatin1_aae02_6 rfl (lv_at hl 0 rfl) ?_
  refine vk_getf hx hb hE0.2.1 hS hown (hw 1 (.fieldLink RJ0 15 "java/lang/String" "coder" "B") rfl) (fun _ h9 => h9) dJ0_isLatin1_aae02_7 ?_
  refine lv_if_ne (tgt := 17) hx hb dJ0_isLatin1_aae02_10 (by decide) (fun c_2 => by have ic_2 : ¬ ((0 : Int32).toInt = (0 : Int32).toInt) := fun h9 => c_2 ((fa_eq 0 0).mpr h9); exfalso; omega) (fun c_2 => ?_)
  have ic_2 : (0 : Int32).toInt = (0 : Int32).toInt := (fa_eq 0 0).mp c_2
  refine lv_iconst (v := 1) hx hb dJ0_isLatin1_aae02_13 (by decide) ?_
  refine lv_goto (tgt := 18) hx hb dJ0_isLatin1_aae02_14 (by decide) ?_
  exact W.zret (v := 1) hx hb hr rfl (fun t ht hW => ⟨⟨1, (), rfl, (by (try dsimp only); first | omega | assumption), trivial⟩, hS.F ht⟩) hS.2.2 dJ0_isLatin1_aae02_18

def ow_J3_checkIndex_8e157 : List Cond := []
def pw_J3_checkIndex_8e157 : List Cond := Cond.code yJ3_checkIndex_8e157 cJ3_checkIndex_8e157 3 (some .int) :: (ow_J3_checkIndex_8e157)
set_option maxRecDepth 20000 in
theorem mo_J3_checkIndex_8e157 : ∀ w ∈ ow_J3_checkIndex_8e157, w ∈ lw_tbl := by decide +kernel
set_option maxRecDepth 20000 in
theorem mc_J3_checkIndex_8e157 : Cond.code yJ3_checkIndex_8e157 cJ3_checkIndex_8e157 3 (some .int) ∈ lw_tbl := by decide +kernel
theorem m_J3_checkIndex_8e157 : ∀ w ∈ pw_J3_checkIndex_8e157, w ∈ lw_tbl := List.forall_mem_cons.mpr ⟨mc_J3_checkIndex_8e157, mo_J3_checkIndex_8e157⟩
theorem ko_J3_checkIndex_8e157 : ∀ w ∈ ow_J3_checkIndex_8e157, goodWord w = true := by decide +kernel
theorem k_J3_checkIndex_8e157 : pw_J3_checkIndex_8e157.all goodWord = true := List.all_eq_true.mpr (List.forall_mem_cons.mpr ⟨by decide +kernel, ko_J3_checkIndex_8e157⟩)
set_option maxHeartbeats 400000 in
set_option maxRecDepth 100000 in
theorem c_J3_checkIndex_8e157 (l : Launch) (D : va_G) (cI cD cJ : ClassId) (sz : Nat) (p1 : Int32) (p2 : Int32) (z : Nat) (hh0 : 0 ≤ p1.toInt) (hh1 : p1.toInt < p2.toInt) : Met l yJ3_checkIndex_8e157 pw_J3_checkIndex_8e157 ({ frames := 0, cells := 0, slots := 0, locals := 0 }) (va_Pc [.int p1, .int p2, .ref z] (fun U => va_P D vwCl [] U.heap ∧ va_K D vwCl (ty3 cI cD cJ) U)) (va_Qi (fun (r : Int32) (u : Unit) => True) (fun _ _ => True) (fun _ => False)) 0 0 (fun _ => False) := by
  refine MetF_ofW (cc := cJ3_checkIndex_8e157) (maxL := 3) (ret := (some .int)) (by decide +kernel) rfl ?_
  intro p e s m args below meth c s₁ B hml hv
  obtain ⟨rfl, hP, hK⟩ := hv
  have hx := B.exec
  have hb := B.bytes
  have hr := B.returns
  have hts := atoms_spec (ws := pw_J3_checkIndex_8e157) B.pre
  have hown : s.vm.findClass RJ3 = some m.cls := findClass_of_methodNamed B.named
  have hlocks := B.notSynchronized
  have hS : va_S (fun _ => False) s.heap s.heap [] := va_S.rf
  have hw : ∀ (k : Nat) (w : Cond), ow_J3_checkIndex_8e157[k]? = some w → w.before _ s = true := fun k w h => hts w (List.mem_cons_of_mem _ (have h9 := List.mem_of_getElem? h; h9))
  have n_0 : ((0 : Int32)).toInt = 0 := by decide
  have hl := lv_entry ([.int p1, .int p2, .ref z]) (n := 3) (Nat.le_of_ble_eq_true rfl)
  rw [lg_entry_eq]
  generalize (lg_sl ([.int p1, .int p2, .ref z]) ++ List.replicate (3 - (lg_sl ([.int p1, .int p2, .ref z])).length) Slot.unset).toArray = ls at hl ⊢
  have hl : lv_has ls 3 [(0, .int p1), (1, .int p2), (2, .ref z)] := hl
  have b_p1 := ti_b p1
  have b_p2 := ti_b p2
  refine lv_iload_n hx hb dJ3_checkIndex_8e157_0 rfl (lv_at hl 0 rfl) ?_
  refine lv_if_lt (tgt := 9) hx hb dJ3_checkIndex_8e157_1 (by decide) (fun c_1 => by have ic_1 : (p1 : Int32).toInt < (0 : Int32).toInt := (fa_lt p1 0).mp c_1; exfalso; omega) (fun c_1 => ?_)
  have ic_1 : ¬ ((p1 : Int32).toInt < (0 : Int32).toInt) := fun h9 => c_1 ((fa_lt p1 0).mpr h9)
  refine lv_iload_n hx hb dJ3_checkIndex_8e157_4 rfl (lv_at hl 0 rfl) ?_
  refine lv_iload_n hx hb dJ3_checkIndex_8e157_5 rfl (lv_at hl 1 rfl) ?_
  refine lv_icmp_lt (tgt := 16) hx hb dJ3_checkIndex_8e157_6 (by decide) (fun c_2 => ?_) (fun c_2 => by have ic_2 : ¬ ((p1 : Int32).toInt < (p2 : Int32).toInt) := fun h9 => c_2 ((fa_lt p1 p2).mpr h9); exfalso; omega)
  have ic_2 : (p1 : Int32).toInt < (p2 : Int32).toInt := (fa_lt p1 p2).mp c_2
  refine lv_iload_n hx hb dJ3_checkIndex_8e157_16 rfl (lv_at hl 0 rfl) ?_
  exact W.iret (v := p1) hx hb hr (fun t ht hW => ⟨⟨p1, (), rfl, trivial, trivial⟩, hS.F ht⟩) hS.2.2 dJ3_checkIndex_8e157_17

set_option maxHeartbeats 400000 in
set_option maxRecDepth 100000 in
theorem c_J3_checkIndex_n (l : Launch) (D : va_G) (cI cD cJ : ClassId) (sz : Nat) (p1 : Int32) (p2 : Int32) (hh0 : 0 ≤ p1.toInt) (hh1 : p1.toInt < p2.toInt) : Met l yJ3_checkIndex_8e157 pw_J3_checkIndex_8e157 ({ frames := 0, cells := 0, slots := 0, locals := 0 }) (va_Pc [.int p1, .int p2, .null] (fun U => va_P D vwCl [] U.heap ∧ va_K D vwCl (ty3 cI cD cJ) U)) (va_Qi (fun (r : Int32) (u : Unit) => True) (fun _ _ => True) (fun _ => False)) 0 0 (fun _ => False) := by
  refine MetF_ofW (cc := cJ3_checkIndex_8e157) (maxL := 3) (ret := (some .int)) (by decide +kernel) rfl ?_
  intro p e s m args below meth c s₁ B hml hv
  obtain ⟨rfl, hP, hK⟩ := hv
  have hx := B.exec
  have hb := B.bytes
  have hr := B.returns
  have hts := atoms_spec (ws := pw_J3_checkIndex_8e157) B.pre
  have hown : s.vm.findClass RJ3 = some m.cls := findClass_of_methodNamed B.named
  have hlocks := B.notSynchronized
  have hS : va_S (fun _ => False) s.heap s.heap [] := va_S.rf
  have hw : ∀ (k : Nat) (w : Cond), ow_J3_checkIndex_8e157[k]? = some w → w.before _ s = true := fun k w h => hts w (List.mem_cons_of_mem _ (have h9 := List.mem_of_getElem? h; h9))
  have n_0 : ((0 : Int32)).toInt = 0 := by decide
  have hl := lv_entry ([.int p1, .int p2, .null]) (n := 3) (Nat.le_of_ble_eq_true rfl)
  rw [lg_entry_eq]
  generalize (lg_sl ([.int p1, .int p2, .null]) ++ List.replicate (3 - (lg_sl ([.int p1, .int p2, .null])).length) Slot.unset).toArray = ls at hl ⊢
  have hl : lv_has ls 3 [(0, .int p1), (1, .int p2), (2, .null)] := hl
  have b_p1 := ti_b p1
  have b_p2 := ti_b p2
  refine lv_iload_n hx hb dJ3_checkIndex_8e157_0 rfl (lv_at hl 0 rfl) ?_
  refine lv_if_lt (tgt := 9) hx hb dJ3_checkIndex_8e157_1 (by decide) (fun c_1 => by have ic_1 : (p1 : Int32).toInt < (0 : Int32).toInt := (fa_lt p1 0).mp c_1; exfalso; omega) (fun c_1 => ?_)
  have ic_1 : ¬ ((p1 : Int32).toInt < (0 : Int32).toInt) := fun h9 => c_1 ((fa_lt p1 0).mpr h9)
  refine lv_iload_n hx hb dJ3_checkIndex_8e157_4 rfl (lv_at hl 0 rfl) ?_
  refine lv_iload_n hx hb dJ3_checkIndex_8e157_5 rfl (lv_at hl 1 rfl) ?_
  refine lv_icmp_lt (tgt := 16) hx hb dJ3_checkIndex_8e157_6 (by decide) (fun c_2 => ?_) (fun c_2 => by have ic_2 : ¬ ((p1 : Int32).toInt < (p2 : Int32).toInt) := fun h9 => c_2 ((fa_lt p1 p2).mpr h9); exfalso; omega)
  have ic_2 : (p1 : Int32).toInt < (p2 : Int32).toInt := (fa_lt p1 p2).mp c_2
  refine lv_iload_n hx hb dJ3_checkIndex_8e157_16 rfl (lv_at hl 0 rfl) ?_
  exact W.iret (v := p1) hx hb hr (fun t ht hW => ⟨⟨p1, (), rfl, trivial, trivial⟩, hS.F ht⟩) hS.2.2 dJ3_checkIndex_8e157_17

def ow_J0_checkIndex_df160 : List Cond := [Cond.fieldLink RJ0 1053 "jdk/internal/util/Preconditions" "SIOOBE_FORMATTER" "Ljava/util/function/BiFunction;", Cond.methodLink RJ0 1059 yJ3_checkIndex_8e157, Cond.static yJ3_checkIndex_8e157, Cond.initialized RJ3]
def pw_J0_checkIndex_df160 : List Cond := Cond.code yJ0_checkIndex_df160 cJ0_checkIndex_df160 2 none :: (ow_J0_checkIndex_df160 ++ (pw_J3_checkIndex_8e157))
set_option maxRecDepth 20000 in
theorem mo_J0_checkIndex_df160 : ∀ w ∈ ow_J0_checkIndex_df160, w ∈ lw_tbl := by decide +kernel
set_option maxRecDepth 20000 in
theorem mc_J0_checkIndex_df160 : Cond.code yJ0_checkIndex_df160 cJ0_checkIndex_df160 2 none ∈ lw_tbl := by decide +kernel
theorem m_J0_checkIndex_df160 : ∀ w ∈ pw_J0_checkIndex_df160, w ∈ lw_tbl := List.forall_mem_cons.mpr ⟨mc_J0_checkIndex_df160, (List.forall_mem_append.mpr ⟨mo_J0_checkIndex_df160, m_J3_checkIndex_8e157⟩)⟩
theorem ko_J0_checkIndex_df160 : ∀ w ∈ ow_J0_checkIndex_df160, goodWord w = true := by decide +kernel
theorem k_J0_checkIndex_df160 : pw_J0_checkIndex_df160.all goodWord = true := List.all_eq_true.mpr (List.forall_mem_cons.mpr ⟨by decide +kernel, (List.forall_mem_append.mpr ⟨ko_J0_checkIndex_df160, (List.all_eq_true.mp k_J3_checkIndex_8e157)⟩)⟩)
set_option maxHeartbeats 400000 in
set_option maxRecDepth 100000 in
theorem c_J0_checkIndex_df160 (l : Launch) (D : va_G) (cI cD cJ : ClassId) (sz : Nat) (zq : Nat) (zt : Nat) (zN : Nat) (zf : Nat → Int32) (p1 : Int32) (p2 : Int32) (hN : zN < 2 ^ 31) (hh0 : 0 ≤ p1.toInt) (hh1 : p1.toInt < p2.toInt) : Met l yJ0_checkIndex_df160 pw_J0_checkIndex_df160 ({ frames := 1, cells := 0, slots := 0, locals := 22 }) (va_Pc [.int p1, .int p2] (fun U => va_P D vwCl [] U.heap ∧ va_K D vwCl (ty3 cI cD cJ) U ∧ TZ1 zq zt zN zf (fun _ => False) U U.heap)) (va_Qv (fun (u : Unit) => True) (fun _ _ => True) (fun _ => False)) 0 0 (fun _ => False) := by
  refine MetF_ofW (cc := cJ0_checkIndex_df160) (maxL := 2) (ret := none) (by decide +kernel) rfl ?_
  intro p e s m args below meth c s₁ B hml hv
  obtain ⟨rfl, hP, hK, hE0⟩ := hv
  have hx := B.exec
  have hb := B.bytes
  have hr := B.returns
  have hts := atoms_spec (ws := pw_J0_checkIndex_df160) B.pre
  have hown : s.vm.findClass RJ0 = some m.cls := findClass_of_methodNamed B.named
  have hlocks := B.notSynchronized
  have hS : va_S (fun _ => False) s.heap s.heap [] := va_S.rf
  have hw : ∀ (k : Nat) (w : Cond), ow_J0_checkIndex_df160[k]? = some w → w.before _ s = true := fun k w h => hts w (List.mem_cons_of_mem _ (have h9 := List.mem_of_getElem? h; List.mem_append_left _ h9))
  have i_J3_checkIndex_8e157 : ∀ w ∈ pw_J3_checkIndex_8e157, w ∈ pw_J0_checkIndex_df160 := fun w h9 => List.mem_cons_of_mem _ (List.mem_append_right _ (h9))
  have hl := lv_entry ([.int p1, .int p2]) (n := 2) (Nat.le_of_ble_eq_true rfl)
  rw [lg_entry_eq]
  generalize (lg_sl ([.int p1, .int p2]) ++ List.replicate (2 - (lg_sl ([.int p1, .int p2])).length) Slot.unset).toArray = ls at hl ⊢
  have hl : lv_has ls 2 [(0, .int p1), (1, .int p2)] := hl
  have b_p1 := ti_b p1
  have b_p2 := ti_b p2
  refine lv_iload_n hx hb dJ0_checkIndex_df160_0 rfl (lv_at hl 0 rfl) ?_
  refine lv_iload_n hx hb dJ0_checkIndex_df160_1 rfl (lv_at hl 1 rfl) ?_
  rcases hE0.2.2.2.2.2 with hz9 | ⟨z9, hz9⟩
  · refine va_gets hx hb hz9 hS hown (hw 0 (.fieldLink RJ0 1053 "jdk/internal/util/Preconditions" "SIOOBE_FORMATTER" "Ljava/util/function/BiFunction;") rfl) (fun _ h9 => h9) dJ0_checkIndex_df160_2 ?_
    have hPc := hP.sub (ws' := []) [] rfl
    refine va_calli (va_runS (As := [.int p1, .int p2, .null]) (rest := []) ⟨hx, hb, hml, hown, hts⟩ (c_J3_checkIndex_n l D cI cD cJ s.heap.size p1 p2 (by omega) (by omega)) (va_cwS 3 hts (goodIn_app (goodIn_r _ [2, 3, 4] rfl (by decide +kernel)) (goodIn_sub i_J3_checkIndex_8e157 k_J3_checkIndex_8e157)) rfl rfl rfl (by decide +kernel) ⟨Nat.le_of_ble_eq_true rfl, Nat.le_of_ble_eq_true rfl⟩) ⟨fun a U g mk q => by obtain ⟨q0, qP, qK⟩ := q; exact ⟨q0, qP, va_K.moved (u := U) (U := U.calling g mk a) (Vm.Alike.refl U.vm) qK⟩, fun U hU hW => ⟨rfl, by rw [hU]; exact hPc, va_K.moved hW.alike hK⟩⟩ rfl rfl hl.1 rfl (lv_room (Nat.le_of_ble_eq_true rfl)) dJ0_checkIndex_df160_5 ⟨Nat.le_of_ble_eq_true rfl, Nat.le_of_ble_eq_true rfl⟩) hS (fun q _ h => h.elim) (fun q h => h.elim) (fun x_1 u t H1 locs ht hvm w_2 hB hz1 hk1 hS => ?_)
    have hP : va_P D vwCl [] H1 := hP.kept (fun k9 q9 h9 => hk1 q9.1 (vx_lt hP h9) (fun h => h))
    generalize H1 = H at hP hS ⊢
    have b_x_1 := ti_b x_1
    refine lv_pop hx hb dJ0_checkIndex_df160_8 rfl ?_
    exact W.vret hx hb hr (fun t ht hW => ⟨⟨(), rfl, trivial, trivial⟩, hS.F ht⟩) hS.2.2 dJ0_checkIndex_df160_9
  · refine va_gets hx hb hz9 hS hown (hw 0 (.fieldLink RJ0 1053 "jdk/internal/util/Preconditions" "SIOOBE_FORMATTER" "Ljava/util/function/BiFunction;") rfl) (fun _ h9 => h9) dJ0_checkIndex_df160_2 ?_
    have hPc := hP.sub (ws' := []) [] rfl
    refine va_calli (va_runS (As := [.int p1, .int p2, .ref z9]) (rest := []) ⟨hx, hb, hml, hown, hts⟩ (c_J3_checkIndex_8e157 l D cI cD cJ s.heap.size p1 p2 z9 (by omega) (by omega)) (va_cwS 3 hts (goodIn_app (goodIn_r _ [2, 3, 4] rfl (by decide +kernel)) (goodIn_sub i_J3_checkIndex_8e157 k_J3_checkIndex_8e157)) rfl rfl rfl (by decide +kernel) ⟨Nat.le_of_ble_eq_true rfl, Nat.le_of_ble_eq_true rfl⟩) ⟨fun a U g mk q => by obtain ⟨q0, qP, qK⟩ := q; exact ⟨q0, qP, va_K.moved (u := U) (U := U.calling g mk a) (Vm.Alike.refl U.vm) qK⟩, fun U hU hW => ⟨rfl, by rw [hU]; exact hPc, va_K.moved hW.alike hK⟩⟩ rfl rfl hl.1 rfl (lv_room (Nat.le_of_ble_eq_true rfl)) dJ0_checkIndex_df160_5 ⟨Nat.le_of_ble_eq_true rfl, Nat.le_of_ble_eq_true rfl⟩) hS (fun q _ h => h.elim) (fun q h => h.elim) (fun x_3 u t H1 locs ht hvm w_4 hB hz1 hk1 hS => ?_)
    have hP : va_P D vwCl [] H1 := hP.kept (fun k9 q9 h9 => hk1 q9.1 (vx_lt hP h9) (fun h => h))
    generalize H1 = H at hP hS ⊢
    have b_x_3 := ti_b x_3
    refine lv_pop hx hb dJ0_checkIndex_df160_8 rfl ?_
    exact W.vret hx hb hr (fun t ht hW => ⟨⟨(), rfl, trivial, trivial⟩, hS.F ht⟩) hS.2.2 dJ0_checkIndex_df160_9

def ow_J1_charAt_3b067 : List Cond := [Cond.methodLink RJ1 9 yJ0_checkIndex_df160, Cond.static yJ0_checkIndex_df160, Cond.initialized RJ0]
def pw_J1_charAt_3b067 : List Cond := Cond.code yJ1_charAt_3b067 cJ1_charAt_3b067 2 (some .char) :: (ow_J1_charAt_3b067 ++ (pw_J0_checkIndex_df160))
set_option maxRecDepth 20000 in
theorem mo_J1_charAt_3b067 : ∀ w ∈ ow_J1_charAt_3b067, w ∈ lw_tbl := by decide +kernel
set_option maxRecDepth 20000 in
theorem mc_J1_charAt_3b067 : Cond.code yJ1_charAt_3b067 cJ1_charAt_3b067 2 (some .char) ∈ lw_tbl := by decide +kernel
theorem m_J1_charAt_3b067 : ∀ w ∈ pw_J1_charAt_3b067, w ∈ lw_tbl := List.forall_mem_cons.mpr ⟨mc_J1_charAt_3b067, (List.forall_mem_append.mpr ⟨mo_J1_charAt_3b067, m_J0_checkIndex_df160⟩)⟩
theorem ko_J1_charAt_3b067 : ∀ w ∈ ow_J1_charAt_3b067, goodWord w = true := by decide +kernel
theorem k_J1_charAt_3b067 : pw_J1_charAt_3b067.all goodWord = true := List.all_eq_true.mpr (List.forall_mem_cons.mpr ⟨by decide +kernel, (List.forall_mem_append.mpr ⟨ko_J1_charAt_3b067, (List.all_eq_true.mp k_J0_checkIndex_df160)⟩)⟩)
set_option maxHeartbeats 400000 in
set_option maxRecDepth 100000 in
theorem c_J1_charAt_3b067 (l : Launch) (D : va_G) (cI cD cJ : ClassId) (sz : Nat) (zq : Nat) (zt : Nat) (zN : Nat) (zf : Nat → Int32) (p1 : Int32) (hN : zN < 2 ^ 31) (hh0 : 0 ≤ p1.toInt) (hh1 : p1.toInt < (zN : Int)) : Met l yJ1_charAt_3b067 pw_J1_charAt_3b067 ({ frames := 2, cells := 0, slots := 0, locals := 43 }) (va_Pc [.ref zt, .int p1] (fun U => va_P D vwCl [] U.heap ∧ va_K D vwCl (ty3 cI cD cJ) U ∧ TZ1 zq zt zN zf (fun _ => False) U U.heap)) (va_Qi (fun (r : Int32) (u : Unit) => narrow .char (.int r) = .int r) (fun _ _ => True) (fun _ => False)) 0 0 (fun _ => False) := by
  refine MetF_ofW (cc := cJ1_charAt_3b067) (maxL := 2) (ret := (some .char)) (by decide +kernel) rfl ?_
  intro p e s m args below meth c s₁ B hml hv
  obtain ⟨rfl, hP, hK, hE0⟩ := hv
  have hx := B.exec
  have hb := B.bytes
  have hr := B.returns
  have hts := atoms_spec (ws := pw_J1_charAt_3b067) B.pre
  have hown : s.vm.findClass RJ1 = some m.cls := findClass_of_methodNamed B.named
  have hlocks := B.notSynchronized
  have hS : va_S (fun _ => False) s.heap s.heap [] := va_S.rf
  have hw : ∀ (k : Nat) (w : Cond), ow_J1_charAt_3b067[k]? = some w → w.before _ s = true := fun k w h => hts w (List.mem_cons_of_mem _ (have h9 := List.mem_of_getElem? h; List.mem_append_left _ h9))
  have i_J0_checkIndex_df160 : ∀ w ∈ pw_J0_checkIndex_df160, w ∈ pw_J1_charAt_3b067 := fun w h9 => List.mem_cons_of_mem _ (List.mem_append_right _ (h9))
  have n_255 : ((255 : Int32)).toInt = 255 := by decide
  have hl := lv_entry ([.ref zt, .int p1]) (n := 2) (Nat.le_of_ble_eq_true rfl)
  rw [lg_entry_eq]
  generalize (lg_sl ([.ref zt, .int p1]) ++ List.replicate (2 - (lg_sl ([.ref zt, .int p1])).length) Slot.unset).toArray = ls at hl ⊢
  have hl : lv_has ls 2 [(0, .ref zt), (1, .int p1)] := hl
  have b_p1 := ti_b p1
  refine lv_iload_n hx hb dJ1_charAt_3b067_0 rfl (lv_at hl 1 rfl) ?_
  refine lv_aload_n hx hb dJ1_charAt_3b067_1 rfl (lv_at hl 0 rfl) ?_
  refine va_tlen hx hb hE0.2.2.2.1 hS (v := Int32.ofNat zN) rfl dJ1_charAt_3b067_2 ?_
  refine lv_topi (fun x_1 ex_1 => ?_)
  have tx_1 : (x_1 : Int32).toInt = (zN : Int) := by rw [ex_1]; exact nI_toInt (n := zN) hN
  have b_x_1 := ti_b x_1
  have hPc := hP.sub (ws' := []) [] rfl
  refine va_callv (va_runS (As := [.int p1, .int x_1]) (rest := []) ⟨hx, hb, hml, hown, hts⟩ (c_J0_checkIndex_df160 l D cI cD cJ s.heap.size zq zt zN zf p1 x_1 (by omega) (by omega) (by omega)) (va_cwS 2 hts (goodIn_app (goodIn_r _ [1, 2, 3] rfl (by decide +kernel)) (goodIn_sub i_J0_checkIndex_df160 k_J0_checkIndex_df160)) rfl rfl rfl (by decide +kernel) ⟨Nat.le_of_ble_eq_true rfl, Nat.le_of_ble_eq_true rfl⟩) ⟨fun a U g mk q => by obtain ⟨q0, qP, qK, hq0⟩ := q; exact ⟨q0, qP, va_K.moved (u := U) (U := U.calling g mk a) (Vm.Alike.refl U.vm) qK, TZ1.same hq0 rfl⟩, fun U hU hW => ⟨rfl, by rw [hU]; exact hPc, va_K.moved hW.alike hK, by rw [hU]; exact TZ1.warm hW hE0 hS (fun q h => h.elim)⟩⟩ rfl rfl hl.1 rfl (lv_room (Nat.le_of_ble_eq_true rfl)) dJ1_charAt_3b067_3 ⟨Nat.le_of_ble_eq_true rfl, Nat.le_of_ble_eq_true rfl⟩) hS (fun q _ h => h.elim) (fun q h => h.elim) (fun u t H1 locs ht hvm w_2 hB hz1 hk1 hS => ?_)
  have hP : va_P D vwCl [] H1 := hP.kept (fun k9 q9 h9 => hk1 q9.1 (vx_lt hP h9) (fun h => h))
  generalize H1 = H at hP hS ⊢
  refine lv_aload_n hx hb dJ1_charAt_3b067_6 rfl (lv_at hl 0 rfl) ?_
  refine lv_iload_n hx hb dJ1_charAt_3b067_7 rfl (lv_at hl 1 rfl) ?_
  have h_8 : vp_in p1 zN := by rw [vp_in_iff]; omega
  refine va_tb hx hb hE0.2.2.2.1 hS h_8 (v := .int (zf (p1 : Int32).toNatClampNeg)) rfl dJ1_charAt_3b067_8 ?_
  refine lv_topi (fun x_3 ex_3 => ?_)
  refine lv_sipush (v := 255) hx hb dJ1_charAt_3b067_9 (by decide) ?_
  refine lv_iand hx hb dJ1_charAt_3b067_12 ?_
  refine lv_topi (fun x_4 ex_4 => ?_)
  have tx_4 := ti_and ex_4 8 (by decide +kernel) (by decide)
  refine lv_i2c hx hb dJ1_charAt_3b067_13 rfl ?_
  refine lv_topi (fun x_5 ex_5 => ?_)
  have tx_5 := ti_i2c ex_5
  exact W.zret (v := x_5) hx hb hr (by rw [ex_5, ex_4, sc_c2]; exact sc_nar _) (fun t ht hW => ⟨⟨x_5, (), rfl, (by (try dsimp only); rw [ex_5, ex_4, sc_c2]; exact sc_nar _), trivial⟩, hS.F ht⟩) hS.2.2 dJ1_charAt_3b067_14

def ow_J0_charAt_5068e : List Cond := [Cond.methodLink RJ0 492 yJ0_isLatin1_aae02, Cond.instanceMethod yJ0_isLatin1_aae02, Cond.selects RJ0 yJ0_isLatin1_aae02 yJ0_isLatin1_aae02, Cond.initialized RJ0, Cond.fieldLink RJ0 9 "java/lang/String" "value" "[B", Cond.methodLink RJ0 495 yJ1_charAt_3b067, Cond.static yJ1_charAt_3b067, Cond.initialized RJ1]
def pw_J0_charAt_5068e : List Cond := Cond.code yJ0_charAt_5068e cJ0_charAt_5068e 2 (some .char) :: (ow_J0_charAt_5068e ++ (pw_J0_isLatin1_aae02 ++ (pw_J1_charAt_3b067)))
set_option maxRecDepth 20000 in
theorem mo_J0_charAt_5068e : ∀ w ∈ ow_J0_charAt_5068e, w ∈ lw_tbl := by decide +kernel
set_option maxRecDepth 20000 in
theorem mc_J0_charAt_5068e : Cond.code yJ0_charAt_5068e cJ0_charAt_5068e 2 (some .char) ∈ lw_tbl := by decide +kernel
theorem m_J0_charAt_5068e : ∀ w ∈ pw_J0_charAt_5068e, w ∈ lw_tbl := List.forall_mem_cons.mpr ⟨mc_J0_charAt_5068e, (List.forall_mem_append.mpr ⟨mo_J0_charAt_5068e, (List.forall_mem_append.mpr ⟨m_J0_isLatin1_aae02, m_J1_charAt_3b067⟩)⟩)⟩
theorem ko_J0_charAt_5068e : ∀ w ∈ ow_J0_charAt_5068e, goodWord w = true := by decide +kernel
theorem k_J0_charAt_5068e : pw_J0_charAt_5068e.all goodWord = true := List.all_eq_true.mpr (List.forall_mem_cons.mpr ⟨by decide +kernel, (List.forall_mem_append.mpr ⟨ko_J0_charAt_5068e, (List.forall_mem_append.mpr ⟨(List.all_eq_true.mp k_J0_isLatin1_aae02), (List.all_eq_true.mp k_J1_charAt_3b067)⟩)⟩)⟩)
set_option maxHeartbeats 400000 in
set_option maxRecDepth 100000 in
theorem c_J0_charAt_5068e (l : Launch) (D : va_G) (cI cD cJ : ClassId) (sz : Nat) (zq : Nat) (zt : Nat) (zN : Nat) (zf : Nat → Int32) (p1 : Int32) (hN : zN < 2 ^ 31) (hh0 : 0 ≤ p1.toInt) (hh1 : p1.toInt < (zN : Int)) : Met l yJ0_charAt_5068e pw_J0_charAt_5068e ({ frames := 3, cells := 0, slots := 0, locals := 64 }) (va_Pc [.ref zq, .int p1] (fun U => va_P D vwCl [] U.heap ∧ va_K D vwCl (ty3 cI cD cJ) U ∧ TZ1 zq zt zN zf (fun _ => False) U U.heap)) (va_Qi (fun (r : Int32) (u : Unit) => narrow .char (.int r) = .int r) (fun _ _ => True) (fun _ => False)) 0 0 (fun _ => False) := by
  refine MetF_ofW (cc := cJ0_charAt_5068e) (maxL := 2) (ret := (some .char)) (by decide +kernel) rfl ?_
  intro p e s m args below meth c s₁ B hml hv
  obtain ⟨rfl, hP, hK, hE0⟩ := hv
  have hx := B.exec
  have hb := B.bytes
  have hr := B.returns
  have hts := atoms_spec (ws := pw_J0_charAt_5068e) B.pre
  have hown : s.vm.findClass RJ0 = some m.cls := findClass_of_methodNamed B.named
  have hlocks := B.notSynchronized
  have hS : va_S (fun _ => False) s.heap s.heap [] := va_S.rf
  have hw : ∀ (k : Nat) (w : Cond), ow_J0_charAt_5068e[k]? = some w → w.before _ s = true := fun k w h => hts w (List.mem_cons_of_mem _ (have h9 := List.mem_of_getElem? h; List.mem_append_left _ h9))
  have i_J0_isLatin1_aae02 : ∀ w ∈ pw_J0_isLatin1_aae02, w ∈ pw_J0_charAt_5068e := fun w h9 => List.mem_cons_of_mem _ (List.mem_append_right _ (List.mem_append_left _ h9))
  have i_J1_charAt_3b067 : ∀ w ∈ pw_J1_charAt_3b067, w ∈ pw_J0_charAt_5068e := fun w h9 => List.mem_cons_of_mem _ (List.mem_append_right _ (List.mem_append_right _ (h9)))
  have n_0 : ((0 : Int32)).toInt = 0 := by decide
  have hl := lv_entry ([.ref zq, .int p1]) (n := 2) (Nat.le_of_ble_eq_true rfl)
  rw [lg_entry_eq]
  generalize (lg_sl ([.ref zq, .int p1]) ++ List.replicate (2 - (lg_sl ([.ref zq, .int p1])).length) Slot.unset).toArray = ls at hl ⊢
  have hl : lv_has ls 2 [(0, .ref zq), (1, .int p1)] := hl
  have b_p1 := ti_b p1
  refine lv_aload_n hx hb dJ0_charAt_5068e_0 rfl (lv_at hl 0 rfl) ?_
  have hPc := hP.sub (ws' := []) [] rfl
  refine va_calli (va_runV (As := []) (rest := []) ⟨hx, hb, hml, hown, hts⟩ (c_J0_isLatin1_aae02 l D cI cD cJ s.heap.size zq zt zN zf (by omega)) (cwV 0 hts (goodIn_app (goodIn_r _ [1, 2, 3, 4] rfl (by decide +kernel)) (goodIn_sub i_J0_isLatin1_aae02 k_J0_isLatin1_aae02)) rfl rfl rfl (by decide +kernel) ⟨Nat.le_of_ble_eq_true rfl, Nat.le_of_ble_eq_true rfl⟩) ⟨fun a U g mk q => by obtain ⟨q0, qP, qK, hq0⟩ := q; exact ⟨q0, qP, va_K.moved (u := U) (U := U.calling g mk a) (Vm.Alike.refl U.vm) qK, TZ1.same hq0 rfl⟩, va_Orecv hE0.1 hS, fun U hU hW => ⟨rfl, by rw [hU]; exact hPc, va_K.moved hW.alike hK, by rw [hU]; exact TZ1.warm hW hE0 hS (fun q h => h.elim)⟩⟩ rfl rfl hl.1 rfl (lv_room (Nat.le_of_ble_eq_true rfl)) dJ0_charAt_5068e_1 ⟨Nat.le_of_ble_eq_true rfl, Nat.le_of_ble_eq_true rfl⟩) hS (fun q _ h => h.elim) (fun q h => h.elim) (fun x_1 u t H1 locs ht hvm w_2 hB hz1 hk1 hS => ?_)
  have hP : va_P D vwCl [] H1 := hP.kept (fun k9 q9 h9 => hk1 q9.1 (vx_lt hP h9) (fun h => h))
  generalize H1 = H at hP hS ⊢
  try dsimp only at w_2
  have b_x_1 := ti_b x_1
  refine lv_if_eq (tgt := 16) hx hb dJ0_charAt_5068e_4 (by decide) (fun c_3 => by have ic_3 : (x_1 : Int32).toInt = (0 : Int32).toInt := (fa_eq x_1 0).mp c_3; exfalso; omega) (fun c_3 => ?_)
  have ic_3 : ¬ ((x_1 : Int32).toInt = (0 : Int32).toInt) := fun h9 => c_3 ((fa_eq x_1 0).mpr h9)
  refine lv_aload_n hx hb dJ0_charAt_5068e_7 rfl (lv_at hl 0 rfl) ?_
  refine vk_getf hx hb hE0.2.2.1 hS hown (hw 4 (.fieldLink RJ0 9 "java/lang/String" "value" "[B") rfl) (fun _ h9 => h9) dJ0_charAt_5068e_8 ?_
  refine lv_iload_n hx hb dJ0_charAt_5068e_11 rfl (lv_at hl 1 rfl) ?_
  have hPc := hP.sub (ws' := []) [] rfl
  refine va_calli (va_runS (As := [.ref zt, .int p1]) (rest := []) ⟨hx, hb, hml, hown, hts⟩ (c_J1_charAt_3b067 l D cI cD cJ H.size zq zt zN zf p1 (by omega) (by omega) (by omega)) (va_cwS 2 hts (goodIn_app (goodIn_r _ [6, 7, 8] rfl (by decide +kernel)) (goodIn_sub i_J1_charAt_3b067 k_J1_charAt_3b067)) rfl rfl rfl (by decide +kernel) ⟨Nat.le_of_ble_eq_true rfl, Nat.le_of_ble_eq_true rfl⟩) ⟨fun a U g mk q => by obtain ⟨q0, qP, qK, hq0⟩ := q; exact ⟨q0, qP, va_K.moved (u := U) (U := U.calling g mk a) (Vm.Alike.refl U.vm) qK, TZ1.same hq0 rfl⟩, fun U hU hW => ⟨rfl, by rw [hU]; exact hPc, va_K.moved hW.alike hK, by rw [hU]; exact TZ1.warm hW hE0 hS (fun q h => h.elim)⟩⟩ rfl rfl hl.1 rfl (lv_room (Nat.le_of_ble_eq_true rfl)) dJ0_charAt_5068e_12 ⟨Nat.le_of_ble_eq_true rfl, Nat.le_of_ble_eq_true rfl⟩) hS (fun q _ h => h.elim) (fun q h => h.elim) (fun x_4 u t H1 locs ht hvm w_5 hB hz1 hk1 hS => ?_)
  have hP : va_P D vwCl [] H1 := hP.kept (fun k9 q9 h9 => hk1 q9.1 (vx_lt hP h9) (fun h => h))
  generalize H1 = H at hP hS ⊢
  try dsimp only at w_5
  have b_x_4 := ti_b x_4
  exact W.zret (v := x_4) hx hb hr w_5 (fun t ht hW => ⟨⟨x_4, (), rfl, (by (try dsimp only); assumption), trivial⟩, hS.F ht⟩) hS.2.2 dJ0_charAt_5068e_15

def ow_J1_canEncode_9a6ad : List Cond := []
def pw_J1_canEncode_9a6ad : List Cond := Cond.code yJ1_canEncode_9a6ad cJ1_canEncode_9a6ad 1 (some .boolean) :: (ow_J1_canEncode_9a6ad)
set_option maxRecDepth 20000 in
theorem mo_J1_canEncode_9a6ad : ∀ w ∈ ow_J1_canEncode_9a6ad, w ∈ lw_tbl := by decide +kernel
set_option maxRecDepth 20000 in
theorem mc_J1_canEncode_9a6ad : Cond.code yJ1_canEncode_9a6ad cJ1_canEncode_9a6ad 1 (some .boolean) ∈ lw_tbl := by decide +kernel
theorem m_J1_canEncode_9a6ad : ∀ w ∈ pw_J1_canEncode_9a6ad, w ∈ lw_tbl := List.forall_mem_cons.mpr ⟨mc_J1_canEncode_9a6ad, mo_J1_canEncode_9a6ad⟩
theorem ko_J1_canEncode_9a6ad : ∀ w ∈ ow_J1_canEncode_9a6ad, goodWord w = true := by decide +kernel
theorem k_J1_canEncode_9a6ad : pw_J1_canEncode_9a6ad.all goodWord = true := List.all_eq_true.mpr (List.forall_mem_cons.mpr ⟨by decide +kernel, ko_J1_canEncode_9a6ad⟩)
set_option maxHeartbeats 400000 in
set_option maxRecDepth 100000 in
theorem c_J1_canEncode_9a6ad (l : Launch) (D : va_G) (cI cD cJ : ClassId) (sz : Nat) (p1 : Int32) : Met l yJ1_canEncode_9a6ad pw_J1_canEncode_9a6ad ({ frames := 0, cells := 0, slots := 0, locals := 0 }) (va_Pc [.int p1] (fun U => va_P D vwCl [] U.heap ∧ va_K D vwCl (ty3 cI cD cJ) U)) (va_Qi (fun (r : Int32) (u : Unit) => r.toInt = 0 ∨ r.toInt = 1) (fun _ _ => True) (fun _ => False)) 0 0 (fun _ => False) := by
  refine MetF_ofW (cc := cJ1_canEncode_9a6ad) (maxL := 1) (ret := (some .boolean)) (by decide +kernel) rfl ?_
  intro p e s m args below meth c s₁ B hml hv
  obtain ⟨rfl, hP, hK⟩ := hv
  have hx := B.exec
  have hb := B.bytes
  have hr := B.returns
  have hts := atoms_spec (ws := pw_J1_canEncode_9a6ad) B.pre
  have hown : s.vm.findClass RJ1 = some m.cls := findClass_of_methodNamed B.named
  have hlocks := B.notSynchronized
  have hS : va_S (fun _ => False) s.heap s.heap [] := va_S.rf
  have hw : ∀ (k : Nat) (w : Cond), ow_J1_canEncode_9a6ad[k]? = some w → w.before _ s = true := fun k w h => hts w (List.mem_cons_of_mem _ (have h9 := List.mem_of_getElem? h; h9))
  have n_0 : ((0 : Int32)).toInt = 0 := by decide
  have n_1 : ((1 : Int32)).toInt = 1 := by decide
  have n_255 : ((255 : Int32)).toInt = 255 := by decide
  have hl := lv_entry ([.int p1]) (n := 1) (Nat.le_of_ble_eq_true rfl)
  rw [lg_entry_eq]
  generalize (lg_sl ([.int p1]) ++ List.replicate (1 - (lg_sl ([.int p1])).length) Slot.unset).toArray = ls at hl ⊢
  have hl : lv_has ls 1 [(0, .int p1)] := hl
  have b_p1 := ti_b p1
  refine lv_iload_n hx hb dJ1_canEncode_9a6ad_0 rfl (lv_at hl 0 rfl) ?_
  refine lv_if_lt (tgt := 15) hx hb dJ1_canEncode_9a6ad_1 (by decide) (fun c_1 => ?_) (fun c_1 => ?_)
  · have ic_1 : (p1 : Int32).toInt < (0 : Int32).toInt := (fa_lt p1 0).mp c_1
    refine lv_iconst (v := 0) hx hb dJ1_canEncode_9a6ad_15 (by decide) ?_
    exact W.zret (v := 0) hx hb hr rfl (fun t ht hW => ⟨⟨0, (), rfl, (by (try dsimp only); first | omega | assumption), trivial⟩, hS.F ht⟩) hS.2.2 dJ1_canEncode_9a6ad_16
  · have ic_1 : ¬ ((p1 : Int32).toInt < (0 : Int32).toInt) := fun h9 => c_1 ((fa_lt p1 0).mpr h9)
    refine lv_iload_n hx hb dJ1_canEncode_9a6ad_4 rfl (lv_at hl 0 rfl) ?_
    refine lv_sipush (v := 255) hx hb dJ1_canEncode_9a6ad_5 (by decide) ?_
    refine lv_icmp_gt (tgt := 15) hx hb dJ1_canEncode_9a6ad_8 (by decide) (fun c_2 => ?_) (fun c_2 => ?_)
    · have ic_2 : (255 : Int32).toInt < (p1 : Int32).toInt := (fa_lt 255 p1).mp c_2
      refine lv_iconst (v := 0) hx hb dJ1_canEncode_9a6ad_15 (by decide) ?_
      exact W.zret (v := 0) hx hb hr rfl (fun t ht hW => ⟨⟨0, (), rfl, (by (try dsimp only); first | omega | assumption), trivial⟩, hS.F ht⟩) hS.2.2 dJ1_canEncode_9a6ad_16
    · have ic_2 : ¬ ((255 : Int32).toInt < (p1 : Int32).toInt) := fun h9 => c_2 ((fa_lt 255 p1).mpr h9)
      refine lv_iconst (v := 1) hx hb dJ1_canEncode_9a6ad_11 (by decide) ?_
      refine lv_goto (tgt := 16) hx hb dJ1_canEncode_9a6ad_12 (by decide) ?_
      exact W.zret (v := 1) hx hb hr rfl (fun t ht hW => ⟨⟨1, (), rfl, (by (try dsimp only); first | omega | assumption), trivial⟩, hS.F ht⟩) hS.2.2 dJ1_canEncode_9a6ad_16

def ow_J1_indexOfChar_4cfef : List Cond := []
def pw_J1_indexOfChar_4cfef : List Cond := Cond.code yJ1_indexOfChar_4cfef cJ1_indexOfChar_4cfef 6 (some .int) :: (ow_J1_indexOfChar_4cfef)
set_option maxRecDepth 20000 in
theorem mo_J1_indexOfChar_4cfef : ∀ w ∈ ow_J1_indexOfChar_4cfef, w ∈ lw_tbl := by decide +kernel
set_option maxRecDepth 20000 in
theorem mc_J1_indexOfChar_4cfef : Cond.code yJ1_indexOfChar_4cfef cJ1_indexOfChar_4cfef 6 (some .int) ∈ lw_tbl := by decide +kernel
theorem m_J1_indexOfChar_4cfef : ∀ w ∈ pw_J1_indexOfChar_4cfef, w ∈ lw_tbl := List.forall_mem_cons.mpr ⟨mc_J1_indexOfChar_4cfef, mo_J1_indexOfChar_4cfef⟩
theorem ko_J1_indexOfChar_4cfef : ∀ w ∈ ow_J1_indexOfChar_4cfef, goodWord w = true := by decide +kernel
theorem k_J1_indexOfChar_4cfef : pw_J1_indexOfChar_4cfef.all goodWord = true := List.all_eq_true.mpr (List.forall_mem_cons.mpr ⟨by decide +kernel, ko_J1_indexOfChar_4cfef⟩)
set_option maxHeartbeats 400000 in
set_option maxRecDepth 100000 in
theorem c_J1_indexOfChar_4cfef (l : Launch) (D : va_G) (cI cD cJ : ClassId) (sz : Nat) (zq : Nat) (zt : Nat) (zN : Nat) (zf : Nat → Int32) (p1 : Int32) (p2 : Int32) (p3 : Int32) (hN : zN < 2 ^ 31) (hh0 : 0 ≤ p2.toInt) (hh1 : p3.toInt ≤ (zN : Int)) : Met l yJ1_indexOfChar_4cfef pw_J1_indexOfChar_4cfef ({ frames := 0, cells := 0, slots := 0, locals := 0 }) (va_Pc [.ref zt, .int p1, .int p2, .int p3] (fun U => va_P D vwCl [] U.heap ∧ va_K D vwCl (ty3 cI cD cJ) U ∧ TZ1 zq zt zN zf (fun _ => False) U U.heap)) (va_Qi (fun (r : Int32) (u : Unit) => True) (fun _ _ => True) (fun _ => False)) 0 0 (fun _ => False) := by
  refine MetF_ofW (cc := cJ1_indexOfChar_4cfef) (maxL := 6) (ret := (some .int)) (by decide +kernel) rfl ?_
  intro p e s m args below meth c s₁ B hml hv
  obtain ⟨rfl, hP, hK, hE0⟩ := hv
  have hx := B.exec
  have hb := B.bytes
  have hr := B.returns
  have hts := atoms_spec (ws := pw_J1_indexOfChar_4cfef) B.pre
  have hown : s.vm.findClass RJ1 = some m.cls := findClass_of_methodNamed B.named
  have hlocks := B.notSynchronized
  have hS : va_S (fun _ => False) s.heap s.heap [] := va_S.rf
  have hw : ∀ (k : Nat) (w : Cond), ow_J1_indexOfChar_4cfef[k]? = some w → w.before _ s = true := fun k w h => hts w (List.mem_cons_of_mem _ (have h9 := List.mem_of_getElem? h; h9))
  have n_m1 : (((-1) : Int32)).toInt = (-1) := by decide
  have n_1 : ((1 : Int32)).toInt = 1 := by decide
  have hl := lv_entry ([.ref zt, .int p1, .int p2, .int p3]) (n := 6) (Nat.le_of_ble_eq_true rfl)
  rw [lg_entry_eq]
  generalize (lg_sl ([.ref zt, .int p1, .int p2, .int p3]) ++ List.replicate (6 - (lg_sl ([.ref zt, .int p1, .int p2, .int p3])).length) Slot.unset).toArray = ls at hl ⊢
  have hl : lv_has ls 6 [(0, .ref zt), (1, .int p1), (2, .int p2), (3, .int p3)] := hl
  have b_p1 := ti_b p1
  have b_p2 := ti_b p2
  have b_p3 := ti_b p3
  refine zz_cap (fun Z hZ1 hZ2 => ?_)
  refine lv_iload_n hx hb dJ1_indexOfChar_4cfef_0 rfl (lv_at hl 1 rfl) ?_
  refine lv_i2b hx hb dJ1_indexOfChar_4cfef_1 rfl ?_
  refine lv_topi (fun x_1 ex_1 => ?_)
  refine lv_istore (lv' := [(4, .int x_1), (0, .ref zt), (1, .int p1), (2, .int p2), (3, .int p3)]) hx hb dJ1_indexOfChar_4cfef_2 hl (by decide) rfl (fun ls hl => ?_)
  refine lv_iload_n hx hb dJ1_indexOfChar_4cfef_4 rfl (lv_at hl 3 rfl) ?_
  refine lv_istore (lv' := [(5, .int p2), (4, .int x_1), (0, .ref zt), (1, .int p1), (2, .int p2), (3, .int p3)]) hx hb dJ1_indexOfChar_4cfef_5 hl (by decide) rfl (fun ls hl => ?_)
  have L_7 : ∀ (N : Nat) (x_2 : Int32) (H : Heap) (locs : List Loc) (ls : Array Slot), (0 ≤ (x_2 : Int32).toInt) → ((2147483647 - (x_2 : Int32).toInt).toNat < N) → va_P D vwCl [] H → va_S (fun _ => False) s.heap H locs → lv_has ls 6 [(5, .int x_2), (4, .int x_1), (0, .ref zt), (3, .int p3)] → Z 0 0 H locs (F0 m 7 ls []) := by
    intro N
    induction N with
    | zero => intro _ _ _ _ _ hmu; exact absurd hmu (Nat.not_lt_zero _)
    | succ N ih_7 =>
      intro x_2 H locs ls g7_0 hmu hP hS hl
      refine hZ2 ?_
      refine lv_iload hx hb dJ1_indexOfChar_4cfef_7 (lv_at hl 0 rfl) ?_
      refine lv_iload_n hx hb dJ1_indexOfChar_4cfef_9 rfl (lv_at hl 3 rfl) ?_
      refine lv_icmp_ge (tgt := 31) hx hb dJ1_indexOfChar_4cfef_10 (by decide) (fun c_3 => ?_) (fun c_3 => ?_)
      · have ic_3 : (p3 : Int32).toInt ≤ (x_2 : Int32).toInt := (fa_le p3 x_2).mp c_3
        refine lv_iconst (v := (-1)) hx hb dJ1_indexOfChar_4cfef_31 (by decide) ?_
        exact W.iret (v := (-1)) hx hb hr (fun t ht hW => ⟨⟨(-1), (), rfl, trivial, trivial⟩, hS.F ht⟩) hS.2.2 dJ1_indexOfChar_4cfef_32
      · have ic_3 : ¬ ((p3 : Int32).toInt ≤ (x_2 : Int32).toInt) := fun h9 => c_3 ((fa_le p3 x_2).mpr h9)
        refine lv_aload_n hx hb dJ1_indexOfChar_4cfef_13 rfl (lv_at hl 2 rfl) ?_
        refine lv_iload hx hb dJ1_indexOfChar_4cfef_14 (lv_at hl 0 rfl) ?_
        have h_16 : vp_in x_2 zN := by rw [vp_in_iff]; omega
        refine va_tb hx hb hE0.2.2.2.1 hS h_16 (v := .int (zf (x_2 : Int32).toNatClampNeg)) rfl dJ1_indexOfChar_4cfef_16 ?_
        refine lv_topi (fun x_4 ex_4 => ?_)
        refine lv_iload hx hb dJ1_indexOfChar_4cfef_17 (lv_at hl 1 rfl) ?_
        refine lv_icmp_ne (tgt := 25) hx hb dJ1_indexOfChar_4cfef_19 (by decide) (fun c_5 => ?_) (fun c_5 => ?_)
        · have ic_5 : ¬ ((x_4 : Int32).toInt = (x_1 : Int32).toInt) := fun h9 => c_5 ((fa_eq x_4 x_1).mpr h9)
          obtain ⟨x_6, ex_6⟩ : ∃ y : Int32, y = x_2 + 1 := ⟨_, rfl⟩
          have b_x_2 := ti_b x_2
          have tx_6 := ti_add ex_6
          refine lv_iinc (v := x_6) (lv' := [(5, .int x_6), (4, .int x_1), (0, .ref zt), (3, .int p3)]) hx hb dJ1_indexOfChar_4cfef_25 hl (k := 0) rfl (by rw [ex_6]; rfl) (by decide) rfl (fun ls hl => ?_)
          refine lv_goto (tgt := 7) hx hb dJ1_indexOfChar_4cfef_28 (by decide) ?_
          exact hZ1 (ih_7 x_6 _ _ _ (by omega) (by omega) hP hS hl)
        · have ic_5 : (x_4 : Int32).toInt = (x_1 : Int32).toInt := (fa_eq x_4 x_1).mp c_5
          refine lv_iload hx hb dJ1_indexOfChar_4cfef_22 (lv_at hl 0 rfl) ?_
          exact W.iret (v := x_2) hx hb hr (fun t ht hW => ⟨⟨x_2, (), rfl, trivial, trivial⟩, hS.F ht⟩) hS.2.2 dJ1_indexOfChar_4cfef_24
  exact hZ1 (L_7 (((2147483647 - (p2 : Int32).toInt).toNat) + 1) p2 _ _ _ (by omega) (by omega) hP hS (lv_sub hl [0, 1, 2, 5] rfl))

def ow_J1_indexOf_4cfef : List Cond := [Cond.methodLink RJ1 88 yJ1_canEncode_9a6ad, Cond.static yJ1_canEncode_9a6ad, Cond.initialized RJ1, Cond.methodLink RJ1 92 yJ9_max_7cf53, Cond.static yJ9_max_7cf53, Cond.initialized RJ9, Cond.methodLink RJ1 38 yJ9_min_7cf53, Cond.static yJ9_min_7cf53, Cond.methodLink RJ1 95 yJ1_indexOfChar_4cfef, Cond.static yJ1_indexOfChar_4cfef]
def pw_J1_indexOf_4cfef : List Cond := Cond.code yJ1_indexOf_4cfef cJ1_indexOf_4cfef 4 (some .int) :: (ow_J1_indexOf_4cfef ++ (pw_J1_canEncode_9a6ad ++ (pw_J9_max_7cf53 ++ (pw_J9_min_7cf53 ++ (pw_J1_indexOfChar_4cfef)))))
set_option maxRecDepth 20000 in
theorem mo_J1_indexOf_4cfef : ∀ w ∈ ow_J1_indexOf_4cfef, w ∈ lw_tbl := by decide +kernel
set_option maxRecDepth 20000 in
theorem mc_J1_indexOf_4cfef : Cond.code yJ1_indexOf_4cfef cJ1_indexOf_4cfef 4 (some .int) ∈ lw_tbl := by decide +kernel
theorem m_J1_indexOf_4cfef : ∀ w ∈ pw_J1_indexOf_4cfef, w ∈ lw_tbl := List.forall_mem_cons.mpr ⟨mc_J1_indexOf_4cfef, (List.forall_mem_append.mpr ⟨mo_J1_indexOf_4cfef, (List.forall_mem_append.mpr ⟨m_J1_canEncode_9a6ad, (List.forall_mem_append.mpr ⟨m_J9_max_7cf53, (List.forall_mem_append.mpr ⟨m_J9_min_7cf53, m_J1_indexOfChar_4cfef⟩)⟩)⟩)⟩)⟩
theorem ko_J1_indexOf_4cfef : ∀ w ∈ ow_J1_indexOf_4cfef, goodWord w = true := by decide +kernel
theorem k_J1_indexOf_4cfef : pw_J1_indexOf_4cfef.all goodWord = true := List.all_eq_true.mpr (List.forall_mem_cons.mpr ⟨by decide +kernel, (List.forall_mem_append.mpr ⟨ko_J1_indexOf_4cfef, (List.forall_mem_append.mpr ⟨(List.all_eq_true.mp k_J1_canEncode_9a6ad), (List.forall_mem_append.mpr ⟨(List.all_eq_true.mp k_J9_max_7cf53), (List.forall_mem_append.mpr ⟨(List.all_eq_true.mp k_J9_min_7cf53), (List.all_eq_true.mp k_J1_indexOfChar_4cfef)⟩)⟩)⟩)⟩)⟩)
set_option maxHeartbeats 400000 in
set_option maxRecDepth 100000 in
theorem c_J1_indexOf_4cfef (l : Launch) (D : va_G) (cI cD cJ : ClassId) (sz : Nat) (zq : Nat) (zt : Nat) (zN : Nat) (zf : Nat → Int32) (p1 : Int32) (p2 : Int32) (p3 : Int32) (hN : zN < 2 ^ 31) : Met l yJ1_indexOf_4cfef pw_J1_indexOf_4cfef ({ frames := 1, cells := 0, slots := 0, locals := 25 }) (va_Pc [.ref zt, .int p1, .int p2, .int p3] (fun U => va_P D vwCl [] U.heap ∧ va_K D vwCl (ty3 cI cD cJ) U ∧ TZ1 zq zt zN zf (fun _ => False) U U.heap)) (va_Qi (fun (r : Int32) (u : Unit) => True) (fun _ _ => True) (fun _ => False)) 0 0 (fun _ => False) := by
  refine MetF_ofW (cc := cJ1_indexOf_4cfef) (maxL := 4) (ret := (some .int)) (by decide +kernel) rfl ?_
  intro p e s m args below meth c s₁ B hml hv
  obtain ⟨rfl, hP, hK, hE0⟩ := hv
  have hx := B.exec
  have hb := B.bytes
  have hr := B.returns
  have hts := atoms_spec (ws := pw_J1_indexOf_4cfef) B.pre
  have hown : s.vm.findClass RJ1 = some m.cls := findClass_of_methodNamed B.named
  have hlocks := B.notSynchronized
  have hS : va_S (fun _ => False) s.heap s.heap [] := va_S.rf
  have hw : ∀ (k : Nat) (w : Cond), ow_J1_indexOf_4cfef[k]? = some w → w.before _ s = true := fun k w h => hts w (List.mem_cons_of_mem _ (have h9 := List.mem_of_getElem? h; List.mem_append_left _ h9))
  have i_J1_canEncode_9a6ad : ∀ w ∈ pw_J1_canEncode_9a6ad, w ∈ pw_J1_indexOf_4cfef := fun w h9 => List.mem_cons_of_mem _ (List.mem_append_right _ (List.mem_append_left _ h9))
  have i_J9_max_7cf53 : ∀ w ∈ pw_J9_max_7cf53, w ∈ pw_J1_indexOf_4cfef := fun w h9 => List.mem_cons_of_mem _ (List.mem_append_right _ (List.mem_append_right _ (List.mem_append_left _ h9)))
  have i_J9_min_7cf53 : ∀ w ∈ pw_J9_min_7cf53, w ∈ pw_J1_indexOf_4cfef := fun w h9 => List.mem_cons_of_mem _ (List.mem_append_right _ (List.mem_append_right _ (List.mem_append_right _ (List.mem_append_left _ h9))))
  have i_J1_indexOfChar_4cfef : ∀ w ∈ pw_J1_indexOfChar_4cfef, w ∈ pw_J1_indexOf_4cfef := fun w h9 => List.mem_cons_of_mem _ (List.mem_append_right _ (List.mem_append_right _ (List.mem_append_right _ (List.mem_append_right _ (h9)))))
  have n_m1 : (((-1) : Int32)).toInt = (-1) := by decide
  have n_0 : ((0 : Int32)).toInt = 0 := by decide
  have hl := lv_entry ([.ref zt, .int p1, .int p2, .int p3]) (n := 4) (Nat.le_of_ble_eq_true rfl)
  rw [lg_entry_eq]
  generalize (lg_sl ([.ref zt, .int p1, .int p2, .int p3]) ++ List.replicate (4 - (lg_sl ([.ref zt, .int p1, .int p2, .int p3])).length) Slot.unset).toArray = ls at hl ⊢
  have hl : lv_has ls 4 [(0, .ref zt), (1, .int p1), (2, .int p2), (3, .int p3)] := hl
  have b_p1 := ti_b p1
  have b_p2 := ti_b p2
  have b_p3 := ti_b p3
  refine lv_iload_n hx hb dJ1_indexOf_4cfef_0 rfl (lv_at hl 1 rfl) ?_
  have hPc := hP.sub (ws' := []) [] rfl
  refine va_calli (va_runS (As := [.int p1]) (rest := []) ⟨hx, hb, hml, hown, hts⟩ (c_J1_canEncode_9a6ad l D cI cD cJ s.heap.size p1) (va_cwS 1 hts (goodIn_app (goodIn_r _ [1, 2, 3] rfl (by decide +kernel)) (goodIn_sub i_J1_canEncode_9a6ad k_J1_canEncode_9a6ad)) rfl rfl rfl (by decide +kernel) ⟨Nat.le_of_ble_eq_true rfl, Nat.le_of_ble_eq_true rfl⟩) ⟨fun a U g mk q => by obtain ⟨q0, qP, qK⟩ := q; exact ⟨q0, qP, va_K.moved (u := U) (U := U.calling g mk a) (Vm.Alike.refl U.vm) qK⟩, fun U hU hW => ⟨rfl, by rw [hU]; exact hPc, va_K.moved hW.alike hK⟩⟩ rfl rfl hl.1 rfl (lv_room (Nat.le_of_ble_eq_true rfl)) dJ1_indexOf_4cfef_1 ⟨Nat.le_of_ble_eq_true rfl, Nat.le_of_ble_eq_true rfl⟩) hS (fun q _ h => h.elim) (fun q h => h.elim) (fun x_1 u t H1 locs ht hvm w_2 hB hz1 hk1 hS => ?_)
  have hP : va_P D vwCl [] H1 := hP.kept (fun k9 q9 h9 => hk1 q9.1 (vx_lt hP h9) (fun h => h))
  generalize H1 = H at hP hS ⊢
  try dsimp only at w_2
  have b_x_1 := ti_b x_1
  refine lv_if_ne (tgt := 9) hx hb dJ1_indexOf_4cfef_4 (by decide) (fun c_3 => ?_) (fun c_3 => ?_)
  · have ic_3 : ¬ ((x_1 : Int32).toInt = (0 : Int32).toInt) := fun h9 => c_3 ((fa_eq x_1 0).mpr h9)
    refine lv_iload_n hx hb dJ1_indexOf_4cfef_9 rfl (lv_at hl 2 rfl) ?_
    refine lv_iconst (v := 0) hx hb dJ1_indexOf_4cfef_10 (by decide) ?_
    have hPc := hP.sub (ws' := []) [] rfl
    refine va_calli (va_runS (As := [.int p2, .int 0]) (rest := []) ⟨hx, hb, hml, hown, hts⟩ (c_J9_max_7cf53 l D cI cD cJ H.size p2 0) (va_cwS 2 hts (goodIn_app (goodIn_r _ [4, 5, 6] rfl (by decide +kernel)) (goodIn_sub i_J9_max_7cf53 k_J9_max_7cf53)) rfl rfl rfl (by decide +kernel) ⟨Nat.le_of_ble_eq_true rfl, Nat.le_of_ble_eq_true rfl⟩) ⟨fun a U g mk q => by obtain ⟨q0, qP, qK⟩ := q; exact ⟨q0, qP, va_K.moved (u := U) (U := U.calling g mk a) (Vm.Alike.refl U.vm) qK⟩, fun U hU hW => ⟨rfl, by rw [hU]; exact hPc, va_K.moved hW.alike hK⟩⟩ rfl rfl hl.1 rfl (lv_room (Nat.le_of_ble_eq_true rfl)) dJ1_indexOf_4cfef_11 ⟨Nat.le_of_ble_eq_true rfl, Nat.le_of_ble_eq_true rfl⟩) hS (fun q _ h => h.elim) (fun q h => h.elim) (fun x_4 u t H1 locs ht hvm w_5 hB hz1 hk1 hS => ?_)
    have hP : va_P D vwCl [] H1 := hP.kept (fun k9 q9 h9 => hk1 q9.1 (vx_lt hP h9) (fun h => h))
    generalize H1 = H at hP hS ⊢
    try dsimp only at w_5
    have b_x_4 := ti_b x_4
    refine lv_istore_n (lv' := [(2, .int x_4), (0, .ref zt), (1, .int p1), (3, .int p3)]) hx hb dJ1_indexOf_4cfef_14 rfl hl (by decide) rfl (fun ls hl => ?_)
    refine lv_iload_n hx hb dJ1_indexOf_4cfef_15 rfl (lv_at hl 3 rfl) ?_
    refine lv_aload_n hx hb dJ1_indexOf_4cfef_16 rfl (lv_at hl 1 rfl) ?_
    refine va_tlen hx hb hE0.2.2.2.1 hS (v := Int32.ofNat zN) rfl dJ1_indexOf_4cfef_17 ?_
    refine lv_topi (fun x_6 ex_6 => ?_)
    have tx_6 : (x_6 : Int32).toInt = (zN : Int) := by rw [ex_6]; exact nI_toInt (n := zN) hN
    have b_x_6 := ti_b x_6
    have hPc := hP.sub (ws' := []) [] rfl
    refine va_calli (va_runS (As := [.int p3, .int x_6]) (rest := []) ⟨hx, hb, hml, hown, hts⟩ (c_J9_min_7cf53 l D cI cD cJ H.size p3 x_6) (va_cwS 2 hts (goodIn_app (goodIn_r _ [7, 8, 6] rfl (by decide +kernel)) (goodIn_sub i_J9_min_7cf53 k_J9_min_7cf53)) rfl rfl rfl (by decide +kernel) ⟨Nat.le_of_ble_eq_true rfl, Nat.le_of_ble_eq_true rfl⟩) ⟨fun a U g mk q => by obtain ⟨q0, qP, qK⟩ := q; exact ⟨q0, qP, va_K.moved (u := U) (U := U.calling g mk a) (Vm.Alike.refl U.vm) qK⟩, fun U hU hW => ⟨rfl, by rw [hU]; exact hPc, va_K.moved hW.alike hK⟩⟩ rfl rfl hl.1 rfl (lv_room (Nat.le_of_ble_eq_true rfl)) dJ1_indexOf_4cfef_18 ⟨Nat.le_of_ble_eq_true rfl, Nat.le_of_ble_eq_true rfl⟩) hS (fun q _ h => h.elim) (fun q h => h.elim) (fun x_7 u t H1 locs ht hvm w_8 hB hz1 hk1 hS => ?_)
    have hP : va_P D vwCl [] H1 := hP.kept (fun k9 q9 h9 => hk1 q9.1 (vx_lt hP h9) (fun h => h))
    generalize H1 = H at hP hS ⊢
    try dsimp only at w_8
    have b_x_7 := ti_b x_7
    refine lv_istore_n (lv' := [(3, .int x_7), (2, .int x_4), (0, .ref zt), (1, .int p1)]) hx hb dJ1_indexOf_4cfef_21 rfl hl (by decide) rfl (fun ls hl => ?_)
    refine lv_iload_n hx hb dJ1_indexOf_4cfef_22 rfl (lv_at hl 1 rfl) ?_
    refine lv_iload_n hx hb dJ1_indexOf_4cfef_23 rfl (lv_at hl 0 rfl) ?_
    refine lv_icmp_lt (tgt := 29) hx hb dJ1_indexOf_4cfef_24 (by decide) (fun c_9 => ?_) (fun c_9 => ?_)
    · have ic_9 : (x_4 : Int32).toInt < (x_7 : Int32).toInt := (fa_lt x_4 x_7).mp c_9
      refine lv_aload_n hx hb dJ1_indexOf_4cfef_29 rfl (lv_at hl 2 rfl) ?_
      refine lv_iload_n hx hb dJ1_indexOf_4cfef_30 rfl (lv_at hl 3 rfl) ?_
      refine lv_iload_n hx hb dJ1_indexOf_4cfef_31 rfl (lv_at hl 1 rfl) ?_
      refine lv_iload_n hx hb dJ1_indexOf_4cfef_32 rfl (lv_at hl 0 rfl) ?_
      have hPc := hP.sub (ws' := []) [] rfl
      refine va_calli (va_runS (As := [.ref zt, .int p1, .int x_4, .int x_7]) (rest := []) ⟨hx, hb, hml, hown, hts⟩ (c_J1_indexOfChar_4cfef l D cI cD cJ H.size zq zt zN zf p1 x_4 x_7 (by omega) (by omega) (by omega)) (va_cwS 4 hts (goodIn_app (goodIn_r _ [9, 10, 3] rfl (by decide +kernel)) (goodIn_sub i_J1_indexOfChar_4cfef k_J1_indexOfChar_4cfef)) rfl rfl rfl (by decide +kernel) ⟨Nat.le_of_ble_eq_true rfl, Nat.le_of_ble_eq_true rfl⟩) ⟨fun a U g mk q => by obtain ⟨q0, qP, qK, hq0⟩ := q; exact ⟨q0, qP, va_K.moved (u := U) (U := U.calling g mk a) (Vm.Alike.refl U.vm) qK, TZ1.same hq0 rfl⟩, fun U hU hW => ⟨rfl, by rw [hU]; exact hPc, va_K.moved hW.alike hK, by rw [hU]; exact TZ1.warm hW hE0 hS (fun q h => h.elim)⟩⟩ rfl rfl hl.1 rfl (lv_room (Nat.le_of_ble_eq_true rfl)) dJ1_indexOf_4cfef_33 ⟨Nat.le_of_ble_eq_true rfl, Nat.le_of_ble_eq_true rfl⟩) hS (fun q _ h => h.elim) (fun q h => h.elim) (fun x_10 u t H1 locs ht hvm w_11 hB hz1 hk1 hS => ?_)
      have hP : va_P D vwCl [] H1 := hP.kept (fun k9 q9 h9 => hk1 q9.1 (vx_lt hP h9) (fun h => h))
      generalize H1 = H at hP hS ⊢
      have b_x_10 := ti_b x_10
      exact W.iret (v := x_10) hx hb hr (fun t ht hW => ⟨⟨x_10, (), rfl, trivial, trivial⟩, hS.F ht⟩) hS.2.2 dJ1_indexOf_4cfef_36
    · have ic_9 : ¬ ((x_4 : Int32).toInt < (x_7 : Int32).toInt) := fun h9 => c_9 ((fa_lt x_4 x_7).mpr h9)
      refine lv_iconst (v := (-1)) hx hb dJ1_indexOf_4cfef_27 (by decide) ?_
      exact W.iret (v := (-1)) hx hb hr (fun t ht hW => ⟨⟨(-1), (), rfl, trivial, trivial⟩, hS.F ht⟩) hS.2.2 dJ1_indexOf_4cfef_28
  · have ic_3 : (x_1 : Int32).toInt = (0 : Int32).toInt := (fa_eq x_1 0).mp c_3
    refine lv_iconst (v := (-1)) hx hb dJ1_indexOf_4cfef_7 (by decide) ?_
    exact W.iret (v := (-1)) hx hb hr (fun t ht hW => ⟨⟨(-1), (), rfl, trivial, trivial⟩, hS.F ht⟩) hS.2.2 dJ1_indexOf_4cfef_8

def ow_J0_indexOf_7cf53 : List Cond := [Cond.methodLink RJ0 492 yJ0_isLatin1_aae02, Cond.instanceMethod yJ0_isLatin1_aae02, Cond.selects RJ0 yJ0_isLatin1_aae02 yJ0_isLatin1_aae02, Cond.initialized RJ0, Cond.fieldLink RJ0 9 "java/lang/String" "value" "[B", Cond.methodLink RJ0 505 yJ0_length_8abf5, Cond.instanceMethod yJ0_length_8abf5, Cond.selects RJ0 yJ0_length_8abf5 yJ0_length_8abf5, Cond.methodLink RJ0 637 yJ1_indexOf_4cfef, Cond.static yJ1_indexOf_4cfef, Cond.initialized RJ1]
def pw_J0_indexOf_7cf53 : List Cond := Cond.code yJ0_indexOf_7cf53 cJ0_indexOf_7cf53 3 (some .int) :: (ow_J0_indexOf_7cf53 ++ (pw_J0_isLatin1_aae02 ++ (pw_J0_length_8abf5 ++ (pw_J1_indexOf_4cfef))))
set_option maxRecDepth 20000 in
theorem mo_J0_indexOf_7cf53 : ∀ w ∈ ow_J0_indexOf_7cf53, w ∈ lw_tbl := by decide +kernel
set_option maxRecDepth 20000 in
theorem mc_J0_indexOf_7cf53 : Cond.code yJ0_indexOf_7cf53 cJ0_indexOf_7cf53 3 (some .int) ∈ lw_tbl := by decide +kernel
theorem m_J0_indexOf_7cf53 : ∀ w ∈ pw_J0_indexOf_7cf53, w ∈ lw_tbl := List.forall_mem_cons.mpr ⟨mc_J0_indexOf_7cf53, (List.forall_mem_append.mpr ⟨mo_J0_indexOf_7cf53, (List.forall_mem_append.mpr ⟨m_J0_isLatin1_aae02, (List.forall_mem_append.mpr ⟨m_J0_length_8abf5, m_J1_indexOf_4cfef⟩)⟩)⟩)⟩
theorem ko_J0_indexOf_7cf53 : ∀ w ∈ ow_J0_indexOf_7cf53, goodWord w = true := by decide +kernel
theorem k_J0_indexOf_7cf53 : pw_J0_indexOf_7cf53.all goodWord = true := List.all_eq_true.mpr (List.forall_mem_cons.mpr ⟨by decide +kernel, (List.forall_mem_append.mpr ⟨ko_J0_indexOf_7cf53, (List.forall_mem_append.mpr ⟨(List.all_eq_true.mp k_J0_isLatin1_aae02), (List.forall_mem_append.mpr ⟨(List.all_eq_true.mp k_J0_length_8abf5), (List.all_eq_true.mp k_J1_indexOf_4cfef)⟩)⟩)⟩)⟩)
set_option maxHeartbeats 400000 in
set_option maxRecDepth 100000 in
theorem c_J0_indexOf_7cf53 (l : Launch) (D : va_G) (cI cD cJ : ClassId) (sz : Nat) (zq : Nat) (zt : Nat) (zN : Nat) (zf : Nat → Int32) (p1 : Int32) (p2 : Int32) (hN : zN < 2 ^ 31) : Met l yJ0_indexOf_7cf53 pw_J0_indexOf_7cf53 ({ frames := 2, cells := 0, slots := 0, locals := 48 }) (va_Pc [.ref zq, .int p1, .int p2] (fun U => va_P D vwCl [] U.heap ∧ va_K D vwCl (ty3 cI cD cJ) U ∧ TZ1 zq zt zN zf (fun _ => False) U U.heap)) (va_Qi (fun (r : Int32) (u : Unit) => True) (fun _ _ => True) (fun _ => False)) 0 0 (fun _ => False) := by
  refine MetF_ofW (cc := cJ0_indexOf_7cf53) (maxL := 3) (ret := (some .int)) (by decide +kernel) rfl ?_
  intro p e s m args below meth c s₁ B hml hv
  obtain ⟨rfl, hP, hK, hE0⟩ := hv
  have hx := B.exec
  have hb := B.bytes
  have hr := B.returns
  have hts := atoms_spec (ws := pw_J0_indexOf_7cf53) B.pre
  have hown : s.vm.findClass RJ0 = some m.cls := findClass_of_methodNamed B.named
  have hlocks := B.notSynchronized
  have hS : va_S (fun _ => False) s.heap s.heap [] := va_S.rf
  have hw : ∀ (k : Nat) (w : Cond), ow_J0_indexOf_7cf53[k]? = some w → w.before _ s = true := fun k w h => hts w (List.mem_cons_of_mem _ (have h9 := List.mem_of_getElem? h; List.mem_append_left _ h9))
  have i_J0_isLatin1_aae02 : ∀ w ∈ pw_J0_isLatin1_aae02, w ∈ pw_J0_indexOf_7cf53 := fun w h9 => List.mem_cons_of_mem _ (List.mem_append_right _ (List.mem_append_left _ h9))
  have i_J0_length_8abf5 : ∀ w ∈ pw_J0_length_8abf5, w ∈ pw_J0_indexOf_7cf53 := fun w h9 => List.mem_cons_of_mem _ (List.mem_append_right _ (List.mem_append_right _ (List.mem_append_left _ h9)))
  have i_J1_indexOf_4cfef : ∀ w ∈ pw_J1_indexOf_4cfef, w ∈ pw_J0_indexOf_7cf53 := fun w h9 => List.mem_cons_of_mem _ (List.mem_append_right _ (List.mem_append_right _ (List.mem_append_right _ (h9))))
  have n_0 : ((0 : Int32)).toInt = 0 := by decide
  have hl := lv_entry ([.ref zq, .int p1, .int p2]) (n := 3) (Nat.le_of_ble_eq_true rfl)
  rw [lg_entry_eq]
  generalize (lg_sl ([.ref zq, .int p1, .int p2]) ++ List.replicate (3 - (lg_sl ([.ref zq, .int p1, .int p2])).length) Slot.unset).toArray = ls at hl ⊢
  have hl : lv_has ls 3 [(0, .ref zq), (1, .int p1), (2, .int p2)] := hl
  have b_p1 := ti_b p1
  have b_p2 := ti_b p2
  refine lv_aload_n hx hb dJ0_indexOf_7cf53_0 rfl (lv_at hl 0 rfl) ?_
  have hPc := hP.sub (ws' := []) [] rfl
  refine va_calli (va_runV (As := []) (rest := []) ⟨hx, hb, hml, hown, hts⟩ (c_J0_isLatin1_aae02 l D cI cD cJ s.heap.size zq zt zN zf (by omega)) (cwV 0 hts (goodIn_app (goodIn_r _ [1, 2, 3, 4] rfl (by decide +kernel)) (goodIn_sub i_J0_isLatin1_aae02 k_J0_isLatin1_aae02)) rfl rfl rfl (by decide +kernel) ⟨Nat.le_of_ble_eq_true rfl, Nat.le_of_ble_eq_true rfl⟩) ⟨fun a U g mk q => by obtain ⟨q0, qP, qK, hq0⟩ := q; exact ⟨q0, qP, va_K.moved (u := U) (U := U.calling g mk a) (Vm.Alike.refl U.vm) qK, TZ1.same hq0 rfl⟩, va_Orecv hE0.1 hS, fun U hU hW => ⟨rfl, by rw [hU]; exact hPc, va_K.moved hW.alike hK, by rw [hU]; exact TZ1.warm hW hE0 hS (fun q h => h.elim)⟩⟩ rfl rfl hl.1 rfl (lv_room (Nat.le_of_ble_eq_true rfl)) dJ0_indexOf_7cf53_1 ⟨Nat.le_of_ble_eq_true rfl, Nat.le_of_ble_eq_true rfl⟩) hS (fun q _ h => h.elim) (fun q h => h.elim) (fun x_1 u t H1 locs ht hvm w_2 hB hz1 hk1 hS => ?_)
  have hP : va_P D vwCl [] H1 := hP.kept (fun k9 q9 h9 => hk1 q9.1 (vx_lt hP h9) (fun h => h))
  generalize H1 = H at hP hS ⊢
  try dsimp only at w_2
  have b_x_1 := ti_b x_1
  refine lv_if_eq (tgt := 23) hx hb dJ0_indexOf_7cf53_4 (by decide) (fun c_3 => by have ic_3 : (x_1 : Int32).toInt = (0 : Int32).toInt := (fa_eq x_1 0).mp c_3; exfalso; omega) (fun c_3 => ?_)
  have ic_3 : ¬ ((x_1 : Int32).toInt = (0 : Int32).toInt) := fun h9 => c_3 ((fa_eq x_1 0).mpr h9)
  refine lv_aload_n hx hb dJ0_indexOf_7cf53_7 rfl (lv_at hl 0 rfl) ?_
  refine vk_getf hx hb hE0.2.2.1 hS hown (hw 4 (.fieldLink RJ0 9 "java/lang/String" "value" "[B") rfl) (fun _ h9 => h9) dJ0_indexOf_7cf53_8 ?_
  refine lv_iload_n hx hb dJ0_indexOf_7cf53_11 rfl (lv_at hl 1 rfl) ?_
  refine lv_iload_n hx hb dJ0_indexOf_7cf53_12 rfl (lv_at hl 2 rfl) ?_
  refine lv_aload_n hx hb dJ0_indexOf_7cf53_13 rfl (lv_at hl 0 rfl) ?_
  have hPc := hP.sub (ws' := []) [] rfl
  refine va_calli (va_runV (As := []) (rest := [.int p2, .int p1, .ref zt]) ⟨hx, hb, hml, hown, hts⟩ (c_J0_length_8abf5 l D cI cD cJ H.size zq zt zN zf (by omega)) (cwV 0 hts (goodIn_app (goodIn_r _ [6, 7, 8, 4] rfl (by decide +kernel)) (goodIn_sub i_J0_length_8abf5 k_J0_length_8abf5)) rfl rfl rfl (by decide +kernel) ⟨Nat.le_of_ble_eq_true rfl, Nat.le_of_ble_eq_true rfl⟩) ⟨fun a U g mk q => by obtain ⟨q0, qP, qK, hq0⟩ := q; exact ⟨q0, qP, va_K.moved (u := U) (U := U.calling g mk a) (Vm.Alike.refl U.vm) qK, TZ1.same hq0 rfl⟩, va_Orecv hE0.1 hS, fun U hU hW => ⟨rfl, by rw [hU]; exact hPc, va_K.moved hW.alike hK, by rw [hU]; exact TZ1.warm hW hE0 hS (fun q h => h.elim)⟩⟩ rfl rfl hl.1 rfl (lv_room (Nat.le_of_ble_eq_true rfl)) dJ0_indexOf_7cf53_14 ⟨Nat.le_of_ble_eq_true rfl, Nat.le_of_ble_eq_true rfl⟩) hS (fun q _ h => h.elim) (fun q h => h.elim) (fun x_4 u t H1 locs ht hvm w_5 hB hz1 hk1 hS => ?_)
  have hP : va_P D vwCl [] H1 := hP.kept (fun k9 q9 h9 => hk1 q9.1 (vx_lt hP h9) (fun h => h))
  generalize H1 = H at hP hS ⊢
  try dsimp only at w_5
  have b_x_4 := ti_b x_4
  have hPc := hP.sub (ws' := []) [] rfl
  refine va_calli (va_runS (As := [.ref zt, .int p1, .int p2, .int x_4]) (rest := []) ⟨hx, hb, hml, hown, hts⟩ (c_J1_indexOf_4cfef l D cI cD cJ H.size zq zt zN zf p1 p2 x_4 (by omega)) (va_cwS 4 hts (goodIn_app (goodIn_r _ [9, 10, 11] rfl (by decide +kernel)) (goodIn_sub i_J1_indexOf_4cfef k_J1_indexOf_4cfef)) rfl rfl rfl (by decide +kernel) ⟨Nat.le_of_ble_eq_true rfl, Nat.le_of_ble_eq_true rfl⟩) ⟨fun a U g mk q => by obtain ⟨q0, qP, qK, hq0⟩ := q; exact ⟨q0, qP, va_K.moved (u := U) (U := U.calling g mk a) (Vm.Alike.refl U.vm) qK, TZ1.same hq0 rfl⟩, fun U hU hW => ⟨rfl, by rw [hU]; exact hPc, va_K.moved hW.alike hK, by rw [hU]; exact TZ1.warm hW hE0 hS (fun q h => h.elim)⟩⟩ rfl rfl hl.1 rfl (lv_room (Nat.le_of_ble_eq_true rfl)) dJ0_indexOf_7cf53_17 ⟨Nat.le_of_ble_eq_true rfl, Nat.le_of_ble_eq_true rfl⟩) hS (fun q _ h => h.elim) (fun q h => h.elim) (fun x_6 u t H1 locs ht hvm w_7 hB hz1 hk1 hS => ?_)
  have hP : va_P D vwCl [] H1 := hP.kept (fun k9 q9 h9 => hk1 q9.1 (vx_lt hP h9) (fun h => h))
  generalize H1 = H at hP hS ⊢
  have b_x_6 := ti_b x_6
  refine lv_goto (tgt := 36) hx hb dJ0_indexOf_7cf53_20 (by decide) ?_
  exact W.iret (v := x_6) hx hb hr (fun t ht hW => ⟨⟨x_6, (), rfl, trivial, trivial⟩, hS.F ht⟩) hS.2.2 dJ0_indexOf_7cf53_36

def ow_J0_indexOf_0f7a4 : List Cond := [Cond.methodLink RJ0 633 yJ0_indexOf_7cf53, Cond.instanceMethod yJ0_indexOf_7cf53, Cond.selects RJ0 yJ0_indexOf_7cf53 yJ0_indexOf_7cf53, Cond.initialized RJ0]
def pw_J0_indexOf_0f7a4 : List Cond := Cond.code yJ0_indexOf_0f7a4 cJ0_indexOf_0f7a4 2 (some .int) :: (ow_J0_indexOf_0f7a4 ++ (pw_J0_indexOf_7cf53))
set_option maxRecDepth 20000 in
theorem mo_J0_indexOf_0f7a4 : ∀ w ∈ ow_J0_indexOf_0f7a4, w ∈ lw_tbl := by decide +kernel
set_option maxRecDepth 20000 in
theorem mc_J0_indexOf_0f7a4 : Cond.code yJ0_indexOf_0f7a4 cJ0_indexOf_0f7a4 2 (some .int) ∈ lw_tbl := by decide +kernel
theorem m_J0_indexOf_0f7a4 : ∀ w ∈ pw_J0_indexOf_0f7a4, w ∈ lw_tbl := List.forall_mem_cons.mpr ⟨mc_J0_indexOf_0f7a4, (List.forall_mem_append.mpr ⟨mo_J0_indexOf_0f7a4, m_J0_indexOf_7cf53⟩)⟩
theorem ko_J0_indexOf_0f7a4 : ∀ w ∈ ow_J0_indexOf_0f7a4, goodWord w = true := by decide +kernel
theorem k_J0_indexOf_0f7a4 : pw_J0_indexOf_0f7a4.all goodWord = true := List.all_eq_true.mpr (List.forall_mem_cons.mpr ⟨by decide +kernel, (List.forall_mem_append.mpr ⟨ko_J0_indexOf_0f7a4, (List.all_eq_true.mp k_J0_indexOf_7cf53)⟩)⟩)
set_option maxHeartbeats 400000 in
set_option maxRecDepth 100000 in
theorem c_J0_indexOf_0f7a4 (l : Launch) (D : va_G) (cI cD cJ : ClassId) (sz : Nat) (zq : Nat) (zt : Nat) (zN : Nat) (zf : Nat → Int32) (p1 : Int32) (hN : zN < 2 ^ 31) : Met l yJ0_indexOf_0f7a4 pw_J0_indexOf_0f7a4 ({ frames := 3, cells := 0, slots := 0, locals := 70 }) (va_Pc [.ref zq, .int p1] (fun U => va_P D vwCl [] U.heap ∧ va_K D vwCl (ty3 cI cD cJ) U ∧ TZ1 zq zt zN zf (fun _ => False) U U.heap)) (va_Qi (fun (r : Int32) (u : Unit) => True) (fun _ _ => True) (fun _ => False)) 0 0 (fun _ => False) := by
  refine MetF_ofW (cc := cJ0_indexOf_0f7a4) (maxL := 2) (ret := (some .int)) (by decide +kernel) rfl ?_
  intro p e s m args below meth c s₁ B hml hv
  obtain ⟨rfl, hP, hK, hE0⟩ := hv
  have hx := B.exec
  have hb := B.bytes
  have hr := B.returns
  have hts := atoms_spec (ws := pw_J0_indexOf_0f7a4) B.pre
  have hown : s.vm.findClass RJ0 = some m.cls := findClass_of_methodNamed B.named
  have hlocks := B.notSynchronized
  have hS : va_S (fun _ => False) s.heap s.heap [] := va_S.rf
  have hw : ∀ (k : Nat) (w : Cond), ow_J0_indexOf_0f7a4[k]? = some w → w.before _ s = true := fun k w h => hts w (List.mem_cons_of_mem _ (have h9 := List.mem_of_getElem? h; List.mem_append_left _ h9))
  have i_J0_indexOf_7cf53 : ∀ w ∈ pw_J0_indexOf_7cf53, w ∈ pw_J0_indexOf_0f7a4 := fun w h9 => List.mem_cons_of_mem _ (List.mem_append_right _ (h9))
  have n_0 : ((0 : Int32)).toInt = 0 := by decide
  have hl := lv_entry ([.ref zq, .int p1]) (n := 2) (Nat.le_of_ble_eq_true rfl)
  rw [lg_entry_eq]
  generalize (lg_sl ([.ref zq, .int p1]) ++ List.replicate (2 - (lg_sl ([.ref zq, .int p1])).length) Slot.unset).toArray = ls at hl ⊢
  have hl : lv_has ls 2 [(0, .ref zq), (1, .int p1)] := hl
  have b_p1 := ti_b p1
  refine lv_aload_n hx hb dJ0_indexOf_0f7a4_0 rfl (lv_at hl 0 rfl) ?_
  refine lv_iload_n hx hb dJ0_indexOf_0f7a4_1 rfl (lv_at hl 1 rfl) ?_
  refine lv_iconst (v := 0) hx hb dJ0_indexOf_0f7a4_2 (by decide) ?_
  have hPc := hP.sub (ws' := []) [] rfl
  refine va_calli (va_runV (As := [.int p1, .int 0]) (rest := []) ⟨hx, hb, hml, hown, hts⟩ (c_J0_indexOf_7cf53 l D cI cD cJ s.heap.size zq zt zN zf p1 0 (by omega)) (cwV 2 hts (goodIn_app (goodIn_r _ [1, 2, 3, 4] rfl (by decide +kernel)) (goodIn_sub i_J0_indexOf_7cf53 k_J0_indexOf_7cf53)) rfl rfl rfl (by decide +kernel) ⟨Nat.le_of_ble_eq_true rfl, Nat.le_of_ble_eq_true rfl⟩) ⟨fun a U g mk q => by obtain ⟨q0, qP, qK, hq0⟩ := q; exact ⟨q0, qP, va_K.moved (u := U) (U := U.calling g mk a) (Vm.Alike.refl U.vm) qK, TZ1.same hq0 rfl⟩, va_Orecv hE0.1 hS, fun U hU hW => ⟨rfl, by rw [hU]; exact hPc, va_K.moved hW.alike hK, by rw [hU]; exact TZ1.warm hW hE0 hS (fun q h => h.elim)⟩⟩ rfl rfl hl.1 rfl (lv_room (Nat.le_of_ble_eq_true rfl)) dJ0_indexOf_0f7a4_3 ⟨Nat.le_of_ble_eq_true rfl, Nat.le_of_ble_eq_true rfl⟩) hS (fun q _ h => h.elim) (fun q h => h.elim) (fun x_1 u t H1 locs ht hvm w_2 hB hz1 hk1 hS => ?_)
  have hP : va_P D vwCl [] H1 := hP.kept (fun k9 q9 h9 => hk1 q9.1 (vx_lt hP h9) (fun h => h))
  generalize H1 = H at hP hS ⊢
  have b_x_1 := ti_b x_1
  exact W.iret (v := x_1) hx hb hr (fun t ht hW => ⟨⟨x_1, (), rfl, trivial, trivial⟩, hS.F ht⟩) hS.2.2 dJ0_indexOf_0f7a4_6

