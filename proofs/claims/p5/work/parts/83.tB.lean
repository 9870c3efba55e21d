def ow_X8_kindOf : List Cond := [Cond.methodLink RX8 64 yJ0_indexOf_0f7a4, Cond.instanceMethod yJ0_indexOf_0f7a4, Cond.selects RJ0 yJ0_indexOf_0f7a4 yJ0_indexOf_0f7a4, Cond.initialized RJ0]
def pw_X8_kindOf : List Cond := Cond.code yX8_kindOf cX8_kindOf 1 (some .int) :: (ow_X8_kindOf ++ (pw_J0_indexOf_0f7a4))
set_option maxRecDepth 20000 in
theorem mo_X8_kindOf : ∀ w ∈ ow_X8_kindOf, w ∈ lw_tbl := by decide +kernel
set_option maxRecDepth 20000 in
theorem mc_X8_kindOf : Cond.code yX8_kindOf cX8_kindOf 1 (some .int) ∈ lw_tbl := by decide +kernel
theorem m_X8_kindOf : ∀ w ∈ pw_X8_kindOf, w ∈ lw_tbl := List.forall_mem_cons.mpr ⟨mc_X8_kindOf, (List.forall_mem_append.mpr ⟨mo_X8_kindOf, m_J0_indexOf_0f7a4⟩)⟩
theorem ko_X8_kindOf : ∀ w ∈ ow_X8_kindOf, goodWord w = true := by decide +kernel
theorem k_X8_kindOf : pw_X8_kindOf.all goodWord = true := List.all_eq_true.mpr (List.forall_mem_cons.mpr ⟨by decide +kernel, (List.forall_mem_append.mpr ⟨ko_X8_kindOf, (List.all_eq_true.mp k_J0_indexOf_0f7a4)⟩)⟩)
set_option maxHeartbeats 400000 in
set_option maxRecDepth 100000 in
theorem c_X8_kindOf (l : Launch) (D : va_G) (cI cD cJ : ClassId) (sz : Nat) (p1 : Int32) (aQ : Nat → Nat) (aT : Nat → Nat) (aF : Nat → Nat → Int32) : Met l yX8_kindOf pw_X8_kindOf ({ frames := 4, cells := 0, slots := 0, locals := 91 }) (va_Pc [.int p1] (fun U => va_P D vwCl [] U.heap ∧ va_K D vwCl (ty3 cI cD cJ) U ∧ TZA aQ aT aF (fun _ => False) U U.heap)) (va_Qi (fun (r : Int32) (u : Unit) => True) (fun _ _ => True) (fun _ => False)) 0 0 (fun _ => False) := by
  refine Met.ofW (cc := cX8_kindOf) (maxL := 1) (ret := (some .int)) (by decide +kernel) rfl ?_
  intro p e s m args below meth c s₁ B hml hv
  obtain ⟨rfl, hP, hK, hE0⟩ := hv
  have hx := B.exec
  have hb := B.bytes
  have hr := B.returns
  have hts := atoms_spec (ws := pw_X8_kindOf) B.pre
  have hown : s.vm.findClass RX8 = some m.cls := findClass_of_methodNamed B.named
  have hlocks := B.notSynchronized
  have hS : va_S (fun _ => False) s.heap s.heap [] := va_S.rf
  have hw : ∀ (k : Nat) (w : Cond), ow_X8_kindOf[k]? = some w → w.before _ s = true := fun k w h => hts w (List.mem_cons_of_mem _ (have h9 := List.mem_of_getElem? h; List.mem_append_left _ h9))
  have i_J0_indexOf_0f7a4 : ∀ w ∈ pw_J0_indexOf_0f7a4, w ∈ pw_X8_kindOf := fun w h9 => List.mem_cons_of_mem _ (List.mem_append_right _ (h9))
  have n_0 : ((0 : Int32)).toInt = 0 := by decide
  have n_1 : ((1 : Int32)).toInt = 1 := by decide
  have n_126 : ((126 : Int32)).toInt = 126 := by decide
  have n_4 : ((4 : Int32)).toInt = 4 := by decide
  have n_5 : ((5 : Int32)).toInt = 5 := by decide
  have n_6 : ((6 : Int32)).toInt = 6 := by decide
  have n_7 : ((7 : Int32)).toInt = 7 := by decide
  have n_8 : ((8 : Int32)).toInt = 8 := by decide
  have n_9 : ((9 : Int32)).toInt = 9 := by decide
  have hl := lv_entry ([.int p1]) (n := 1) (Nat.le_of_ble_eq_true rfl)
  rw [lg_entry_eq]
  generalize (lg_sl ([.int p1]) ++ List.replicate (1 - (lg_sl ([.int p1])).length) Slot.unset).toArray = ls at hl ⊢
  have hl : lv_has ls 1 [(0, .int p1)] := hl
  have b_p1 := ti_b p1
  refine zz_cap (fun Z hZ1 hZ2 => ?_)
  refine lv_iload_n hx hb dX8_kindOf_0 rfl (lv_at hl 0 rfl) ?_
  rcases (show (p1 : Int32).toInt < 35 ∨ 64 < (p1 : Int32).toInt ∨ (p1 : Int32).toInt = 35 ∨ (p1 : Int32).toInt = 36 ∨ (p1 : Int32).toInt = 37 ∨ (p1 : Int32).toInt = 38 ∨ (p1 : Int32).toInt = 39 ∨ (p1 : Int32).toInt = 40 ∨ (p1 : Int32).toInt = 41 ∨ (p1 : Int32).toInt = 42 ∨ (p1 : Int32).toInt = 43 ∨ (p1 : Int32).toInt = 44 ∨ (p1 : Int32).toInt = 45 ∨ (p1 : Int32).toInt = 46 ∨ (p1 : Int32).toInt = 47 ∨ (p1 : Int32).toInt = 48 ∨ (p1 : Int32).toInt = 49 ∨ (p1 : Int32).toInt = 50 ∨ (p1 : Int32).toInt = 51 ∨ (p1 : Int32).toInt = 52 ∨ (p1 : Int32).toInt = 53 ∨ (p1 : Int32).toInt = 54 ∨ (p1 : Int32).toInt = 55 ∨ (p1 : Int32).toInt = 56 ∨ (p1 : Int32).toInt = 57 ∨ (p1 : Int32).toInt = 58 ∨ (p1 : Int32).toInt = 59 ∨ (p1 : Int32).toInt = 60 ∨ (p1 : Int32).toInt = 61 ∨ (p1 : Int32).toInt = 62 ∨ (p1 : Int32).toInt = 63 ∨ (p1 : Int32).toInt = 64 by omega) with v_1 | v_1 | v_1 | v_1 | v_1 | v_1 | v_1 | v_1 | v_1 | v_1 | v_1 | v_1 | v_1 | v_1 | v_1 | v_1 | v_1 | v_1 | v_1 | v_1 | v_1 | v_1 | v_1 | v_1 | v_1 | v_1 | v_1 | v_1 | v_1 | v_1 | v_1 | v_1
  · refine lv_tableOut (tgt := 152) hx hb dX8_kindOf_1 (Or.inl v_1) (by decide) ?_
    refine lv_iload_n hx hb dX8_kindOf_152 rfl (lv_at hl 0 rfl) ?_
    refine lv_bipush (v := 126) hx hb dX8_kindOf_153 (by decide) ?_
    have K_168 : ∀ (H : Heap) (locs : List Loc) (ls : Array Slot), va_P D vwCl [] H → va_S (fun _ => False) s.heap H locs → lv_has ls 1 [] → Z 0 0 H locs (F0 m 168 ls []) := by
      intro  H locs ls  hP hS hl
      refine hZ2 ?_
      refine lv_iconst (v := 1) hx hb dX8_kindOf_168 (by decide) ?_
      refine lv_goto (tgt := 173) hx hb dX8_kindOf_169 (by decide) ?_
      exact W.iret (v := 1) hx hb hr (fun t ht hW => ⟨⟨1, (), rfl, trivial, trivial⟩, hS.F ht⟩) hS.2.2 dX8_kindOf_173
    refine lv_icmp_gt (tgt := 168) hx hb dX8_kindOf_155 (by decide) (fun c_2 => ?_) (fun c_2 => ?_)
    · have ic_2 : (126 : Int32).toInt < (p1 : Int32).toInt := (fa_lt 126 p1).mp c_2
      exact hZ1 (K_168  _ _ _ hP hS (lv_sub hl [] rfl))
    · have ic_2 : ¬ ((126 : Int32).toInt < (p1 : Int32).toInt) := fun h9 => c_2 ((fa_lt 126 p1).mpr h9)
      refine va_ldcS hx hb hown hE0.2.2.2.1.1 dX8_kindOf_158 ?_
      refine lv_iload_n hx hb dX8_kindOf_160 rfl (lv_at hl 0 rfl) ?_
      refine lv_i2c hx hb dX8_kindOf_161 rfl ?_
      refine lv_topi (fun x_3 ex_3 => ?_)
      have tx_3 := ti_i2c ex_3
      have hPc := hP.sub (ws' := []) [] rfl
      refine va_calli (va_runV (As := [.int x_3]) (rest := []) ⟨hx, hb, hml, hown, hts⟩ (c_J0_indexOf_0f7a4 l D cI cD cJ s.heap.size ((aQ 3)) ((aT 3)) 19 ((aF 3)) x_3 (by omega)) (cwV 1 hts (goodIn_app (goodIn_r _ [1, 2, 3, 4] rfl (by decide +kernel)) (goodIn_sub i_J0_indexOf_0f7a4 k_J0_indexOf_0f7a4)) rfl rfl rfl (by decide +kernel) ⟨Nat.le_of_ble_eq_true rfl, Nat.le_of_ble_eq_true rfl⟩) ⟨fun a U g mk q => by obtain ⟨q0, qP, qK, hq0⟩ := q; exact ⟨q0, qP, va_K.moved (u := U) (U := U.calling g mk a) (Vm.Alike.refl U.vm) qK, TZ1.same hq0 rfl⟩, va_Orecv hE0.2.2.2.1.2.1 hS, fun U hU hW => ⟨rfl, by rw [hU]; exact hPc, va_K.moved hW.alike hK, by rw [hU]; exact TZ1.warm hW hE0.2.2.2.1.2 hS (fun q h => h.elim)⟩⟩ rfl rfl hl.1 rfl (lv_room (Nat.le_of_ble_eq_true rfl)) dX8_kindOf_162 ⟨Nat.le_of_ble_eq_true rfl, Nat.le_of_ble_eq_true rfl⟩) hS (fun q _ h => h.elim) (fun q h => h.elim) (fun x_4 u t H1 locs ht hvm w_5 hB hz1 hk1 hS => ?_)
      have hP : va_P D vwCl [] H1 := hP.kept (fun k9 q9 h9 => hk1 q9.1 (vx_lt hP h9) (fun h => h))
      generalize H1 = H at hP hS ⊢
      have b_x_4 := ti_b x_4
      refine lv_if_lt (tgt := 172) hx hb dX8_kindOf_165 (by decide) (fun c_6 => ?_) (fun c_6 => ?_)
      · have ic_6 : (x_4 : Int32).toInt < (0 : Int32).toInt := (fa_lt x_4 0).mp c_6
        refine lv_iconst (v := 0) hx hb dX8_kindOf_172 (by decide) ?_
        exact W.iret (v := 0) hx hb hr (fun t ht hW => ⟨⟨0, (), rfl, trivial, trivial⟩, hS.F ht⟩) hS.2.2 dX8_kindOf_173
      · have ic_6 : ¬ ((x_4 : Int32).toInt < (0 : Int32).toInt) := fun h9 => c_6 ((fa_lt x_4 0).mpr h9)
        exact hZ1 (K_168  _ _ _ hP hS (lv_sub hl [] rfl))
  · refine lv_tableOut (tgt := 152) hx hb dX8_kindOf_1 (Or.inr v_1) (by decide) ?_
    refine lv_iload_n hx hb dX8_kindOf_152 rfl (lv_at hl 0 rfl) ?_
    refine lv_bipush (v := 126) hx hb dX8_kindOf_153 (by decide) ?_
    have K_168 : ∀ (H : Heap) (locs : List Loc) (ls : Array Slot), va_P D vwCl [] H → va_S (fun _ => False) s.heap H locs → lv_has ls 1 [] → Z 0 0 H locs (F0 m 168 ls []) := by
      intro  H locs ls  hP hS hl
      refine hZ2 ?_
      refine lv_iconst (v := 1) hx hb dX8_kindOf_168 (by decide) ?_
      refine lv_goto (tgt := 173) hx hb dX8_kindOf_169 (by decide) ?_
      exact W.iret (v := 1) hx hb hr (fun t ht hW => ⟨⟨1, (), rfl, trivial, trivial⟩, hS.F ht⟩) hS.2.2 dX8_kindOf_173
    refine lv_icmp_gt (tgt := 168) hx hb dX8_kindOf_155 (by decide) (fun c_7 => ?_) (fun c_7 => ?_)
    · have ic_7 : (126 : Int32).toInt < (p1 : Int32).toInt := (fa_lt 126 p1).mp c_7
      exact hZ1 (K_168  _ _ _ hP hS (lv_sub hl [] rfl))
    · have ic_7 : ¬ ((126 : Int32).toInt < (p1 : Int32).toInt) := fun h9 => c_7 ((fa_lt 126 p1).mpr h9)
      refine va_ldcS hx hb hown hE0.2.2.2.1.1 dX8_kindOf_158 ?_
      refine lv_iload_n hx hb dX8_kindOf_160 rfl (lv_at hl 0 rfl) ?_
      refine lv_i2c hx hb dX8_kindOf_161 rfl ?_
      refine lv_topi (fun x_8 ex_8 => ?_)
      have tx_8 := ti_i2c ex_8
      have hPc := hP.sub (ws' := []) [] rfl
      refine va_calli (va_runV (As := [.int x_8]) (rest := []) ⟨hx, hb, hml, hown, hts⟩ (c_J0_indexOf_0f7a4 l D cI cD cJ s.heap.size ((aQ 3)) ((aT 3)) 19 ((aF 3)) x_8 (by omega)) (cwV 1 hts (goodIn_app (goodIn_r _ [1, 2, 3, 4] rfl (by decide +kernel)) (goodIn_sub i_J0_indexOf_0f7a4 k_J0_indexOf_0f7a4)) rfl rfl rfl (by decide +kernel) ⟨Nat.le_of_ble_eq_true rfl, Nat.le_of_ble_eq_true rfl⟩) ⟨fun a U g mk q => by obtain ⟨q0, qP, qK, hq0⟩ := q; exact ⟨q0, qP, va_K.moved (u := U) (U := U.calling g mk a) (Vm.Alike.refl U.vm) qK, TZ1.same hq0 rfl⟩, va_Orecv hE0.2.2.2.1.2.1 hS, fun U hU hW => ⟨rfl, by rw [hU]; exact hPc, va_K.moved hW.alike hK, by rw [hU]; exact TZ1.warm hW hE0.2.2.2.1.2 hS (fun q h => h.elim)⟩⟩ rfl rfl hl.1 rfl (lv_room (Nat.le_of_ble_eq_true rfl)) dX8_kindOf_162 ⟨Nat.le_of_ble_eq_true rfl, Nat.le_of_ble_eq_true rfl⟩) hS (fun q _ h => h.elim) (fun q h => h.elim) (fun x_9 u t H1 locs ht hvm w_10 hB hz1 hk1 hS => ?_)
      have hP : va_P D vwCl [] H1 := hP.kept (fun k9 q9 h9 => hk1 q9.1 (vx_lt hP h9) (fun h => h))
      generalize H1 = H at hP hS ⊢
      have b_x_9 := ti_b x_9
      refine lv_if_lt (tgt := 172) hx hb dX8_kindOf_165 (by decide) (fun c_11 => ?_) (fun c_11 => ?_)
      · have ic_11 : (x_9 : Int32).toInt < (0 : Int32).toInt := (fa_lt x_9 0).mp c_11
        refine lv_iconst (v := 0) hx hb dX8_kindOf_172 (by decide) ?_
        exact W.iret (v := 0) hx hb hr (fun t ht hW => ⟨⟨0, (), rfl, trivial, trivial⟩, hS.F ht⟩) hS.2.2 dX8_kindOf_173
      · have ic_11 : ¬ ((x_9 : Int32).toInt < (0 : Int32).toInt) := fun h9 => c_11 ((fa_lt x_9 0).mpr h9)
        exact hZ1 (K_168  _ _ _ hP hS (lv_sub hl [] rfl))
  · refine lv_tableIn (off := 135) (tgt := 136) hx hb dX8_kindOf_1 (by omega) (by omega) (by rw [v_1]; rfl) (by decide) ?_
    refine lv_iconst (v := 4) hx hb dX8_kindOf_136 (by decide) ?_
    exact W.iret (v := 4) hx hb hr (fun t ht hW => ⟨⟨4, (), rfl, trivial, trivial⟩, hS.F ht⟩) hS.2.2 dX8_kindOf_137
  · refine lv_tableIn (off := 151) (tgt := 152) hx hb dX8_kindOf_1 (by omega) (by omega) (by rw [v_1]; rfl) (by decide) ?_
    refine lv_iload_n hx hb dX8_kindOf_152 rfl (lv_at hl 0 rfl) ?_
    refine lv_bipush (v := 126) hx hb dX8_kindOf_153 (by decide) ?_
    have K_168 : ∀ (H : Heap) (locs : List Loc) (ls : Array Slot), va_P D vwCl [] H → va_S (fun _ => False) s.heap H locs → lv_has ls 1 [] → Z 0 0 H locs (F0 m 168 ls []) := by
      intro  H locs ls  hP hS hl
      refine hZ2 ?_
      refine lv_iconst (v := 1) hx hb dX8_kindOf_168 (by decide) ?_
      refine lv_goto (tgt := 173) hx hb dX8_kindOf_169 (by decide) ?_
      exact W.iret (v := 1) hx hb hr (fun t ht hW => ⟨⟨1, (), rfl, trivial, trivial⟩, hS.F ht⟩) hS.2.2 dX8_kindOf_173
    refine lv_icmp_gt (tgt := 168) hx hb dX8_kindOf_155 (by decide) (fun c_12 => ?_) (fun c_12 => ?_)
    · have ic_12 : (126 : Int32).toInt < (p1 : Int32).toInt := (fa_lt 126 p1).mp c_12
      exact hZ1 (K_168  _ _ _ hP hS (lv_sub hl [] rfl))
    · have ic_12 : ¬ ((126 : Int32).toInt < (p1 : Int32).toInt) := fun h9 => c_12 ((fa_lt 126 p1).mpr h9)
      refine va_ldcS hx hb hown hE0.2.2.2.1.1 dX8_kindOf_158 ?_
      refine lv_iload_n hx hb dX8_kindOf_160 rfl (lv_at hl 0 rfl) ?_
      refine lv_i2c hx hb dX8_kindOf_161 rfl ?_
      refine lv_topi (fun x_13 ex_13 => ?_)
      have tx_13 := ti_i2c ex_13
      have hPc := hP.sub (ws' := []) [] rfl
      refine va_calli (va_runV (As := [.int x_13]) (rest := []) ⟨hx, hb, hml, hown, hts⟩ (c_J0_indexOf_0f7a4 l D cI cD cJ s.heap.size ((aQ 3)) ((aT 3)) 19 ((aF 3)) x_13 (by omega)) (cwV 1 hts (goodIn_app (goodIn_r _ [1, 2, 3, 4] rfl (by decide +kernel)) (goodIn_sub i_J0_indexOf_0f7a4 k_J0_indexOf_0f7a4)) rfl rfl rfl (by decide +kernel) ⟨Nat.le_of_ble_eq_true rfl, Nat.le_of_ble_eq_true rfl⟩) ⟨fun a U g mk q => by obtain ⟨q0, qP, qK, hq0⟩ := q; exact ⟨q0, qP, va_K.moved (u := U) (U := U.calling g mk a) (Vm.Alike.refl U.vm) qK, TZ1.same hq0 rfl⟩, va_Orecv hE0.2.2.2.1.2.1 hS, fun U hU hW => ⟨rfl, by rw [hU]; exact hPc, va_K.moved hW.alike hK, by rw [hU]; exact TZ1.warm hW hE0.2.2.2.1.2 hS (fun q h => h.elim)⟩⟩ rfl rfl hl.1 rfl (lv_room (Nat.le_of_ble_eq_true rfl)) dX8_kindOf_162 ⟨Nat.le_of_ble_eq_true rfl, Nat.le_of_ble_eq_true rfl⟩) hS (fun q _ h => h.elim) (fun q h => h.elim) (fun x_14 u t H1 locs ht hvm w_15 hB hz1 hk1 hS => ?_)
      have hP : va_P D vwCl [] H1 := hP.kept (fun k9 q9 h9 => hk1 q9.1 (vx_lt hP h9) (fun h => h))
      generalize H1 = H at hP hS ⊢
      have b_x_14 := ti_b x_14
      refine lv_if_lt (tgt := 172) hx hb dX8_kindOf_165 (by decide) (fun c_16 => ?_) (fun c_16 => ?_)
      · have ic_16 : (x_14 : Int32).toInt < (0 : Int32).toInt := (fa_lt x_14 0).mp c_16
        refine lv_iconst (v := 0) hx hb dX8_kindOf_172 (by decide) ?_
        exact W.iret (v := 0) hx hb hr (fun t ht hW => ⟨⟨0, (), rfl, trivial, trivial⟩, hS.F ht⟩) hS.2.2 dX8_kindOf_173
      · have ic_16 : ¬ ((x_14 : Int32).toInt < (0 : Int32).toInt) := fun h9 => c_16 ((fa_lt x_14 0).mpr h9)
        exact hZ1 (K_168  _ _ _ hP hS (lv_sub hl [] rfl))
  · refine lv_tableIn (off := 142) (tgt := 143) hx hb dX8_kindOf_1 (by omega) (by omega) (by rw [v_1]; rfl) (by decide) ?_
    refine lv_bipush (v := 7) hx hb dX8_kindOf_143 (by decide) ?_
    exact W.iret (v := 7) hx hb hr (fun t ht hW => ⟨⟨7, (), rfl, trivial, trivial⟩, hS.F ht⟩) hS.2.2 dX8_kindOf_145
  · refine lv_tableIn (off := 151) (tgt := 152) hx hb dX8_kindOf_1 (by omega) (by omega) (by rw [v_1]; rfl) (by decide) ?_
    refine lv_iload_n hx hb dX8_kindOf_152 rfl (lv_at hl 0 rfl) ?_
    refine lv_bipush (v := 126) hx hb dX8_kindOf_153 (by decide) ?_
    have K_168 : ∀ (H : Heap) (locs : List Loc) (ls : Array Slot), va_P D vwCl [] H → va_S (fun _ => False) s.heap H locs → lv_has ls 1 [] → Z 0 0 H locs (F0 m 168 ls []) := by
      intro  H locs ls  hP hS hl
      refine hZ2 ?_
      refine lv_iconst (v := 1) hx hb dX8_kindOf_168 (by decide) ?_
      refine lv_goto (tgt := 173) hx hb dX8_kindOf_169 (by decide) ?_
      exact W.iret (v := 1) hx hb hr (fun t ht hW => ⟨⟨1, (), rfl, trivial, trivial⟩, hS.F ht⟩) hS.2.2 dX8_kindOf_173
    refine lv_icmp_gt (tgt := 168) hx hb dX8_kindOf_155 (by decide) (fun c_17 => ?_) (fun c_17 => ?_)
    · have ic_17 : (126 : Int32).toInt < (p1 : Int32).toInt := (fa_lt 126 p1).mp c_17
      exact hZ1 (K_168  _ _ _ hP hS (lv_sub hl [] rfl))
    · have ic_17 : ¬ ((126 : Int32).toInt < (p1 : Int32).toInt) := fun h9 => c_17 ((fa_lt 126 p1).mpr h9)
      refine va_ldcS hx hb hown hE0.2.2.2.1.1 dX8_kindOf_158 ?_
      refine lv_iload_n hx hb dX8_kindOf_160 rfl (lv_at hl 0 rfl) ?_
      refine lv_i2c hx hb dX8_kindOf_161 rfl ?_
      refine lv_topi (fun x_18 ex_18 => ?_)
      have tx_18 := ti_i2c ex_18
      have hPc := hP.sub (ws' := []) [] rfl
      refine va_calli (va_runV (As := [.int x_18]) (rest := []) ⟨hx, hb, hml, hown, hts⟩ (c_J0_indexOf_0f7a4 l D cI cD cJ s.heap.size ((aQ 3)) ((aT 3)) 19 ((aF 3)) x_18 (by omega)) (cwV 1 hts (goodIn_app (goodIn_r _ [1, 2, 3, 4] rfl (by decide +kernel)) (goodIn_sub i_J0_indexOf_0f7a4 k_J0_indexOf_0f7a4)) rfl rfl rfl (by decide +kernel) ⟨Nat.le_of_ble_eq_true rfl, Nat.le_of_ble_eq_true rfl⟩) ⟨fun a U g mk q => by obtain ⟨q0, qP, qK, hq0⟩ := q; exact ⟨q0, qP, va_K.moved (u := U) (U := U.calling g mk a) (Vm.Alike.refl U.vm) qK, TZ1.same hq0 rfl⟩, va_Orecv hE0.2.2.2.1.2.1 hS, fun U hU hW => ⟨rfl, by rw [hU]; exact hPc, va_K.moved hW.alike hK, by rw [hU]; exact TZ1.warm hW hE0.2.2.2.1.2 hS (fun q h => h.elim)⟩⟩ rfl rfl hl.1 rfl (lv_room (Nat.le_of_ble_eq_true rfl)) dX8_kindOf_162 ⟨Nat.le_of_ble_eq_true rfl, Nat.le_of_ble_eq_true rfl⟩) hS (fun q _ h => h.elim) (fun q h => h.elim) (fun x_19 u t H1 locs ht hvm w_20 hB hz1 hk1 hS => ?_)
      have hP : va_P D vwCl [] H1 := hP.kept (fun k9 q9 h9 => hk1 q9.1 (vx_lt hP h9) (fun h => h))
      generalize H1 = H at hP hS ⊢
      have b_x_19 := ti_b x_19
      refine lv_if_lt (tgt := 172) hx hb dX8_kindOf_165 (by decide) (fun c_21 => ?_) (fun c_21 => ?_)
      · have ic_21 : (x_19 : Int32).toInt < (0 : Int32).toInt := (fa_lt x_19 0).mp c_21
        refine lv_iconst (v := 0) hx hb dX8_kindOf_172 (by decide) ?_
        exact W.iret (v := 0) hx hb hr (fun t ht hW => ⟨⟨0, (), rfl, trivial, trivial⟩, hS.F ht⟩) hS.2.2 dX8_kindOf_173
      · have ic_21 : ¬ ((x_19 : Int32).toInt < (0 : Int32).toInt) := fun h9 => c_21 ((fa_lt x_19 0).mpr h9)
        exact hZ1 (K_168  _ _ _ hP hS (lv_sub hl [] rfl))
  · refine lv_tableIn (off := 151) (tgt := 152) hx hb dX8_kindOf_1 (by omega) (by omega) (by rw [v_1]; rfl) (by decide) ?_
    refine lv_iload_n hx hb dX8_kindOf_152 rfl (lv_at hl 0 rfl) ?_
    refine lv_bipush (v := 126) hx hb dX8_kindOf_153 (by decide) ?_
    have K_168 : ∀ (H : Heap) (locs : List Loc) (ls : Array Slot), va_P D vwCl [] H → va_S (fun _ => False) s.heap H locs → lv_has ls 1 [] → Z 0 0 H locs (F0 m 168 ls []) := by
      intro  H locs ls  hP hS hl
      refine hZ2 ?_
      refine lv_iconst (v := 1) hx hb dX8_kindOf_168 (by decide) ?_
      refine lv_goto (tgt := 173) hx hb dX8_kindOf_169 (by decide) ?_
      exact W.iret (v := 1) hx hb hr (fun t ht hW => ⟨⟨1, (), rfl, trivial, trivial⟩, hS.F ht⟩) hS.2.2 dX8_kindOf_173
    refine lv_icmp_gt (tgt := 168) hx hb dX8_kindOf_155 (by decide) (fun c_22 => ?_) (fun c_22 => ?_)
    · have ic_22 : (126 : Int32).toInt < (p1 : Int32).toInt := (fa_lt 126 p1).mp c_22
      exact hZ1 (K_168  _ _ _ hP hS (lv_sub hl [] rfl))
    · have ic_22 : ¬ ((126 : Int32).toInt < (p1 : Int32).toInt) := fun h9 => c_22 ((fa_lt 126 p1).mpr h9)
      refine va_ldcS hx hb hown hE0.2.2.2.1.1 dX8_kindOf_158 ?_
      refine lv_iload_n hx hb dX8_kindOf_160 rfl (lv_at hl 0 rfl) ?_
      refine lv_i2c hx hb dX8_kindOf_161 rfl ?_
      refine lv_topi (fun x_23 ex_23 => ?_)
      have tx_23 := ti_i2c ex_23
      have hPc := hP.sub (ws' := []) [] rfl
      refine va_calli (va_runV (As := [.int x_23]) (rest := []) ⟨hx, hb, hml, hown, hts⟩ (c_J0_indexOf_0f7a4 l D cI cD cJ s.heap.size ((aQ 3)) ((aT 3)) 19 ((aF 3)) x_23 (by omega)) (cwV 1 hts (goodIn_app (goodIn_r _ [1, 2, 3, 4] rfl (by decide +kernel)) (goodIn_sub i_J0_indexOf_0f7a4 k_J0_indexOf_0f7a4)) rfl rfl rfl (by decide +kernel) ⟨Nat.le_of_ble_eq_true rfl, Nat.le_of_ble_eq_true rfl⟩) ⟨fun a U g mk q => by obtain ⟨q0, qP, qK, hq0⟩ := q; exact ⟨q0, qP, va_K.moved (u := U) (U := U.calling g mk a) (Vm.Alike.refl U.vm) qK, TZ1.same hq0 rfl⟩, va_Orecv hE0.2.2.2.1.2.1 hS, fun U hU hW => ⟨rfl, by rw [hU]; exact hPc, va_K.moved hW.alike hK, by rw [hU]; exact TZ1.warm hW hE0.2.2.2.1.2 hS (fun q h => h.elim)⟩⟩ rfl rfl hl.1 rfl (lv_room (Nat.le_of_ble_eq_true rfl)) dX8_kindOf_162 ⟨Nat.le_of_ble_eq_true rfl, Nat.le_of_ble_eq_true rfl⟩) hS (fun q _ h => h.elim) (fun q h => h.elim) (fun x_24 u t H1 locs ht hvm w_25 hB hz1 hk1 hS => ?_)
      have hP : va_P D vwCl [] H1 := hP.kept (fun k9 q9 h9 => hk1 q9.1 (vx_lt hP h9) (fun h => h))
      generalize H1 = H at hP hS ⊢
      have b_x_24 := ti_b x_24
      refine lv_if_lt (tgt := 172) hx hb dX8_kindOf_165 (by decide) (fun c_26 => ?_) (fun c_26 => ?_)
      · have ic_26 : (x_24 : Int32).toInt < (0 : Int32).toInt := (fa_lt x_24 0).mp c_26
        refine lv_iconst (v := 0) hx hb dX8_kindOf_172 (by decide) ?_
        exact W.iret (v := 0) hx hb hr (fun t ht hW => ⟨⟨0, (), rfl, trivial, trivial⟩, hS.F ht⟩) hS.2.2 dX8_kindOf_173
      · have ic_26 : ¬ ((x_24 : Int32).toInt < (0 : Int32).toInt) := fun h9 => c_26 ((fa_lt x_24 0).mpr h9)
        exact hZ1 (K_168  _ _ _ hP hS (lv_sub hl [] rfl))
  · refine lv_tableIn (off := 151) (tgt := 152) hx hb dX8_kindOf_1 (by omega) (by omega) (by rw [v_1]; rfl) (by decide) ?_
    refine lv_iload_n hx hb dX8_kindOf_152 rfl (lv_at hl 0 rfl) ?_
    refine lv_bipush (v := 126) hx hb dX8_kindOf_153 (by decide) ?_
    have K_168 : ∀ (H : Heap) (locs : List Loc) (ls : Array Slot), va_P D vwCl [] H → va_S (fun _ => False) s.heap H locs → lv_has ls 1 [] → Z 0 0 H locs (F0 m 168 ls []) := by
      intro  H locs ls  hP hS hl
      refine hZ2 ?_
      refine lv_iconst (v := 1) hx hb dX8_kindOf_168 (by decide) ?_
      refine lv_goto (tgt := 173) hx hb dX8_kindOf_169 (by decide) ?_
      exact W.iret (v := 1) hx hb hr (fun t ht hW => ⟨⟨1, (), rfl, trivial, trivial⟩, hS.F ht⟩) hS.2.2 dX8_kindOf_173
    refine lv_icmp_gt (tgt := 168) hx hb dX8_kindOf_155 (by decide) (fun c_27 => ?_) (fun c_27 => ?_)
    · have ic_27 : (126 : Int32).toInt < (p1 : Int32).toInt := (fa_lt 126 p1).mp c_27
      exact hZ1 (K_168  _ _ _ hP hS (lv_sub hl [] rfl))
    · have ic_27 : ¬ ((126 : Int32).toInt < (p1 : Int32).toInt) := fun h9 => c_27 ((fa_lt 126 p1).mpr h9)
      refine va_ldcS hx hb hown hE0.2.2.2.1.1 dX8_kindOf_158 ?_
      refine lv_iload_n hx hb dX8_kindOf_160 rfl (lv_at hl 0 rfl) ?_
      refine lv_i2c hx hb dX8_kindOf_161 rfl ?_
      refine lv_topi (fun x_28 ex_28 => ?_)
      have tx_28 := ti_i2c ex_28
      have hPc := hP.sub (ws' := []) [] rfl
      refine va_calli (va_runV (As := [.int x_28]) (rest := []) ⟨hx, hb, hml, hown, hts⟩ (c_J0_indexOf_0f7a4 l D cI cD cJ s.heap.size ((aQ 3)) ((aT 3)) 19 ((aF 3)) x_28 (by omega)) (cwV 1 hts (goodIn_app (goodIn_r _ [1, 2, 3, 4] rfl (by decide +kernel)) (goodIn_sub i_J0_indexOf_0f7a4 k_J0_indexOf_0f7a4)) rfl rfl rfl (by decide +kernel) ⟨Nat.le_of_ble_eq_true rfl, Nat.le_of_ble_eq_true rfl⟩) ⟨fun a U g mk q => by obtain ⟨q0, qP, qK, hq0⟩ := q; exact ⟨q0, qP, va_K.moved (u := U) (U := U.calling g mk a) (Vm.Alike.refl U.vm) qK, TZ1.same hq0 rfl⟩, va_Orecv hE0.2.2.2.1.2.1 hS, fun U hU hW => ⟨rfl, by rw [hU]; exact hPc, va_K.moved hW.alike hK, by rw [hU]; exact TZ1.warm hW hE0.2.2.2.1.2 hS (fun q h => h.elim)⟩⟩ rfl rfl hl.1 rfl (lv_room (Nat.le_of_ble_eq_true rfl)) dX8_kindOf_162 ⟨Nat.le_of_ble_eq_true rfl, Nat.le_of_ble_eq_true rfl⟩) hS (fun q _ h => h.elim) (fun q h => h.elim) (fun x_29 u t H1 locs ht hvm w_30 hB hz1 hk1 hS => ?_)
      have hP : va_P D vwCl [] H1 := hP.kept (fun k9 q9 h9 => hk1 q9.1 (vx_lt hP h9) (fun h => h))
      generalize H1 = H at hP hS ⊢
      have b_x_29 := ti_b x_29
      refine lv_if_lt (tgt := 172) hx hb dX8_kindOf_165 (by decide) (fun c_31 => ?_) (fun c_31 => ?_)
      · have ic_31 : (x_29 : Int32).toInt < (0 : Int32).toInt := (fa_lt x_29 0).mp c_31
        refine lv_iconst (v := 0) hx hb dX8_kindOf_172 (by decide) ?_
        exact W.iret (v := 0) hx hb hr (fun t ht hW => ⟨⟨0, (), rfl, trivial, trivial⟩, hS.F ht⟩) hS.2.2 dX8_kindOf_173
      · have ic_31 : ¬ ((x_29 : Int32).toInt < (0 : Int32).toInt) := fun h9 => c_31 ((fa_lt x_29 0).mpr h9)
        exact hZ1 (K_168  _ _ _ hP hS (lv_sub hl [] rfl))
  · refine lv_tableIn (off := 151) (tgt := 152) hx hb dX8_kindOf_1 (by omega) (by omega) (by rw [v_1]; rfl) (by decide) ?_
    refine lv_iload_n hx hb dX8_kindOf_152 rfl (lv_at hl 0 rfl) ?_
    refine lv_bipush (v := 126) hx hb dX8_kindOf_153 (by decide) ?_
    have K_168 : ∀ (H : Heap) (locs : List Loc) (ls : Array Slot), va_P D vwCl [] H → va_S (fun _ => False) s.heap H locs → lv_has ls 1 [] → Z 0 0 H locs (F0 m 168 ls []) := by
      intro  H locs ls  hP hS hl
      refine hZ2 ?_
      refine lv_iconst (v := 1) hx hb dX8_kindOf_168 (by decide) ?_
      refine lv_goto (tgt := 173) hx hb dX8_kindOf_169 (by decide) ?_
      exact W.iret (v := 1) hx hb hr (fun t ht hW => ⟨⟨1, (), rfl, trivial, trivial⟩, hS.F ht⟩) hS.2.2 dX8_kindOf_173
    refine lv_icmp_gt (tgt := 168) hx hb dX8_kindOf_155 (by decide) (fun c_32 => ?_) (fun c_32 => ?_)
    · have ic_32 : (126 : Int32).toInt < (p1 : Int32).toInt := (fa_lt 126 p1).mp c_32
      exact hZ1 (K_168  _ _ _ hP hS (lv_sub hl [] rfl))
    · have ic_32 : ¬ ((126 : Int32).toInt < (p1 : Int32).toInt) := fun h9 => c_32 ((fa_lt 126 p1).mpr h9)
      refine va_ldcS hx hb hown hE0.2.2.2.1.1 dX8_kindOf_158 ?_
      refine lv_iload_n hx hb dX8_kindOf_160 rfl (lv_at hl 0 rfl) ?_
      refine lv_i2c hx hb dX8_kindOf_161 rfl ?_
      refine lv_topi (fun x_33 ex_33 => ?_)
      have tx_33 := ti_i2c ex_33
      have hPc := hP.sub (ws' := []) [] rfl
      refine va_calli (va_runV (As := [.int x_33]) (rest := []) ⟨hx, hb, hml, hown, hts⟩ (c_J0_indexOf_0f7a4 l D cI cD cJ s.heap.size ((aQ 3)) ((aT 3)) 19 ((aF 3)) x_33 (by omega)) (cwV 1 hts (goodIn_app (goodIn_r _ [1, 2, 3, 4] rfl (by decide +kernel)) (goodIn_sub i_J0_indexOf_0f7a4 k_J0_indexOf_0f7a4)) rfl rfl rfl (by decide +kernel) ⟨Nat.le_of_ble_eq_true rfl, Nat.le_of_ble_eq_true rfl⟩) ⟨fun a U g mk q => by obtain ⟨q0, qP, qK, hq0⟩ := q; exact ⟨q0, qP, va_K.moved (u := U) (U := U.calling g mk a) (Vm.Alike.refl U.vm) qK, TZ1.same hq0 rfl⟩, va_Orecv hE0.2.2.2.1.2.1 hS, fun U hU hW => ⟨rfl, by rw [hU]; exact hPc, va_K.moved hW.alike hK, by rw [hU]; exact TZ1.warm hW hE0.2.2.2.1.2 hS (fun q h => h.elim)⟩⟩ rfl rfl hl.1 rfl (lv_room (Nat.le_of_ble_eq_true rfl)) dX8_kindOf_162 ⟨Nat.le_of_ble_eq_true rfl, Nat.le_of_ble_eq_true rfl⟩) hS (fun q _ h => h.elim) (fun q h => h.elim) (fun x_34 u t H1 locs ht hvm w_35 hB hz1 hk1 hS => ?_)
      have hP : va_P D vwCl [] H1 := hP.kept (fun k9 q9 h9 => hk1 q9.1 (vx_lt hP h9) (fun h => h))
      generalize H1 = H at hP hS ⊢
      have b_x_34 := ti_b x_34
      refine lv_if_lt (tgt := 172) hx hb dX8_kindOf_165 (by decide) (fun c_36 => ?_) (fun c_36 => ?_)
      · have ic_36 : (x_34 : Int32).toInt < (0 : Int32).toInt := (fa_lt x_34 0).mp c_36
        refine lv_iconst (v := 0) hx hb dX8_kindOf_172 (by decide) ?_
        exact W.iret (v := 0) hx hb hr (fun t ht hW => ⟨⟨0, (), rfl, trivial, trivial⟩, hS.F ht⟩) hS.2.2 dX8_kindOf_173
      · have ic_36 : ¬ ((x_34 : Int32).toInt < (0 : Int32).toInt) := fun h9 => c_36 ((fa_lt x_34 0).mpr h9)
        exact hZ1 (K_168  _ _ _ hP hS (lv_sub hl [] rfl))
  · refine lv_tableIn (off := 151) (tgt := 152) hx hb dX8_kindOf_1 (by omega) (by omega) (by rw [v_1]; rfl) (by decide) ?_
    refine lv_iload_n hx hb dX8_kindOf_152 rfl (lv_at hl 0 rfl) ?_
    refine lv_bipush (v := 126) hx hb dX8_kindOf_153 (by decide) ?_
    have K_168 : ∀ (H : Heap) (locs : List Loc) (ls : Array Slot), va_P D vwCl [] H → va_S (fun _ => False) s.heap H locs → lv_has ls 1 [] → Z 0 0 H locs (F0 m 168 ls []) := by
      intro  H locs ls  hP hS hl
      refine hZ2 ?_
      refine lv_iconst (v := 1) hx hb dX8_kindOf_168 (by decide) ?_
      refine lv_goto (tgt := 173) hx hb dX8_kindOf_169 (by decide) ?_
      exact W.iret (v := 1) hx hb hr (fun t ht hW => ⟨⟨1, (), rfl, trivial, trivial⟩, hS.F ht⟩) hS.2.2 dX8_kindOf_173
    refine lv_icmp_gt (tgt := 168) hx hb dX8_kindOf_155 (by decide) (fun c_37 => ?_) (fun c_37 => ?_)
    · have ic_37 : (126 : Int32).toInt < (p1 : Int32).toInt := (fa_lt 126 p1).mp c_37
      exact hZ1 (K_168  _ _ _ hP hS (lv_sub hl [] rfl))
    · have ic_37 : ¬ ((126 : Int32).toInt < (p1 : Int32).toInt) := fun h9 => c_37 ((fa_lt 126 p1).mpr h9)
      refine va_ldcS hx hb hown hE0.2.2.2.1.1 dX8_kindOf_158 ?_
      refine lv_iload_n hx hb dX8_kindOf_160 rfl (lv_at hl 0 rfl) ?_
      refine lv_i2c hx hb dX8_kindOf_161 rfl ?_
      refine lv_topi (fun x_38 ex_38 => ?_)
      have tx_38 := ti_i2c ex_38
      have hPc := hP.sub (ws' := []) [] rfl
      refine va_calli (va_runV (As := [.int x_38]) (rest := []) ⟨hx, hb, hml, hown, hts⟩ (c_J0_indexOf_0f7a4 l D cI cD cJ s.heap.size ((aQ 3)) ((aT 3)) 19 ((aF 3)) x_38 (by omega)) (cwV 1 hts (goodIn_app (goodIn_r _ [1, 2, 3, 4] rfl (by decide +kernel)) (goodIn_sub i_J0_indexOf_0f7a4 k_J0_indexOf_0f7a4)) rfl rfl rfl (by decide +kernel) ⟨Nat.le_of_ble_eq_true rfl, Nat.le_of_ble_eq_true rfl⟩) ⟨fun a U g mk q => by obtain ⟨q0, qP, qK, hq0⟩ := q; exact ⟨q0, qP, va_K.moved (u := U) (U := U.calling g mk a) (Vm.Alike.refl U.vm) qK, TZ1.same hq0 rfl⟩, va_Orecv hE0.2.2.2.1.2.1 hS, fun U hU hW => ⟨rfl, by rw [hU]; exact hPc, va_K.moved hW.alike hK, by rw [hU]; exact TZ1.warm hW hE0.2.2.2.1.2 hS (fun q h => h.elim)⟩⟩ rfl rfl hl.1 rfl (lv_room (Nat.le_of_ble_eq_true rfl)) dX8_kindOf_162 ⟨Nat.le_of_ble_eq_true rfl, Nat.le_of_ble_eq_true rfl⟩) hS (fun q _ h => h.elim) (fun q h => h.elim) (fun x_39 u t H1 locs ht hvm w_40 hB hz1 hk1 hS => ?_)
      have hP : va_P D vwCl [] H1 := hP.kept (fun k9 q9 h9 => hk1 q9.1 (vx_lt hP h9) (fun h => h))
      generalize H1 = H at hP hS ⊢
      have b_x_39 := ti_b x_39
      refine lv_if_lt (tgt := 172) hx hb dX8_kindOf_165 (by decide) (fun c_41 => ?_) (fun c_41 => ?_)
      · have ic_41 : (x_39 : Int32).toInt < (0 : Int32).toInt := (fa_lt x_39 0).mp c_41
        refine lv_iconst (v := 0) hx hb dX8_kindOf_172 (by decide) ?_
        exact W.iret (v := 0) hx hb hr (fun t ht hW => ⟨⟨0, (), rfl, trivial, trivial⟩, hS.F ht⟩) hS.2.2 dX8_kindOf_173
      · have ic_41 : ¬ ((x_39 : Int32).toInt < (0 : Int32).toInt) := fun h9 => c_41 ((fa_lt x_39 0).mpr h9)
        exact hZ1 (K_168  _ _ _ hP hS (lv_sub hl [] rfl))
  · refine lv_tableIn (off := 151) (tgt := 152) hx hb dX8_kindOf_1 (by omega) (by omega) (by rw [v_1]; rfl) (by decide) ?_
    refine lv_iload_n hx hb dX8_kindOf_152 rfl (lv_at hl 0 rfl) ?_
    refine lv_bipush (v := 126) hx hb dX8_kindOf_153 (by decide) ?_
    have K_168 : ∀ (H : Heap) (locs : List Loc) (ls : Array Slot), va_P D vwCl [] H → va_S (fun _ => False) s.heap H locs → lv_has ls 1 [] → Z 0 0 H locs (F0 m 168 ls []) := by
      intro  H locs ls  hP hS hl
      refine hZ2 ?_
      refine lv_iconst (v := 1) hx hb dX8_kindOf_168 (by decide) ?_
      refine lv_goto (tgt := 173) hx hb dX8_kindOf_169 (by decide) ?_
      exact W.iret (v := 1) hx hb hr (fun t ht hW => ⟨⟨1, (), rfl, trivial, trivial⟩, hS.F ht⟩) hS.2.2 dX8_kindOf_173
    refine lv_icmp_gt (tgt := 168) hx hb dX8_kindOf_155 (by decide) (fun c_42 => ?_) (fun c_42 => ?_)
    · have ic_42 : (126 : Int32).toInt < (p1 : Int32).toInt := (fa_lt 126 p1).mp c_42
      exact hZ1 (K_168  _ _ _ hP hS (lv_sub hl [] rfl))
    · have ic_42 : ¬ ((126 : Int32).toInt < (p1 : Int32).toInt) := fun h9 => c_42 ((fa_lt 126 p1).mpr h9)
      refine va_ldcS hx hb hown hE0.2.2.2.1.1 dX8_kindOf_158 ?_
      refine lv_iload_n hx hb dX8_kindOf_160 rfl (lv_at hl 0 rfl) ?_
      refine lv_i2c hx hb dX8_kindOf_161 rfl ?_
      refine lv_topi (fun x_43 ex_43 => ?_)
      have tx_43 := ti_i2c ex_43
      have hPc := hP.sub (ws' := []) [] rfl
      refine va_calli (va_runV (As := [.int x_43]) (rest := []) ⟨hx, hb, hml, hown, hts⟩ (c_J0_indexOf_0f7a4 l D cI cD cJ s.heap.size ((aQ 3)) ((aT 3)) 19 ((aF 3)) x_43 (by omega)) (cwV 1 hts (goodIn_app (goodIn_r _ [1, 2, 3, 4] rfl (by decide +kernel)) (goodIn_sub i_J0_indexOf_0f7a4 k_J0_indexOf_0f7a4)) rfl rfl rfl (by decide +kernel) ⟨Nat.le_of_ble_eq_true rfl, Nat.le_of_ble_eq_true rfl⟩) ⟨fun a U g mk q => by obtain ⟨q0, qP, qK, hq0⟩ := q; exact ⟨q0, qP, va_K.moved (u := U) (U := U.calling g mk a) (Vm.Alike.refl U.vm) qK, TZ1.same hq0 rfl⟩, va_Orecv hE0.2.2.2.1.2.1 hS, fun U hU hW => ⟨rfl, by rw [hU]; exact hPc, va_K.moved hW.alike hK, by rw [hU]; exact TZ1.warm hW hE0.2.2.2.1.2 hS (fun q h => h.elim)⟩⟩ rfl rfl hl.1 rfl (lv_room (Nat.le_of_ble_eq_true rfl)) dX8_kindOf_162 ⟨Nat.le_of_ble_eq_true rfl, Nat.le_of_ble_eq_true rfl⟩) hS (fun q _ h => h.elim) (fun q h => h.elim) (fun x_44 u t H1 locs ht hvm w_45 hB hz1 hk1 hS => ?_)
      have hP : va_P D vwCl [] H1 := hP.kept (fun k9 q9 h9 => hk1 q9.1 (vx_lt hP h9) (fun h => h))
      generalize H1 = H at hP hS ⊢
      have b_x_44 := ti_b x_44
      refine lv_if_lt (tgt := 172) hx hb dX8_kindOf_165 (by decide) (fun c_46 => ?_) (fun c_46 => ?_)
      · have ic_46 : (x_44 : Int32).toInt < (0 : Int32).toInt := (fa_lt x_44 0).mp c_46
        refine lv_iconst (v := 0) hx hb dX8_kindOf_172 (by decide) ?_
        exact W.iret (v := 0) hx hb hr (fun t ht hW => ⟨⟨0, (), rfl, trivial, trivial⟩, hS.F ht⟩) hS.2.2 dX8_kindOf_173
      · have ic_46 : ¬ ((x_44 : Int32).toInt < (0 : Int32).toInt) := fun h9 => c_46 ((fa_lt x_44 0).mpr h9)
        exact hZ1 (K_168  _ _ _ hP hS (lv_sub hl [] rfl))
  · refine lv_tableIn (off := 139) (tgt := 140) hx hb dX8_kindOf_1 (by omega) (by omega) (by rw [v_1]; rfl) (by decide) ?_
    refine lv_bipush (v := 6) hx hb dX8_kindOf_140 (by decide) ?_
    exact W.iret (v := 6) hx hb hr (fun t ht hW => ⟨⟨6, (), rfl, trivial, trivial⟩, hS.F ht⟩) hS.2.2 dX8_kindOf_142
  · refine lv_tableIn (off := 151) (tgt := 152) hx hb dX8_kindOf_1 (by omega) (by omega) (by rw [v_1]; rfl) (by decide) ?_
    refine lv_iload_n hx hb dX8_kindOf_152 rfl (lv_at hl 0 rfl) ?_
    refine lv_bipush (v := 126) hx hb dX8_kindOf_153 (by decide) ?_
    have K_168 : ∀ (H : Heap) (locs : List Loc) (ls : Array Slot), va_P D vwCl [] H → va_S (fun _ => False) s.heap H locs → lv_has ls 1 [] → Z 0 0 H locs (F0 m 168 ls []) := by
      intro  H locs ls  hP hS hl
      refine hZ2 ?_
      refine lv_iconst (v := 1) hx hb dX8_kindOf_168 (by decide) ?_
      refine lv_goto (tgt := 173) hx hb dX8_kindOf_169 (by decide) ?_
      exact W.iret (v := 1) hx hb hr (fun t ht hW => ⟨⟨1, (), rfl, trivial, trivial⟩, hS.F ht⟩) hS.2.2 dX8_kindOf_173
    refine lv_icmp_gt (tgt := 168) hx hb dX8_kindOf_155 (by decide) (fun c_47 => ?_) (fun c_47 => ?_)
    · have ic_47 : (126 : Int32).toInt < (p1 : Int32).toInt := (fa_lt 126 p1).mp c_47
      exact hZ1 (K_168  _ _ _ hP hS (lv_sub hl [] rfl))
    · have ic_47 : ¬ ((126 : Int32).toInt < (p1 : Int32).toInt) := fun h9 => c_47 ((fa_lt 126 p1).mpr h9)
      refine va_ldcS hx hb hown hE0.2.2.2.1.1 dX8_kindOf_158 ?_
      refine lv_iload_n hx hb dX8_kindOf_160 rfl (lv_at hl 0 rfl) ?_
      refine lv_i2c hx hb dX8_kindOf_161 rfl ?_
      refine lv_topi (fun x_48 ex_48 => ?_)
      have tx_48 := ti_i2c ex_48
      have hPc := hP.sub (ws' := []) [] rfl
      refine va_calli (va_runV (As := [.int x_48]) (rest := []) ⟨hx, hb, hml, hown, hts⟩ (c_J0_indexOf_0f7a4 l D cI cD cJ s.heap.size ((aQ 3)) ((aT 3)) 19 ((aF 3)) x_48 (by omega)) (cwV 1 hts (goodIn_app (goodIn_r _ [1, 2, 3, 4] rfl (by decide +kernel)) (goodIn_sub i_J0_indexOf_0f7a4 k_J0_indexOf_0f7a4)) rfl rfl rfl (by decide +kernel) ⟨Nat.le_of_ble_eq_true rfl, Nat.le_of_ble_eq_true rfl⟩) ⟨fun a U g mk q => by obtain ⟨q0, qP, qK, hq0⟩ := q; exact ⟨q0, qP, va_K.moved (u := U) (U := U.calling g mk a) (Vm.Alike.refl U.vm) qK, TZ1.same hq0 rfl⟩, va_Orecv hE0.2.2.2.1.2.1 hS, fun U hU hW => ⟨rfl, by rw [hU]; exact hPc, va_K.moved hW.alike hK, by rw [hU]; exact TZ1.warm hW hE0.2.2.2.1.2 hS (fun q h => h.elim)⟩⟩ rfl rfl hl.1 rfl (lv_room (Nat.le_of_ble_eq_true rfl)) dX8_kindOf_162 ⟨Nat.le_of_ble_eq_true rfl, Nat.le_of_ble_eq_true rfl⟩) hS (fun q _ h => h.elim) (fun q h => h.elim) (fun x_49 u t H1 locs ht hvm w_50 hB hz1 hk1 hS => ?_)
      have hP : va_P D vwCl [] H1 := hP.kept (fun k9 q9 h9 => hk1 q9.1 (vx_lt hP h9) (fun h => h))
      generalize H1 = H at hP hS ⊢
      have b_x_49 := ti_b x_49
      refine lv_if_lt (tgt := 172) hx hb dX8_kindOf_165 (by decide) (fun c_51 => ?_) (fun c_51 => ?_)
      · have ic_51 : (x_49 : Int32).toInt < (0 : Int32).toInt := (fa_lt x_49 0).mp c_51
        refine lv_iconst (v := 0) hx hb dX8_kindOf_172 (by decide) ?_
        exact W.iret (v := 0) hx hb hr (fun t ht hW => ⟨⟨0, (), rfl, trivial, trivial⟩, hS.F ht⟩) hS.2.2 dX8_kindOf_173
      · have ic_51 : ¬ ((x_49 : Int32).toInt < (0 : Int32).toInt) := fun h9 => c_51 ((fa_lt x_49 0).mpr h9)
        exact hZ1 (K_168  _ _ _ hP hS (lv_sub hl [] rfl))
  · refine lv_tableIn (off := 137) (tgt := 138) hx hb dX8_kindOf_1 (by omega) (by omega) (by rw [v_1]; rfl) (by decide) ?_
    refine lv_iconst (v := 5) hx hb dX8_kindOf_138 (by decide) ?_
    exact W.iret (v := 5) hx hb hr (fun t ht hW => ⟨⟨5, (), rfl, trivial, trivial⟩, hS.F ht⟩) hS.2.2 dX8_kindOf_139
  · refine lv_tableIn (off := 145) (tgt := 146) hx hb dX8_kindOf_1 (by omega) (by omega) (by rw [v_1]; rfl) (by decide) ?_
    refine lv_bipush (v := 8) hx hb dX8_kindOf_146 (by decide) ?_
    exact W.iret (v := 8) hx hb hr (fun t ht hW => ⟨⟨8, (), rfl, trivial, trivial⟩, hS.F ht⟩) hS.2.2 dX8_kindOf_148
  · refine lv_tableIn (off := 135) (tgt := 136) hx hb dX8_kindOf_1 (by omega) (by omega) (by rw [v_1]; rfl) (by decide) ?_
    refine lv_iconst (v := 4) hx hb dX8_kindOf_136 (by decide) ?_
    exact W.iret (v := 4) hx hb hr (fun t ht hW => ⟨⟨4, (), rfl, trivial, trivial⟩, hS.F ht⟩) hS.2.2 dX8_kindOf_137
  · refine lv_tableIn (off := 151) (tgt := 152) hx hb dX8_kindOf_1 (by omega) (by omega) (by rw [v_1]; rfl) (by decide) ?_
    refine lv_iload_n hx hb dX8_kindOf_152 rfl (lv_at hl 0 rfl) ?_
    refine lv_bipush (v := 126) hx hb dX8_kindOf_153 (by decide) ?_
    have K_168 : ∀ (H : Heap) (locs : List Loc) (ls : Array Slot), va_P D vwCl [] H → va_S (fun _ => False) s.heap H locs → lv_has ls 1 [] → Z 0 0 H locs (F0 m 168 ls []) := by
      intro  H locs ls  hP hS hl
      refine hZ2 ?_
      refine lv_iconst (v := 1) hx hb dX8_kindOf_168 (by decide) ?_
      refine lv_goto (tgt := 173) hx hb dX8_kindOf_169 (by decide) ?_
      exact W.iret (v := 1) hx hb hr (fun t ht hW => ⟨⟨1, (), rfl, trivial, trivial⟩, hS.F ht⟩) hS.2.2 dX8_kindOf_173
    refine lv_icmp_gt (tgt := 168) hx hb dX8_kindOf_155 (by decide) (fun c_52 => ?_) (fun c_52 => ?_)
    · have ic_52 : (126 : Int32).toInt < (p1 : Int32).toInt := (fa_lt 126 p1).mp c_52
      exact hZ1 (K_168  _ _ _ hP hS (lv_sub hl [] rfl))
    · have ic_52 : ¬ ((126 : Int32).toInt < (p1 : Int32).toInt) := fun h9 => c_52 ((fa_lt 126 p1).mpr h9)
      refine va_ldcS hx hb hown hE0.2.2.2.1.1 dX8_kindOf_158 ?_
      refine lv_iload_n hx hb dX8_kindOf_160 rfl (lv_at hl 0 rfl) ?_
      refine lv_i2c hx hb dX8_kindOf_161 rfl ?_
      refine lv_topi (fun x_53 ex_53 => ?_)
      have tx_53 := ti_i2c ex_53
      have hPc := hP.sub (ws' := []) [] rfl
      refine va_calli (va_runV (As := [.int x_53]) (rest := []) ⟨hx, hb, hml, hown, hts⟩ (c_J0_indexOf_0f7a4 l D cI cD cJ s.heap.size ((aQ 3)) ((aT 3)) 19 ((aF 3)) x_53 (by omega)) (cwV 1 hts (goodIn_app (goodIn_r _ [1, 2, 3, 4] rfl (by decide +kernel)) (goodIn_sub i_J0_indexOf_0f7a4 k_J0_indexOf_0f7a4)) rfl rfl rfl (by decide +kernel) ⟨Nat.le_of_ble_eq_true rfl, Nat.le_of_ble_eq_true rfl⟩) ⟨fun a U g mk q => by obtain ⟨q0, qP, qK, hq0⟩ := q; exact ⟨q0, qP, va_K.moved (u := U) (U := U.calling g mk a) (Vm.Alike.refl U.vm) qK, TZ1.same hq0 rfl⟩, va_Orecv hE0.2.2.2.1.2.1 hS, fun U hU hW => ⟨rfl, by rw [hU]; exact hPc, va_K.moved hW.alike hK, by rw [hU]; exact TZ1.warm hW hE0.2.2.2.1.2 hS (fun q h => h.elim)⟩⟩ rfl rfl hl.1 rfl (lv_room (Nat.le_of_ble_eq_true rfl)) dX8_kindOf_162 ⟨Nat.le_of_ble_eq_true rfl, Nat.le_of_ble_eq_true rfl⟩) hS (fun q _ h => h.elim) (fun q h => h.elim) (fun x_54 u t H1 locs ht hvm w_55 hB hz1 hk1 hS => ?_)
      have hP : va_P D vwCl [] H1 := hP.kept (fun k9 q9 h9 => hk1 q9.1 (vx_lt hP h9) (fun h => h))
      generalize H1 = H at hP hS ⊢
      have b_x_54 := ti_b x_54
      refine lv_if_lt (tgt := 172) hx hb dX8_kindOf_165 (by decide) (fun c_56 => ?_) (fun c_56 => ?_)
      · have ic_56 : (x_54 : Int32).toInt < (0 : Int32).toInt := (fa_lt x_54 0).mp c_56
        refine lv_iconst (v := 0) hx hb dX8_kindOf_172 (by decide) ?_
        exact W.iret (v := 0) hx hb hr (fun t ht hW => ⟨⟨0, (), rfl, trivial, trivial⟩, hS.F ht⟩) hS.2.2 dX8_kindOf_173
      · have ic_56 : ¬ ((x_54 : Int32).toInt < (0 : Int32).toInt) := fun h9 => c_56 ((fa_lt x_54 0).mpr h9)
        exact hZ1 (K_168  _ _ _ hP hS (lv_sub hl [] rfl))
  · refine lv_tableIn (off := 151) (tgt := 152) hx hb dX8_kindOf_1 (by omega) (by omega) (by rw [v_1]; rfl) (by decide) ?_
    refine lv_iload_n hx hb dX8_kindOf_152 rfl (lv_at hl 0 rfl) ?_
    refine lv_bipush (v := 126) hx hb dX8_kindOf_153 (by decide) ?_
    have K_168 : ∀ (H : Heap) (locs : List Loc) (ls : Array Slot), va_P D vwCl [] H → va_S (fun _ => False) s.heap H locs → lv_has ls 1 [] → Z 0 0 H locs (F0 m 168 ls []) := by
      intro  H locs ls  hP hS hl
      refine hZ2 ?_
      refine lv_iconst (v := 1) hx hb dX8_kindOf_168 (by decide) ?_
      refine lv_goto (tgt := 173) hx hb dX8_kindOf_169 (by decide) ?_
      exact W.iret (v := 1) hx hb hr (fun t ht hW => ⟨⟨1, (), rfl, trivial, trivial⟩, hS.F ht⟩) hS.2.2 dX8_kindOf_173
    refine lv_icmp_gt (tgt := 168) hx hb dX8_kindOf_155 (by decide) (fun c_57 => ?_) (fun c_57 => ?_)
    · have ic_57 : (126 : Int32).toInt < (p1 : Int32).toInt := (fa_lt 126 p1).mp c_57
      exact hZ1 (K_168  _ _ _ hP hS (lv_sub hl [] rfl))
    · have ic_57 : ¬ ((126 : Int32).toInt < (p1 : Int32).toInt) := fun h9 => c_57 ((fa_lt 126 p1).mpr h9)
      refine va_ldcS hx hb hown hE0.2.2.2.1.1 dX8_kindOf_158 ?_
      refine lv_iload_n hx hb dX8_kindOf_160 rfl (lv_at hl 0 rfl) ?_
      refine lv_i2c hx hb dX8_kindOf_161 rfl ?_
      refine lv_topi (fun x_58 ex_58 => ?_)
      have tx_58 := ti_i2c ex_58
      have hPc := hP.sub (ws' := []) [] rfl
      refine va_calli (va_runV (As := [.int x_58]) (rest := []) ⟨hx, hb, hml, hown, hts⟩ (c_J0_indexOf_0f7a4 l D cI cD cJ s.heap.size ((aQ 3)) ((aT 3)) 19 ((aF 3)) x_58 (by omega)) (cwV 1 hts (goodIn_app (goodIn_r _ [1, 2, 3, 4] rfl (by decide +kernel)) (goodIn_sub i_J0_indexOf_0f7a4 k_J0_indexOf_0f7a4)) rfl rfl rfl (by decide +kernel) ⟨Nat.le_of_ble_eq_true rfl, Nat.le_of_ble_eq_true rfl⟩) ⟨fun a U g mk q => by obtain ⟨q0, qP, qK, hq0⟩ := q; exact ⟨q0, qP, va_K.moved (u := U) (U := U.calling g mk a) (Vm.Alike.refl U.vm) qK, TZ1.same hq0 rfl⟩, va_Orecv hE0.2.2.2.1.2.1 hS, fun U hU hW => ⟨rfl, by rw [hU]; exact hPc, va_K.moved hW.alike hK, by rw [hU]; exact TZ1.warm hW hE0.2.2.2.1.2 hS (fun q h => h.elim)⟩⟩ rfl rfl hl.1 rfl (lv_room (Nat.le_of_ble_eq_true rfl)) dX8_kindOf_162 ⟨Nat.le_of_ble_eq_true rfl, Nat.le_of_ble_eq_true rfl⟩) hS (fun q _ h => h.elim) (fun q h => h.elim) (fun x_59 u t H1 locs ht hvm w_60 hB hz1 hk1 hS => ?_)
      have hP : va_P D vwCl [] H1 := hP.kept (fun k9 q9 h9 => hk1 q9.1 (vx_lt hP h9) (fun h => h))
      generalize H1 = H at hP hS ⊢
      have b_x_59 := ti_b x_59
      refine lv_if_lt (tgt := 172) hx hb dX8_kindOf_165 (by decide) (fun c_61 => ?_) (fun c_61 => ?_)
      · have ic_61 : (x_59 : Int32).toInt < (0 : Int32).toInt := (fa_lt x_59 0).mp c_61
        refine lv_iconst (v := 0) hx hb dX8_kindOf_172 (by decide) ?_
        exact W.iret (v := 0) hx hb hr (fun t ht hW => ⟨⟨0, (), rfl, trivial, trivial⟩, hS.F ht⟩) hS.2.2 dX8_kindOf_173
      · have ic_61 : ¬ ((x_59 : Int32).toInt < (0 : Int32).toInt) := fun h9 => c_61 ((fa_lt x_59 0).mpr h9)
        exact hZ1 (K_168  _ _ _ hP hS (lv_sub hl [] rfl))
  · refine lv_tableIn (off := 151) (tgt := 152) hx hb dX8_kindOf_1 (by omega) (by omega) (by rw [v_1]; rfl) (by decide) ?_
    refine lv_iload_n hx hb dX8_kindOf_152 rfl (lv_at hl 0 rfl) ?_
    refine lv_bipush (v := 126) hx hb dX8_kindOf_153 (by decide) ?_
    have K_168 : ∀ (H : Heap) (locs : List Loc) (ls : Array Slot), va_P D vwCl [] H → va_S (fun _ => False) s.heap H locs → lv_has ls 1 [] → Z 0 0 H locs (F0 m 168 ls []) := by
      intro  H locs ls  hP hS hl
      refine hZ2 ?_
      refine lv_iconst (v := 1) hx hb dX8_kindOf_168 (by decide) ?_
      refine lv_goto (tgt := 173) hx hb dX8_kindOf_169 (by decide) ?_
      exact W.iret (v := 1) hx hb hr (fun t ht hW => ⟨⟨1, (), rfl, trivial, trivial⟩, hS.F ht⟩) hS.2.2 dX8_kindOf_173
    refine lv_icmp_gt (tgt := 168) hx hb dX8_kindOf_155 (by decide) (fun c_62 => ?_) (fun c_62 => ?_)
    · have ic_62 : (126 : Int32).toInt < (p1 : Int32).toInt := (fa_lt 126 p1).mp c_62
      exact hZ1 (K_168  _ _ _ hP hS (lv_sub hl [] rfl))
    · have ic_62 : ¬ ((126 : Int32).toInt < (p1 : Int32).toInt) := fun h9 => c_62 ((fa_lt 126 p1).mpr h9)
      refine va_ldcS hx hb hown hE0.2.2.2.1.1 dX8_kindOf_158 ?_
      refine lv_iload_n hx hb dX8_kindOf_160 rfl (lv_at hl 0 rfl) ?_
      refine lv_i2c hx hb dX8_kindOf_161 rfl ?_
      refine lv_topi (fun x_63 ex_63 => ?_)
      have tx_63 := ti_i2c ex_63
      have hPc := hP.sub (ws' := []) [] rfl
      refine va_calli (va_runV (As := [.int x_63]) (rest := []) ⟨hx, hb, hml, hown, hts⟩ (c_J0_indexOf_0f7a4 l D cI cD cJ s.heap.size ((aQ 3)) ((aT 3)) 19 ((aF 3)) x_63 (by omega)) (cwV 1 hts (goodIn_app (goodIn_r _ [1, 2, 3, 4] rfl (by decide +kernel)) (goodIn_sub i_J0_indexOf_0f7a4 k_J0_indexOf_0f7a4)) rfl rfl rfl (by decide +kernel) ⟨Nat.le_of_ble_eq_true rfl, Nat.le_of_ble_eq_true rfl⟩) ⟨fun a U g mk q => by obtain ⟨q0, qP, qK, hq0⟩ := q; exact ⟨q0, qP, va_K.moved (u := U) (U := U.calling g mk a) (Vm.Alike.refl U.vm) qK, TZ1.same hq0 rfl⟩, va_Orecv hE0.2.2.2.1.2.1 hS, fun U hU hW => ⟨rfl, by rw [hU]; exact hPc, va_K.moved hW.alike hK, by rw [hU]; exact TZ1.warm hW hE0.2.2.2.1.2 hS (fun q h => h.elim)⟩⟩ rfl rfl hl.1 rfl (lv_room (Nat.le_of_ble_eq_true rfl)) dX8_kindOf_162 ⟨Nat.le_of_ble_eq_true rfl, Nat.le_of_ble_eq_true rfl⟩) hS (fun q _ h => h.elim) (fun q h => h.elim) (fun x_64 u t H1 locs ht hvm w_65 hB hz1 hk1 hS => ?_)
      have hP : va_P D vwCl [] H1 := hP.kept (fun k9 q9 h9 => hk1 q9.1 (vx_lt hP h9) (fun h => h))
      generalize H1 = H at hP hS ⊢
      have b_x_64 := ti_b x_64
      refine lv_if_lt (tgt := 172) hx hb dX8_kindOf_165 (by decide) (fun c_66 => ?_) (fun c_66 => ?_)
      · have ic_66 : (x_64 : Int32).toInt < (0 : Int32).toInt := (fa_lt x_64 0).mp c_66
        refine lv_iconst (v := 0) hx hb dX8_kindOf_172 (by decide) ?_
        exact W.iret (v := 0) hx hb hr (fun t ht hW => ⟨⟨0, (), rfl, trivial, trivial⟩, hS.F ht⟩) hS.2.2 dX8_kindOf_173
      · have ic_66 : ¬ ((x_64 : Int32).toInt < (0 : Int32).toInt) := fun h9 => c_66 ((fa_lt x_64 0).mpr h9)
        exact hZ1 (K_168  _ _ _ hP hS (lv_sub hl [] rfl))
  · refine lv_tableIn (off := 151) (tgt := 152) hx hb dX8_kindOf_1 (by omega) (by omega) (by rw [v_1]; rfl) (by decide) ?_
    refine lv_iload_n hx hb dX8_kindOf_152 rfl (lv_at hl 0 rfl) ?_
    refine lv_bipush (v := 126) hx hb dX8_kindOf_153 (by decide) ?_
    have K_168 : ∀ (H : Heap) (locs : List Loc) (ls : Array Slot), va_P D vwCl [] H → va_S (fun _ => False) s.heap H locs → lv_has ls 1 [] → Z 0 0 H locs (F0 m 168 ls []) := by
      intro  H locs ls  hP hS hl
      refine hZ2 ?_
      refine lv_iconst (v := 1) hx hb dX8_kindOf_168 (by decide) ?_
      refine lv_goto (tgt := 173) hx hb dX8_kindOf_169 (by decide) ?_
      exact W.iret (v := 1) hx hb hr (fun t ht hW => ⟨⟨1, (), rfl, trivial, trivial⟩, hS.F ht⟩) hS.2.2 dX8_kindOf_173
    refine lv_icmp_gt (tgt := 168) hx hb dX8_kindOf_155 (by decide) (fun c_67 => ?_) (fun c_67 => ?_)
    · have ic_67 : (126 : Int32).toInt < (p1 : Int32).toInt := (fa_lt 126 p1).mp c_67
      exact hZ1 (K_168  _ _ _ hP hS (lv_sub hl [] rfl))
    · have ic_67 : ¬ ((126 : Int32).toInt < (p1 : Int32).toInt) := fun h9 => c_67 ((fa_lt 126 p1).mpr h9)
      refine va_ldcS hx hb hown hE0.2.2.2.1.1 dX8_kindOf_158 ?_
      refine lv_iload_n hx hb dX8_kindOf_160 rfl (lv_at hl 0 rfl) ?_
      refine lv_i2c hx hb dX8_kindOf_161 rfl ?_
      refine lv_topi (fun x_68 ex_68 => ?_)
      have tx_68 := ti_i2c ex_68
      have hPc := hP.sub (ws' := []) [] rfl
      refine va_calli (va_runV (As := [.int x_68]) (rest := []) ⟨hx, hb, hml, hown, hts⟩ (c_J0_indexOf_0f7a4 l D cI cD cJ s.heap.size ((aQ 3)) ((aT 3)) 19 ((aF 3)) x_68 (by omega)) (cwV 1 hts (goodIn_app (goodIn_r _ [1, 2, 3, 4] rfl (by decide +kernel)) (goodIn_sub i_J0_indexOf_0f7a4 k_J0_indexOf_0f7a4)) rfl rfl rfl (by decide +kernel) ⟨Nat.le_of_ble_eq_true rfl, Nat.le_of_ble_eq_true rfl⟩) ⟨fun a U g mk q => by obtain ⟨q0, qP, qK, hq0⟩ := q; exact ⟨q0, qP, va_K.moved (u := U) (U := U.calling g mk a) (Vm.Alike.refl U.vm) qK, TZ1.same hq0 rfl⟩, va_Orecv hE0.2.2.2.1.2.1 hS, fun U hU hW => ⟨rfl, by rw [hU]; exact hPc, va_K.moved hW.alike hK, by rw [hU]; exact TZ1.warm hW hE0.2.2.2.1.2 hS (fun q h => h.elim)⟩⟩ rfl rfl hl.1 rfl (lv_room (Nat.le_of_ble_eq_true rfl)) dX8_kindOf_162 ⟨Nat.le_of_ble_eq_true rfl, Nat.le_of_ble_eq_true rfl⟩) hS (fun q _ h => h.elim) (fun q h => h.elim) (fun x_69 u t H1 locs ht hvm w_70 hB hz1 hk1 hS => ?_)
      have hP : va_P D vwCl [] H1 := hP.kept (fun k9 q9 h9 => hk1 q9.1 (vx_lt hP h9) (fun h => h))
      generalize H1 = H at hP hS ⊢
      have b_x_69 := ti_b x_69
      refine lv_if_lt (tgt := 172) hx hb dX8_kindOf_165 (by decide) (fun c_71 => ?_) (fun c_71 => ?_)
      · have ic_71 : (x_69 : Int32).toInt < (0 : Int32).toInt := (fa_lt x_69 0).mp c_71
        refine lv_iconst (v := 0) hx hb dX8_kindOf_172 (by decide) ?_
        exact W.iret (v := 0) hx hb hr (fun t ht hW => ⟨⟨0, (), rfl, trivial, trivial⟩, hS.F ht⟩) hS.2.2 dX8_kindOf_173
      · have ic_71 : ¬ ((x_69 : Int32).toInt < (0 : Int32).toInt) := fun h9 => c_71 ((fa_lt x_69 0).mpr h9)
        exact hZ1 (K_168  _ _ _ hP hS (lv_sub hl [] rfl))
  · refine lv_tableIn (off := 151) (tgt := 152) hx hb dX8_kindOf_1 (by omega) (by omega) (by rw [v_1]; rfl) (by decide) ?_
    refine lv_iload_n hx hb dX8_kindOf_152 rfl (lv_at hl 0 rfl) ?_
    refine lv_bipush (v := 126) hx hb dX8_kindOf_153 (by decide) ?_
    have K_168 : ∀ (H : Heap) (locs : List Loc) (ls : Array Slot), va_P D vwCl [] H → va_S (fun _ => False) s.heap H locs → lv_has ls 1 [] → Z 0 0 H locs (F0 m 168 ls []) := by
      intro  H locs ls  hP hS hl
      refine hZ2 ?_
      refine lv_iconst (v := 1) hx hb dX8_kindOf_168 (by decide) ?_
      refine lv_goto (tgt := 173) hx hb dX8_kindOf_169 (by decide) ?_
      exact W.iret (v := 1) hx hb hr (fun t ht hW => ⟨⟨1, (), rfl, trivial, trivial⟩, hS.F ht⟩) hS.2.2 dX8_kindOf_173
    refine lv_icmp_gt (tgt := 168) hx hb dX8_kindOf_155 (by decide) (fun c_72 => ?_) (fun c_72 => ?_)
    · have ic_72 : (126 : Int32).toInt < (p1 : Int32).toInt := (fa_lt 126 p1).mp c_72
      exact hZ1 (K_168  _ _ _ hP hS (lv_sub hl [] rfl))
    · have ic_72 : ¬ ((126 : Int32).toInt < (p1 : Int32).toInt) := fun h9 => c_72 ((fa_lt 126 p1).mpr h9)
      refine va_ldcS hx hb hown hE0.2.2.2.1.1 dX8_kindOf_158 ?_
      refine lv_iload_n hx hb dX8_kindOf_160 rfl (lv_at hl 0 rfl) ?_
      refine lv_i2c hx hb dX8_kindOf_161 rfl ?_
      refine lv_topi (fun x_73 ex_73 => ?_)
      have tx_73 := ti_i2c ex_73
      have hPc := hP.sub (ws' := []) [] rfl
      refine va_calli (va_runV (As := [.int x_73]) (rest := []) ⟨hx, hb, hml, hown, hts⟩ (c_J0_indexOf_0f7a4 l D cI cD cJ s.heap.size ((aQ 3)) ((aT 3)) 19 ((aF 3)) x_73 (by omega)) (cwV 1 hts (goodIn_app (goodIn_r _ [1, 2, 3, 4] rfl (by decide +kernel)) (goodIn_sub i_J0_indexOf_0f7a4 k_J0_indexOf_0f7a4)) rfl rfl rfl (by decide +kernel) ⟨Nat.le_of_ble_eq_true rfl, Nat.le_of_ble_eq_true rfl⟩) ⟨fun a U g mk q => by obtain ⟨q0, qP, qK, hq0⟩ := q; exact ⟨q0, qP, va_K.moved (u := U) (U := U.calling g mk a) (Vm.Alike.refl U.vm) qK, TZ1.same hq0 rfl⟩, va_Orecv hE0.2.2.2.1.2.1 hS, fun U hU hW => ⟨rfl, by rw [hU]; exact hPc, va_K.moved hW.alike hK, by rw [hU]; exact TZ1.warm hW hE0.2.2.2.1.2 hS (fun q h => h.elim)⟩⟩ rfl rfl hl.1 rfl (lv_room (Nat.le_of_ble_eq_true rfl)) dX8_kindOf_162 ⟨Nat.le_of_ble_eq_true rfl, Nat.le_of_ble_eq_true rfl⟩) hS (fun q _ h => h.elim) (fun q h => h.elim) (fun x_74 u t H1 locs ht hvm w_75 hB hz1 hk1 hS => ?_)
      have hP : va_P D vwCl [] H1 := hP.kept (fun k9 q9 h9 => hk1 q9.1 (vx_lt hP h9) (fun h => h))
      generalize H1 = H at hP hS ⊢
      have b_x_74 := ti_b x_74
      refine lv_if_lt (tgt := 172) hx hb dX8_kindOf_165 (by decide) (fun c_76 => ?_) (fun c_76 => ?_)
      · have ic_76 : (x_74 : Int32).toInt < (0 : Int32).toInt := (fa_lt x_74 0).mp c_76
        refine lv_iconst (v := 0) hx hb dX8_kindOf_172 (by decide) ?_
        exact W.iret (v := 0) hx hb hr (fun t ht hW => ⟨⟨0, (), rfl, trivial, trivial⟩, hS.F ht⟩) hS.2.2 dX8_kindOf_173
      · have ic_76 : ¬ ((x_74 : Int32).toInt < (0 : Int32).toInt) := fun h9 => c_76 ((fa_lt x_74 0).mpr h9)
        exact hZ1 (K_168  _ _ _ hP hS (lv_sub hl [] rfl))
  · refine lv_tableIn (off := 151) (tgt := 152) hx hb dX8_kindOf_1 (by omega) (by omega) (by rw [v_1]; rfl) (by decide) ?_
    refine lv_iload_n hx hb dX8_kindOf_152 rfl (lv_at hl 0 rfl) ?_
    refine lv_bipush (v := 126) hx hb dX8_kindOf_153 (by decide) ?_
    have K_168 : ∀ (H : Heap) (locs : List Loc) (ls : Array Slot), va_P D vwCl [] H → va_S (fun _ => False) s.heap H locs → lv_has ls 1 [] → Z 0 0 H locs (F0 m 168 ls []) := by
      intro  H locs ls  hP hS hl
      refine hZ2 ?_
      refine lv_iconst (v := 1) hx hb dX8_kindOf_168 (by decide) ?_
      refine lv_goto (tgt := 173) hx hb dX8_kindOf_169 (by decide) ?_
      exact W.iret (v := 1) hx hb hr (fun t ht hW => ⟨⟨1, (), rfl, trivial, trivial⟩, hS.F ht⟩) hS.2.2 dX8_kindOf_173
    refine lv_icmp_gt (tgt := 168) hx hb dX8_kindOf_155 (by decide) (fun c_77 => ?_) (fun c_77 => ?_)
    · have ic_77 : (126 : Int32).toInt < (p1 : Int32).toInt := (fa_lt 126 p1).mp c_77
      exact hZ1 (K_168  _ _ _ hP hS (lv_sub hl [] rfl))
    · have ic_77 : ¬ ((126 : Int32).toInt < (p1 : Int32).toInt) := fun h9 => c_77 ((fa_lt 126 p1).mpr h9)
      refine va_ldcS hx hb hown hE0.2.2.2.1.1 dX8_kindOf_158 ?_
      refine lv_iload_n hx hb dX8_kindOf_160 rfl (lv_at hl 0 rfl) ?_
      refine lv_i2c hx hb dX8_kindOf_161 rfl ?_
      refine lv_topi (fun x_78 ex_78 => ?_)
      have tx_78 := ti_i2c ex_78
      have hPc := hP.sub (ws' := []) [] rfl
      refine va_calli (va_runV (As := [.int x_78]) (rest := []) ⟨hx, hb, hml, hown, hts⟩ (c_J0_indexOf_0f7a4 l D cI cD cJ s.heap.size ((aQ 3)) ((aT 3)) 19 ((aF 3)) x_78 (by omega)) (cwV 1 hts (goodIn_app (goodIn_r _ [1, 2, 3, 4] rfl (by decide +kernel)) (goodIn_sub i_J0_indexOf_0f7a4 k_J0_indexOf_0f7a4)) rfl rfl rfl (by decide +kernel) ⟨Nat.le_of_ble_eq_true rfl, Nat.le_of_ble_eq_true rfl⟩) ⟨fun a U g mk q => by obtain ⟨q0, qP, qK, hq0⟩ := q; exact ⟨q0, qP, va_K.moved (u := U) (U := U.calling g mk a) (Vm.Alike.refl U.vm) qK, TZ1.same hq0 rfl⟩, va_Orecv hE0.2.2.2.1.2.1 hS, fun U hU hW => ⟨rfl, by rw [hU]; exact hPc, va_K.moved hW.alike hK, by rw [hU]; exact TZ1.warm hW hE0.2.2.2.1.2 hS (fun q h => h.elim)⟩⟩ rfl rfl hl.1 rfl (lv_room (Nat.le_of_ble_eq_true rfl)) dX8_kindOf_162 ⟨Nat.le_of_ble_eq_true rfl, Nat.le_of_ble_eq_true rfl⟩) hS (fun q _ h => h.elim) (fun q h => h.elim) (fun x_79 u t H1 locs ht hvm w_80 hB hz1 hk1 hS => ?_)
      have hP : va_P D vwCl [] H1 := hP.kept (fun k9 q9 h9 => hk1 q9.1 (vx_lt hP h9) (fun h => h))
      generalize H1 = H at hP hS ⊢
      have b_x_79 := ti_b x_79
      refine lv_if_lt (tgt := 172) hx hb dX8_kindOf_165 (by decide) (fun c_81 => ?_) (fun c_81 => ?_)
      · have ic_81 : (x_79 : Int32).toInt < (0 : Int32).toInt := (fa_lt x_79 0).mp c_81
        refine lv_iconst (v := 0) hx hb dX8_kindOf_172 (by decide) ?_
        exact W.iret (v := 0) hx hb hr (fun t ht hW => ⟨⟨0, (), rfl, trivial, trivial⟩, hS.F ht⟩) hS.2.2 dX8_kindOf_173
      · have ic_81 : ¬ ((x_79 : Int32).toInt < (0 : Int32).toInt) := fun h9 => c_81 ((fa_lt x_79 0).mpr h9)
        exact hZ1 (K_168  _ _ _ hP hS (lv_sub hl [] rfl))
  · refine lv_tableIn (off := 151) (tgt := 152) hx hb dX8_kindOf_1 (by omega) (by omega) (by rw [v_1]; rfl) (by decide) ?_
    refine lv_iload_n hx hb dX8_kindOf_152 rfl (lv_at hl 0 rfl) ?_
    refine lv_bipush (v := 126) hx hb dX8_kindOf_153 (by decide) ?_
    have K_168 : ∀ (H : Heap) (locs : List Loc) (ls : Array Slot), va_P D vwCl [] H → va_S (fun _ => False) s.heap H locs → lv_has ls 1 [] → Z 0 0 H locs (F0 m 168 ls []) := by
      intro  H locs ls  hP hS hl
      refine hZ2 ?_
      refine lv_iconst (v := 1) hx hb dX8_kindOf_168 (by decide) ?_
      refine lv_goto (tgt := 173) hx hb dX8_kindOf_169 (by decide) ?_
      exact W.iret (v := 1) hx hb hr (fun t ht hW => ⟨⟨1, (), rfl, trivial, trivial⟩, hS.F ht⟩) hS.2.2 dX8_kindOf_173
    refine lv_icmp_gt (tgt := 168) hx hb dX8_kindOf_155 (by decide) (fun c_82 => ?_) (fun c_82 => ?_)
    · have ic_82 : (126 : Int32).toInt < (p1 : Int32).toInt := (fa_lt 126 p1).mp c_82
      exact hZ1 (K_168  _ _ _ hP hS (lv_sub hl [] rfl))
    · have ic_82 : ¬ ((126 : Int32).toInt < (p1 : Int32).toInt) := fun h9 => c_82 ((fa_lt 126 p1).mpr h9)
      refine va_ldcS hx hb hown hE0.2.2.2.1.1 dX8_kindOf_158 ?_
      refine lv_iload_n hx hb dX8_kindOf_160 rfl (lv_at hl 0 rfl) ?_
      refine lv_i2c hx hb dX8_kindOf_161 rfl ?_
      refine lv_topi (fun x_83 ex_83 => ?_)
      have tx_83 := ti_i2c ex_83
      have hPc := hP.sub (ws' := []) [] rfl
      refine va_calli (va_runV (As := [.int x_83]) (rest := []) ⟨hx, hb, hml, hown, hts⟩ (c_J0_indexOf_0f7a4 l D cI cD cJ s.heap.size ((aQ 3)) ((aT 3)) 19 ((aF 3)) x_83 (by omega)) (cwV 1 hts (goodIn_app (goodIn_r _ [1, 2, 3, 4] rfl (by decide +kernel)) (goodIn_sub i_J0_indexOf_0f7a4 k_J0_indexOf_0f7a4)) rfl rfl rfl (by decide +kernel) ⟨Nat.le_of_ble_eq_true rfl, Nat.le_of_ble_eq_true rfl⟩) ⟨fun a U g mk q => by obtain ⟨q0, qP, qK, hq0⟩ := q; exact ⟨q0, qP, va_K.moved (u := U) (U := U.calling g mk a) (Vm.Alike.refl U.vm) qK, TZ1.same hq0 rfl⟩, va_Orecv hE0.2.2.2.1.2.1 hS, fun U hU hW => ⟨rfl, by rw [hU]; exact hPc, va_K.moved hW.alike hK, by rw [hU]; exact TZ1.warm hW hE0.2.2.2.1.2 hS (fun q h => h.elim)⟩⟩ rfl rfl hl.1 rfl (lv_room (Nat.le_of_ble_eq_true rfl)) dX8_kindOf_162 ⟨Nat.le_of_ble_eq_true rfl, Nat.le_of_ble_eq_true rfl⟩) hS (fun q _ h => h.elim) (fun q h => h.elim) (fun x_84 u t H1 locs ht hvm w_85 hB hz1 hk1 hS => ?_)
      have hP : va_P D vwCl [] H1 := hP.kept (fun k9 q9 h9 => hk1 q9.1 (vx_lt hP h9) (fun h => h))
      generalize H1 = H at hP hS ⊢
      have b_x_84 := ti_b x_84
      refine lv_if_lt (tgt := 172) hx hb dX8_kindOf_165 (by decide) (fun c_86 => ?_) (fun c_86 => ?_)
      · have ic_86 : (x_84 : Int32).toInt < (0 : Int32).toInt := (fa_lt x_84 0).mp c_86
        refine lv_iconst (v := 0) hx hb dX8_kindOf_172 (by decide) ?_
        exact W.iret (v := 0) hx hb hr (fun t ht hW => ⟨⟨0, (), rfl, trivial, trivial⟩, hS.F ht⟩) hS.2.2 dX8_kindOf_173
      · have ic_86 : ¬ ((x_84 : Int32).toInt < (0 : Int32).toInt) := fun h9 => c_86 ((fa_lt x_84 0).mpr h9)
        exact hZ1 (K_168  _ _ _ hP hS (lv_sub hl [] rfl))
  · refine lv_tableIn (off := 151) (tgt := 152) hx hb dX8_kindOf_1 (by omega) (by omega) (by rw [v_1]; rfl) (by decide) ?_
    refine lv_iload_n hx hb dX8_kindOf_152 rfl (lv_at hl 0 rfl) ?_
    refine lv_bipush (v := 126) hx hb dX8_kindOf_153 (by decide) ?_
    have K_168 : ∀ (H : Heap) (locs : List Loc) (ls : Array Slot), va_P D vwCl [] H → va_S (fun _ => False) s.heap H locs → lv_has ls 1 [] → Z 0 0 H locs (F0 m 168 ls []) := by
      intro  H locs ls  hP hS hl
      refine hZ2 ?_
      refine lv_iconst (v := 1) hx hb dX8_kindOf_168 (by decide) ?_
      refine lv_goto (tgt := 173) hx hb dX8_kindOf_169 (by decide) ?_
      exact W.iret (v := 1) hx hb hr (fun t ht hW => ⟨⟨1, (), rfl, trivial, trivial⟩, hS.F ht⟩) hS.2.2 dX8_kindOf_173
    refine lv_icmp_gt (tgt := 168) hx hb dX8_kindOf_155 (by decide) (fun c_87 => ?_) (fun c_87 => ?_)
    · have ic_87 : (126 : Int32).toInt < (p1 : Int32).toInt := (fa_lt 126 p1).mp c_87
      exact hZ1 (K_168  _ _ _ hP hS (lv_sub hl [] rfl))
    · have ic_87 : ¬ ((126 : Int32).toInt < (p1 : Int32).toInt) := fun h9 => c_87 ((fa_lt 126 p1).mpr h9)
      refine va_ldcS hx hb hown hE0.2.2.2.1.1 dX8_kindOf_158 ?_
      refine lv_iload_n hx hb dX8_kindOf_160 rfl (lv_at hl 0 rfl) ?_
      refine lv_i2c hx hb dX8_kindOf_161 rfl ?_
      refine lv_topi (fun x_88 ex_88 => ?_)
      have tx_88 := ti_i2c ex_88
      have hPc := hP.sub (ws' := []) [] rfl
      refine va_calli (va_runV (As := [.int x_88]) (rest := []) ⟨hx, hb, hml, hown, hts⟩ (c_J0_indexOf_0f7a4 l D cI cD cJ s.heap.size ((aQ 3)) ((aT 3)) 19 ((aF 3)) x_88 (by omega)) (cwV 1 hts (goodIn_app (goodIn_r _ [1, 2, 3, 4] rfl (by decide +kernel)) (goodIn_sub i_J0_indexOf_0f7a4 k_J0_indexOf_0f7a4)) rfl rfl rfl (by decide +kernel) ⟨Nat.le_of_ble_eq_true rfl, Nat.le_of_ble_eq_true rfl⟩) ⟨fun a U g mk q => by obtain ⟨q0, qP, qK, hq0⟩ := q; exact ⟨q0, qP, va_K.moved (u := U) (U := U.calling g mk a) (Vm.Alike.refl U.vm) qK, TZ1.same hq0 rfl⟩, va_Orecv hE0.2.2.2.1.2.1 hS, fun U hU hW => ⟨rfl, by rw [hU]; exact hPc, va_K.moved hW.alike hK, by rw [hU]; exact TZ1.warm hW hE0.2.2.2.1.2 hS (fun q h => h.elim)⟩⟩ rfl rfl hl.1 rfl (lv_room (Nat.le_of_ble_eq_true rfl)) dX8_kindOf_162 ⟨Nat.le_of_ble_eq_true rfl, Nat.le_of_ble_eq_true rfl⟩) hS (fun q _ h => h.elim) (fun q h => h.elim) (fun x_89 u t H1 locs ht hvm w_90 hB hz1 hk1 hS => ?_)
      have hP : va_P D vwCl [] H1 := hP.kept (fun k9 q9 h9 => hk1 q9.1 (vx_lt hP h9) (fun h => h))
      generalize H1 = H at hP hS ⊢
      have b_x_89 := ti_b x_89
      refine lv_if_lt (tgt := 172) hx hb dX8_kindOf_165 (by decide) (fun c_91 => ?_) (fun c_91 => ?_)
      · have ic_91 : (x_89 : Int32).toInt < (0 : Int32).toInt := (fa_lt x_89 0).mp c_91
        refine lv_iconst (v := 0) hx hb dX8_kindOf_172 (by decide) ?_
        exact W.iret (v := 0) hx hb hr (fun t ht hW => ⟨⟨0, (), rfl, trivial, trivial⟩, hS.F ht⟩) hS.2.2 dX8_kindOf_173
      · have ic_91 : ¬ ((x_89 : Int32).toInt < (0 : Int32).toInt) := fun h9 => c_91 ((fa_lt x_89 0).mpr h9)
        exact hZ1 (K_168  _ _ _ hP hS (lv_sub hl [] rfl))
  · refine lv_tableIn (off := 151) (tgt := 152) hx hb dX8_kindOf_1 (by omega) (by omega) (by rw [v_1]; rfl) (by decide) ?_
    refine lv_iload_n hx hb dX8_kindOf_152 rfl (lv_at hl 0 rfl) ?_
    refine lv_bipush (v := 126) hx hb dX8_kindOf_153 (by decide) ?_
    have K_168 : ∀ (H : Heap) (locs : List Loc) (ls : Array Slot), va_P D vwCl [] H → va_S (fun _ => False) s.heap H locs → lv_has ls 1 [] → Z 0 0 H locs (F0 m 168 ls []) := by
      intro  H locs ls  hP hS hl
      refine hZ2 ?_
      refine lv_iconst (v := 1) hx hb dX8_kindOf_168 (by decide) ?_
      refine lv_goto (tgt := 173) hx hb dX8_kindOf_169 (by decide) ?_
      exact W.iret (v := 1) hx hb hr (fun t ht hW => ⟨⟨1, (), rfl, trivial, trivial⟩, hS.F ht⟩) hS.2.2 dX8_kindOf_173
    refine lv_icmp_gt (tgt := 168) hx hb dX8_kindOf_155 (by decide) (fun c_92 => ?_) (fun c_92 => ?_)
    · have ic_92 : (126 : Int32).toInt < (p1 : Int32).toInt := (fa_lt 126 p1).mp c_92
      exact hZ1 (K_168  _ _ _ hP hS (lv_sub hl [] rfl))
    · have ic_92 : ¬ ((126 : Int32).toInt < (p1 : Int32).toInt) := fun h9 => c_92 ((fa_lt 126 p1).mpr h9)
      refine va_ldcS hx hb hown hE0.2.2.2.1.1 dX8_kindOf_158 ?_
      refine lv_iload_n hx hb dX8_kindOf_160 rfl (lv_at hl 0 rfl) ?_
      refine lv_i2c hx hb dX8_kindOf_161 rfl ?_
      refine lv_topi (fun x_93 ex_93 => ?_)
      have tx_93 := ti_i2c ex_93
      have hPc := hP.sub (ws' := []) [] rfl
      refine va_calli (va_runV (As := [.int x_93]) (rest := []) ⟨hx, hb, hml, hown, hts⟩ (c_J0_indexOf_0f7a4 l D cI cD cJ s.heap.size ((aQ 3)) ((aT 3)) 19 ((aF 3)) x_93 (by omega)) (cwV 1 hts (goodIn_app (goodIn_r _ [1, 2, 3, 4] rfl (by decide +kernel)) (goodIn_sub i_J0_indexOf_0f7a4 k_J0_indexOf_0f7a4)) rfl rfl rfl (by decide +kernel) ⟨Nat.le_of_ble_eq_true rfl, Nat.le_of_ble_eq_true rfl⟩) ⟨fun a U g mk q => by obtain ⟨q0, qP, qK, hq0⟩ := q; exact ⟨q0, qP, va_K.moved (u := U) (U := U.calling g mk a) (Vm.Alike.refl U.vm) qK, TZ1.same hq0 rfl⟩, va_Orecv hE0.2.2.2.1.2.1 hS, fun U hU hW => ⟨rfl, by rw [hU]; exact hPc, va_K.moved hW.alike hK, by rw [hU]; exact TZ1.warm hW hE0.2.2.2.1.2 hS (fun q h => h.elim)⟩⟩ rfl rfl hl.1 rfl (lv_room (Nat.le_of_ble_eq_true rfl)) dX8_kindOf_162 ⟨Nat.le_of_ble_eq_true rfl, Nat.le_of_ble_eq_true rfl⟩) hS (fun q _ h => h.elim) (fun q h => h.elim) (fun x_94 u t H1 locs ht hvm w_95 hB hz1 hk1 hS => ?_)
      have hP : va_P D vwCl [] H1 := hP.kept (fun k9 q9 h9 => hk1 q9.1 (vx_lt hP h9) (fun h => h))
      generalize H1 = H at hP hS ⊢
      have b_x_94 := ti_b x_94
      refine lv_if_lt (tgt := 172) hx hb dX8_kindOf_165 (by decide) (fun c_96 => ?_) (fun c_96 => ?_)
      · have ic_96 : (x_94 : Int32).toInt < (0 : Int32).toInt := (fa_lt x_94 0).mp c_96
        refine lv_iconst (v := 0) hx hb dX8_kindOf_172 (by decide) ?_
        exact W.iret (v := 0) hx hb hr (fun t ht hW => ⟨⟨0, (), rfl, trivial, trivial⟩, hS.F ht⟩) hS.2.2 dX8_kindOf_173
      · have ic_96 : ¬ ((x_94 : Int32).toInt < (0 : Int32).toInt) := fun h9 => c_96 ((fa_lt x_94 0).mpr h9)
        exact hZ1 (K_168  _ _ _ hP hS (lv_sub hl [] rfl))
  · refine lv_tableIn (off := 151) (tgt := 152) hx hb dX8_kindOf_1 (by omega) (by omega) (by rw [v_1]; rfl) (by decide) ?_
    refine lv_iload_n hx hb dX8_kindOf_152 rfl (lv_at hl 0 rfl) ?_
    refine lv_bipush (v := 126) hx hb dX8_kindOf_153 (by decide) ?_
    have K_168 : ∀ (H : Heap) (locs : List Loc) (ls : Array Slot), va_P D vwCl [] H → va_S (fun _ => False) s.heap H locs → lv_has ls 1 [] → Z 0 0 H locs (F0 m 168 ls []) := by
      intro  H locs ls  hP hS hl
      refine hZ2 ?_
      refine lv_iconst (v := 1) hx hb dX8_kindOf_168 (by decide) ?_
      refine lv_goto (tgt := 173) hx hb dX8_kindOf_169 (by decide) ?_
      exact W.iret (v := 1) hx hb hr (fun t ht hW => ⟨⟨1, (), rfl, trivial, trivial⟩, hS.F ht⟩) hS.2.2 dX8_kindOf_173
    refine lv_icmp_gt (tgt := 168) hx hb dX8_kindOf_155 (by decide) (fun c_97 => ?_) (fun c_97 => ?_)
    · have ic_97 : (126 : Int32).toInt < (p1 : Int32).toInt := (fa_lt 126 p1).mp c_97
      exact hZ1 (K_168  _ _ _ hP hS (lv_sub hl [] rfl))
    · have ic_97 : ¬ ((126 : Int32).toInt < (p1 : Int32).toInt) := fun h9 => c_97 ((fa_lt 126 p1).mpr h9)
      refine va_ldcS hx hb hown hE0.2.2.2.1.1 dX8_kindOf_158 ?_
      refine lv_iload_n hx hb dX8_kindOf_160 rfl (lv_at hl 0 rfl) ?_
      refine lv_i2c hx hb dX8_kindOf_161 rfl ?_
      refine lv_topi (fun x_98 ex_98 => ?_)
      have tx_98 := ti_i2c ex_98
      have hPc := hP.sub (ws' := []) [] rfl
      refine va_calli (va_runV (As := [.int x_98]) (rest := []) ⟨hx, hb, hml, hown, hts⟩ (c_J0_indexOf_0f7a4 l D cI cD cJ s.heap.size ((aQ 3)) ((aT 3)) 19 ((aF 3)) x_98 (by omega)) (cwV 1 hts (goodIn_app (goodIn_r _ [1, 2, 3, 4] rfl (by decide +kernel)) (goodIn_sub i_J0_indexOf_0f7a4 k_J0_indexOf_0f7a4)) rfl rfl rfl (by decide +kernel) ⟨Nat.le_of_ble_eq_true rfl, Nat.le_of_ble_eq_true rfl⟩) ⟨fun a U g mk q => by obtain ⟨q0, qP, qK, hq0⟩ := q; exact ⟨q0, qP, va_K.moved (u := U) (U := U.calling g mk a) (Vm.Alike.refl U.vm) qK, TZ1.same hq0 rfl⟩, va_Orecv hE0.2.2.2.1.2.1 hS, fun U hU hW => ⟨rfl, by rw [hU]; exact hPc, va_K.moved hW.alike hK, by rw [hU]; exact TZ1.warm hW hE0.2.2.2.1.2 hS (fun q h => h.elim)⟩⟩ rfl rfl hl.1 rfl (lv_room (Nat.le_of_ble_eq_true rfl)) dX8_kindOf_162 ⟨Nat.le_of_ble_eq_true rfl, Nat.le_of_ble_eq_true rfl⟩) hS (fun q _ h => h.elim) (fun q h => h.elim) (fun x_99 u t H1 locs ht hvm w_100 hB hz1 hk1 hS => ?_)
      have hP : va_P D vwCl [] H1 := hP.kept (fun k9 q9 h9 => hk1 q9.1 (vx_lt hP h9) (fun h => h))
      generalize H1 = H at hP hS ⊢
      have b_x_99 := ti_b x_99
      refine lv_if_lt (tgt := 172) hx hb dX8_kindOf_165 (by decide) (fun c_101 => ?_) (fun c_101 => ?_)
      · have ic_101 : (x_99 : Int32).toInt < (0 : Int32).toInt := (fa_lt x_99 0).mp c_101
        refine lv_iconst (v := 0) hx hb dX8_kindOf_172 (by decide) ?_
        exact W.iret (v := 0) hx hb hr (fun t ht hW => ⟨⟨0, (), rfl, trivial, trivial⟩, hS.F ht⟩) hS.2.2 dX8_kindOf_173
      · have ic_101 : ¬ ((x_99 : Int32).toInt < (0 : Int32).toInt) := fun h9 => c_101 ((fa_lt x_99 0).mpr h9)
        exact hZ1 (K_168  _ _ _ hP hS (lv_sub hl [] rfl))
  · refine lv_tableIn (off := 151) (tgt := 152) hx hb dX8_kindOf_1 (by omega) (by omega) (by rw [v_1]; rfl) (by decide) ?_
    refine lv_iload_n hx hb dX8_kindOf_152 rfl (lv_at hl 0 rfl) ?_
    refine lv_bipush (v := 126) hx hb dX8_kindOf_153 (by decide) ?_
    have K_168 : ∀ (H : Heap) (locs : List Loc) (ls : Array Slot), va_P D vwCl [] H → va_S (fun _ => False) s.heap H locs → lv_has ls 1 [] → Z 0 0 H locs (F0 m 168 ls []) := by
      intro  H locs ls  hP hS hl
      refine hZ2 ?_
      refine lv_iconst (v := 1) hx hb dX8_kindOf_168 (by decide) ?_
      refine lv_goto (tgt := 173) hx hb dX8_kindOf_169 (by decide) ?_
      exact W.iret (v := 1) hx hb hr (fun t ht hW => ⟨⟨1, (), rfl, trivial, trivial⟩, hS.F ht⟩) hS.2.2 dX8_kindOf_173
    refine lv_icmp_gt (tgt := 168) hx hb dX8_kindOf_155 (by decide) (fun c_102 => ?_) (fun c_102 => ?_)
    · have ic_102 : (126 : Int32).toInt < (p1 : Int32).toInt := (fa_lt 126 p1).mp c_102
      exact hZ1 (K_168  _ _ _ hP hS (lv_sub hl [] rfl))
    · have ic_102 : ¬ ((126 : Int32).toInt < (p1 : Int32).toInt) := fun h9 => c_102 ((fa_lt 126 p1).mpr h9)
      refine va_ldcS hx hb hown hE0.2.2.2.1.1 dX8_kindOf_158 ?_
      refine lv_iload_n hx hb dX8_kindOf_160 rfl (lv_at hl 0 rfl) ?_
      refine lv_i2c hx hb dX8_kindOf_161 rfl ?_
      refine lv_topi (fun x_103 ex_103 => ?_)
      have tx_103 := ti_i2c ex_103
      have hPc := hP.sub (ws' := []) [] rfl
      refine va_calli (va_runV (As := [.int x_103]) (rest := []) ⟨hx, hb, hml, hown, hts⟩ (c_J0_indexOf_0f7a4 l D cI cD cJ s.heap.size ((aQ 3)) ((aT 3)) 19 ((aF 3)) x_103 (by omega)) (cwV 1 hts (goodIn_app (goodIn_r _ [1, 2, 3, 4] rfl (by decide +kernel)) (goodIn_sub i_J0_indexOf_0f7a4 k_J0_indexOf_0f7a4)) rfl rfl rfl (by decide +kernel) ⟨Nat.le_of_ble_eq_true rfl, Nat.le_of_ble_eq_true rfl⟩) ⟨fun a U g mk q => by obtain ⟨q0, qP, qK, hq0⟩ := q; exact ⟨q0, qP, va_K.moved (u := U) (U := U.calling g mk a) (Vm.Alike.refl U.vm) qK, TZ1.same hq0 rfl⟩, va_Orecv hE0.2.2.2.1.2.1 hS, fun U hU hW => ⟨rfl, by rw [hU]; exact hPc, va_K.moved hW.alike hK, by rw [hU]; exact TZ1.warm hW hE0.2.2.2.1.2 hS (fun q h => h.elim)⟩⟩ rfl rfl hl.1 rfl (lv_room (Nat.le_of_ble_eq_true rfl)) dX8_kindOf_162 ⟨Nat.le_of_ble_eq_true rfl, Nat.le_of_ble_eq_true rfl⟩) hS (fun q _ h => h.elim) (fun q h => h.elim) (fun x_104 u t H1 locs ht hvm w_105 hB hz1 hk1 hS => ?_)
      have hP : va_P D vwCl [] H1 := hP.kept (fun k9 q9 h9 => hk1 q9.1 (vx_lt hP h9) (fun h => h))
      generalize H1 = H at hP hS ⊢
      have b_x_104 := ti_b x_104
      refine lv_if_lt (tgt := 172) hx hb dX8_kindOf_165 (by decide) (fun c_106 => ?_) (fun c_106 => ?_)
      · have ic_106 : (x_104 : Int32).toInt < (0 : Int32).toInt := (fa_lt x_104 0).mp c_106
        refine lv_iconst (v := 0) hx hb dX8_kindOf_172 (by decide) ?_
        exact W.iret (v := 0) hx hb hr (fun t ht hW => ⟨⟨0, (), rfl, trivial, trivial⟩, hS.F ht⟩) hS.2.2 dX8_kindOf_173
      · have ic_106 : ¬ ((x_104 : Int32).toInt < (0 : Int32).toInt) := fun h9 => c_106 ((fa_lt x_104 0).mpr h9)
        exact hZ1 (K_168  _ _ _ hP hS (lv_sub hl [] rfl))
  · refine lv_tableIn (off := 151) (tgt := 152) hx hb dX8_kindOf_1 (by omega) (by omega) (by rw [v_1]; rfl) (by decide) ?_
    refine lv_iload_n hx hb dX8_kindOf_152 rfl (lv_at hl 0 rfl) ?_
    refine lv_bipush (v := 126) hx hb dX8_kindOf_153 (by decide) ?_
    have K_168 : ∀ (H : Heap) (locs : List Loc) (ls : Array Slot), va_P D vwCl [] H → va_S (fun _ => False) s.heap H locs → lv_has ls 1 [] → Z 0 0 H locs (F0 m 168 ls []) := by
      intro  H locs ls  hP hS hl
      refine hZ2 ?_
      refine lv_iconst (v := 1) hx hb dX8_kindOf_168 (by decide) ?_
      refine lv_goto (tgt := 173) hx hb dX8_kindOf_169 (by decide) ?_
      exact W.iret (v := 1) hx hb hr (fun t ht hW => ⟨⟨1, (), rfl, trivial, trivial⟩, hS.F ht⟩) hS.2.2 dX8_kindOf_173
    refine lv_icmp_gt (tgt := 168) hx hb dX8_kindOf_155 (by decide) (fun c_107 => ?_) (fun c_107 => ?_)
    · have ic_107 : (126 : Int32).toInt < (p1 : Int32).toInt := (fa_lt 126 p1).mp c_107
      exact hZ1 (K_168  _ _ _ hP hS (lv_sub hl [] rfl))
    · have ic_107 : ¬ ((126 : Int32).toInt < (p1 : Int32).toInt) := fun h9 => c_107 ((fa_lt 126 p1).mpr h9)
      refine va_ldcS hx hb hown hE0.2.2.2.1.1 dX8_kindOf_158 ?_
      refine lv_iload_n hx hb dX8_kindOf_160 rfl (lv_at hl 0 rfl) ?_
      refine lv_i2c hx hb dX8_kindOf_161 rfl ?_
      refine lv_topi (fun x_108 ex_108 => ?_)
      have tx_108 := ti_i2c ex_108
      have hPc := hP.sub (ws' := []) [] rfl
      refine va_calli (va_runV (As := [.int x_108]) (rest := []) ⟨hx, hb, hml, hown, hts⟩ (c_J0_indexOf_0f7a4 l D cI cD cJ s.heap.size ((aQ 3)) ((aT 3)) 19 ((aF 3)) x_108 (by omega)) (cwV 1 hts (goodIn_app (goodIn_r _ [1, 2, 3, 4] rfl (by decide +kernel)) (goodIn_sub i_J0_indexOf_0f7a4 k_J0_indexOf_0f7a4)) rfl rfl rfl (by decide +kernel) ⟨Nat.le_of_ble_eq_true rfl, Nat.le_of_ble_eq_true rfl⟩) ⟨fun a U g mk q => by obtain ⟨q0, qP, qK, hq0⟩ := q; exact ⟨q0, qP, va_K.moved (u := U) (U := U.calling g mk a) (Vm.Alike.refl U.vm) qK, TZ1.same hq0 rfl⟩, va_Orecv hE0.2.2.2.1.2.1 hS, fun U hU hW => ⟨rfl, by rw [hU]; exact hPc, va_K.moved hW.alike hK, by rw [hU]; exact TZ1.warm hW hE0.2.2.2.1.2 hS (fun q h => h.elim)⟩⟩ rfl rfl hl.1 rfl (lv_room (Nat.le_of_ble_eq_true rfl)) dX8_kindOf_162 ⟨Nat.le_of_ble_eq_true rfl, Nat.le_of_ble_eq_true rfl⟩) hS (fun q _ h => h.elim) (fun q h => h.elim) (fun x_109 u t H1 locs ht hvm w_110 hB hz1 hk1 hS => ?_)
      have hP : va_P D vwCl [] H1 := hP.kept (fun k9 q9 h9 => hk1 q9.1 (vx_lt hP h9) (fun h => h))
      generalize H1 = H at hP hS ⊢
      have b_x_109 := ti_b x_109
      refine lv_if_lt (tgt := 172) hx hb dX8_kindOf_165 (by decide) (fun c_111 => ?_) (fun c_111 => ?_)
      · have ic_111 : (x_109 : Int32).toInt < (0 : Int32).toInt := (fa_lt x_109 0).mp c_111
        refine lv_iconst (v := 0) hx hb dX8_kindOf_172 (by decide) ?_
        exact W.iret (v := 0) hx hb hr (fun t ht hW => ⟨⟨0, (), rfl, trivial, trivial⟩, hS.F ht⟩) hS.2.2 dX8_kindOf_173
      · have ic_111 : ¬ ((x_109 : Int32).toInt < (0 : Int32).toInt) := fun h9 => c_111 ((fa_lt x_109 0).mpr h9)
        exact hZ1 (K_168  _ _ _ hP hS (lv_sub hl [] rfl))
  · refine lv_tableIn (off := 151) (tgt := 152) hx hb dX8_kindOf_1 (by omega) (by omega) (by rw [v_1]; rfl) (by decide) ?_
    refine lv_iload_n hx hb dX8_kindOf_152 rfl (lv_at hl 0 rfl) ?_
    refine lv_bipush (v := 126) hx hb dX8_kindOf_153 (by decide) ?_
    have K_168 : ∀ (H : Heap) (locs : List Loc) (ls : Array Slot), va_P D vwCl [] H → va_S (fun _ => False) s.heap H locs → lv_has ls 1 [] → Z 0 0 H locs (F0 m 168 ls []) := by
      intro  H locs ls  hP hS hl
      refine hZ2 ?_
      refine lv_iconst (v := 1) hx hb dX8_kindOf_168 (by decide) ?_
      refine lv_goto (tgt := 173) hx hb dX8_kindOf_169 (by decide) ?_
      exact W.iret (v := 1) hx hb hr (fun t ht hW => ⟨⟨1, (), rfl, trivial, trivial⟩, hS.F ht⟩) hS.2.2 dX8_kindOf_173
    refine lv_icmp_gt (tgt := 168) hx hb dX8_kindOf_155 (by decide) (fun c_112 => ?_) (fun c_112 => ?_)
    · have ic_112 : (126 : Int32).toInt < (p1 : Int32).toInt := (fa_lt 126 p1).mp c_112
      exact hZ1 (K_168  _ _ _ hP hS (lv_sub hl [] rfl))
    · have ic_112 : ¬ ((126 : Int32).toInt < (p1 : Int32).toInt) := fun h9 => c_112 ((fa_lt 126 p1).mpr h9)
      refine va_ldcS hx hb hown hE0.2.2.2.1.1 dX8_kindOf_158 ?_
      refine lv_iload_n hx hb dX8_kindOf_160 rfl (lv_at hl 0 rfl) ?_
      refine lv_i2c hx hb dX8_kindOf_161 rfl ?_
      refine lv_topi (fun x_113 ex_113 => ?_)
      have tx_113 := ti_i2c ex_113
      have hPc := hP.sub (ws' := []) [] rfl
      refine va_calli (va_runV (As := [.int x_113]) (rest := []) ⟨hx, hb, hml, hown, hts⟩ (c_J0_indexOf_0f7a4 l D cI cD cJ s.heap.size ((aQ 3)) ((aT 3)) 19 ((aF 3)) x_113 (by omega)) (cwV 1 hts (goodIn_app (goodIn_r _ [1, 2, 3, 4] rfl (by decide +kernel)) (goodIn_sub i_J0_indexOf_0f7a4 k_J0_indexOf_0f7a4)) rfl rfl rfl (by decide +kernel) ⟨Nat.le_of_ble_eq_true rfl, Nat.le_of_ble_eq_true rfl⟩) ⟨fun a U g mk q => by obtain ⟨q0, qP, qK, hq0⟩ := q; exact ⟨q0, qP, va_K.moved (u := U) (U := U.calling g mk a) (Vm.Alike.refl U.vm) qK, TZ1.same hq0 rfl⟩, va_Orecv hE0.2.2.2.1.2.1 hS, fun U hU hW => ⟨rfl, by rw [hU]; exact hPc, va_K.moved hW.alike hK, by rw [hU]; exact TZ1.warm hW hE0.2.2.2.1.2 hS (fun q h => h.elim)⟩⟩ rfl rfl hl.1 rfl (lv_room (Nat.le_of_ble_eq_true rfl)) dX8_kindOf_162 ⟨Nat.le_of_ble_eq_true rfl, Nat.le_of_ble_eq_true rfl⟩) hS (fun q _ h => h.elim) (fun q h => h.elim) (fun x_114 u t H1 locs ht hvm w_115 hB hz1 hk1 hS => ?_)
      have hP : va_P D vwCl [] H1 := hP.kept (fun k9 q9 h9 => hk1 q9.1 (vx_lt hP h9) (fun h => h))
      generalize H1 = H at hP hS ⊢
      have b_x_114 := ti_b x_114
      refine lv_if_lt (tgt := 172) hx hb dX8_kindOf_165 (by decide) (fun c_116 => ?_) (fun c_116 => ?_)
      · have ic_116 : (x_114 : Int32).toInt < (0 : Int32).toInt := (fa_lt x_114 0).mp c_116
        refine lv_iconst (v := 0) hx hb dX8_kindOf_172 (by decide) ?_
        exact W.iret (v := 0) hx hb hr (fun t ht hW => ⟨⟨0, (), rfl, trivial, trivial⟩, hS.F ht⟩) hS.2.2 dX8_kindOf_173
      · have ic_116 : ¬ ((x_114 : Int32).toInt < (0 : Int32).toInt) := fun h9 => c_116 ((fa_lt x_114 0).mpr h9)
        exact hZ1 (K_168  _ _ _ hP hS (lv_sub hl [] rfl))
  · refine lv_tableIn (off := 151) (tgt := 152) hx hb dX8_kindOf_1 (by omega) (by omega) (by rw [v_1]; rfl) (by decide) ?_
    refine lv_iload_n hx hb dX8_kindOf_152 rfl (lv_at hl 0 rfl) ?_
    refine lv_bipush (v := 126) hx hb dX8_kindOf_153 (by decide) ?_
    have K_168 : ∀ (H : Heap) (locs : List Loc) (ls : Array Slot), va_P D vwCl [] H → va_S (fun _ => False) s.heap H locs → lv_has ls 1 [] → Z 0 0 H locs (F0 m 168 ls []) := by
      intro  H locs ls  hP hS hl
      refine hZ2 ?_
      refine lv_iconst (v := 1) hx hb dX8_kindOf_168 (by decide) ?_
      refine lv_goto (tgt := 173) hx hb dX8_kindOf_169 (by decide) ?_
      exact W.iret (v := 1) hx hb hr (fun t ht hW => ⟨⟨1, (), rfl, trivial, trivial⟩, hS.F ht⟩) hS.2.2 dX8_kindOf_173
    refine lv_icmp_gt (tgt := 168) hx hb dX8_kindOf_155 (by decide) (fun c_117 => ?_) (fun c_117 => ?_)
    · have ic_117 : (126 : Int32).toInt < (p1 : Int32).toInt := (fa_lt 126 p1).mp c_117
      exact hZ1 (K_168  _ _ _ hP hS (lv_sub hl [] rfl))
    · have ic_117 : ¬ ((126 : Int32).toInt < (p1 : Int32).toInt) := fun h9 => c_117 ((fa_lt 126 p1).mpr h9)
      refine va_ldcS hx hb hown hE0.2.2.2.1.1 dX8_kindOf_158 ?_
      refine lv_iload_n hx hb dX8_kindOf_160 rfl (lv_at hl 0 rfl) ?_
      refine lv_i2c hx hb dX8_kindOf_161 rfl ?_
      refine lv_topi (fun x_118 ex_118 => ?_)
      have tx_118 := ti_i2c ex_118
      have hPc := hP.sub (ws' := []) [] rfl
      refine va_calli (va_runV (As := [.int x_118]) (rest := []) ⟨hx, hb, hml, hown, hts⟩ (c_J0_indexOf_0f7a4 l D cI cD cJ s.heap.size ((aQ 3)) ((aT 3)) 19 ((aF 3)) x_118 (by omega)) (cwV 1 hts (goodIn_app (goodIn_r _ [1, 2, 3, 4] rfl (by decide +kernel)) (goodIn_sub i_J0_indexOf_0f7a4 k_J0_indexOf_0f7a4)) rfl rfl rfl (by decide +kernel) ⟨Nat.le_of_ble_eq_true rfl, Nat.le_of_ble_eq_true rfl⟩) ⟨fun a U g mk q => by obtain ⟨q0, qP, qK, hq0⟩ := q; exact ⟨q0, qP, va_K.moved (u := U) (U := U.calling g mk a) (Vm.Alike.refl U.vm) qK, TZ1.same hq0 rfl⟩, va_Orecv hE0.2.2.2.1.2.1 hS, fun U hU hW => ⟨rfl, by rw [hU]; exact hPc, va_K.moved hW.alike hK, by rw [hU]; exact TZ1.warm hW hE0.2.2.2.1.2 hS (fun q h => h.elim)⟩⟩ rfl rfl hl.1 rfl (lv_room (Nat.le_of_ble_eq_true rfl)) dX8_kindOf_162 ⟨Nat.le_of_ble_eq_true rfl, Nat.le_of_ble_eq_true rfl⟩) hS (fun q _ h => h.elim) (fun q h => h.elim) (fun x_119 u t H1 locs ht hvm w_120 hB hz1 hk1 hS => ?_)
      have hP : va_P D vwCl [] H1 := hP.kept (fun k9 q9 h9 => hk1 q9.1 (vx_lt hP h9) (fun h => h))
      generalize H1 = H at hP hS ⊢
      have b_x_119 := ti_b x_119
      refine lv_if_lt (tgt := 172) hx hb dX8_kindOf_165 (by decide) (fun c_121 => ?_) (fun c_121 => ?_)
      · have ic_121 : (x_119 : Int32).toInt < (0 : Int32).toInt := (fa_lt x_119 0).mp c_121
        refine lv_iconst (v := 0) hx hb dX8_kindOf_172 (by decide) ?_
        exact W.iret (v := 0) hx hb hr (fun t ht hW => ⟨⟨0, (), rfl, trivial, trivial⟩, hS.F ht⟩) hS.2.2 dX8_kindOf_173
      · have ic_121 : ¬ ((x_119 : Int32).toInt < (0 : Int32).toInt) := fun h9 => c_121 ((fa_lt x_119 0).mpr h9)
        exact hZ1 (K_168  _ _ _ hP hS (lv_sub hl [] rfl))
  · refine lv_tableIn (off := 135) (tgt := 136) hx hb dX8_kindOf_1 (by omega) (by omega) (by rw [v_1]; rfl) (by decide) ?_
    refine lv_iconst (v := 4) hx hb dX8_kindOf_136 (by decide) ?_
    exact W.iret (v := 4) hx hb hr (fun t ht hW => ⟨⟨4, (), rfl, trivial, trivial⟩, hS.F ht⟩) hS.2.2 dX8_kindOf_137
  · refine lv_tableIn (off := 148) (tgt := 149) hx hb dX8_kindOf_1 (by omega) (by omega) (by rw [v_1]; rfl) (by decide) ?_
    refine lv_bipush (v := 9) hx hb dX8_kindOf_149 (by decide) ?_
    exact W.iret (v := 9) hx hb hr (fun t ht hW => ⟨⟨9, (), rfl, trivial, trivial⟩, hS.F ht⟩) hS.2.2 dX8_kindOf_151

def ow_X8_word : List Cond := [Cond.methodLink RX8 46 yX10_smallAt, Cond.instanceMethod yX10_smallAt, Cond.selects RX10 yX10_smallAt yX10_smallAt, Cond.initialized RX10, Cond.methodLink RX8 121 yX8_letters, Cond.static yX8_letters, Cond.initialized RX8, Cond.methodLink RX8 126 yX10_hasWord, Cond.instanceMethod yX10_hasWord, Cond.selects RX10 yX10_hasWord yX10_hasWord, Cond.methodLink RX8 73 yX8_bad, Cond.static yX8_bad, Cond.methodLink RX8 58 yX2_add, Cond.instanceMethod yX2_add, Cond.selects RX2 yX2_add yX2_add, Cond.initialized RX2, Cond.methodLink RX8 29 yX10_at, Cond.instanceMethod yX10_at, Cond.selects RX10 yX10_at yX10_at]
def pw_X8_word : List Cond := Cond.code yX8_word cX8_word 4 (some .int) :: (ow_X8_word ++ (pw_X10_smallAt ++ (pw_X8_letters ++ (pw_X10_hasWord ++ (pw_X8_bad ++ (pw_X2_add ++ (pw_X10_at)))))))
set_option maxRecDepth 20000 in
theorem mo_X8_word : ∀ w ∈ ow_X8_word, w ∈ lw_tbl := by decide +kernel
set_option maxRecDepth 20000 in
theorem mc_X8_word : Cond.code yX8_word cX8_word 4 (some .int) ∈ lw_tbl := by decide +kernel
theorem m_X8_word : ∀ w ∈ pw_X8_word, w ∈ lw_tbl := List.forall_mem_cons.mpr ⟨mc_X8_word, (List.forall_mem_append.mpr ⟨mo_X8_word, (List.forall_mem_append.mpr ⟨m_X10_smallAt, (List.forall_mem_append.mpr ⟨m_X8_letters, (List.forall_mem_append.mpr ⟨m_X10_hasWord, (List.forall_mem_append.mpr ⟨m_X8_bad, (List.forall_mem_append.mpr ⟨m_X2_add, m_X10_at⟩)⟩)⟩)⟩)⟩)⟩)⟩
theorem ko_X8_word : ∀ w ∈ ow_X8_word, goodWord w = true := by decide +kernel
theorem k_X8_word : pw_X8_word.all goodWord = true := List.all_eq_true.mpr (List.forall_mem_cons.mpr ⟨by decide +kernel, (List.forall_mem_append.mpr ⟨ko_X8_word, (List.forall_mem_append.mpr ⟨(List.all_eq_true.mp k_X10_smallAt), (List.forall_mem_append.mpr ⟨(List.all_eq_true.mp k_X8_letters), (List.forall_mem_append.mpr ⟨(List.all_eq_true.mp k_X10_hasWord), (List.forall_mem_append.mpr ⟨(List.all_eq_true.mp k_X8_bad), (List.forall_mem_append.mpr ⟨(List.all_eq_true.mp k_X2_add), (List.all_eq_true.mp k_X10_at)⟩)⟩)⟩)⟩)⟩)⟩)⟩)
set_option maxHeartbeats 400000 in
set_option maxRecDepth 100000 in
theorem c_X8_word (l : Launch) (D : va_G) (cI cD cJ : ClassId) (sz : Nat) (x : Nat) (x_signs : Nat) (x_length : Int32) (x_signsF : Nat → Int32) (f : Nat) (f_kinds : Nat) (f_signs : Nat) (f_sizes : Nat) (f_places : Nat) (f_limits : Nat) (f_starts : Nat) (f_sorts : Nat) (f_count : Int32) (f_sections : Int32) (f_fifth : Int32) (f_kindsF : Nat → Int32) (f_signsF : Nat → Int32) (f_sizesF : Nat → Int32) (f_placesF : Nat → Int32) (f_limitsF : Nat → UInt64) (p1 : Int32) (aQ : Nat → Nat) (aT : Nat → Nat) (aF : Nat → Nat → Int32) (ha1 : 0 ≤ p1.toInt) (ha2 : p1.toInt ≤ 300) (iv_x_length : 0 ≤ (x_length : Int32).toInt ∧ (x_length : Int32).toInt ≤ 255) (iv_x_signsF : ∀ k9 : Nat, k9 < 255 → 0 ≤ (x_signsF k9).toInt ∧ (x_signsF k9).toInt ≤ 255) (iv_f_count : 0 ≤ (f_count : Int32).toInt ∧ (f_count : Int32).toInt ≤ 255) (iv_f_sections : 0 ≤ (f_sections : Int32).toInt ∧ (f_sections : Int32).toInt ≤ 4) (iv_f_sizesF : ∀ k9 : Nat, k9 < 255 → (f_sizesF k9).toInt ≤ 100000) : Met l yX8_word pw_X8_word ({ frames := 5, cells := 0, slots := 0, locals := 108 }) (va_Pc [.ref x, .ref f, .int p1] (fun U => U.heap.size = sz ∧ va_P D vwCl [(x, .inr (7, [.ref x_signs, .int x_length])), (x_signs, .inl (cI, 255, .inl x_signsF)), (f, .inr (2, [.ref f_kinds, .ref f_signs, .ref f_sizes, .ref f_places, .ref f_limits, .ref f_starts, .ref f_sorts, .int f_count, .int f_sections, .int f_fifth])), (f_kinds, .inl (cI, 255, .inl f_kindsF)), (f_signs, .inl (cI, 255, .inl f_signsF)), (f_sizes, .inl (cI, 255, .inl f_sizesF)), (f_places, .inl (cI, 255, .inl f_placesF)), (f_limits, .inl (cD, 255, .inr (.inr (.inr (.inl f_limitsF)))))] U.heap ∧ va_K D vwCl (ty3 cI cD cJ) U ∧ va_D (fun _ => True) [(x, .inr (7, [.ref x_signs, .int x_length])), (x_signs, .inl (cI, 255, .inl x_signsF)), (f, .inr (2, [.ref f_kinds, .ref f_signs, .ref f_sizes, .ref f_places, .ref f_limits, .ref f_starts, .ref f_sorts, .int f_count, .int f_sections, .int f_fifth])), (f_kinds, .inl (cI, 255, .inl f_kindsF)), (f_signs, .inl (cI, 255, .inl f_signsF)), (f_sizes, .inl (cI, 255, .inl f_sizesF)), (f_places, .inl (cI, 255, .inl f_placesF)), (f_limits, .inl (cD, 255, .inr (.inr (.inr (.inl f_limitsF)))))] ∧ TZA aQ aT aF (va_A [(x, .inr (7, [.ref x_signs, .int x_length])), (x_signs, .inl (cI, 255, .inl x_signsF)), (f, .inr (2, [.ref f_kinds, .ref f_signs, .ref f_sizes, .ref f_places, .ref f_limits, .ref f_starts, .ref f_sorts, .int f_count, .int f_sections, .int f_fifth])), (f_kinds, .inl (cI, 255, .inl f_kindsF)), (f_signs, .inl (cI, 255, .inl f_signsF)), (f_sizes, .inl (cI, 255, .inl f_sizesF)), (f_places, .inl (cI, 255, .inl f_placesF)), (f_limits, .inl (cD, 255, .inr (.inr (.inr (.inl f_limitsF)))))] sz) U U.heap)) (va_Qi (fun (r : Int32) (u : Int32 × (Nat → Int32) × (Nat → Int32) × (Nat → Int32) × (Nat → Int32) × (Nat → UInt64)) => match u with | (f_count2, f_kindsF2, f_signsF2, f_sizesF2, f_placesF2, f_limitsF2) => (0 ≤ r.toInt ∧ r.toInt ≤ 1000) ∧ (0 ≤ (f_count2 : Int32).toInt ∧ (f_count2 : Int32).toInt ≤ 255) ∧ (∀ k9 : Nat, k9 < 255 → (f_sizesF2 k9).toInt ≤ 100000)) (fun (u : Int32 × (Nat → Int32) × (Nat → Int32) × (Nat → Int32) × (Nat → Int32) × (Nat → UInt64)) (t : State) => match u with | (f_count2, f_kindsF2, f_signsF2, f_sizesF2, f_placesF2, f_limitsF2) => va_P D vwCl [(x, .inr (7, [.ref x_signs, .int x_length])), (x_signs, .inl (cI, 255, .inl x_signsF)), (f, .inr (2, [.ref f_kinds, .ref f_signs, .ref f_sizes, .ref f_places, .ref f_limits, .ref f_starts, .ref f_sorts, .int f_count2, .int f_sections, .int f_fifth])), (f_kinds, .inl (cI, 255, .inl f_kindsF2)), (f_signs, .inl (cI, 255, .inl f_signsF2)), (f_sizes, .inl (cI, 255, .inl f_sizesF2)), (f_places, .inl (cI, 255, .inl f_placesF2)), (f_limits, .inl (cD, 255, .inr (.inr (.inr (.inl f_limitsF2)))))] t.heap ∧ va_K D vwCl (ty3 cI cD cJ) t ∧ va_D (va_A [(x, .inr (7, [.ref x_signs, .int x_length])), (x_signs, .inl (cI, 255, .inl x_signsF)), (f, .inr (2, [.ref f_kinds, .ref f_signs, .ref f_sizes, .ref f_places, .ref f_limits, .ref f_starts, .ref f_sorts, .int f_count, .int f_sections, .int f_fifth])), (f_kinds, .inl (cI, 255, .inl f_kindsF)), (f_signs, .inl (cI, 255, .inl f_signsF)), (f_sizes, .inl (cI, 255, .inl f_sizesF)), (f_places, .inl (cI, 255, .inl f_placesF)), (f_limits, .inl (cD, 255, .inr (.inr (.inr (.inl f_limitsF)))))] sz) [(x, .inr (7, [.ref x_signs, .int x_length])), (x_signs, .inl (cI, 255, .inl x_signsF)), (f, .inr (2, [.ref f_kinds, .ref f_signs, .ref f_sizes, .ref f_places, .ref f_limits, .ref f_starts, .ref f_sorts, .int f_count2, .int f_sections, .int f_fifth])), (f_kinds, .inl (cI, 255, .inl f_kindsF2)), (f_signs, .inl (cI, 255, .inl f_signsF2)), (f_sizes, .inl (cI, 255, .inl f_sizesF2)), (f_places, .inl (cI, 255, .inl f_placesF2)), (f_limits, .inl (cD, 255, .inr (.inr (.inr (.inl f_limitsF2)))))]) (va_A [(x, .inr (7, [.ref x_signs, .int x_length])), (x_signs, .inl (cI, 255, .inl x_signsF)), (f, .inr (2, [.ref f_kinds, .ref f_signs, .ref f_sizes, .ref f_places, .ref f_limits, .ref f_starts, .ref f_sorts, .int f_count, .int f_sections, .int f_fifth])), (f_kinds, .inl (cI, 255, .inl f_kindsF)), (f_signs, .inl (cI, 255, .inl f_signsF)), (f_sizes, .inl (cI, 255, .inl f_sizesF)), (f_places, .inl (cI, 255, .inl f_placesF)), (f_limits, .inl (cD, 255, .inr (.inr (.inr (.inl f_limitsF)))))] sz)) 0 0 (va_A [(x, .inr (7, [.ref x_signs, .int x_length])), (x_signs, .inl (cI, 255, .inl x_signsF)), (f, .inr (2, [.ref f_kinds, .ref f_signs, .ref f_sizes, .ref f_places, .ref f_limits, .ref f_starts, .ref f_sorts, .int f_count, .int f_sections, .int f_fifth])), (f_kinds, .inl (cI, 255, .inl f_kindsF)), (f_signs, .inl (cI, 255, .inl f_signsF)), (f_sizes, .inl (cI, 255, .inl f_sizesF)), (f_places, .inl (cI, 255, .inl f_placesF)), (f_limits, .inl (cD, 255, .inr (.inr (.inr (.inl f_limitsF)))))] sz) := by
  refine Met.ofW (cc := cX8_word) (maxL := 4) (ret := (some .int)) (by decide +kernel) rfl ?_
  intro p e s m args below meth c s₁ B hml hv
  obtain ⟨rfl, hsz, hP, hK, hD0, hE0⟩ := hv
  have hx := B.exec
  have hb := B.bytes
  have hr := B.returns
  have hts := atoms_spec (ws := pw_X8_word) B.pre
  have hown : s.vm.findClass RX8 = some m.cls := findClass_of_methodNamed B.named
  have hlocks := B.notSynchronized
  subst hsz
  have hD := hD0.self (sz := s.heap.size)
  generalize hAe : va_A [(x, .inr (7, [.ref x_signs, .int x_length])), (x_signs, .inl (cI, 255, .inl x_signsF)), (f, .inr (2, [.ref f_kinds, .ref f_signs, .ref f_sizes, .ref f_places, .ref f_limits, .ref f_starts, .ref f_sorts, .int f_count, .int f_sections, .int f_fifth])), (f_kinds, .inl (cI, 255, .inl f_kindsF)), (f_signs, .inl (cI, 255, .inl f_signsF)), (f_sizes, .inl (cI, 255, .inl f_sizesF)), (f_places, .inl (cI, 255, .inl f_placesF)), (f_limits, .inl (cD, 255, .inr (.inr (.inr (.inl f_limitsF)))))] s.heap.size = A at hD hE0 ⊢
  have hA : ∀ q : Nat, s.heap.size ≤ q → A q := fun q h => by rw [← hAe]; exact Or.inr h
  have hS : va_S A s.heap s.heap [] := va_S.rf
  have hw : ∀ (k : Nat) (w : Cond), ow_X8_word[k]? = some w → w.before _ s = true := fun k w h => hts w (List.mem_cons_of_mem _ (have h9 := List.mem_of_getElem? h; List.mem_append_left _ h9))
  have i_X10_smallAt : ∀ w ∈ pw_X10_smallAt, w ∈ pw_X8_word := fun w h9 => List.mem_cons_of_mem _ (List.mem_append_right _ (List.mem_append_left _ h9))
  have i_X8_letters : ∀ w ∈ pw_X8_letters, w ∈ pw_X8_word := fun w h9 => List.mem_cons_of_mem _ (List.mem_append_right _ (List.mem_append_right _ (List.mem_append_left _ h9)))
  have i_X10_hasWord : ∀ w ∈ pw_X10_hasWord, w ∈ pw_X8_word := fun w h9 => List.mem_cons_of_mem _ (List.mem_append_right _ (List.mem_append_right _ (List.mem_append_right _ (List.mem_append_left _ h9))))
  have i_X8_bad : ∀ w ∈ pw_X8_bad, w ∈ pw_X8_word := fun w h9 => List.mem_cons_of_mem _ (List.mem_append_right _ (List.mem_append_right _ (List.mem_append_right _ (List.mem_append_right _ (List.mem_append_left _ h9)))))
  have i_X2_add : ∀ w ∈ pw_X2_add, w ∈ pw_X8_word := fun w h9 => List.mem_cons_of_mem _ (List.mem_append_right _ (List.mem_append_right _ (List.mem_append_right _ (List.mem_append_right _ (List.mem_append_right _ (List.mem_append_left _ h9))))))
  have i_X10_at : ∀ w ∈ pw_X10_at, w ∈ pw_X8_word := fun w h9 => List.mem_cons_of_mem _ (List.mem_append_right _ (List.mem_append_right _ (List.mem_append_right _ (List.mem_append_right _ (List.mem_append_right _ (List.mem_append_right _ (h9)))))))
  have n_0 : ((0 : Int32)).toInt = 0 := by decide
  have n_1 : ((1 : Int32)).toInt = 1 := by decide
  have n_10 : ((10 : Int32)).toInt = 10 := by decide
  have n_101 : ((101 : Int32)).toInt = 101 := by decide
  have n_11 : ((11 : Int32)).toInt = 11 := by decide
  have n_12 : ((12 : Int32)).toInt = 12 := by decide
  have n_2 : ((2 : Int32)).toInt = 2 := by decide
  have n_3 : ((3 : Int32)).toInt = 3 := by decide
  have n_43 : ((43 : Int32)).toInt = 43 := by decide
  have n_45 : ((45 : Int32)).toInt = 45 := by decide
  have n_5 : ((5 : Int32)).toInt = 5 := by decide
  have n_65 : ((65 : Int32)).toInt = 65 := by decide
  have n_7 : ((7 : Int32)).toInt = 7 := by decide
  have n_71 : ((71 : Int32)).toInt = 71 := by decide
  have hl := lv_entry ([.ref x, .ref f, .int p1]) (n := 4) (Nat.le_of_ble_eq_true rfl)
  rw [lg_entry_eq]
  generalize (lg_sl ([.ref x, .ref f, .int p1]) ++ List.replicate (4 - (lg_sl ([.ref x, .ref f, .int p1])).length) Slot.unset).toArray = ls at hl ⊢
  have hl : lv_has ls 4 [(0, .ref x), (1, .ref f), (2, .int p1)] := hl
  have b_p1 := ti_b p1
  refine zz_cap (fun Z hZ1 hZ2 => ?_)
  refine lv_aload_n hx hb dX8_word_0 rfl (lv_at hl 0 rfl) ?_
  refine lv_iload_n hx hb dX8_word_1 rfl (lv_at hl 2 rfl) ?_
  have hPc := hP.sub (ws' := [(x, .inr (7, [.ref x_signs, .int x_length])), (x_signs, .inl (cI, 255, .inl x_signsF))]) [0, 1] rfl
  refine va_calli (va_runV (As := [.int p1]) (rest := []) ⟨hx, hb, hml, hown, hts⟩ (c_X10_smallAt l D cI cD cJ s.heap.size x x_signs x_length x_signsF p1 (by omega) (by assumption)) (cwV 1 hts (goodIn_app (goodIn_r _ [1, 2, 3, 4] rfl (by decide +kernel)) (goodIn_sub i_X10_smallAt k_X10_smallAt)) rfl rfl rfl (by decide +kernel) ⟨Nat.le_of_ble_eq_true rfl, Nat.le_of_ble_eq_true rfl⟩) ⟨fun a U g mk q => by obtain ⟨q0, qP, qK⟩ := q; exact ⟨q0, qP, va_K.moved (u := U) (U := U.calling g mk a) (Vm.Alike.refl U.vm) qK⟩, va_recv hK hPc (ci := 7) (q0 := 0) rfl rfl, fun U hU hW => ⟨rfl, by rw [hU]; exact hPc, va_K.moved hW.alike hK⟩⟩ rfl rfl hl.1 rfl (lv_room (Nat.le_of_ble_eq_true rfl)) dX8_word_2 ⟨Nat.le_of_ble_eq_true rfl, Nat.le_of_ble_eq_true rfl⟩) hS (fun q _ h => h.elim) (fun q h => h.elim) (fun x_1 u t H1 locs ht hvm w_2 hB hz1 hk1 hS => ?_)
  have hP : va_P D vwCl [(x, .inr (7, [.ref x_signs, .int x_length])), (x_signs, .inl (cI, 255, .inl x_signsF)), (f, .inr (2, [.ref f_kinds, .ref f_signs, .ref f_sizes, .ref f_places, .ref f_limits, .ref f_starts, .ref f_sorts, .int f_count, .int f_sections, .int f_fifth])), (f_kinds, .inl (cI, 255, .inl f_kindsF)), (f_signs, .inl (cI, 255, .inl f_signsF)), (f_sizes, .inl (cI, 255, .inl f_sizesF)), (f_places, .inl (cI, 255, .inl f_placesF)), (f_limits, .inl (cD, 255, .inr (.inr (.inr (.inl f_limitsF)))))] H1 := hP.kept (fun k9 q9 h9 => hk1 q9.1 (vx_lt hP h9) (fun h => h))
  generalize H1 = H at hP hS ⊢
  try dsimp only at w_2
  refine lv_istore_n (lv' := [(3, .int x_1), (0, .ref x), (1, .ref f), (2, .int p1)]) hx hb dX8_word_5 rfl hl (by decide) rfl (fun ls hl => ?_)
  refine lv_iload_n hx hb dX8_word_6 rfl (lv_at hl 0 rfl) ?_
  rcases (show (x_1 : Int32).toInt = 100 ∨ (x_1 : Int32).toInt = 104 ∨ (x_1 : Int32).toInt = 109 ∨ (x_1 : Int32).toInt = 115 ∨ (x_1 : Int32).toInt = 121 ∨ (¬ 100 = (x_1 : Int32).toInt ∧ ¬ 104 = (x_1 : Int32).toInt ∧ ¬ 109 = (x_1 : Int32).toInt ∧ ¬ 115 = (x_1 : Int32).toInt ∧ ¬ 121 = (x_1 : Int32).toInt) by omega) with v_3 | v_3 | v_3 | v_3 | v_3 | v_3
  · refine lv_lookup (off := 49) (tgt := 56) hx hb dX8_word_7 (by decide +kernel) (by rw [v_3]; rfl) (by decide) ?_
    refine lv_aload_n hx hb dX8_word_56 rfl (lv_at hl 1 rfl) ?_
    refine lv_aload_n hx hb dX8_word_57 rfl (lv_at hl 2 rfl) ?_
    refine lv_iload_n hx hb dX8_word_58 rfl (lv_at hl 3 rfl) ?_
    refine lv_iload_n hx hb dX8_word_59 rfl (lv_at hl 0 rfl) ?_
    have hPc := hP.sub (ws' := [(x, .inr (7, [.ref x_signs, .int x_length])), (x_signs, .inl (cI, 255, .inl x_signsF)), (f, .inr (2, [.ref f_kinds, .ref f_signs, .ref f_sizes, .ref f_places, .ref f_limits, .ref f_starts, .ref f_sorts, .int f_count, .int f_sections, .int f_fifth])), (f_kinds, .inl (cI, 255, .inl f_kindsF)), (f_signs, .inl (cI, 255, .inl f_signsF)), (f_sizes, .inl (cI, 255, .inl f_sizesF)), (f_places, .inl (cI, 255, .inl f_placesF)), (f_limits, .inl (cD, 255, .inr (.inr (.inr (.inl f_limitsF)))))]) [0, 1, 2, 3, 4, 5, 6, 7] rfl
    have hDc := hD.sub (ws' := [(x, .inr (7, [.ref x_signs, .int x_length])), (x_signs, .inl (cI, 255, .inl x_signsF)), (f, .inr (2, [.ref f_kinds, .ref f_signs, .ref f_sizes, .ref f_places, .ref f_limits, .ref f_starts, .ref f_sorts, .int f_count, .int f_sections, .int f_fifth])), (f_kinds, .inl (cI, 255, .inl f_kindsF)), (f_signs, .inl (cI, 255, .inl f_signsF)), (f_sizes, .inl (cI, 255, .inl f_sizesF)), (f_places, .inl (cI, 255, .inl f_placesF)), (f_limits, .inl (cD, 255, .inr (.inr (.inr (.inl f_limitsF)))))]) [0, 1, 2, 3, 4, 5, 6, 7] (by decide) rfl
    have hFc := va_free (wc := [(x, .inr (7, [.ref x_signs, .int x_length])), (x_signs, .inl (cI, 255, .inl x_signsF)), (f, .inr (2, [.ref f_kinds, .ref f_signs, .ref f_sizes, .ref f_places, .ref f_limits, .ref f_starts, .ref f_sorts, .int f_count, .int f_sections, .int f_fifth])), (f_kinds, .inl (cI, 255, .inl f_kindsF)), (f_signs, .inl (cI, 255, .inl f_signsF)), (f_sizes, .inl (cI, 255, .inl f_sizesF)), (f_places, .inl (cI, 255, .inl f_placesF)), (f_limits, .inl (cD, 255, .inr (.inr (.inr (.inl f_limitsF)))))]) hD hS hA [0, 1, 2, 3, 4, 5, 6, 7] rfl
    refine va_calli (va_runS (As := [.ref x, .ref f, .int p1, .int x_1]) (rest := []) ⟨hx, hb, hml, hown, hts⟩ (c_X8_letters l D cI cD cJ H.size x x_signs x_length x_signsF f f_kinds f_signs f_sizes f_places f_limits f_starts f_sorts f_count f_sections f_fifth f_kindsF f_signsF f_sizesF f_placesF f_limitsF p1 x_1 (by omega) (by omega) (by omega) (by assumption) (by omega) (by omega) (by assumption)) (va_cwS 4 hts (goodIn_app (goodIn_r _ [5, 6, 7] rfl (by decide +kernel)) (goodIn_sub i_X8_letters k_X8_letters)) rfl rfl rfl (by decide +kernel) ⟨Nat.le_of_ble_eq_true rfl, Nat.le_of_ble_eq_true rfl⟩) ⟨fun a U g mk q => by obtain ⟨q0, q1, qP, qK, qD⟩ := q; exact ⟨q0, q1, qP, va_K.moved (u := U) (U := U.calling g mk a) (Vm.Alike.refl U.vm) qK, qD⟩, fun U hU hW => ⟨rfl, by rw [hU], by rw [hU]; exact hPc, va_K.moved hW.alike hK, hDc.weaken (fun _ _ _ _ => trivial)⟩⟩ rfl rfl hl.1 rfl (lv_room (Nat.le_of_ble_eq_true rfl)) dX8_word_60 ⟨Nat.le_of_ble_eq_true rfl, Nat.le_of_ble_eq_true rfl⟩) hS (fun q _ h => hFc q h) hFc (fun x_4 u t H1 locs ht hvm w_5 hB hz1 hk1 hS => ?_)
    obtain ⟨u_6, u_7, u_8, u_9, u_10, u_11⟩ := u
    obtain ⟨hP1, hK1, hD1⟩ := hB
    rw [ht] at hP1
    try dsimp only at w_5
    obtain ⟨hP, hD⟩ := va_join (wr := []) (w1 := [(x, .inr (7, [.ref x_signs, .int x_length])), (x_signs, .inl (cI, 255, .inl x_signsF)), (f, .inr (2, [.ref f_kinds, .ref f_signs, .ref f_sizes, .ref f_places, .ref f_limits, .ref f_starts, .ref f_sorts, .int u_6, .int f_sections, .int f_fifth])), (f_kinds, .inl (cI, 255, .inl u_7)), (f_signs, .inl (cI, 255, .inl u_8)), (f_sizes, .inl (cI, 255, .inl u_9)), (f_places, .inl (cI, 255, .inl u_10)), (f_limits, .inl (cD, 255, .inr (.inr (.inr (.inl u_11)))))]) hP hD [0, 1, 2, 3, 4, 5, 6, 7] [] rfl rfl (by decide) (by decide) hk1 hFc hP1 hD1
    generalize H1 = H at hP hS ⊢
    have hP : va_P D vwCl [(x, .inr (7, [.ref x_signs, .int x_length])), (x_signs, .inl (cI, 255, .inl x_signsF)), (f, .inr (2, [.ref f_kinds, .ref f_signs, .ref f_sizes, .ref f_places, .ref f_limits, .ref f_starts, .ref f_sorts, .int u_6, .int f_sections, .int f_fifth])), (f_kinds, .inl (cI, 255, .inl u_7)), (f_signs, .inl (cI, 255, .inl u_8)), (f_sizes, .inl (cI, 255, .inl u_9)), (f_places, .inl (cI, 255, .inl u_10)), (f_limits, .inl (cD, 255, .inr (.inr (.inr (.inl u_11)))))] H := hP
    have hD : va_D A [(x, .inr (7, [.ref x_signs, .int x_length])), (x_signs, .inl (cI, 255, .inl x_signsF)), (f, .inr (2, [.ref f_kinds, .ref f_signs, .ref f_sizes, .ref f_places, .ref f_limits, .ref f_starts, .ref f_sorts, .int u_6, .int f_sections, .int f_fifth])), (f_kinds, .inl (cI, 255, .inl u_7)), (f_signs, .inl (cI, 255, .inl u_8)), (f_sizes, .inl (cI, 255, .inl u_9)), (f_places, .inl (cI, 255, .inl u_10)), (f_limits, .inl (cD, 255, .inr (.inr (.inr (.inl u_11)))))] := hD
    obtain ⟨w_5_0, w_5_1, w_5_2⟩ := w_5
    have hP9 := hP.sub (ws' := [(x, .inr (7, [.ref x_signs, .int x_length])), (x_signs, .inl (cI, 255, .inl x_signsF)), (f, .inr (2, [.ref f_kinds, .ref f_signs, .ref f_sizes, .ref f_places, .ref f_limits, .ref f_starts, .ref f_sorts, .int u_6, .int f_sections, .int f_fifth])), (f_kinds, .inl (cI, 255, .inl u_7)), (f_signs, .inl (cI, 255, .inl u_8)), (f_sizes, .inl (cI, 255, .inl u_9)), (f_places, .inl (cI, 255, .inl u_10)), (f_limits, .inl (cD, 255, .inr (.inr (.inr (.inl u_11)))))]) [0, 1, 2, 3, 4, 5, 6, 7] rfl
    have hD9 := hD.sub (ws' := [(x, .inr (7, [.ref x_signs, .int x_length])), (x_signs, .inl (cI, 255, .inl x_signsF)), (f, .inr (2, [.ref f_kinds, .ref f_signs, .ref f_sizes, .ref f_places, .ref f_limits, .ref f_starts, .ref f_sorts, .int u_6, .int f_sections, .int f_fifth])), (f_kinds, .inl (cI, 255, .inl u_7)), (f_signs, .inl (cI, 255, .inl u_8)), (f_sizes, .inl (cI, 255, .inl u_9)), (f_places, .inl (cI, 255, .inl u_10)), (f_limits, .inl (cD, 255, .inr (.inr (.inr (.inl u_11)))))]) [0, 1, 2, 3, 4, 5, 6, 7] (by decide) rfl
    exact W.iret (v := x_4) hx hb hr (fun t ht hW => ⟨⟨x_4, (u_6, u_7, u_8, u_9, u_10, u_11), rfl, (by (try dsimp only); refine ⟨?_, ?_, ?_⟩ <;> first | omega | assumption), by rw [ht]; exact hP9, va_K.moved hW.alike hK, hD9⟩, hS.F ht⟩) hS.2.2 dX8_word_63
  · refine lv_lookup (off := 49) (tgt := 56) hx hb dX8_word_7 (by decide +kernel) (by rw [v_3]; rfl) (by decide) ?_
    refine lv_aload_n hx hb dX8_word_56 rfl (lv_at hl 1 rfl) ?_
    refine lv_aload_n hx hb dX8_word_57 rfl (lv_at hl 2 rfl) ?_
    refine lv_iload_n hx hb dX8_word_58 rfl (lv_at hl 3 rfl) ?_
    refine lv_iload_n hx hb dX8_word_59 rfl (lv_at hl 0 rfl) ?_
    have hPc := hP.sub (ws' := [(x, .inr (7, [.ref x_signs, .int x_length])), (x_signs, .inl (cI, 255, .inl x_signsF)), (f, .inr (2, [.ref f_kinds, .ref f_signs, .ref f_sizes, .ref f_places, .ref f_limits, .ref f_starts, .ref f_sorts, .int f_count, .int f_sections, .int f_fifth])), (f_kinds, .inl (cI, 255, .inl f_kindsF)), (f_signs, .inl (cI, 255, .inl f_signsF)), (f_sizes, .inl (cI, 255, .inl f_sizesF)), (f_places, .inl (cI, 255, .inl f_placesF)), (f_limits, .inl (cD, 255, .inr (.inr (.inr (.inl f_limitsF)))))]) [0, 1, 2, 3, 4, 5, 6, 7] rfl
    have hDc := hD.sub (ws' := [(x, .inr (7, [.ref x_signs, .int x_length])), (x_signs, .inl (cI, 255, .inl x_signsF)), (f, .inr (2, [.ref f_kinds, .ref f_signs, .ref f_sizes, .ref f_places, .ref f_limits, .ref f_starts, .ref f_sorts, .int f_count, .int f_sections, .int f_fifth])), (f_kinds, .inl (cI, 255, .inl f_kindsF)), (f_signs, .inl (cI, 255, .inl f_signsF)), (f_sizes, .inl (cI, 255, .inl f_sizesF)), (f_places, .inl (cI, 255, .inl f_placesF)), (f_limits, .inl (cD, 255, .inr (.inr (.inr (.inl f_limitsF)))))]) [0, 1, 2, 3, 4, 5, 6, 7] (by decide) rfl
    have hFc := va_free (wc := [(x, .inr (7, [.ref x_signs, .int x_length])), (x_signs, .inl (cI, 255, .inl x_signsF)), (f, .inr (2, [.ref f_kinds, .ref f_signs, .ref f_sizes, .ref f_places, .ref f_limits, .ref f_starts, .ref f_sorts, .int f_count, .int f_sections, .int f_fifth])), (f_kinds, .inl (cI, 255, .inl f_kindsF)), (f_signs, .inl (cI, 255, .inl f_signsF)), (f_sizes, .inl (cI, 255, .inl f_sizesF)), (f_places, .inl (cI, 255, .inl f_placesF)), (f_limits, .inl (cD, 255, .inr (.inr (.inr (.inl f_limitsF)))))]) hD hS hA [0, 1, 2, 3, 4, 5, 6, 7] rfl
    refine va_calli (va_runS (As := [.ref x, .ref f, .int p1, .int x_1]) (rest := []) ⟨hx, hb, hml, hown, hts⟩ (c_X8_letters l D cI cD cJ H.size x x_signs x_length x_signsF f f_kinds f_signs f_sizes f_places f_limits f_starts f_sorts f_count f_sections f_fifth f_kindsF f_signsF f_sizesF f_placesF f_limitsF p1 x_1 (by omega) (by omega) (by omega) (by assumption) (by omega) (by omega) (by assumption)) (va_cwS 4 hts (goodIn_app (goodIn_r _ [5, 6, 7] rfl (by decide +kernel)) (goodIn_sub i_X8_letters k_X8_letters)) rfl rfl rfl (by decide +kernel) ⟨Nat.le_of_ble_eq_true rfl, Nat.le_of_ble_eq_true rfl⟩) ⟨fun a U g mk q => by obtain ⟨q0, q1, qP, qK, qD⟩ := q; exact ⟨q0, q1, qP, va_K.moved (u := U) (U := U.calling g mk a) (Vm.Alike.refl U.vm) qK, qD⟩, fun U hU hW => ⟨rfl, by rw [hU], by rw [hU]; exact hPc, va_K.moved hW.alike hK, hDc.weaken (fun _ _ _ _ => trivial)⟩⟩ rfl rfl hl.1 rfl (lv_room (Nat.le_of_ble_eq_true rfl)) dX8_word_60 ⟨Nat.le_of_ble_eq_true rfl, Nat.le_of_ble_eq_true rfl⟩) hS (fun q _ h => hFc q h) hFc (fun x_12 u t H1 locs ht hvm w_13 hB hz1 hk1 hS => ?_)
    obtain ⟨u_14, u_15, u_16, u_17, u_18, u_19⟩ := u
    obtain ⟨hP1, hK1, hD1⟩ := hB
    rw [ht] at hP1
    try dsimp only at w_13
    obtain ⟨hP, hD⟩ := va_join (wr := []) (w1 := [(x, .inr (7, [.ref x_signs, .int x_length])), (x_signs, .inl (cI, 255, .inl x_signsF)), (f, .inr (2, [.ref f_kinds, .ref f_signs, .ref f_sizes, .ref f_places, .ref f_limits, .ref f_starts, .ref f_sorts, .int u_14, .int f_sections, .int f_fifth])), (f_kinds, .inl (cI, 255, .inl u_15)), (f_signs, .inl (cI, 255, .inl u_16)), (f_sizes, .inl (cI, 255, .inl u_17)), (f_places, .inl (cI, 255, .inl u_18)), (f_limits, .inl (cD, 255, .inr (.inr (.inr (.inl u_19)))))]) hP hD [0, 1, 2, 3, 4, 5, 6, 7] [] rfl rfl (by decide) (by decide) hk1 hFc hP1 hD1
    generalize H1 = H at hP hS ⊢
    have hP : va_P D vwCl [(x, .inr (7, [.ref x_signs, .int x_length])), (x_signs, .inl (cI, 255, .inl x_signsF)), (f, .inr (2, [.ref f_kinds, .ref f_signs, .ref f_sizes, .ref f_places, .ref f_limits, .ref f_starts, .ref f_sorts, .int u_14, .int f_sections, .int f_fifth])), (f_kinds, .inl (cI, 255, .inl u_15)), (f_signs, .inl (cI, 255, .inl u_16)), (f_sizes, .inl (cI, 255, .inl u_17)), (f_places, .inl (cI, 255, .inl u_18)), (f_limits, .inl (cD, 255, .inr (.inr (.inr (.inl u_19)))))] H := hP
    have hD : va_D A [(x, .inr (7, [.ref x_signs, .int x_length])), (x_signs, .inl (cI, 255, .inl x_signsF)), (f, .inr (2, [.ref f_kinds, .ref f_signs, .ref f_sizes, .ref f_places, .ref f_limits, .ref f_starts, .ref f_sorts, .int u_14, .int f_sections, .int f_fifth])), (f_kinds, .inl (cI, 255, .inl u_15)), (f_signs, .inl (cI, 255, .inl u_16)), (f_sizes, .inl (cI, 255, .inl u_17)), (f_places, .inl (cI, 255, .inl u_18)), (f_limits, .inl (cD, 255, .inr (.inr (.inr (.inl u_19)))))] := hD
    obtain ⟨w_13_0, w_13_1, w_13_2⟩ := w_13
    have hP9 := hP.sub (ws' := [(x, .inr (7, [.ref x_signs, .int x_length])), (x_signs, .inl (cI, 255, .inl x_signsF)), (f, .inr (2, [.ref f_kinds, .ref f_signs, .ref f_sizes, .ref f_places, .ref f_limits, .ref f_starts, .ref f_sorts, .int u_14, .int f_sections, .int f_fifth])), (f_kinds, .inl (cI, 255, .inl u_15)), (f_signs, .inl (cI, 255, .inl u_16)), (f_sizes, .inl (cI, 255, .inl u_17)), (f_places, .inl (cI, 255, .inl u_18)), (f_limits, .inl (cD, 255, .inr (.inr (.inr (.inl u_19)))))]) [0, 1, 2, 3, 4, 5, 6, 7] rfl
    have hD9 := hD.sub (ws' := [(x, .inr (7, [.ref x_signs, .int x_length])), (x_signs, .inl (cI, 255, .inl x_signsF)), (f, .inr (2, [.ref f_kinds, .ref f_signs, .ref f_sizes, .ref f_places, .ref f_limits, .ref f_starts, .ref f_sorts, .int u_14, .int f_sections, .int f_fifth])), (f_kinds, .inl (cI, 255, .inl u_15)), (f_signs, .inl (cI, 255, .inl u_16)), (f_sizes, .inl (cI, 255, .inl u_17)), (f_places, .inl (cI, 255, .inl u_18)), (f_limits, .inl (cD, 255, .inr (.inr (.inr (.inl u_19)))))]) [0, 1, 2, 3, 4, 5, 6, 7] (by decide) rfl
    exact W.iret (v := x_12) hx hb hr (fun t ht hW => ⟨⟨x_12, (u_14, u_15, u_16, u_17, u_18, u_19), rfl, (by (try dsimp only); refine ⟨?_, ?_, ?_⟩ <;> first | omega | assumption), by rw [ht]; exact hP9, va_K.moved hW.alike hK, hD9⟩, hS.F ht⟩) hS.2.2 dX8_word_63
  · refine lv_lookup (off := 49) (tgt := 56) hx hb dX8_word_7 (by decide +kernel) (by rw [v_3]; rfl) (by decide) ?_
    refine lv_aload_n hx hb dX8_word_56 rfl (lv_at hl 1 rfl) ?_
    refine lv_aload_n hx hb dX8_word_57 rfl (lv_at hl 2 rfl) ?_
    refine lv_iload_n hx hb dX8_word_58 rfl (lv_at hl 3 rfl) ?_
    refine lv_iload_n hx hb dX8_word_59 rfl (lv_at hl 0 rfl) ?_
    have hPc := hP.sub (ws' := [(x, .inr (7, [.ref x_signs, .int x_length])), (x_signs, .inl (cI, 255, .inl x_signsF)), (f, .inr (2, [.ref f_kinds, .ref f_signs, .ref f_sizes, .ref f_places, .ref f_limits, .ref f_starts, .ref f_sorts, .int f_count, .int f_sections, .int f_fifth])), (f_kinds, .inl (cI, 255, .inl f_kindsF)), (f_signs, .inl (cI, 255, .inl f_signsF)), (f_sizes, .inl (cI, 255, .inl f_sizesF)), (f_places, .inl (cI, 255, .inl f_placesF)), (f_limits, .inl (cD, 255, .inr (.inr (.inr (.inl f_limitsF)))))]) [0, 1, 2, 3, 4, 5, 6, 7] rfl
    have hDc := hD.sub (ws' := [(x, .inr (7, [.ref x_signs, .int x_length])), (x_signs, .inl (cI, 255, .inl x_signsF)), (f, .inr (2, [.ref f_kinds, .ref f_signs, .ref f_sizes, .ref f_places, .ref f_limits, .ref f_starts, .ref f_sorts, .int f_count, .int f_sections, .int f_fifth])), (f_kinds, .inl (cI, 255, .inl f_kindsF)), (f_signs, .inl (cI, 255, .inl f_signsF)), (f_sizes, .inl (cI, 255, .inl f_sizesF)), (f_places, .inl (cI, 255, .inl f_placesF)), (f_limits, .inl (cD, 255, .inr (.inr (.inr (.inl f_limitsF)))))]) [0, 1, 2, 3, 4, 5, 6, 7] (by decide) rfl
    have hFc := va_free (wc := [(x, .inr (7, [.ref x_signs, .int x_length])), (x_signs, .inl (cI, 255, .inl x_signsF)), (f, .inr (2, [.ref f_kinds, .ref f_signs, .ref f_sizes, .ref f_places, .ref f_limits, .ref f_starts, .ref f_sorts, .int f_count, .int f_sections, .int f_fifth])), (f_kinds, .inl (cI, 255, .inl f_kindsF)), (f_signs, .inl (cI, 255, .inl f_signsF)), (f_sizes, .inl (cI, 255, .inl f_sizesF)), (f_places, .inl (cI, 255, .inl f_placesF)), (f_limits, .inl (cD, 255, .inr (.inr (.inr (.inl f_limitsF)))))]) hD hS hA [0, 1, 2, 3, 4, 5, 6, 7] rfl
    refine va_calli (va_runS (As := [.ref x, .ref f, .int p1, .int x_1]) (rest := []) ⟨hx, hb, hml, hown, hts⟩ (c_X8_letters l D cI cD cJ H.size x x_signs x_length x_signsF f f_kinds f_signs f_sizes f_places f_limits f_starts f_sorts f_count f_sections f_fifth f_kindsF f_signsF f_sizesF f_placesF f_limitsF p1 x_1 (by omega) (by omega) (by omega) (by assumption) (by omega) (by omega) (by assumption)) (va_cwS 4 hts (goodIn_app (goodIn_r _ [5, 6, 7] rfl (by decide +kernel)) (goodIn_sub i_X8_letters k_X8_letters)) rfl rfl rfl (by decide +kernel) ⟨Nat.le_of_ble_eq_true rfl, Nat.le_of_ble_eq_true rfl⟩) ⟨fun a U g mk q => by obtain ⟨q0, q1, qP, qK, qD⟩ := q; exact ⟨q0, q1, qP, va_K.moved (u := U) (U := U.calling g mk a) (Vm.Alike.refl U.vm) qK, qD⟩, fun U hU hW => ⟨rfl, by rw [hU], by rw [hU]; exact hPc, va_K.moved hW.alike hK, hDc.weaken (fun _ _ _ _ => trivial)⟩⟩ rfl rfl hl.1 rfl (lv_room (Nat.le_of_ble_eq_true rfl)) dX8_word_60 ⟨Nat.le_of_ble_eq_true rfl, Nat.le_of_ble_eq_true rfl⟩) hS (fun q _ h => hFc q h) hFc (fun x_20 u t H1 locs ht hvm w_21 hB hz1 hk1 hS => ?_)
    obtain ⟨u_22, u_23, u_24, u_25, u_26, u_27⟩ := u
    obtain ⟨hP1, hK1, hD1⟩ := hB
    rw [ht] at hP1
    try dsimp only at w_21
    obtain ⟨hP, hD⟩ := va_join (wr := []) (w1 := [(x, .inr (7, [.ref x_signs, .int x_length])), (x_signs, .inl (cI, 255, .inl x_signsF)), (f, .inr (2, [.ref f_kinds, .ref f_signs, .ref f_sizes, .ref f_places, .ref f_limits, .ref f_starts, .ref f_sorts, .int u_22, .int f_sections, .int f_fifth])), (f_kinds, .inl (cI, 255, .inl u_23)), (f_signs, .inl (cI, 255, .inl u_24)), (f_sizes, .inl (cI, 255, .inl u_25)), (f_places, .inl (cI, 255, .inl u_26)), (f_limits, .inl (cD, 255, .inr (.inr (.inr (.inl u_27)))))]) hP hD [0, 1, 2, 3, 4, 5, 6, 7] [] rfl rfl (by decide) (by decide) hk1 hFc hP1 hD1
    generalize H1 = H at hP hS ⊢
    have hP : va_P D vwCl [(x, .inr (7, [.ref x_signs, .int x_length])), (x_signs, .inl (cI, 255, .inl x_signsF)), (f, .inr (2, [.ref f_kinds, .ref f_signs, .ref f_sizes, .ref f_places, .ref f_limits, .ref f_starts, .ref f_sorts, .int u_22, .int f_sections, .int f_fifth])), (f_kinds, .inl (cI, 255, .inl u_23)), (f_signs, .inl (cI, 255, .inl u_24)), (f_sizes, .inl (cI, 255, .inl u_25)), (f_places, .inl (cI, 255, .inl u_26)), (f_limits, .inl (cD, 255, .inr (.inr (.inr (.inl u_27)))))] H := hP
    have hD : va_D A [(x, .inr (7, [.ref x_signs, .int x_length])), (x_signs, .inl (cI, 255, .inl x_signsF)), (f, .inr (2, [.ref f_kinds, .ref f_signs, .ref f_sizes, .ref f_places, .ref f_limits, .ref f_starts, .ref f_sorts, .int u_22, .int f_sections, .int f_fifth])), (f_kinds, .inl (cI, 255, .inl u_23)), (f_signs, .inl (cI, 255, .inl u_24)), (f_sizes, .inl (cI, 255, .inl u_25)), (f_places, .inl (cI, 255, .inl u_26)), (f_limits, .inl (cD, 255, .inr (.inr (.inr (.inl u_27)))))] := hD
    obtain ⟨w_21_0, w_21_1, w_21_2⟩ := w_21
    have hP9 := hP.sub (ws' := [(x, .inr (7, [.ref x_signs, .int x_length])), (x_signs, .inl (cI, 255, .inl x_signsF)), (f, .inr (2, [.ref f_kinds, .ref f_signs, .ref f_sizes, .ref f_places, .ref f_limits, .ref f_starts, .ref f_sorts, .int u_22, .int f_sections, .int f_fifth])), (f_kinds, .inl (cI, 255, .inl u_23)), (f_signs, .inl (cI, 255, .inl u_24)), (f_sizes, .inl (cI, 255, .inl u_25)), (f_places, .inl (cI, 255, .inl u_26)), (f_limits, .inl (cD, 255, .inr (.inr (.inr (.inl u_27)))))]) [0, 1, 2, 3, 4, 5, 6, 7] rfl
    have hD9 := hD.sub (ws' := [(x, .inr (7, [.ref x_signs, .int x_length])), (x_signs, .inl (cI, 255, .inl x_signsF)), (f, .inr (2, [.ref f_kinds, .ref f_signs, .ref f_sizes, .ref f_places, .ref f_limits, .ref f_starts, .ref f_sorts, .int u_22, .int f_sections, .int f_fifth])), (f_kinds, .inl (cI, 255, .inl u_23)), (f_signs, .inl (cI, 255, .inl u_24)), (f_sizes, .inl (cI, 255, .inl u_25)), (f_places, .inl (cI, 255, .inl u_26)), (f_limits, .inl (cD, 255, .inr (.inr (.inr (.inl u_27)))))]) [0, 1, 2, 3, 4, 5, 6, 7] (by decide) rfl
    exact W.iret (v := x_20) hx hb hr (fun t ht hW => ⟨⟨x_20, (u_22, u_23, u_24, u_25, u_26, u_27), rfl, (by (try dsimp only); refine ⟨?_, ?_, ?_⟩ <;> first | omega | assumption), by rw [ht]; exact hP9, va_K.moved hW.alike hK, hD9⟩, hS.F ht⟩) hS.2.2 dX8_word_63
  · refine lv_lookup (off := 49) (tgt := 56) hx hb dX8_word_7 (by decide +kernel) (by rw [v_3]; rfl) (by decide) ?_
    refine lv_aload_n hx hb dX8_word_56 rfl (lv_at hl 1 rfl) ?_
    refine lv_aload_n hx hb dX8_word_57 rfl (lv_at hl 2 rfl) ?_
    refine lv_iload_n hx hb dX8_word_58 rfl (lv_at hl 3 rfl) ?_
    refine lv_iload_n hx hb dX8_word_59 rfl (lv_at hl 0 rfl) ?_
    have hPc := hP.sub (ws' := [(x, .inr (7, [.ref x_signs, .int x_length])), (x_signs, .inl (cI, 255, .inl x_signsF)), (f, .inr (2, [.ref f_kinds, .ref f_signs, .ref f_sizes, .ref f_places, .ref f_limits, .ref f_starts, .ref f_sorts, .int f_count, .int f_sections, .int f_fifth])), (f_kinds, .inl (cI, 255, .inl f_kindsF)), (f_signs, .inl (cI, 255, .inl f_signsF)), (f_sizes, .inl (cI, 255, .inl f_sizesF)), (f_places, .inl (cI, 255, .inl f_placesF)), (f_limits, .inl (cD, 255, .inr (.inr (.inr (.inl f_limitsF)))))]) [0, 1, 2, 3, 4, 5, 6, 7] rfl
    have hDc := hD.sub (ws' := [(x, .inr (7, [.ref x_signs, .int x_length])), (x_signs, .inl (cI, 255, .inl x_signsF)), (f, .inr (2, [.ref f_kinds, .ref f_signs, .ref f_sizes, .ref f_places, .ref f_limits, .ref f_starts, .ref f_sorts, .int f_count, .int f_sections, .int f_fifth])), (f_kinds, .inl (cI, 255, .inl f_kindsF)), (f_signs, .inl (cI, 255, .inl f_signsF)), (f_sizes, .inl (cI, 255, .inl f_sizesF)), (f_places, .inl (cI, 255, .inl f_placesF)), (f_limits, .inl (cD, 255, .inr (.inr (.inr (.inl f_limitsF)))))]) [0, 1, 2, 3, 4, 5, 6, 7] (by decide) rfl
    have hFc := va_free (wc := [(x, .inr (7, [.ref x_signs, .int x_length])), (x_signs, .inl (cI, 255, .inl x_signsF)), (f, .inr (2, [.ref f_kinds, .ref f_signs, .ref f_sizes, .ref f_places, .ref f_limits, .ref f_starts, .ref f_sorts, .int f_count, .int f_sections, .int f_fifth])), (f_kinds, .inl (cI, 255, .inl f_kindsF)), (f_signs, .inl (cI, 255, .inl f_signsF)), (f_sizes, .inl (cI, 255, .inl f_sizesF)), (f_places, .inl (cI, 255, .inl f_placesF)), (f_limits, .inl (cD, 255, .inr (.inr (.inr (.inl f_limitsF)))))]) hD hS hA [0, 1, 2, 3, 4, 5, 6, 7] rfl
    refine va_calli (va_runS (As := [.ref x, .ref f, .int p1, .int x_1]) (rest := []) ⟨hx, hb, hml, hown, hts⟩ (c_X8_letters l D cI cD cJ H.size x x_signs x_length x_signsF f f_kinds f_signs f_sizes f_places f_limits f_starts f_sorts f_count f_sections f_fifth f_kindsF f_signsF f_sizesF f_placesF f_limitsF p1 x_1 (by omega) (by omega) (by omega) (by assumption) (by omega) (by omega) (by assumption)) (va_cwS 4 hts (goodIn_app (goodIn_r _ [5, 6, 7] rfl (by decide +kernel)) (goodIn_sub i_X8_letters k_X8_letters)) rfl rfl rfl (by decide +kernel) ⟨Nat.le_of_ble_eq_true rfl, Nat.le_of_ble_eq_true rfl⟩) ⟨fun a U g mk q => by obtain ⟨q0, q1, qP, qK, qD⟩ := q; exact ⟨q0, q1, qP, va_K.moved (u := U) (U := U.calling g mk a) (Vm.Alike.refl U.vm) qK, qD⟩, fun U hU hW => ⟨rfl, by rw [hU], by rw [hU]; exact hPc, va_K.moved hW.alike hK, hDc.weaken (fun _ _ _ _ => trivial)⟩⟩ rfl rfl hl.1 rfl (lv_room (Nat.le_of_ble_eq_true rfl)) dX8_word_60 ⟨Nat.le_of_ble_eq_true rfl, Nat.le_of_ble_eq_true rfl⟩) hS (fun q _ h => hFc q h) hFc (fun x_28 u t H1 locs ht hvm w_29 hB hz1 hk1 hS => ?_)
    obtain ⟨u_30, u_31, u_32, u_33, u_34, u_35⟩ := u
    obtain ⟨hP1, hK1, hD1⟩ := hB
    rw [ht] at hP1
    try dsimp only at w_29
    obtain ⟨hP, hD⟩ := va_join (wr := []) (w1 := [(x, .inr (7, [.ref x_signs, .int x_length])), (x_signs, .inl (cI, 255, .inl x_signsF)), (f, .inr (2, [.ref f_kinds, .ref f_signs, .ref f_sizes, .ref f_places, .ref f_limits, .ref f_starts, .ref f_sorts, .int u_30, .int f_sections, .int f_fifth])), (f_kinds, .inl (cI, 255, .inl u_31)), (f_signs, .inl (cI, 255, .inl u_32)), (f_sizes, .inl (cI, 255, .inl u_33)), (f_places, .inl (cI, 255, .inl u_34)), (f_limits, .inl (cD, 255, .inr (.inr (.inr (.inl u_35)))))]) hP hD [0, 1, 2, 3, 4, 5, 6, 7] [] rfl rfl (by decide) (by decide) hk1 hFc hP1 hD1
    generalize H1 = H at hP hS ⊢
    have hP : va_P D vwCl [(x, .inr (7, [.ref x_signs, .int x_length])), (x_signs, .inl (cI, 255, .inl x_signsF)), (f, .inr (2, [.ref f_kinds, .ref f_signs, .ref f_sizes, .ref f_places, .ref f_limits, .ref f_starts, .ref f_sorts, .int u_30, .int f_sections, .int f_fifth])), (f_kinds, .inl (cI, 255, .inl u_31)), (f_signs, .inl (cI, 255, .inl u_32)), (f_sizes, .inl (cI, 255, .inl u_33)), (f_places, .inl (cI, 255, .inl u_34)), (f_limits, .inl (cD, 255, .inr (.inr (.inr (.inl u_35)))))] H := hP
    have hD : va_D A [(x, .inr (7, [.ref x_signs, .int x_length])), (x_signs, .inl (cI, 255, .inl x_signsF)), (f, .inr (2, [.ref f_kinds, .ref f_signs, .ref f_sizes, .ref f_places, .ref f_limits, .ref f_starts, .ref f_sorts, .int u_30, .int f_sections, .int f_fifth])), (f_kinds, .inl (cI, 255, .inl u_31)), (f_signs, .inl (cI, 255, .inl u_32)), (f_sizes, .inl (cI, 255, .inl u_33)), (f_places, .inl (cI, 255, .inl u_34)), (f_limits, .inl (cD, 255, .inr (.inr (.inr (.inl u_35)))))] := hD
    obtain ⟨w_29_0, w_29_1, w_29_2⟩ := w_29
    have hP9 := hP.sub (ws' := [(x, .inr (7, [.ref x_signs, .int x_length])), (x_signs, .inl (cI, 255, .inl x_signsF)), (f, .inr (2, [.ref f_kinds, .ref f_signs, .ref f_sizes, .ref f_places, .ref f_limits, .ref f_starts, .ref f_sorts, .int u_30, .int f_sections, .int f_fifth])), (f_kinds, .inl (cI, 255, .inl u_31)), (f_signs, .inl (cI, 255, .inl u_32)), (f_sizes, .inl (cI, 255, .inl u_33)), (f_places, .inl (cI, 255, .inl u_34)), (f_limits, .inl (cD, 255, .inr (.inr (.inr (.inl u_35)))))]) [0, 1, 2, 3, 4, 5, 6, 7] rfl
    have hD9 := hD.sub (ws' := [(x, .inr (7, [.ref x_signs, .int x_length])), (x_signs, .inl (cI, 255, .inl x_signsF)), (f, .inr (2, [.ref f_kinds, .ref f_signs, .ref f_sizes, .ref f_places, .ref f_limits, .ref f_starts, .ref f_sorts, .int u_30, .int f_sections, .int f_fifth])), (f_kinds, .inl (cI, 255, .inl u_31)), (f_signs, .inl (cI, 255, .inl u_32)), (f_sizes, .inl (cI, 255, .inl u_33)), (f_places, .inl (cI, 255, .inl u_34)), (f_limits, .inl (cD, 255, .inr (.inr (.inr (.inl u_35)))))]) [0, 1, 2, 3, 4, 5, 6, 7] (by decide) rfl
    exact W.iret (v := x_28) hx hb hr (fun t ht hW => ⟨⟨x_28, (u_30, u_31, u_32, u_33, u_34, u_35), rfl, (by (try dsimp only); refine ⟨?_, ?_, ?_⟩ <;> first | omega | assumption), by rw [ht]; exact hP9, va_K.moved hW.alike hK, hD9⟩, hS.F ht⟩) hS.2.2 dX8_word_63
  · refine lv_lookup (off := 49) (tgt := 56) hx hb dX8_word_7 (by decide +kernel) (by rw [v_3]; rfl) (by decide) ?_
    refine lv_aload_n hx hb dX8_word_56 rfl (lv_at hl 1 rfl) ?_
    refine lv_aload_n hx hb dX8_word_57 rfl (lv_at hl 2 rfl) ?_
    refine lv_iload_n hx hb dX8_word_58 rfl (lv_at hl 3 rfl) ?_
    refine lv_iload_n hx hb dX8_word_59 rfl (lv_at hl 0 rfl) ?_
    have hPc := hP.sub (ws' := [(x, .inr (7, [.ref x_signs, .int x_length])), (x_signs, .inl (cI, 255, .inl x_signsF)), (f, .inr (2, [.ref f_kinds, .ref f_signs, .ref f_sizes, .ref f_places, .ref f_limits, .ref f_starts, .ref f_sorts, .int f_count, .int f_sections, .int f_fifth])), (f_kinds, .inl (cI, 255, .inl f_kindsF)), (f_signs, .inl (cI, 255, .inl f_signsF)), (f_sizes, .inl (cI, 255, .inl f_sizesF)), (f_places, .inl (cI, 255, .inl f_placesF)), (f_limits, .inl (cD, 255, .inr (.inr (.inr (.inl f_limitsF)))))]) [0, 1, 2, 3, 4, 5, 6, 7] rfl
    have hDc := hD.sub (ws' := [(x, .inr (7, [.ref x_signs, .int x_length])), (x_signs, .inl (cI, 255, .inl x_signsF)), (f, .inr (2, [.ref f_kinds, .ref f_signs, .ref f_sizes, .ref f_places, .ref f_limits, .ref f_starts, .ref f_sorts, .int f_count, .int f_sections, .int f_fifth])), (f_kinds, .inl (cI, 255, .inl f_kindsF)), (f_signs, .inl (cI, 255, .inl f_signsF)), (f_sizes, .inl (cI, 255, .inl f_sizesF)), (f_places, .inl (cI, 255, .inl f_placesF)), (f_limits, .inl (cD, 255, .inr (.inr (.inr (.inl f_limitsF)))))]) [0, 1, 2, 3, 4, 5, 6, 7] (by decide) rfl
    have hFc := va_free (wc := [(x, .inr (7, [.ref x_signs, .int x_length])), (x_signs, .inl (cI, 255, .inl x_signsF)), (f, .inr (2, [.ref f_kinds, .ref f_signs, .ref f_sizes, .ref f_places, .ref f_limits, .ref f_starts, .ref f_sorts, .int f_count, .int f_sections, .int f_fifth])), (f_kinds, .inl (cI, 255, .inl f_kindsF)), (f_signs, .inl (cI, 255, .inl f_signsF)), (f_sizes, .inl (cI, 255, .inl f_sizesF)), (f_places, .inl (cI, 255, .inl f_placesF)), (f_limits, .inl (cD, 255, .inr (.inr (.inr (.inl f_limitsF)))))]) hD hS hA [0, 1, 2, 3, 4, 5, 6, 7] rfl
    refine va_calli (va_runS (As := [.ref x, .ref f, .int p1, .int x_1]) (rest := []) ⟨hx, hb, hml, hown, hts⟩ (c_X8_letters l D cI cD cJ H.size x x_signs x_length x_signsF f f_kinds f_signs f_sizes f_places f_limits f_starts f_sorts f_count f_sections f_fifth f_kindsF f_signsF f_sizesF f_placesF f_limitsF p1 x_1 (by omega) (by omega) (by omega) (by assumption) (by omega) (by omega) (by assumption)) (va_cwS 4 hts (goodIn_app (goodIn_r _ [5, 6, 7] rfl (by decide +kernel)) (goodIn_sub i_X8_letters k_X8_letters)) rfl rfl rfl (by decide +kernel) ⟨Nat.le_of_ble_eq_true rfl, Nat.le_of_ble_eq_true rfl⟩) ⟨fun a U g mk q => by obtain ⟨q0, q1, qP, qK, qD⟩ := q; exact ⟨q0, q1, qP, va_K.moved (u := U) (U := U.calling g mk a) (Vm.Alike.refl U.vm) qK, qD⟩, fun U hU hW => ⟨rfl, by rw [hU], by rw [hU]; exact hPc, va_K.moved hW.alike hK, hDc.weaken (fun _ _ _ _ => trivial)⟩⟩ rfl rfl hl.1 rfl (lv_room (Nat.le_of_ble_eq_true rfl)) dX8_word_60 ⟨Nat.le_of_ble_eq_true rfl, Nat.le_of_ble_eq_true rfl⟩) hS (fun q _ h => hFc q h) hFc (fun x_36 u t H1 locs ht hvm w_37 hB hz1 hk1 hS => ?_)
    obtain ⟨u_38, u_39, u_40, u_41, u_42, u_43⟩ := u
    obtain ⟨hP1, hK1, hD1⟩ := hB
    rw [ht] at hP1
    try dsimp only at w_37
    obtain ⟨hP, hD⟩ := va_join (wr := []) (w1 := [(x, .inr (7, [.ref x_signs, .int x_length])), (x_signs, .inl (cI, 255, .inl x_signsF)), (f, .inr (2, [.ref f_kinds, .ref f_signs, .ref f_sizes, .ref f_places, .ref f_limits, .ref f_starts, .ref f_sorts, .int u_38, .int f_sections, .int f_fifth])), (f_kinds, .inl (cI, 255, .inl u_39)), (f_signs, .inl (cI, 255, .inl u_40)), (f_sizes, .inl (cI, 255, .inl u_41)), (f_places, .inl (cI, 255, .inl u_42)), (f_limits, .inl (cD, 255, .inr (.inr (.inr (.inl u_43)))))]) hP hD [0, 1, 2, 3, 4, 5, 6, 7] [] rfl rfl (by decide) (by decide) hk1 hFc hP1 hD1
    generalize H1 = H at hP hS ⊢
    have hP : va_P D vwCl [(x, .inr (7, [.ref x_signs, .int x_length])), (x_signs, .inl (cI, 255, .inl x_signsF)), (f, .inr (2, [.ref f_kinds, .ref f_signs, .ref f_sizes, .ref f_places, .ref f_limits, .ref f_starts, .ref f_sorts, .int u_38, .int f_sections, .int f_fifth])), (f_kinds, .inl (cI, 255, .inl u_39)), (f_signs, .inl (cI, 255, .inl u_40)), (f_sizes, .inl (cI, 255, .inl u_41)), (f_places, .inl (cI, 255, .inl u_42)), (f_limits, .inl (cD, 255, .inr (.inr (.inr (.inl u_43)))))] H := hP
    have hD : va_D A [(x, .inr (7, [.ref x_signs, .int x_length])), (x_signs, .inl (cI, 255, .inl x_signsF)), (f, .inr (2, [.ref f_kinds, .ref f_signs, .ref f_sizes, .ref f_places, .ref f_limits, .ref f_starts, .ref f_sorts, .int u_38, .int f_sections, .int f_fifth])), (f_kinds, .inl (cI, 255, .inl u_39)), (f_signs, .inl (cI, 255, .inl u_40)), (f_sizes, .inl (cI, 255, .inl u_41)), (f_places, .inl (cI, 255, .inl u_42)), (f_limits, .inl (cD, 255, .inr (.inr (.inr (.inl u_43)))))] := hD
    obtain ⟨w_37_0, w_37_1, w_37_2⟩ := w_37
    have hP9 := hP.sub (ws' := [(x, .inr (7, [.ref x_signs, .int x_length])), (x_signs, .inl (cI, 255, .inl x_signsF)), (f, .inr (2, [.ref f_kinds, .ref f_signs, .ref f_sizes, .ref f_places, .ref f_limits, .ref f_starts, .ref f_sorts, .int u_38, .int f_sections, .int f_fifth])), (f_kinds, .inl (cI, 255, .inl u_39)), (f_signs, .inl (cI, 255, .inl u_40)), (f_sizes, .inl (cI, 255, .inl u_41)), (f_places, .inl (cI, 255, .inl u_42)), (f_limits, .inl (cD, 255, .inr (.inr (.inr (.inl u_43)))))]) [0, 1, 2, 3, 4, 5, 6, 7] rfl
    have hD9 := hD.sub (ws' := [(x, .inr (7, [.ref x_signs, .int x_length])), (x_signs, .inl (cI, 255, .inl x_signsF)), (f, .inr (2, [.ref f_kinds, .ref f_signs, .ref f_sizes, .ref f_places, .ref f_limits, .ref f_starts, .ref f_sorts, .int u_38, .int f_sections, .int f_fifth])), (f_kinds, .inl (cI, 255, .inl u_39)), (f_signs, .inl (cI, 255, .inl u_40)), (f_sizes, .inl (cI, 255, .inl u_41)), (f_places, .inl (cI, 255, .inl u_42)), (f_limits, .inl (cD, 255, .inr (.inr (.inr (.inl u_43)))))]) [0, 1, 2, 3, 4, 5, 6, 7] (by decide) rfl
    exact W.iret (v := x_36) hx hb hr (fun t ht hW => ⟨⟨x_36, (u_38, u_39, u_40, u_41, u_42, u_43), rfl, (by (try dsimp only); refine ⟨?_, ?_, ?_⟩ <;> first | omega | assumption), by rw [ht]; exact hP9, va_K.moved hW.alike hK, hD9⟩, hS.F ht⟩) hS.2.2 dX8_word_63
  · obtain ⟨v_3_0, v_3_1, v_3_2, v_3_3, v_3_4⟩ := v_3
    refine lv_lookup (off := 57) (tgt := 64) hx hb dX8_word_7 (by decide +kernel) (by rw [Op.lookupswitch.offset_cons, if_neg v_3_0]; rw [Op.lookupswitch.offset_cons, if_neg v_3_1]; rw [Op.lookupswitch.offset_cons, if_neg v_3_2]; rw [Op.lookupswitch.offset_cons, if_neg v_3_3]; rw [Op.lookupswitch.offset_cons, if_neg v_3_4];  rfl) (by decide) ?_
    refine lv_iload_n hx hb dX8_word_64 rfl (lv_at hl 0 rfl) ?_
    refine lv_bipush (v := 101) hx hb dX8_word_65 (by decide) ?_
    have K_113 : ∀ (H : Heap) (locs : List Loc) (ls : Array Slot), va_P D vwCl [(x, .inr (7, [.ref x_signs, .int x_length])), (x_signs, .inl (cI, 255, .inl x_signsF)), (f, .inr (2, [.ref f_kinds, .ref f_signs, .ref f_sizes, .ref f_places, .ref f_limits, .ref f_starts, .ref f_sorts, .int f_count, .int f_sections, .int f_fifth])), (f_kinds, .inl (cI, 255, .inl f_kindsF)), (f_signs, .inl (cI, 255, .inl f_signsF)), (f_sizes, .inl (cI, 255, .inl f_sizesF)), (f_places, .inl (cI, 255, .inl f_placesF)), (f_limits, .inl (cD, 255, .inr (.inr (.inr (.inl f_limitsF)))))] H → va_D A [(x, .inr (7, [.ref x_signs, .int x_length])), (x_signs, .inl (cI, 255, .inl x_signsF)), (f, .inr (2, [.ref f_kinds, .ref f_signs, .ref f_sizes, .ref f_places, .ref f_limits, .ref f_starts, .ref f_sorts, .int f_count, .int f_sections, .int f_fifth])), (f_kinds, .inl (cI, 255, .inl f_kindsF)), (f_signs, .inl (cI, 255, .inl f_signsF)), (f_sizes, .inl (cI, 255, .inl f_sizesF)), (f_places, .inl (cI, 255, .inl f_placesF)), (f_limits, .inl (cD, 255, .inr (.inr (.inr (.inl f_limitsF)))))] → va_S A s.heap H locs → lv_has ls 4 [(0, .ref x), (1, .ref f), (2, .int p1)] → Z 0 0 H locs (F0 m 113 ls []) := by
      intro  H locs ls  hP hD hS hl
      refine hZ2 ?_
      refine lv_aload_n hx hb dX8_word_113 rfl (lv_at hl 0 rfl) ?_
      refine va_ldcS hx hb hown hE0.1.1 dX8_word_114 ?_
      refine lv_iload_n hx hb dX8_word_116 rfl (lv_at hl 2 rfl) ?_
      have hPc := hP.sub (ws' := [(x, .inr (7, [.ref x_signs, .int x_length])), (x_signs, .inl (cI, 255, .inl x_signsF))]) [0, 1] rfl
      refine va_calli (va_runV (As := [.ref (aQ 0), .int p1]) (rest := []) ⟨hx, hb, hml, hown, hts⟩ (c_X10_hasWord l D cI cD cJ H.size x x_signs x_length x_signsF ((aQ 0)) p1 ((aT 0)) 7 ((aF 0)) (by omega) (by omega) (by assumption)) (cwV 2 hts (goodIn_app (goodIn_r _ [8, 9, 10, 4] rfl (by decide +kernel)) (goodIn_sub i_X10_hasWord k_X10_hasWord)) rfl rfl rfl (by decide +kernel) ⟨Nat.le_of_ble_eq_true rfl, Nat.le_of_ble_eq_true rfl⟩) ⟨fun a U g mk q => by obtain ⟨q0, qP, qK, hq0⟩ := q; exact ⟨q0, qP, va_K.moved (u := U) (U := U.calling g mk a) (Vm.Alike.refl U.vm) qK, TZ1.same hq0 rfl⟩, va_recv hK hPc (ci := 7) (q0 := 0) rfl rfl, fun U hU hW => ⟨rfl, by rw [hU]; exact hPc, va_K.moved hW.alike hK, by rw [hU]; exact TZ1.warm hW hE0.1.2 hS (fun q h => h.elim)⟩⟩ rfl rfl hl.1 rfl (lv_room (Nat.le_of_ble_eq_true rfl)) dX8_word_117 ⟨Nat.le_of_ble_eq_true rfl, Nat.le_of_ble_eq_true rfl⟩) hS (fun q _ h => h.elim) (fun q h => h.elim) (fun x_44 u t H1 locs ht hvm w_45 hB hz1 hk1 hS => ?_)
      have hP : va_P D vwCl [(x, .inr (7, [.ref x_signs, .int x_length])), (x_signs, .inl (cI, 255, .inl x_signsF)), (f, .inr (2, [.ref f_kinds, .ref f_signs, .ref f_sizes, .ref f_places, .ref f_limits, .ref f_starts, .ref f_sorts, .int f_count, .int f_sections, .int f_fifth])), (f_kinds, .inl (cI, 255, .inl f_kindsF)), (f_signs, .inl (cI, 255, .inl f_signsF)), (f_sizes, .inl (cI, 255, .inl f_sizesF)), (f_places, .inl (cI, 255, .inl f_placesF)), (f_limits, .inl (cD, 255, .inr (.inr (.inr (.inl f_limitsF)))))] H1 := hP.kept (fun k9 q9 h9 => hk1 q9.1 (vx_lt hP h9) (fun h => h))
      generalize H1 = H at hP hS ⊢
      try dsimp only at w_45
      have b_x_44 := ti_b x_44
      refine lv_if_eq (tgt := 138) hx hb dX8_word_120 (by decide) (fun c_46 => ?_) (fun c_46 => ?_)
      · have ic_46 : (x_44 : Int32).toInt = (0 : Int32).toInt := (fa_eq x_44 0).mp c_46
        refine lv_aload_n hx hb dX8_word_138 rfl (lv_at hl 0 rfl) ?_
        refine va_ldcS hx hb hown hE0.2.1.1 dX8_word_139 ?_
        refine lv_iload_n hx hb dX8_word_141 rfl (lv_at hl 2 rfl) ?_
        have hPc := hP.sub (ws' := [(x, .inr (7, [.ref x_signs, .int x_length])), (x_signs, .inl (cI, 255, .inl x_signsF))]) [0, 1] rfl
        refine va_calli (va_runV (As := [.ref (aQ 1), .int p1]) (rest := []) ⟨hx, hb, hml, hown, hts⟩ (c_X10_hasWord l D cI cD cJ H.size x x_signs x_length x_signsF ((aQ 1)) p1 ((aT 1)) 5 ((aF 1)) (by omega) (by omega) (by assumption)) (cwV 2 hts (goodIn_app (goodIn_r _ [8, 9, 10, 4] rfl (by decide +kernel)) (goodIn_sub i_X10_hasWord k_X10_hasWord)) rfl rfl rfl (by decide +kernel) ⟨Nat.le_of_ble_eq_true rfl, Nat.le_of_ble_eq_true rfl⟩) ⟨fun a U g mk q => by obtain ⟨q0, qP, qK, hq0⟩ := q; exact ⟨q0, qP, va_K.moved (u := U) (U := U.calling g mk a) (Vm.Alike.refl U.vm) qK, TZ1.same hq0 rfl⟩, va_recv hK hPc (ci := 7) (q0 := 0) rfl rfl, fun U hU hW => ⟨rfl, by rw [hU]; exact hPc, va_K.moved hW.alike hK, by rw [hU]; exact TZ1.warm hW hE0.2.1.2 hS (fun q h => h.elim)⟩⟩ rfl rfl hl.1 rfl (lv_room (Nat.le_of_ble_eq_true rfl)) dX8_word_142 ⟨Nat.le_of_ble_eq_true rfl, Nat.le_of_ble_eq_true rfl⟩) hS (fun q _ h => h.elim) (fun q h => h.elim) (fun x_47 u t H1 locs ht hvm w_48 hB hz1 hk1 hS => ?_)
        have hP : va_P D vwCl [(x, .inr (7, [.ref x_signs, .int x_length])), (x_signs, .inl (cI, 255, .inl x_signsF)), (f, .inr (2, [.ref f_kinds, .ref f_signs, .ref f_sizes, .ref f_places, .ref f_limits, .ref f_starts, .ref f_sorts, .int f_count, .int f_sections, .int f_fifth])), (f_kinds, .inl (cI, 255, .inl f_kindsF)), (f_signs, .inl (cI, 255, .inl f_signsF)), (f_sizes, .inl (cI, 255, .inl f_sizesF)), (f_places, .inl (cI, 255, .inl f_placesF)), (f_limits, .inl (cD, 255, .inr (.inr (.inr (.inl f_limitsF)))))] H1 := hP.kept (fun k9 q9 h9 => hk1 q9.1 (vx_lt hP h9) (fun h => h))
        generalize H1 = H at hP hS ⊢
        try dsimp only at w_48
        have b_x_47 := ti_b x_47
        refine lv_if_eq (tgt := 162) hx hb dX8_word_145 (by decide) (fun c_49 => ?_) (fun c_49 => ?_)
        · have ic_49 : (x_47 : Int32).toInt = (0 : Int32).toInt := (fa_eq x_47 0).mp c_49
          refine lv_aload_n hx hb dX8_word_162 rfl (lv_at hl 0 rfl) ?_
          refine va_ldcS hx hb hown hE0.2.2.1.1 dX8_word_163 ?_
          refine lv_iload_n hx hb dX8_word_165 rfl (lv_at hl 2 rfl) ?_
          have hPc := hP.sub (ws' := [(x, .inr (7, [.ref x_signs, .int x_length])), (x_signs, .inl (cI, 255, .inl x_signsF))]) [0, 1] rfl
          refine va_calli (va_runV (As := [.ref (aQ 2), .int p1]) (rest := []) ⟨hx, hb, hml, hown, hts⟩ (c_X10_hasWord l D cI cD cJ H.size x x_signs x_length x_signsF ((aQ 2)) p1 ((aT 2)) 3 ((aF 2)) (by omega) (by omega) (by assumption)) (cwV 2 hts (goodIn_app (goodIn_r _ [8, 9, 10, 4] rfl (by decide +kernel)) (goodIn_sub i_X10_hasWord k_X10_hasWord)) rfl rfl rfl (by decide +kernel) ⟨Nat.le_of_ble_eq_true rfl, Nat.le_of_ble_eq_true rfl⟩) ⟨fun a U g mk q => by obtain ⟨q0, qP, qK, hq0⟩ := q; exact ⟨q0, qP, va_K.moved (u := U) (U := U.calling g mk a) (Vm.Alike.refl U.vm) qK, TZ1.same hq0 rfl⟩, va_recv hK hPc (ci := 7) (q0 := 0) rfl rfl, fun U hU hW => ⟨rfl, by rw [hU]; exact hPc, va_K.moved hW.alike hK, by rw [hU]; exact TZ1.warm hW hE0.2.2.1.2 hS (fun q h => h.elim)⟩⟩ rfl rfl hl.1 rfl (lv_room (Nat.le_of_ble_eq_true rfl)) dX8_word_166 ⟨Nat.le_of_ble_eq_true rfl, Nat.le_of_ble_eq_true rfl⟩) hS (fun q _ h => h.elim) (fun q h => h.elim) (fun x_50 u t H1 locs ht hvm w_51 hB hz1 hk1 hS => ?_)
          have hP : va_P D vwCl [(x, .inr (7, [.ref x_signs, .int x_length])), (x_signs, .inl (cI, 255, .inl x_signsF)), (f, .inr (2, [.ref f_kinds, .ref f_signs, .ref f_sizes, .ref f_places, .ref f_limits, .ref f_starts, .ref f_sorts, .int f_count, .int f_sections, .int f_fifth])), (f_kinds, .inl (cI, 255, .inl f_kindsF)), (f_signs, .inl (cI, 255, .inl f_signsF)), (f_sizes, .inl (cI, 255, .inl f_sizesF)), (f_places, .inl (cI, 255, .inl f_placesF)), (f_limits, .inl (cD, 255, .inr (.inr (.inr (.inl f_limitsF)))))] H1 := hP.kept (fun k9 q9 h9 => hk1 q9.1 (vx_lt hP h9) (fun h => h))
          generalize H1 = H at hP hS ⊢
          try dsimp only at w_51
          have b_x_50 := ti_b x_50
          refine lv_if_eq (tgt := 186) hx hb dX8_word_169 (by decide) (fun c_52 => ?_) (fun c_52 => ?_)
          · have ic_52 : (x_50 : Int32).toInt = (0 : Int32).toInt := (fa_eq x_50 0).mp c_52
            refine lv_aload_n hx hb dX8_word_186 rfl (lv_at hl 0 rfl) ?_
            refine lv_aload_n hx hb dX8_word_187 rfl (lv_at hl 1 rfl) ?_
            refine lv_iload_n hx hb dX8_word_188 rfl (lv_at hl 2 rfl) ?_
            refine lv_iload_n hx hb dX8_word_189 rfl (lv_at hl 2 rfl) ?_
            refine lv_iconst (v := 1) hx hb dX8_word_190 (by decide) ?_
            refine lv_iadd hx hb dX8_word_191 ?_
            refine lv_topi (fun x_53 ex_53 => ?_)
            have b_p1 := ti_b p1
            have tx_53 := ti_add ex_53
            have hPc := hP.sub (ws' := [(x, .inr (7, [.ref x_signs, .int x_length])), (x_signs, .inl (cI, 255, .inl x_signsF)), (f, .inr (2, [.ref f_kinds, .ref f_signs, .ref f_sizes, .ref f_places, .ref f_limits, .ref f_starts, .ref f_sorts, .int f_count, .int f_sections, .int f_fifth])), (f_kinds, .inl (cI, 255, .inl f_kindsF)), (f_signs, .inl (cI, 255, .inl f_signsF)), (f_sizes, .inl (cI, 255, .inl f_sizesF)), (f_places, .inl (cI, 255, .inl f_placesF)), (f_limits, .inl (cD, 255, .inr (.inr (.inr (.inl f_limitsF)))))]) [0, 1, 2, 3, 4, 5, 6, 7] rfl
            have hDc := hD.sub (ws' := [(x, .inr (7, [.ref x_signs, .int x_length])), (x_signs, .inl (cI, 255, .inl x_signsF)), (f, .inr (2, [.ref f_kinds, .ref f_signs, .ref f_sizes, .ref f_places, .ref f_limits, .ref f_starts, .ref f_sorts, .int f_count, .int f_sections, .int f_fifth])), (f_kinds, .inl (cI, 255, .inl f_kindsF)), (f_signs, .inl (cI, 255, .inl f_signsF)), (f_sizes, .inl (cI, 255, .inl f_sizesF)), (f_places, .inl (cI, 255, .inl f_placesF)), (f_limits, .inl (cD, 255, .inr (.inr (.inr (.inl f_limitsF)))))]) [0, 1, 2, 3, 4, 5, 6, 7] (by decide) rfl
            have hFc := va_free (wc := [(x, .inr (7, [.ref x_signs, .int x_length])), (x_signs, .inl (cI, 255, .inl x_signsF)), (f, .inr (2, [.ref f_kinds, .ref f_signs, .ref f_sizes, .ref f_places, .ref f_limits, .ref f_starts, .ref f_sorts, .int f_count, .int f_sections, .int f_fifth])), (f_kinds, .inl (cI, 255, .inl f_kindsF)), (f_signs, .inl (cI, 255, .inl f_signsF)), (f_sizes, .inl (cI, 255, .inl f_sizesF)), (f_places, .inl (cI, 255, .inl f_placesF)), (f_limits, .inl (cD, 255, .inr (.inr (.inr (.inl f_limitsF)))))]) hD hS hA [0, 1, 2, 3, 4, 5, 6, 7] rfl
            refine va_calli (va_runS (As := [.ref x, .ref f, .int p1, .int x_53]) (rest := []) ⟨hx, hb, hml, hown, hts⟩ (c_X8_bad l D cI cD cJ H.size x x_signs x_length x_signsF f f_kinds f_signs f_sizes f_places f_limits f_starts f_sorts f_count f_sections f_fifth f_kindsF f_signsF f_sizesF f_placesF f_limitsF p1 x_53 (by omega) (by assumption) (by omega) (by omega) (by assumption)) (va_cwS 4 hts (goodIn_app (goodIn_r _ [11, 12, 7] rfl (by decide +kernel)) (goodIn_sub i_X8_bad k_X8_bad)) rfl rfl rfl (by decide +kernel) ⟨Nat.le_of_ble_eq_true rfl, Nat.le_of_ble_eq_true rfl⟩) ⟨fun a U g mk q => by obtain ⟨q0, q1, qP, qK, qD⟩ := q; exact ⟨q0, q1, qP, va_K.moved (u := U) (U := U.calling g mk a) (Vm.Alike.refl U.vm) qK, qD⟩, fun U hU hW => ⟨rfl, by rw [hU], by rw [hU]; exact hPc, va_K.moved hW.alike hK, hDc.weaken (fun _ _ _ _ => trivial)⟩⟩ rfl rfl hl.1 rfl (lv_room (Nat.le_of_ble_eq_true rfl)) dX8_word_192 ⟨Nat.le_of_ble_eq_true rfl, Nat.le_of_ble_eq_true rfl⟩) hS (fun q _ h => hFc q h) hFc (fun x_54 u t H1 locs ht hvm w_55 hB hz1 hk1 hS => ?_)
            obtain ⟨u_56, u_57, u_58, u_59, u_60, u_61⟩ := u
            obtain ⟨hP1, hK1, hD1⟩ := hB
            rw [ht] at hP1
            try dsimp only at w_55
            obtain ⟨hP, hD⟩ := va_join (wr := []) (w1 := [(x, .inr (7, [.ref x_signs, .int x_length])), (x_signs, .inl (cI, 255, .inl x_signsF)), (f, .inr (2, [.ref f_kinds, .ref f_signs, .ref f_sizes, .ref f_places, .ref f_limits, .ref f_starts, .ref f_sorts, .int u_56, .int f_sections, .int f_fifth])), (f_kinds, .inl (cI, 255, .inl u_57)), (f_signs, .inl (cI, 255, .inl u_58)), (f_sizes, .inl (cI, 255, .inl u_59)), (f_places, .inl (cI, 255, .inl u_60)), (f_limits, .inl (cD, 255, .inr (.inr (.inr (.inl u_61)))))]) hP hD [0, 1, 2, 3, 4, 5, 6, 7] [] rfl rfl (by decide) (by decide) hk1 hFc hP1 hD1
            generalize H1 = H at hP hS ⊢
            have hP : va_P D vwCl [(x, .inr (7, [.ref x_signs, .int x_length])), (x_signs, .inl (cI, 255, .inl x_signsF)), (f, .inr (2, [.ref f_kinds, .ref f_signs, .ref f_sizes, .ref f_places, .ref f_limits, .ref f_starts, .ref f_sorts, .int u_56, .int f_sections, .int f_fifth])), (f_kinds, .inl (cI, 255, .inl u_57)), (f_signs, .inl (cI, 255, .inl u_58)), (f_sizes, .inl (cI, 255, .inl u_59)), (f_places, .inl (cI, 255, .inl u_60)), (f_limits, .inl (cD, 255, .inr (.inr (.inr (.inl u_61)))))] H := hP
            have hD : va_D A [(x, .inr (7, [.ref x_signs, .int x_length])), (x_signs, .inl (cI, 255, .inl x_signsF)), (f, .inr (2, [.ref f_kinds, .ref f_signs, .ref f_sizes, .ref f_places, .ref f_limits, .ref f_starts, .ref f_sorts, .int u_56, .int f_sections, .int f_fifth])), (f_kinds, .inl (cI, 255, .inl u_57)), (f_signs, .inl (cI, 255, .inl u_58)), (f_sizes, .inl (cI, 255, .inl u_59)), (f_places, .inl (cI, 255, .inl u_60)), (f_limits, .inl (cD, 255, .inr (.inr (.inr (.inl u_61)))))] := hD
            obtain ⟨w_55_0, w_55_1, w_55_2⟩ := w_55
            have b_x_54 := ti_b x_54
            have hP9 := hP.sub (ws' := [(x, .inr (7, [.ref x_signs, .int x_length])), (x_signs, .inl (cI, 255, .inl x_signsF)), (f, .inr (2, [.ref f_kinds, .ref f_signs, .ref f_sizes, .ref f_places, .ref f_limits, .ref f_starts, .ref f_sorts, .int u_56, .int f_sections, .int f_fifth])), (f_kinds, .inl (cI, 255, .inl u_57)), (f_signs, .inl (cI, 255, .inl u_58)), (f_sizes, .inl (cI, 255, .inl u_59)), (f_places, .inl (cI, 255, .inl u_60)), (f_limits, .inl (cD, 255, .inr (.inr (.inr (.inl u_61)))))]) [0, 1, 2, 3, 4, 5, 6, 7] rfl
            have hD9 := hD.sub (ws' := [(x, .inr (7, [.ref x_signs, .int x_length])), (x_signs, .inl (cI, 255, .inl x_signsF)), (f, .inr (2, [.ref f_kinds, .ref f_signs, .ref f_sizes, .ref f_places, .ref f_limits, .ref f_starts, .ref f_sorts, .int u_56, .int f_sections, .int f_fifth])), (f_kinds, .inl (cI, 255, .inl u_57)), (f_signs, .inl (cI, 255, .inl u_58)), (f_sizes, .inl (cI, 255, .inl u_59)), (f_places, .inl (cI, 255, .inl u_60)), (f_limits, .inl (cD, 255, .inr (.inr (.inr (.inl u_61)))))]) [0, 1, 2, 3, 4, 5, 6, 7] (by decide) rfl
            exact W.iret (v := x_54) hx hb hr (fun t ht hW => ⟨⟨x_54, (u_56, u_57, u_58, u_59, u_60, u_61), rfl, (by (try dsimp only); refine ⟨?_, ?_, ?_⟩ <;> first | omega | assumption), by rw [ht]; exact hP9, va_K.moved hW.alike hK, hD9⟩, hS.F ht⟩) hS.2.2 dX8_word_195
          · have ic_52 : ¬ ((x_50 : Int32).toInt = (0 : Int32).toInt) := fun h9 => c_52 ((fa_eq x_50 0).mpr h9)
            refine lv_aload_n hx hb dX8_word_172 rfl (lv_at hl 1 rfl) ?_
            refine lv_bipush (v := 12) hx hb dX8_word_173 (by decide) ?_
            refine lv_bipush (v := 65) hx hb dX8_word_175 (by decide) ?_
            refine lv_iconst (v := 1) hx hb dX8_word_177 (by decide) ?_
            refine lv_iload_n hx hb dX8_word_178 rfl (lv_at hl 2 rfl) ?_
            have hPc := hP.sub (ws' := [(f, .inr (2, [.ref f_kinds, .ref f_signs, .ref f_sizes, .ref f_places, .ref f_limits, .ref f_starts, .ref f_sorts, .int f_count, .int f_sections, .int f_fifth])), (f_kinds, .inl (cI, 255, .inl f_kindsF)), (f_signs, .inl (cI, 255, .inl f_signsF)), (f_sizes, .inl (cI, 255, .inl f_sizesF)), (f_places, .inl (cI, 255, .inl f_placesF)), (f_limits, .inl (cD, 255, .inr (.inr (.inr (.inl f_limitsF)))))]) [2, 3, 4, 5, 6, 7] rfl
            have hDc := hD.sub (ws' := [(f, .inr (2, [.ref f_kinds, .ref f_signs, .ref f_sizes, .ref f_places, .ref f_limits, .ref f_starts, .ref f_sorts, .int f_count, .int f_sections, .int f_fifth])), (f_kinds, .inl (cI, 255, .inl f_kindsF)), (f_signs, .inl (cI, 255, .inl f_signsF)), (f_sizes, .inl (cI, 255, .inl f_sizesF)), (f_places, .inl (cI, 255, .inl f_placesF)), (f_limits, .inl (cD, 255, .inr (.inr (.inr (.inl f_limitsF)))))]) [2, 3, 4, 5, 6, 7] (by decide) rfl
            have hFc := va_free (wc := [(f, .inr (2, [.ref f_kinds, .ref f_signs, .ref f_sizes, .ref f_places, .ref f_limits, .ref f_starts, .ref f_sorts, .int f_count, .int f_sections, .int f_fifth])), (f_kinds, .inl (cI, 255, .inl f_kindsF)), (f_signs, .inl (cI, 255, .inl f_signsF)), (f_sizes, .inl (cI, 255, .inl f_sizesF)), (f_places, .inl (cI, 255, .inl f_placesF)), (f_limits, .inl (cD, 255, .inr (.inr (.inr (.inl f_limitsF)))))]) hD hS hA [2, 3, 4, 5, 6, 7] rfl
            refine va_callv (va_runV (As := [.int 12, .int 65, .int 1, .int p1]) (rest := []) ⟨hx, hb, hml, hown, hts⟩ (c_X2_add l D cI cD cJ H.size f f_kinds f_signs f_sizes f_places f_limits f_starts f_sorts f_count f_sections f_fifth f_kindsF f_signsF f_sizesF f_placesF f_limitsF 12 65 1 p1 (by omega) (by omega) (by omega) (by assumption)) (cwV 4 hts (goodIn_app (goodIn_r _ [13, 14, 15, 16] rfl (by decide +kernel)) (goodIn_sub i_X2_add k_X2_add)) rfl rfl rfl (by decide +kernel) ⟨Nat.le_of_ble_eq_true rfl, Nat.le_of_ble_eq_true rfl⟩) ⟨fun a U g mk q => by obtain ⟨q0, q1, qP, qK, qD⟩ := q; exact ⟨q0, q1, qP, va_K.moved (u := U) (U := U.calling g mk a) (Vm.Alike.refl U.vm) qK, qD⟩, va_recv hK hPc (ci := 2) (q0 := 0) rfl rfl, fun U hU hW => ⟨rfl, by rw [hU], by rw [hU]; exact hPc, va_K.moved hW.alike hK, hDc.weaken (fun _ _ _ _ => trivial)⟩⟩ rfl rfl hl.1 rfl (lv_room (Nat.le_of_ble_eq_true rfl)) dX8_word_179 ⟨Nat.le_of_ble_eq_true rfl, Nat.le_of_ble_eq_true rfl⟩) hS (fun q _ h => hFc q h) hFc (fun u t H1 locs ht hvm w_62 hB hz1 hk1 hS => ?_)
            obtain ⟨u_63, u_64, u_65, u_66, u_67, u_68⟩ := u
            obtain ⟨hP1, hK1, hD1⟩ := hB
            rw [ht] at hP1
            try dsimp only at w_62
            obtain ⟨hP, hD⟩ := va_join (wr := [(x, .inr (7, [.ref x_signs, .int x_length])), (x_signs, .inl (cI, 255, .inl x_signsF))]) (w1 := [(f, .inr (2, [.ref f_kinds, .ref f_signs, .ref f_sizes, .ref f_places, .ref f_limits, .ref f_starts, .ref f_sorts, .int u_63, .int f_sections, .int f_fifth])), (f_kinds, .inl (cI, 255, .inl u_64)), (f_signs, .inl (cI, 255, .inl u_65)), (f_sizes, .inl (cI, 255, .inl u_66)), (f_places, .inl (cI, 255, .inl u_67)), (f_limits, .inl (cD, 255, .inr (.inr (.inr (.inl u_68)))))]) hP hD [2, 3, 4, 5, 6, 7] [0, 1] rfl rfl (by decide) (by decide) hk1 hFc hP1 hD1
            generalize H1 = H at hP hS ⊢
            have hP : va_P D vwCl [(x, .inr (7, [.ref x_signs, .int x_length])), (x_signs, .inl (cI, 255, .inl x_signsF)), (f, .inr (2, [.ref f_kinds, .ref f_signs, .ref f_sizes, .ref f_places, .ref f_limits, .ref f_starts, .ref f_sorts, .int u_63, .int f_sections, .int f_fifth])), (f_kinds, .inl (cI, 255, .inl u_64)), (f_signs, .inl (cI, 255, .inl u_65)), (f_sizes, .inl (cI, 255, .inl u_66)), (f_places, .inl (cI, 255, .inl u_67)), (f_limits, .inl (cD, 255, .inr (.inr (.inr (.inl u_68)))))] H := hP
            have hD : va_D A [(x, .inr (7, [.ref x_signs, .int x_length])), (x_signs, .inl (cI, 255, .inl x_signsF)), (f, .inr (2, [.ref f_kinds, .ref f_signs, .ref f_sizes, .ref f_places, .ref f_limits, .ref f_starts, .ref f_sorts, .int u_63, .int f_sections, .int f_fifth])), (f_kinds, .inl (cI, 255, .inl u_64)), (f_signs, .inl (cI, 255, .inl u_65)), (f_sizes, .inl (cI, 255, .inl u_66)), (f_places, .inl (cI, 255, .inl u_67)), (f_limits, .inl (cD, 255, .inr (.inr (.inr (.inl u_68)))))] := hD
            obtain ⟨w_62_0, w_62_1⟩ := w_62
            refine lv_iload_n hx hb dX8_word_182 rfl (lv_at hl 2 rfl) ?_
            refine lv_iconst (v := 3) hx hb dX8_word_183 (by decide) ?_
            refine lv_iadd hx hb dX8_word_184 ?_
            refine lv_topi (fun x_69 ex_69 => ?_)
            have b_p1 := ti_b p1
            have tx_69 := ti_add ex_69
            have hP9 := hP.sub (ws' := [(x, .inr (7, [.ref x_signs, .int x_length])), (x_signs, .inl (cI, 255, .inl x_signsF)), (f, .inr (2, [.ref f_kinds, .ref f_signs, .ref f_sizes, .ref f_places, .ref f_limits, .ref f_starts, .ref f_sorts, .int u_63, .int f_sections, .int f_fifth])), (f_kinds, .inl (cI, 255, .inl u_64)), (f_signs, .inl (cI, 255, .inl u_65)), (f_sizes, .inl (cI, 255, .inl u_66)), (f_places, .inl (cI, 255, .inl u_67)), (f_limits, .inl (cD, 255, .inr (.inr (.inr (.inl u_68)))))]) [0, 1, 2, 3, 4, 5, 6, 7] rfl
            have hD9 := hD.sub (ws' := [(x, .inr (7, [.ref x_signs, .int x_length])), (x_signs, .inl (cI, 255, .inl x_signsF)), (f, .inr (2, [.ref f_kinds, .ref f_signs, .ref f_sizes, .ref f_places, .ref f_limits, .ref f_starts, .ref f_sorts, .int u_63, .int f_sections, .int f_fifth])), (f_kinds, .inl (cI, 255, .inl u_64)), (f_signs, .inl (cI, 255, .inl u_65)), (f_sizes, .inl (cI, 255, .inl u_66)), (f_places, .inl (cI, 255, .inl u_67)), (f_limits, .inl (cD, 255, .inr (.inr (.inr (.inl u_68)))))]) [0, 1, 2, 3, 4, 5, 6, 7] (by decide) rfl
            exact W.iret (v := x_69) hx hb hr (fun t ht hW => ⟨⟨x_69, (u_63, u_64, u_65, u_66, u_67, u_68), rfl, (by (try dsimp only); refine ⟨?_, ?_, ?_⟩ <;> first | omega | assumption), by rw [ht]; exact hP9, va_K.moved hW.alike hK, hD9⟩, hS.F ht⟩) hS.2.2 dX8_word_185
        · have ic_49 : ¬ ((x_47 : Int32).toInt = (0 : Int32).toInt) := fun h9 => c_49 ((fa_eq x_47 0).mpr h9)
          refine lv_aload_n hx hb dX8_word_148 rfl (lv_at hl 1 rfl) ?_
          refine lv_bipush (v := 12) hx hb dX8_word_149 (by decide) ?_
          refine lv_bipush (v := 65) hx hb dX8_word_151 (by decide) ?_
          refine lv_iconst (v := 2) hx hb dX8_word_153 (by decide) ?_
          refine lv_iload_n hx hb dX8_word_154 rfl (lv_at hl 2 rfl) ?_
          have hPc := hP.sub (ws' := [(f, .inr (2, [.ref f_kinds, .ref f_signs, .ref f_sizes, .ref f_places, .ref f_limits, .ref f_starts, .ref f_sorts, .int f_count, .int f_sections, .int f_fifth])), (f_kinds, .inl (cI, 255, .inl f_kindsF)), (f_signs, .inl (cI, 255, .inl f_signsF)), (f_sizes, .inl (cI, 255, .inl f_sizesF)), (f_places, .inl (cI, 255, .inl f_placesF)), (f_limits, .inl (cD, 255, .inr (.inr (.inr (.inl f_limitsF)))))]) [2, 3, 4, 5, 6, 7] rfl
          have hDc := hD.sub (ws' := [(f, .inr (2, [.ref f_kinds, .ref f_signs, .ref f_sizes, .ref f_places, .ref f_limits, .ref f_starts, .ref f_sorts, .int f_count, .int f_sections, .int f_fifth])), (f_kinds, .inl (cI, 255, .inl f_kindsF)), (f_signs, .inl (cI, 255, .inl f_signsF)), (f_sizes, .inl (cI, 255, .inl f_sizesF)), (f_places, .inl (cI, 255, .inl f_placesF)), (f_limits, .inl (cD, 255, .inr (.inr (.inr (.inl f_limitsF)))))]) [2, 3, 4, 5, 6, 7] (by decide) rfl
          have hFc := va_free (wc := [(f, .inr (2, [.ref f_kinds, .ref f_signs, .ref f_sizes, .ref f_places, .ref f_limits, .ref f_starts, .ref f_sorts, .int f_count, .int f_sections, .int f_fifth])), (f_kinds, .inl (cI, 255, .inl f_kindsF)), (f_signs, .inl (cI, 255, .inl f_signsF)), (f_sizes, .inl (cI, 255, .inl f_sizesF)), (f_places, .inl (cI, 255, .inl f_placesF)), (f_limits, .inl (cD, 255, .inr (.inr (.inr (.inl f_limitsF)))))]) hD hS hA [2, 3, 4, 5, 6, 7] rfl
          refine va_callv (va_runV (As := [.int 12, .int 65, .int 2, .int p1]) (rest := []) ⟨hx, hb, hml, hown, hts⟩ (c_X2_add l D cI cD cJ H.size f f_kinds f_signs f_sizes f_places f_limits f_starts f_sorts f_count f_sections f_fifth f_kindsF f_signsF f_sizesF f_placesF f_limitsF 12 65 2 p1 (by omega) (by omega) (by omega) (by assumption)) (cwV 4 hts (goodIn_app (goodIn_r _ [13, 14, 15, 16] rfl (by decide +kernel)) (goodIn_sub i_X2_add k_X2_add)) rfl rfl rfl (by decide +kernel) ⟨Nat.le_of_ble_eq_true rfl, Nat.le_of_ble_eq_true rfl⟩) ⟨fun a U g mk q => by obtain ⟨q0, q1, qP, qK, qD⟩ := q; exact ⟨q0, q1, qP, va_K.moved (u := U) (U := U.calling g mk a) (Vm.Alike.refl U.vm) qK, qD⟩, va_recv hK hPc (ci := 2) (q0 := 0) rfl rfl, fun U hU hW => ⟨rfl, by rw [hU], by rw [hU]; exact hPc, va_K.moved hW.alike hK, hDc.weaken (fun _ _ _ _ => trivial)⟩⟩ rfl rfl hl.1 rfl (lv_room (Nat.le_of_ble_eq_true rfl)) dX8_word_155 ⟨Nat.le_of_ble_eq_true rfl, Nat.le_of_ble_eq_true rfl⟩) hS (fun q _ h => hFc q h) hFc (fun u t H1 locs ht hvm w_70 hB hz1 hk1 hS => ?_)
          obtain ⟨u_71, u_72, u_73, u_74, u_75, u_76⟩ := u
          obtain ⟨hP1, hK1, hD1⟩ := hB
          rw [ht] at hP1
          try dsimp only at w_70
          obtain ⟨hP, hD⟩ := va_join (wr := [(x, .inr (7, [.ref x_signs, .int x_length])), (x_signs, .inl (cI, 255, .inl x_signsF))]) (w1 := [(f, .inr (2, [.ref f_kinds, .ref f_signs, .ref f_sizes, .ref f_places, .ref f_limits, .ref f_starts, .ref f_sorts, .int u_71, .int f_sections, .int f_fifth])), (f_kinds, .inl (cI, 255, .inl u_72)), (f_signs, .inl (cI, 255, .inl u_73)), (f_sizes, .inl (cI, 255, .inl u_74)), (f_places, .inl (cI, 255, .inl u_75)), (f_limits, .inl (cD, 255, .inr (.inr (.inr (.inl u_76)))))]) hP hD [2, 3, 4, 5, 6, 7] [0, 1] rfl rfl (by decide) (by decide) hk1 hFc hP1 hD1
          generalize H1 = H at hP hS ⊢
          have hP : va_P D vwCl [(x, .inr (7, [.ref x_signs, .int x_length])), (x_signs, .inl (cI, 255, .inl x_signsF)), (f, .inr (2, [.ref f_kinds, .ref f_signs, .ref f_sizes, .ref f_places, .ref f_limits, .ref f_starts, .ref f_sorts, .int u_71, .int f_sections, .int f_fifth])), (f_kinds, .inl (cI, 255, .inl u_72)), (f_signs, .inl (cI, 255, .inl u_73)), (f_sizes, .inl (cI, 255, .inl u_74)), (f_places, .inl (cI, 255, .inl u_75)), (f_limits, .inl (cD, 255, .inr (.inr (.inr (.inl u_76)))))] H := hP
          have hD : va_D A [(x, .inr (7, [.ref x_signs, .int x_length])), (x_signs, .inl (cI, 255, .inl x_signsF)), (f, .inr (2, [.ref f_kinds, .ref f_signs, .ref f_sizes, .ref f_places, .ref f_limits, .ref f_starts, .ref f_sorts, .int u_71, .int f_sections, .int f_fifth])), (f_kinds, .inl (cI, 255, .inl u_72)), (f_signs, .inl (cI, 255, .inl u_73)), (f_sizes, .inl (cI, 255, .inl u_74)), (f_places, .inl (cI, 255, .inl u_75)), (f_limits, .inl (cD, 255, .inr (.inr (.inr (.inl u_76)))))] := hD
          obtain ⟨w_70_0, w_70_1⟩ := w_70
          refine lv_iload_n hx hb dX8_word_158 rfl (lv_at hl 2 rfl) ?_
          refine lv_iconst (v := 5) hx hb dX8_word_159 (by decide) ?_
          refine lv_iadd hx hb dX8_word_160 ?_
          refine lv_topi (fun x_77 ex_77 => ?_)
          have b_p1 := ti_b p1
          have tx_77 := ti_add ex_77
          have hP9 := hP.sub (ws' := [(x, .inr (7, [.ref x_signs, .int x_length])), (x_signs, .inl (cI, 255, .inl x_signsF)), (f, .inr (2, [.ref f_kinds, .ref f_signs, .ref f_sizes, .ref f_places, .ref f_limits, .ref f_starts, .ref f_sorts, .int u_71, .int f_sections, .int f_fifth])), (f_kinds, .inl (cI, 255, .inl u_72)), (f_signs, .inl (cI, 255, .inl u_73)), (f_sizes, .inl (cI, 255, .inl u_74)), (f_places, .inl (cI, 255, .inl u_75)), (f_limits, .inl (cD, 255, .inr (.inr (.inr (.inl u_76)))))]) [0, 1, 2, 3, 4, 5, 6, 7] rfl
          have hD9 := hD.sub (ws' := [(x, .inr (7, [.ref x_signs, .int x_length])), (x_signs, .inl (cI, 255, .inl x_signsF)), (f, .inr (2, [.ref f_kinds, .ref f_signs, .ref f_sizes, .ref f_places, .ref f_limits, .ref f_starts, .ref f_sorts, .int u_71, .int f_sections, .int f_fifth])), (f_kinds, .inl (cI, 255, .inl u_72)), (f_signs, .inl (cI, 255, .inl u_73)), (f_sizes, .inl (cI, 255, .inl u_74)), (f_places, .inl (cI, 255, .inl u_75)), (f_limits, .inl (cD, 255, .inr (.inr (.inr (.inl u_76)))))]) [0, 1, 2, 3, 4, 5, 6, 7] (by decide) rfl
          exact W.iret (v := x_77) hx hb hr (fun t ht hW => ⟨⟨x_77, (u_71, u_72, u_73, u_74, u_75, u_76), rfl, (by (try dsimp only); refine ⟨?_, ?_, ?_⟩ <;> first | omega | assumption), by rw [ht]; exact hP9, va_K.moved hW.alike hK, hD9⟩, hS.F ht⟩) hS.2.2 dX8_word_161
      · have ic_46 : ¬ ((x_44 : Int32).toInt = (0 : Int32).toInt) := fun h9 => c_46 ((fa_eq x_44 0).mpr h9)
        refine lv_aload_n hx hb dX8_word_123 rfl (lv_at hl 1 rfl) ?_
        refine lv_bipush (v := 11) hx hb dX8_word_124 (by decide) ?_
        refine lv_bipush (v := 71) hx hb dX8_word_126 (by decide) ?_
        refine lv_iconst (v := 1) hx hb dX8_word_128 (by decide) ?_
        refine lv_iload_n hx hb dX8_word_129 rfl (lv_at hl 2 rfl) ?_
        have hPc := hP.sub (ws' := [(f, .inr (2, [.ref f_kinds, .ref f_signs, .ref f_sizes, .ref f_places, .ref f_limits, .ref f_starts, .ref f_sorts, .int f_count, .int f_sections, .int f_fifth])), (f_kinds, .inl (cI, 255, .inl f_kindsF)), (f_signs, .inl (cI, 255, .inl f_signsF)), (f_sizes, .inl (cI, 255, .inl f_sizesF)), (f_places, .inl (cI, 255, .inl f_placesF)), (f_limits, .inl (cD, 255, .inr (.inr (.inr (.inl f_limitsF)))))]) [2, 3, 4, 5, 6, 7] rfl
        have hDc := hD.sub (ws' := [(f, .inr (2, [.ref f_kinds, .ref f_signs, .ref f_sizes, .ref f_places, .ref f_limits, .ref f_starts, .ref f_sorts, .int f_count, .int f_sections, .int f_fifth])), (f_kinds, .inl (cI, 255, .inl f_kindsF)), (f_signs, .inl (cI, 255, .inl f_signsF)), (f_sizes, .inl (cI, 255, .inl f_sizesF)), (f_places, .inl (cI, 255, .inl f_placesF)), (f_limits, .inl (cD, 255, .inr (.inr (.inr (.inl f_limitsF)))))]) [2, 3, 4, 5, 6, 7] (by decide) rfl
        have hFc := va_free (wc := [(f, .inr (2, [.ref f_kinds, .ref f_signs, .ref f_sizes, .ref f_places, .ref f_limits, .ref f_starts, .ref f_sorts, .int f_count, .int f_sections, .int f_fifth])), (f_kinds, .inl (cI, 255, .inl f_kindsF)), (f_signs, .inl (cI, 255, .inl f_signsF)), (f_sizes, .inl (cI, 255, .inl f_sizesF)), (f_places, .inl (cI, 255, .inl f_placesF)), (f_limits, .inl (cD, 255, .inr (.inr (.inr (.inl f_limitsF)))))]) hD hS hA [2, 3, 4, 5, 6, 7] rfl
        refine va_callv (va_runV (As := [.int 11, .int 71, .int 1, .int p1]) (rest := []) ⟨hx, hb, hml, hown, hts⟩ (c_X2_add l D cI cD cJ H.size f f_kinds f_signs f_sizes f_places f_limits f_starts f_sorts f_count f_sections f_fifth f_kindsF f_signsF f_sizesF f_placesF f_limitsF 11 71 1 p1 (by omega) (by omega) (by omega) (by assumption)) (cwV 4 hts (goodIn_app (goodIn_r _ [13, 14, 15, 16] rfl (by decide +kernel)) (goodIn_sub i_X2_add k_X2_add)) rfl rfl rfl (by decide +kernel) ⟨Nat.le_of_ble_eq_true rfl, Nat.le_of_ble_eq_true rfl⟩) ⟨fun a U g mk q => by obtain ⟨q0, q1, qP, qK, qD⟩ := q; exact ⟨q0, q1, qP, va_K.moved (u := U) (U := U.calling g mk a) (Vm.Alike.refl U.vm) qK, qD⟩, va_recv hK hPc (ci := 2) (q0 := 0) rfl rfl, fun U hU hW => ⟨rfl, by rw [hU], by rw [hU]; exact hPc, va_K.moved hW.alike hK, hDc.weaken (fun _ _ _ _ => trivial)⟩⟩ rfl rfl hl.1 rfl (lv_room (Nat.le_of_ble_eq_true rfl)) dX8_word_130 ⟨Nat.le_of_ble_eq_true rfl, Nat.le_of_ble_eq_true rfl⟩) hS (fun q _ h => hFc q h) hFc (fun u t H1 locs ht hvm w_78 hB hz1 hk1 hS => ?_)
        obtain ⟨u_79, u_80, u_81, u_82, u_83, u_84⟩ := u
        obtain ⟨hP1, hK1, hD1⟩ := hB
        rw [ht] at hP1
        try dsimp only at w_78
        obtain ⟨hP, hD⟩ := va_join (wr := [(x, .inr (7, [.ref x_signs, .int x_length])), (x_signs, .inl (cI, 255, .inl x_signsF))]) (w1 := [(f, .inr (2, [.ref f_kinds, .ref f_signs, .ref f_sizes, .ref f_places, .ref f_limits, .ref f_starts, .ref f_sorts, .int u_79, .int f_sections, .int f_fifth])), (f_kinds, .inl (cI, 255, .inl u_80)), (f_signs, .inl (cI, 255, .inl u_81)), (f_sizes, .inl (cI, 255, .inl u_82)), (f_places, .inl (cI, 255, .inl u_83)), (f_limits, .inl (cD, 255, .inr (.inr (.inr (.inl u_84)))))]) hP hD [2, 3, 4, 5, 6, 7] [0, 1] rfl rfl (by decide) (by decide) hk1 hFc hP1 hD1
        generalize H1 = H at hP hS ⊢
        have hP : va_P D vwCl [(x, .inr (7, [.ref x_signs, .int x_length])), (x_signs, .inl (cI, 255, .inl x_signsF)), (f, .inr (2, [.ref f_kinds, .ref f_signs, .ref f_sizes, .ref f_places, .ref f_limits, .ref f_starts, .ref f_sorts, .int u_79, .int f_sections, .int f_fifth])), (f_kinds, .inl (cI, 255, .inl u_80)), (f_signs, .inl (cI, 255, .inl u_81)), (f_sizes, .inl (cI, 255, .inl u_82)), (f_places, .inl (cI, 255, .inl u_83)), (f_limits, .inl (cD, 255, .inr (.inr (.inr (.inl u_84)))))] H := hP
        have hD : va_D A [(x, .inr (7, [.ref x_signs, .int x_length])), (x_signs, .inl (cI, 255, .inl x_signsF)), (f, .inr (2, [.ref f_kinds, .ref f_signs, .ref f_sizes, .ref f_places, .ref f_limits, .ref f_starts, .ref f_sorts, .int u_79, .int f_sections, .int f_fifth])), (f_kinds, .inl (cI, 255, .inl u_80)), (f_signs, .inl (cI, 255, .inl u_81)), (f_sizes, .inl (cI, 255, .inl u_82)), (f_places, .inl (cI, 255, .inl u_83)), (f_limits, .inl (cD, 255, .inr (.inr (.inr (.inl u_84)))))] := hD
        obtain ⟨w_78_0, w_78_1⟩ := w_78
        refine lv_iload_n hx hb dX8_word_133 rfl (lv_at hl 2 rfl) ?_
        refine lv_bipush (v := 7) hx hb dX8_word_134 (by decide) ?_
        refine lv_iadd hx hb dX8_word_136 ?_
        refine lv_topi (fun x_85 ex_85 => ?_)
        have b_p1 := ti_b p1
        have tx_85 := ti_add ex_85
        have hP9 := hP.sub (ws' := [(x, .inr (7, [.ref x_signs, .int x_length])), (x_signs, .inl (cI, 255, .inl x_signsF)), (f, .inr (2, [.ref f_kinds, .ref f_signs, .ref f_sizes, .ref f_places, .ref f_limits, .ref f_starts, .ref f_sorts, .int u_79, .int f_sections, .int f_fifth])), (f_kinds, .inl (cI, 255, .inl u_80)), (f_signs, .inl (cI, 255, .inl u_81)), (f_sizes, .inl (cI, 255, .inl u_82)), (f_places, .inl (cI, 255, .inl u_83)), (f_limits, .inl (cD, 255, .inr (.inr (.inr (.inl u_84)))))]) [0, 1, 2, 3, 4, 5, 6, 7] rfl
        have hD9 := hD.sub (ws' := [(x, .inr (7, [.ref x_signs, .int x_length])), (x_signs, .inl (cI, 255, .inl x_signsF)), (f, .inr (2, [.ref f_kinds, .ref f_signs, .ref f_sizes, .ref f_places, .ref f_limits, .ref f_starts, .ref f_sorts, .int u_79, .int f_sections, .int f_fifth])), (f_kinds, .inl (cI, 255, .inl u_80)), (f_signs, .inl (cI, 255, .inl u_81)), (f_sizes, .inl (cI, 255, .inl u_82)), (f_places, .inl (cI, 255, .inl u_83)), (f_limits, .inl (cD, 255, .inr (.inr (.inr (.inl u_84)))))]) [0, 1, 2, 3, 4, 5, 6, 7] (by decide) rfl
        exact W.iret (v := x_85) hx hb hr (fun t ht hW => ⟨⟨x_85, (u_79, u_80, u_81, u_82, u_83, u_84), rfl, (by (try dsimp only); refine ⟨?_, ?_, ?_⟩ <;> first | omega | assumption), by rw [ht]; exact hP9, va_K.moved hW.alike hK, hD9⟩, hS.F ht⟩) hS.2.2 dX8_word_137
    refine lv_icmp_ne (tgt := 113) hx hb dX8_word_67 (by decide) (fun c_86 => ?_) (fun c_86 => ?_)
    · have ic_86 : ¬ ((x_1 : Int32).toInt = (101 : Int32).toInt) := fun h9 => c_86 ((fa_eq x_1 101).mpr h9)
      exact hZ1 (K_113  _ _ _ hP hD hS (lv_sub hl [1, 2, 3] rfl))
    · have ic_86 : (x_1 : Int32).toInt = (101 : Int32).toInt := (fa_eq x_1 101).mp c_86
      refine lv_aload_n hx hb dX8_word_70 rfl (lv_at hl 1 rfl) ?_
      refine lv_iload_n hx hb dX8_word_71 rfl (lv_at hl 3 rfl) ?_
      refine lv_iconst (v := 1) hx hb dX8_word_72 (by decide) ?_
      refine lv_iadd hx hb dX8_word_73 ?_
      refine lv_topi (fun x_87 ex_87 => ?_)
      have b_p1 := ti_b p1
      have tx_87 := ti_add ex_87
      have hPc := hP.sub (ws' := [(x, .inr (7, [.ref x_signs, .int x_length])), (x_signs, .inl (cI, 255, .inl x_signsF))]) [0, 1] rfl
      refine va_calli (va_runV (As := [.int x_87]) (rest := []) ⟨hx, hb, hml, hown, hts⟩ (c_X10_at l D cI cD cJ H.size x x_signs x_length x_signsF x_87 (by omega) (by assumption)) (cwV 1 hts (goodIn_app (goodIn_r _ [17, 18, 19, 4] rfl (by decide +kernel)) (goodIn_sub i_X10_at k_X10_at)) rfl rfl rfl (by decide +kernel) ⟨Nat.le_of_ble_eq_true rfl, Nat.le_of_ble_eq_true rfl⟩) ⟨fun a U g mk q => by obtain ⟨q0, qP, qK⟩ := q; exact ⟨q0, qP, va_K.moved (u := U) (U := U.calling g mk a) (Vm.Alike.refl U.vm) qK⟩, va_recv hK hPc (ci := 7) (q0 := 0) rfl rfl, fun U hU hW => ⟨rfl, by rw [hU]; exact hPc, va_K.moved hW.alike hK⟩⟩ rfl rfl hl.1 rfl (lv_room (Nat.le_of_ble_eq_true rfl)) dX8_word_74 ⟨Nat.le_of_ble_eq_true rfl, Nat.le_of_ble_eq_true rfl⟩) hS (fun q _ h => h.elim) (fun q h => h.elim) (fun x_88 u t H1 locs ht hvm w_89 hB hz1 hk1 hS => ?_)
      have hP : va_P D vwCl [(x, .inr (7, [.ref x_signs, .int x_length])), (x_signs, .inl (cI, 255, .inl x_signsF)), (f, .inr (2, [.ref f_kinds, .ref f_signs, .ref f_sizes, .ref f_places, .ref f_limits, .ref f_starts, .ref f_sorts, .int f_count, .int f_sections, .int f_fifth])), (f_kinds, .inl (cI, 255, .inl f_kindsF)), (f_signs, .inl (cI, 255, .inl f_signsF)), (f_sizes, .inl (cI, 255, .inl f_sizesF)), (f_places, .inl (cI, 255, .inl f_placesF)), (f_limits, .inl (cD, 255, .inr (.inr (.inr (.inl f_limitsF)))))] H1 := hP.kept (fun k9 q9 h9 => hk1 q9.1 (vx_lt hP h9) (fun h => h))
      generalize H1 = H at hP hS ⊢
      try dsimp only at w_89
      refine lv_bipush (v := 43) hx hb dX8_word_77 (by decide) ?_
      have K_94 : ∀ (H : Heap) (locs : List Loc) (ls : Array Slot), va_P D vwCl [(x, .inr (7, [.ref x_signs, .int x_length])), (x_signs, .inl (cI, 255, .inl x_signsF)), (f, .inr (2, [.ref f_kinds, .ref f_signs, .ref f_sizes, .ref f_places, .ref f_limits, .ref f_starts, .ref f_sorts, .int f_count, .int f_sections, .int f_fifth])), (f_kinds, .inl (cI, 255, .inl f_kindsF)), (f_signs, .inl (cI, 255, .inl f_signsF)), (f_sizes, .inl (cI, 255, .inl f_sizesF)), (f_places, .inl (cI, 255, .inl f_placesF)), (f_limits, .inl (cD, 255, .inr (.inr (.inr (.inl f_limitsF)))))] H → va_D A [(x, .inr (7, [.ref x_signs, .int x_length])), (x_signs, .inl (cI, 255, .inl x_signsF)), (f, .inr (2, [.ref f_kinds, .ref f_signs, .ref f_sizes, .ref f_places, .ref f_limits, .ref f_starts, .ref f_sorts, .int f_count, .int f_sections, .int f_fifth])), (f_kinds, .inl (cI, 255, .inl f_kindsF)), (f_signs, .inl (cI, 255, .inl f_signsF)), (f_sizes, .inl (cI, 255, .inl f_sizesF)), (f_places, .inl (cI, 255, .inl f_placesF)), (f_limits, .inl (cD, 255, .inr (.inr (.inr (.inl f_limitsF)))))] → va_S A s.heap H locs → lv_has ls 4 [(0, .ref x), (1, .ref f), (2, .int p1)] → Z 0 0 H locs (F0 m 94 ls []) := by
        intro  H locs ls  hP hD hS hl
        refine hZ2 ?_
        refine lv_aload_n hx hb dX8_word_94 rfl (lv_at hl 1 rfl) ?_
        refine lv_bipush (v := 10) hx hb dX8_word_95 (by decide) ?_
        refine lv_aload_n hx hb dX8_word_97 rfl (lv_at hl 0 rfl) ?_
        refine lv_iload_n hx hb dX8_word_98 rfl (lv_at hl 2 rfl) ?_
        refine lv_iconst (v := 1) hx hb dX8_word_99 (by decide) ?_
        refine lv_iadd hx hb dX8_word_100 ?_
        refine lv_topi (fun x_90 ex_90 => ?_)
        have b_p1 := ti_b p1
        have tx_90 := ti_add ex_90
        have hPc := hP.sub (ws' := [(x, .inr (7, [.ref x_signs, .int x_length])), (x_signs, .inl (cI, 255, .inl x_signsF))]) [0, 1] rfl
        refine va_calli (va_runV (As := [.int x_90]) (rest := [.int 10, .ref f]) ⟨hx, hb, hml, hown, hts⟩ (c_X10_at l D cI cD cJ H.size x x_signs x_length x_signsF x_90 (by omega) (by assumption)) (cwV 1 hts (goodIn_app (goodIn_r _ [17, 18, 19, 4] rfl (by decide +kernel)) (goodIn_sub i_X10_at k_X10_at)) rfl rfl rfl (by decide +kernel) ⟨Nat.le_of_ble_eq_true rfl, Nat.le_of_ble_eq_true rfl⟩) ⟨fun a U g mk q => by obtain ⟨q0, qP, qK⟩ := q; exact ⟨q0, qP, va_K.moved (u := U) (U := U.calling g mk a) (Vm.Alike.refl U.vm) qK⟩, va_recv hK hPc (ci := 7) (q0 := 0) rfl rfl, fun U hU hW => ⟨rfl, by rw [hU]; exact hPc, va_K.moved hW.alike hK⟩⟩ rfl rfl hl.1 rfl (lv_room (Nat.le_of_ble_eq_true rfl)) dX8_word_101 ⟨Nat.le_of_ble_eq_true rfl, Nat.le_of_ble_eq_true rfl⟩) hS (fun q _ h => h.elim) (fun q h => h.elim) (fun x_91 u t H1 locs ht hvm w_92 hB hz1 hk1 hS => ?_)
        have hP : va_P D vwCl [(x, .inr (7, [.ref x_signs, .int x_length])), (x_signs, .inl (cI, 255, .inl x_signsF)), (f, .inr (2, [.ref f_kinds, .ref f_signs, .ref f_sizes, .ref f_places, .ref f_limits, .ref f_starts, .ref f_sorts, .int f_count, .int f_sections, .int f_fifth])), (f_kinds, .inl (cI, 255, .inl f_kindsF)), (f_signs, .inl (cI, 255, .inl f_signsF)), (f_sizes, .inl (cI, 255, .inl f_sizesF)), (f_places, .inl (cI, 255, .inl f_placesF)), (f_limits, .inl (cD, 255, .inr (.inr (.inr (.inl f_limitsF)))))] H1 := hP.kept (fun k9 q9 h9 => hk1 q9.1 (vx_lt hP h9) (fun h => h))
        generalize H1 = H at hP hS ⊢
        try dsimp only at w_92
        refine lv_iconst (v := 1) hx hb dX8_word_104 (by decide) ?_
        refine lv_iload_n hx hb dX8_word_105 rfl (lv_at hl 2 rfl) ?_
        have hPc := hP.sub (ws' := [(f, .inr (2, [.ref f_kinds, .ref f_signs, .ref f_sizes, .ref f_places, .ref f_limits, .ref f_starts, .ref f_sorts, .int f_count, .int f_sections, .int f_fifth])), (f_kinds, .inl (cI, 255, .inl f_kindsF)), (f_signs, .inl (cI, 255, .inl f_signsF)), (f_sizes, .inl (cI, 255, .inl f_sizesF)), (f_places, .inl (cI, 255, .inl f_placesF)), (f_limits, .inl (cD, 255, .inr (.inr (.inr (.inl f_limitsF)))))]) [2, 3, 4, 5, 6, 7] rfl
        have hDc := hD.sub (ws' := [(f, .inr (2, [.ref f_kinds, .ref f_signs, .ref f_sizes, .ref f_places, .ref f_limits, .ref f_starts, .ref f_sorts, .int f_count, .int f_sections, .int f_fifth])), (f_kinds, .inl (cI, 255, .inl f_kindsF)), (f_signs, .inl (cI, 255, .inl f_signsF)), (f_sizes, .inl (cI, 255, .inl f_sizesF)), (f_places, .inl (cI, 255, .inl f_placesF)), (f_limits, .inl (cD, 255, .inr (.inr (.inr (.inl f_limitsF)))))]) [2, 3, 4, 5, 6, 7] (by decide) rfl
        have hFc := va_free (wc := [(f, .inr (2, [.ref f_kinds, .ref f_signs, .ref f_sizes, .ref f_places, .ref f_limits, .ref f_starts, .ref f_sorts, .int f_count, .int f_sections, .int f_fifth])), (f_kinds, .inl (cI, 255, .inl f_kindsF)), (f_signs, .inl (cI, 255, .inl f_signsF)), (f_sizes, .inl (cI, 255, .inl f_sizesF)), (f_places, .inl (cI, 255, .inl f_placesF)), (f_limits, .inl (cD, 255, .inr (.inr (.inr (.inl f_limitsF)))))]) hD hS hA [2, 3, 4, 5, 6, 7] rfl
        refine va_callv (va_runV (As := [.int 10, .int x_91, .int 1, .int p1]) (rest := []) ⟨hx, hb, hml, hown, hts⟩ (c_X2_add l D cI cD cJ H.size f f_kinds f_signs f_sizes f_places f_limits f_starts f_sorts f_count f_sections f_fifth f_kindsF f_signsF f_sizesF f_placesF f_limitsF 10 x_91 1 p1 (by omega) (by omega) (by omega) (by assumption)) (cwV 4 hts (goodIn_app (goodIn_r _ [13, 14, 15, 16] rfl (by decide +kernel)) (goodIn_sub i_X2_add k_X2_add)) rfl rfl rfl (by decide +kernel) ⟨Nat.le_of_ble_eq_true rfl, Nat.le_of_ble_eq_true rfl⟩) ⟨fun a U g mk q => by obtain ⟨q0, q1, qP, qK, qD⟩ := q; exact ⟨q0, q1, qP, va_K.moved (u := U) (U := U.calling g mk a) (Vm.Alike.refl U.vm) qK, qD⟩, va_recv hK hPc (ci := 2) (q0 := 0) rfl rfl, fun U hU hW => ⟨rfl, by rw [hU], by rw [hU]; exact hPc, va_K.moved hW.alike hK, hDc.weaken (fun _ _ _ _ => trivial)⟩⟩ rfl rfl hl.1 rfl (lv_room (Nat.le_of_ble_eq_true rfl)) dX8_word_106 ⟨Nat.le_of_ble_eq_true rfl, Nat.le_of_ble_eq_true rfl⟩) hS (fun q _ h => hFc q h) hFc (fun u t H1 locs ht hvm w_93 hB hz1 hk1 hS => ?_)
        obtain ⟨u_94, u_95, u_96, u_97, u_98, u_99⟩ := u
        obtain ⟨hP1, hK1, hD1⟩ := hB
        rw [ht] at hP1
        try dsimp only at w_93
        obtain ⟨hP, hD⟩ := va_join (wr := [(x, .inr (7, [.ref x_signs, .int x_length])), (x_signs, .inl (cI, 255, .inl x_signsF))]) (w1 := [(f, .inr (2, [.ref f_kinds, .ref f_signs, .ref f_sizes, .ref f_places, .ref f_limits, .ref f_starts, .ref f_sorts, .int u_94, .int f_sections, .int f_fifth])), (f_kinds, .inl (cI, 255, .inl u_95)), (f_signs, .inl (cI, 255, .inl u_96)), (f_sizes, .inl (cI, 255, .inl u_97)), (f_places, .inl (cI, 255, .inl u_98)), (f_limits, .inl (cD, 255, .inr (.inr (.inr (.inl u_99)))))]) hP hD [2, 3, 4, 5, 6, 7] [0, 1] rfl rfl (by decide) (by decide) hk1 hFc hP1 hD1
        generalize H1 = H at hP hS ⊢
        have hP : va_P D vwCl [(x, .inr (7, [.ref x_signs, .int x_length])), (x_signs, .inl (cI, 255, .inl x_signsF)), (f, .inr (2, [.ref f_kinds, .ref f_signs, .ref f_sizes, .ref f_places, .ref f_limits, .ref f_starts, .ref f_sorts, .int u_94, .int f_sections, .int f_fifth])), (f_kinds, .inl (cI, 255, .inl u_95)), (f_signs, .inl (cI, 255, .inl u_96)), (f_sizes, .inl (cI, 255, .inl u_97)), (f_places, .inl (cI, 255, .inl u_98)), (f_limits, .inl (cD, 255, .inr (.inr (.inr (.inl u_99)))))] H := hP
        have hD : va_D A [(x, .inr (7, [.ref x_signs, .int x_length])), (x_signs, .inl (cI, 255, .inl x_signsF)), (f, .inr (2, [.ref f_kinds, .ref f_signs, .ref f_sizes, .ref f_places, .ref f_limits, .ref f_starts, .ref f_sorts, .int u_94, .int f_sections, .int f_fifth])), (f_kinds, .inl (cI, 255, .inl u_95)), (f_signs, .inl (cI, 255, .inl u_96)), (f_sizes, .inl (cI, 255, .inl u_97)), (f_places, .inl (cI, 255, .inl u_98)), (f_limits, .inl (cD, 255, .inr (.inr (.inr (.inl u_99)))))] := hD
        obtain ⟨w_93_0, w_93_1⟩ := w_93
        refine lv_iload_n hx hb dX8_word_109 rfl (lv_at hl 2 rfl) ?_
        refine lv_iconst (v := 2) hx hb dX8_word_110 (by decide) ?_
        refine lv_iadd hx hb dX8_word_111 ?_
        refine lv_topi (fun x_100 ex_100 => ?_)
        have b_p1 := ti_b p1
        have tx_100 := ti_add ex_100
        have hP9 := hP.sub (ws' := [(x, .inr (7, [.ref x_signs, .int x_length])), (x_signs, .inl (cI, 255, .inl x_signsF)), (f, .inr (2, [.ref f_kinds, .ref f_signs, .ref f_sizes, .ref f_places, .ref f_limits, .ref f_starts, .ref f_sorts, .int u_94, .int f_sections, .int f_fifth])), (f_kinds, .inl (cI, 255, .inl u_95)), (f_signs, .inl (cI, 255, .inl u_96)), (f_sizes, .inl (cI, 255, .inl u_97)), (f_places, .inl (cI, 255, .inl u_98)), (f_limits, .inl (cD, 255, .inr (.inr (.inr (.inl u_99)))))]) [0, 1, 2, 3, 4, 5, 6, 7] rfl
        have hD9 := hD.sub (ws' := [(x, .inr (7, [.ref x_signs, .int x_length])), (x_signs, .inl (cI, 255, .inl x_signsF)), (f, .inr (2, [.ref f_kinds, .ref f_signs, .ref f_sizes, .ref f_places, .ref f_limits, .ref f_starts, .ref f_sorts, .int u_94, .int f_sections, .int f_fifth])), (f_kinds, .inl (cI, 255, .inl u_95)), (f_signs, .inl (cI, 255, .inl u_96)), (f_sizes, .inl (cI, 255, .inl u_97)), (f_places, .inl (cI, 255, .inl u_98)), (f_limits, .inl (cD, 255, .inr (.inr (.inr (.inl u_99)))))]) [0, 1, 2, 3, 4, 5, 6, 7] (by decide) rfl
        exact W.iret (v := x_100) hx hb hr (fun t ht hW => ⟨⟨x_100, (u_94, u_95, u_96, u_97, u_98, u_99), rfl, (by (try dsimp only); refine ⟨?_, ?_, ?_⟩ <;> first | omega | assumption), by rw [ht]; exact hP9, va_K.moved hW.alike hK, hD9⟩, hS.F ht⟩) hS.2.2 dX8_word_112
      refine lv_icmp_eq (tgt := 94) hx hb dX8_word_79 (by decide) (fun c_101 => ?_) (fun c_101 => ?_)
      · have ic_101 : (x_88 : Int32).toInt = (43 : Int32).toInt := (fa_eq x_88 43).mp c_101
        exact hZ1 (K_94  _ _ _ hP hD hS (lv_sub hl [1, 2, 3] rfl))
      · have ic_101 : ¬ ((x_88 : Int32).toInt = (43 : Int32).toInt) := fun h9 => c_101 ((fa_eq x_88 43).mpr h9)
        refine lv_aload_n hx hb dX8_word_82 rfl (lv_at hl 1 rfl) ?_
        refine lv_iload_n hx hb dX8_word_83 rfl (lv_at hl 3 rfl) ?_
        refine lv_iconst (v := 1) hx hb dX8_word_84 (by decide) ?_
        refine lv_iadd hx hb dX8_word_85 ?_
        refine lv_topi (fun x_102 ex_102 => ?_)
        have b_p1 := ti_b p1
        have tx_102 := ti_add ex_102
        have hPc := hP.sub (ws' := [(x, .inr (7, [.ref x_signs, .int x_length])), (x_signs, .inl (cI, 255, .inl x_signsF))]) [0, 1] rfl
        refine va_calli (va_runV (As := [.int x_102]) (rest := []) ⟨hx, hb, hml, hown, hts⟩ (c_X10_at l D cI cD cJ H.size x x_signs x_length x_signsF x_102 (by omega) (by assumption)) (cwV 1 hts (goodIn_app (goodIn_r _ [17, 18, 19, 4] rfl (by decide +kernel)) (goodIn_sub i_X10_at k_X10_at)) rfl rfl rfl (by decide +kernel) ⟨Nat.le_of_ble_eq_true rfl, Nat.le_of_ble_eq_true rfl⟩) ⟨fun a U g mk q => by obtain ⟨q0, qP, qK⟩ := q; exact ⟨q0, qP, va_K.moved (u := U) (U := U.calling g mk a) (Vm.Alike.refl U.vm) qK⟩, va_recv hK hPc (ci := 7) (q0 := 0) rfl rfl, fun U hU hW => ⟨rfl, by rw [hU]; exact hPc, va_K.moved hW.alike hK⟩⟩ rfl rfl hl.1 rfl (lv_room (Nat.le_of_ble_eq_true rfl)) dX8_word_86 ⟨Nat.le_of_ble_eq_true rfl, Nat.le_of_ble_eq_true rfl⟩) hS (fun q _ h => h.elim) (fun q h => h.elim) (fun x_103 u t H1 locs ht hvm w_104 hB hz1 hk1 hS => ?_)
        have hP : va_P D vwCl [(x, .inr (7, [.ref x_signs, .int x_length])), (x_signs, .inl (cI, 255, .inl x_signsF)), (f, .inr (2, [.ref f_kinds, .ref f_signs, .ref f_sizes, .ref f_places, .ref f_limits, .ref f_starts, .ref f_sorts, .int f_count, .int f_sections, .int f_fifth])), (f_kinds, .inl (cI, 255, .inl f_kindsF)), (f_signs, .inl (cI, 255, .inl f_signsF)), (f_sizes, .inl (cI, 255, .inl f_sizesF)), (f_places, .inl (cI, 255, .inl f_placesF)), (f_limits, .inl (cD, 255, .inr (.inr (.inr (.inl f_limitsF)))))] H1 := hP.kept (fun k9 q9 h9 => hk1 q9.1 (vx_lt hP h9) (fun h => h))
        generalize H1 = H at hP hS ⊢
        try dsimp only at w_104
        refine lv_bipush (v := 45) hx hb dX8_word_89 (by decide) ?_
        refine lv_icmp_ne (tgt := 113) hx hb dX8_word_91 (by decide) (fun c_105 => ?_) (fun c_105 => ?_)
        · have ic_105 : ¬ ((x_103 : Int32).toInt = (45 : Int32).toInt) := fun h9 => c_105 ((fa_eq x_103 45).mpr h9)
          exact hZ1 (K_113  _ _ _ hP hD hS (lv_sub hl [1, 2, 3] rfl))
        · have ic_105 : (x_103 : Int32).toInt = (45 : Int32).toInt := (fa_eq x_103 45).mp c_105
          exact hZ1 (K_94  _ _ _ hP hD hS (lv_sub hl [1, 2, 3] rfl))

def ow_X8_next : List Cond := [Cond.methodLink RX8 29 yX10_at, Cond.instanceMethod yX10_at, Cond.selects RX10 yX10_at yX10_at, Cond.initialized RX10, Cond.methodLink RX8 33 yX8_quoted, Cond.static yX8_quoted, Cond.initialized RX8, Cond.methodLink RX8 42 yX2_divide, Cond.instanceMethod yX2_divide, Cond.selects RX2 yX2_divide yX2_divide, Cond.initialized RX2, Cond.methodLink RX8 39 yX8_bracket, Cond.static yX8_bracket, Cond.methodLink RX8 36 yX8_escaped, Cond.static yX8_escaped, Cond.methodLink RX8 46 yX10_smallAt, Cond.instanceMethod yX10_smallAt, Cond.selects RX10 yX10_smallAt yX10_smallAt, Cond.methodLink RX8 55 yX8_kindOf, Cond.static yX8_kindOf, Cond.methodLink RX8 58 yX2_add, Cond.instanceMethod yX2_add, Cond.selects RX2 yX2_add yX2_add, Cond.methodLink RX8 52 yX8_divisor, Cond.static yX8_divisor, Cond.methodLink RX8 49 yX8_word, Cond.static yX8_word]
def pw_X8_next : List Cond := Cond.code yX8_next cX8_next 5 (some .int) :: (ow_X8_next ++ (pw_X10_at ++ (pw_X8_quoted ++ (pw_X2_divide ++ (pw_X8_bracket ++ (pw_X8_escaped ++ (pw_X10_smallAt ++ (pw_X8_kindOf ++ (pw_X2_add ++ (pw_X8_divisor ++ (pw_X8_word)))))))))))
set_option maxRecDepth 20000 in
theorem mo_X8_next : ∀ w ∈ ow_X8_next, w ∈ lw_tbl := by decide +kernel
set_option maxRecDepth 20000 in
theorem mc_X8_next : Cond.code yX8_next cX8_next 5 (some .int) ∈ lw_tbl := by decide +kernel
theorem m_X8_next : ∀ w ∈ pw_X8_next, w ∈ lw_tbl := List.forall_mem_cons.mpr ⟨mc_X8_next, (List.forall_mem_append.mpr ⟨mo_X8_next, (List.forall_mem_append.mpr ⟨m_X10_at, (List.forall_mem_append.mpr ⟨m_X8_quoted, (List.forall_mem_append.mpr ⟨m_X2_divide, (List.forall_mem_append.mpr ⟨m_X8_bracket, (List.forall_mem_append.mpr ⟨m_X8_escaped, (List.forall_mem_append.mpr ⟨m_X10_smallAt, (List.forall_mem_append.mpr ⟨m_X8_kindOf, (List.forall_mem_append.mpr ⟨m_X2_add, (List.forall_mem_append.mpr ⟨m_X8_divisor, m_X8_word⟩)⟩)⟩)⟩)⟩)⟩)⟩)⟩)⟩)⟩)⟩
theorem ko_X8_next : ∀ w ∈ ow_X8_next, goodWord w = true := by decide +kernel
theorem k_X8_next : pw_X8_next.all goodWord = true := List.all_eq_true.mpr (List.forall_mem_cons.mpr ⟨by decide +kernel, (List.forall_mem_append.mpr ⟨ko_X8_next, (List.forall_mem_append.mpr ⟨(List.all_eq_true.mp k_X10_at), (List.forall_mem_append.mpr ⟨(List.all_eq_true.mp k_X8_quoted), (List.forall_mem_append.mpr ⟨(List.all_eq_true.mp k_X2_divide), (List.forall_mem_append.mpr ⟨(List.all_eq_true.mp k_X8_bracket), (List.forall_mem_append.mpr ⟨(List.all_eq_true.mp k_X8_escaped), (List.forall_mem_append.mpr ⟨(List.all_eq_true.mp k_X10_smallAt), (List.forall_mem_append.mpr ⟨(List.all_eq_true.mp k_X8_kindOf), (List.forall_mem_append.mpr ⟨(List.all_eq_true.mp k_X2_add), (List.forall_mem_append.mpr ⟨(List.all_eq_true.mp k_X8_divisor), (List.all_eq_true.mp k_X8_word)⟩)⟩)⟩)⟩)⟩)⟩)⟩)⟩)⟩)⟩)⟩)
set_option maxHeartbeats 400000 in
set_option maxRecDepth 100000 in
theorem c_X8_next (l : Launch) (D : va_G) (cI cD cJ : ClassId) (sz : Nat) (x : Nat) (x_signs : Nat) (x_length : Int32) (x_signsF : Nat → Int32) (f : Nat) (f_kinds : Nat) (f_signs : Nat) (f_sizes : Nat) (f_places : Nat) (f_limits : Nat) (f_starts : Nat) (f_sorts : Nat) (f_count : Int32) (f_sections : Int32) (f_fifth : Int32) (f_kindsF : Nat → Int32) (f_signsF : Nat → Int32) (f_sizesF : Nat → Int32) (f_placesF : Nat → Int32) (f_limitsF : Nat → UInt64) (f_startsF : Nat → Int32) (p1 : Int32) (aQ : Nat → Nat) (aT : Nat → Nat) (aF : Nat → Nat → Int32) (ha1 : 0 ≤ p1.toInt) (ha2 : p1.toInt ≤ 300) (iv_x_length : 0 ≤ (x_length : Int32).toInt ∧ (x_length : Int32).toInt ≤ 255) (iv_x_signsF : ∀ k9 : Nat, k9 < 255 → 0 ≤ (x_signsF k9).toInt ∧ (x_signsF k9).toInt ≤ 255) (iv_f_count : 0 ≤ (f_count : Int32).toInt ∧ (f_count : Int32).toInt ≤ 255) (iv_f_sections : 0 ≤ (f_sections : Int32).toInt ∧ (f_sections : Int32).toInt ≤ 4) (iv_f_sizesF : ∀ k9 : Nat, k9 < 255 → (f_sizesF k9).toInt ≤ 100000) (iv_f_startsF : ∀ k9 : Nat, k9 < 4 → 0 ≤ (f_startsF k9).toInt ∧ (f_startsF k9).toInt ≤ 255) : MetD lw_cs l yX8_next pw_X8_next ({ frames := 6, cells := 0, slots := 0, locals := 131 }) (va_Pc [.ref x, .ref f, .int p1] (fun U => U.heap.size = sz ∧ va_P D vwCl [(x, .inr (7, [.ref x_signs, .int x_length])), (x_signs, .inl (cI, 255, .inl x_signsF)), (f, .inr (2, [.ref f_kinds, .ref f_signs, .ref f_sizes, .ref f_places, .ref f_limits, .ref f_starts, .ref f_sorts, .int f_count, .int f_sections, .int f_fifth])), (f_kinds, .inl (cI, 255, .inl f_kindsF)), (f_signs, .inl (cI, 255, .inl f_signsF)), (f_sizes, .inl (cI, 255, .inl f_sizesF)), (f_places, .inl (cI, 255, .inl f_placesF)), (f_limits, .inl (cD, 255, .inr (.inr (.inr (.inl f_limitsF))))), (f_starts, .inl (cI, 4, .inl f_startsF))] U.heap ∧ va_K D vwCl (ty3 cI cD cJ) U ∧ va_D (fun _ => True) [(x, .inr (7, [.ref x_signs, .int x_length])), (x_signs, .inl (cI, 255, .inl x_signsF)), (f, .inr (2, [.ref f_kinds, .ref f_signs, .ref f_sizes, .ref f_places, .ref f_limits, .ref f_starts, .ref f_sorts, .int f_count, .int f_sections, .int f_fifth])), (f_kinds, .inl (cI, 255, .inl f_kindsF)), (f_signs, .inl (cI, 255, .inl f_signsF)), (f_sizes, .inl (cI, 255, .inl f_sizesF)), (f_places, .inl (cI, 255, .inl f_placesF)), (f_limits, .inl (cD, 255, .inr (.inr (.inr (.inl f_limitsF))))), (f_starts, .inl (cI, 4, .inl f_startsF))] ∧ TZA aQ aT aF (va_A [(x, .inr (7, [.ref x_signs, .int x_length])), (x_signs, .inl (cI, 255, .inl x_signsF)), (f, .inr (2, [.ref f_kinds, .ref f_signs, .ref f_sizes, .ref f_places, .ref f_limits, .ref f_starts, .ref f_sorts, .int f_count, .int f_sections, .int f_fifth])), (f_kinds, .inl (cI, 255, .inl f_kindsF)), (f_signs, .inl (cI, 255, .inl f_signsF)), (f_sizes, .inl (cI, 255, .inl f_sizesF)), (f_places, .inl (cI, 255, .inl f_placesF)), (f_limits, .inl (cD, 255, .inr (.inr (.inr (.inl f_limitsF))))), (f_starts, .inl (cI, 4, .inl f_startsF))] sz) U U.heap)) (va_Qi (fun (r : Int32) (u : Int32 × Int32 × Int32 × (Nat → Int32) × (Nat → Int32) × (Nat → Int32) × (Nat → Int32) × (Nat → UInt64) × (Nat → Int32)) => match u with | (f_count2, f_sections2, f_fifth2, f_kindsF2, f_signsF2, f_sizesF2, f_placesF2, f_limitsF2, f_startsF2) => (0 ≤ r.toInt ∧ r.toInt ≤ 1000) ∧ (0 ≤ (f_count2 : Int32).toInt ∧ (f_count2 : Int32).toInt ≤ 255) ∧ (0 ≤ (f_sections2 : Int32).toInt ∧ (f_sections2 : Int32).toInt ≤ 4) ∧ (∀ k9 : Nat, k9 < 255 → (f_sizesF2 k9).toInt ≤ 100000) ∧ (∀ k9 : Nat, k9 < 4 → 0 ≤ (f_startsF2 k9).toInt ∧ (f_startsF2 k9).toInt ≤ 255)) (fun (u : Int32 × Int32 × Int32 × (Nat → Int32) × (Nat → Int32) × (Nat → Int32) × (Nat → Int32) × (Nat → UInt64) × (Nat → Int32)) (t : State) => match u with | (f_count2, f_sections2, f_fifth2, f_kindsF2, f_signsF2, f_sizesF2, f_placesF2, f_limitsF2, f_startsF2) => va_P D vwCl [(x, .inr (7, [.ref x_signs, .int x_length])), (x_signs, .inl (cI, 255, .inl x_signsF)), (f, .inr (2, [.ref f_kinds, .ref f_signs, .ref f_sizes, .ref f_places, .ref f_limits, .ref f_starts, .ref f_sorts, .int f_count2, .int f_sections2, .int f_fifth2])), (f_kinds, .inl (cI, 255, .inl f_kindsF2)), (f_signs, .inl (cI, 255, .inl f_signsF2)), (f_sizes, .inl (cI, 255, .inl f_sizesF2)), (f_places, .inl (cI, 255, .inl f_placesF2)), (f_limits, .inl (cD, 255, .inr (.inr (.inr (.inl f_limitsF2))))), (f_starts, .inl (cI, 4, .inl f_startsF2))] t.heap ∧ va_K D vwCl (ty3 cI cD cJ) t ∧ va_D (va_A [(x, .inr (7, [.ref x_signs, .int x_length])), (x_signs, .inl (cI, 255, .inl x_signsF)), (f, .inr (2, [.ref f_kinds, .ref f_signs, .ref f_sizes, .ref f_places, .ref f_limits, .ref f_starts, .ref f_sorts, .int f_count, .int f_sections, .int f_fifth])), (f_kinds, .inl (cI, 255, .inl f_kindsF)), (f_signs, .inl (cI, 255, .inl f_signsF)), (f_sizes, .inl (cI, 255, .inl f_sizesF)), (f_places, .inl (cI, 255, .inl f_placesF)), (f_limits, .inl (cD, 255, .inr (.inr (.inr (.inl f_limitsF))))), (f_starts, .inl (cI, 4, .inl f_startsF))] sz) [(x, .inr (7, [.ref x_signs, .int x_length])), (x_signs, .inl (cI, 255, .inl x_signsF)), (f, .inr (2, [.ref f_kinds, .ref f_signs, .ref f_sizes, .ref f_places, .ref f_limits, .ref f_starts, .ref f_sorts, .int f_count2, .int f_sections2, .int f_fifth2])), (f_kinds, .inl (cI, 255, .inl f_kindsF2)), (f_signs, .inl (cI, 255, .inl f_signsF2)), (f_sizes, .inl (cI, 255, .inl f_sizesF2)), (f_places, .inl (cI, 255, .inl f_placesF2)), (f_limits, .inl (cD, 255, .inr (.inr (.inr (.inl f_limitsF2))))), (f_starts, .inl (cI, 4, .inl f_startsF2))]) (va_A [(x, .inr (7, [.ref x_signs, .int x_length])), (x_signs, .inl (cI, 255, .inl x_signsF)), (f, .inr (2, [.ref f_kinds, .ref f_signs, .ref f_sizes, .ref f_places, .ref f_limits, .ref f_starts, .ref f_sorts, .int f_count, .int f_sections, .int f_fifth])), (f_kinds, .inl (cI, 255, .inl f_kindsF)), (f_signs, .inl (cI, 255, .inl f_signsF)), (f_sizes, .inl (cI, 255, .inl f_sizesF)), (f_places, .inl (cI, 255, .inl f_placesF)), (f_limits, .inl (cD, 255, .inr (.inr (.inr (.inl f_limitsF))))), (f_starts, .inl (cI, 4, .inl f_startsF))] sz)) 0 0 (va_A [(x, .inr (7, [.ref x_signs, .int x_length])), (x_signs, .inl (cI, 255, .inl x_signsF)), (f, .inr (2, [.ref f_kinds, .ref f_signs, .ref f_sizes, .ref f_places, .ref f_limits, .ref f_starts, .ref f_sorts, .int f_count, .int f_sections, .int f_fifth])), (f_kinds, .inl (cI, 255, .inl f_kindsF)), (f_signs, .inl (cI, 255, .inl f_signsF)), (f_sizes, .inl (cI, 255, .inl f_sizesF)), (f_places, .inl (cI, 255, .inl f_placesF)), (f_limits, .inl (cD, 255, .inr (.inr (.inr (.inl f_limitsF))))), (f_starts, .inl (cI, 4, .inl f_startsF))] sz) := by
  refine MetD.ofW (cc := cX8_next) (maxL := 5) (ret := (some .int)) (by decide +kernel) rfl ?_
  intro p e s m args below meth c s₁ B hml hv hd0
  obtain ⟨rfl, hsz, hP, hK, hD0, hE0⟩ := hv
  have hx := B.exec
  have hb := B.bytes
  have hr := B.returns
  have hts := atoms_spec (ws := pw_X8_next) B.pre
  have hown : s.vm.findClass RX8 = some m.cls := findClass_of_methodNamed B.named
  have hlocks := B.notSynchronized
  subst hsz
  have hD := hD0.self (sz := s.heap.size)
  generalize hAe : va_A [(x, .inr (7, [.ref x_signs, .int x_length])), (x_signs, .inl (cI, 255, .inl x_signsF)), (f, .inr (2, [.ref f_kinds, .ref f_signs, .ref f_sizes, .ref f_places, .ref f_limits, .ref f_starts, .ref f_sorts, .int f_count, .int f_sections, .int f_fifth])), (f_kinds, .inl (cI, 255, .inl f_kindsF)), (f_signs, .inl (cI, 255, .inl f_signsF)), (f_sizes, .inl (cI, 255, .inl f_sizesF)), (f_places, .inl (cI, 255, .inl f_placesF)), (f_limits, .inl (cD, 255, .inr (.inr (.inr (.inl f_limitsF))))), (f_starts, .inl (cI, 4, .inl f_startsF))] s.heap.size = A at hD hE0 ⊢
  have hA : ∀ q : Nat, s.heap.size ≤ q → A q := fun q h => by rw [← hAe]; exact Or.inr h
  have hS : va_S A s.heap s.heap [] := va_S.rf
  have hw : ∀ {d9 : Drawn} (k : Nat) (w : Cond), ow_X8_next[k]? = some w → w.before _ (s.setDrawn d9) = true := fun k w h => dr_words hts _ w (List.mem_cons_of_mem _ (have h9 := List.mem_of_getElem? h; List.mem_append_left _ h9))
  have i_X10_at : ∀ w ∈ pw_X10_at, w ∈ pw_X8_next := fun w h9 => List.mem_cons_of_mem _ (List.mem_append_right _ (List.mem_append_left _ h9))
  have i_X8_quoted : ∀ w ∈ pw_X8_quoted, w ∈ pw_X8_next := fun w h9 => List.mem_cons_of_mem _ (List.mem_append_right _ (List.mem_append_right _ (List.mem_append_left _ h9)))
  have i_X2_divide : ∀ w ∈ pw_X2_divide, w ∈ pw_X8_next := fun w h9 => List.mem_cons_of_mem _ (List.mem_append_right _ (List.mem_append_right _ (List.mem_append_right _ (List.mem_append_left _ h9))))
  have i_X8_bracket : ∀ w ∈ pw_X8_bracket, w ∈ pw_X8_next := fun w h9 => List.mem_cons_of_mem _ (List.mem_append_right _ (List.mem_append_right _ (List.mem_append_right _ (List.mem_append_right _ (List.mem_append_left _ h9)))))
  have i_X8_escaped : ∀ w ∈ pw_X8_escaped, w ∈ pw_X8_next := fun w h9 => List.mem_cons_of_mem _ (List.mem_append_right _ (List.mem_append_right _ (List.mem_append_right _ (List.mem_append_right _ (List.mem_append_right _ (List.mem_append_left _ h9))))))
  have i_X10_smallAt : ∀ w ∈ pw_X10_smallAt, w ∈ pw_X8_next := fun w h9 => List.mem_cons_of_mem _ (List.mem_append_right _ (List.mem_append_right _ (List.mem_append_right _ (List.mem_append_right _ (List.mem_append_right _ (List.mem_append_right _ (List.mem_append_left _ h9)))))))
  have i_X8_kindOf : ∀ w ∈ pw_X8_kindOf, w ∈ pw_X8_next := fun w h9 => List.mem_cons_of_mem _ (List.mem_append_right _ (List.mem_append_right _ (List.mem_append_right _ (List.mem_append_right _ (List.mem_append_right _ (List.mem_append_right _ (List.mem_append_right _ (List.mem_append_left _ h9))))))))
  have i_X2_add : ∀ w ∈ pw_X2_add, w ∈ pw_X8_next := fun w h9 => List.mem_cons_of_mem _ (List.mem_append_right _ (List.mem_append_right _ (List.mem_append_right _ (List.mem_append_right _ (List.mem_append_right _ (List.mem_append_right _ (List.mem_append_right _ (List.mem_append_right _ (List.mem_append_left _ h9)))))))))
  have i_X8_divisor : ∀ w ∈ pw_X8_divisor, w ∈ pw_X8_next := fun w h9 => List.mem_cons_of_mem _ (List.mem_append_right _ (List.mem_append_right _ (List.mem_append_right _ (List.mem_append_right _ (List.mem_append_right _ (List.mem_append_right _ (List.mem_append_right _ (List.mem_append_right _ (List.mem_append_right _ (List.mem_append_left _ h9))))))))))
  have i_X8_word : ∀ w ∈ pw_X8_word, w ∈ pw_X8_next := fun w h9 => List.mem_cons_of_mem _ (List.mem_append_right _ (List.mem_append_right _ (List.mem_append_right _ (List.mem_append_right _ (List.mem_append_right _ (List.mem_append_right _ (List.mem_append_right _ (List.mem_append_right _ (List.mem_append_right _ (List.mem_append_right _ (h9)))))))))))
  have n_1 : ((1 : Int32)).toInt = 1 := by decide
  have n_122 : ((122 : Int32)).toInt = 122 := by decide
  have n_49 : ((49 : Int32)).toInt = 49 := by decide
  have n_57 : ((57 : Int32)).toInt = 57 := by decide
  have n_97 : ((97 : Int32)).toInt = 97 := by decide
  have hl := lv_entry ([.ref x, .ref f, .int p1]) (n := 5) (Nat.le_of_ble_eq_true rfl)
  rw [lg_entry_eq]
  generalize (lg_sl ([.ref x, .ref f, .int p1]) ++ List.replicate (5 - (lg_sl ([.ref x, .ref f, .int p1])).length) Slot.unset).toArray = ls at hl ⊢
  have hl : lv_has ls 5 [(0, .ref x), (1, .ref f), (2, .int p1)] := hl
  have b_p1 := ti_b p1
  refine zz_capD (fun Z hZ1 hZ2 => ?_)
  refine lv_aload_n hx hb dX8_next_0 rfl (lv_at hl 0 rfl) ?_
  refine lv_iload_n hx hb dX8_next_1 rfl (lv_at hl 2 rfl) ?_
  have hPc := hP.sub (ws' := [(x, .inr (7, [.ref x_signs, .int x_length])), (x_signs, .inl (cI, 255, .inl x_signsF))]) [0, 1] rfl
  refine va_calli (va_runV (As := [.int p1]) (rest := []) ⟨hx, hb, hml, hown, (dr_words hts _)⟩ (c_X10_at l D cI cD cJ s.heap.size x x_signs x_length x_signsF p1 (by omega) (by assumption)) (cwV 1 (dr_words hts _) (goodIn_app (goodIn_r _ [1, 2, 3, 4] rfl (by decide +kernel)) (goodIn_sub i_X10_at k_X10_at)) rfl rfl rfl (by decide +kernel) ⟨Nat.le_of_ble_eq_true rfl, Nat.le_of_ble_eq_true rfl⟩) ⟨fun a U g mk q => by obtain ⟨q0, qP, qK⟩ := q; exact ⟨q0, qP, va_K.moved (u := U) (U := U.calling g mk a) (Vm.Alike.refl U.vm) qK⟩, va_recv hK hPc (ci := 7) (q0 := 0) rfl rfl, fun U hU hW => ⟨rfl, by rw [hU]; exact hPc, va_K.moved hW.alike hK⟩⟩ rfl rfl hl.1 rfl (lv_room (Nat.le_of_ble_eq_true rfl)) dX8_next_2 ⟨Nat.le_of_ble_eq_true rfl, Nat.le_of_ble_eq_true rfl⟩) hS (fun q _ h => h.elim) (fun q h => h.elim) (fun x_1 u t H1 locs ht hvm w_2 hB hz1 hk1 hS => ?_)
  have hP : va_P D vwCl [(x, .inr (7, [.ref x_signs, .int x_length])), (x_signs, .inl (cI, 255, .inl x_signsF)), (f, .inr (2, [.ref f_kinds, .ref f_signs, .ref f_sizes, .ref f_places, .ref f_limits, .ref f_starts, .ref f_sorts, .int f_count, .int f_sections, .int f_fifth])), (f_kinds, .inl (cI, 255, .inl f_kindsF)), (f_signs, .inl (cI, 255, .inl f_signsF)), (f_sizes, .inl (cI, 255, .inl f_sizesF)), (f_places, .inl (cI, 255, .inl f_placesF)), (f_limits, .inl (cD, 255, .inr (.inr (.inr (.inl f_limitsF))))), (f_starts, .inl (cI, 4, .inl f_startsF))] H1 := hP.kept (fun k9 q9 h9 => hk1 q9.1 (vx_lt hP h9) (fun h => h))
  generalize H1 = H at hP hS ⊢
  try dsimp only at w_2
  refine lv_istore_n (lv' := [(3, .int x_1), (0, .ref x), (1, .ref f), (2, .int p1)]) hx hb dX8_next_5 rfl hl (by decide) rfl (fun ls hl => ?_)
  refine lv_iload_n hx hb dX8_next_6 rfl (lv_at hl 0 rfl) ?_
  rcases (show (x_1 : Int32).toInt = 34 ∨ (x_1 : Int32).toInt = 59 ∨ (x_1 : Int32).toInt = 91 ∨ (x_1 : Int32).toInt = 92 ∨ (x_1 : Int32).toInt = 95 ∨ (¬ 34 = (x_1 : Int32).toInt ∧ ¬ 59 = (x_1 : Int32).toInt ∧ ¬ 91 = (x_1 : Int32).toInt ∧ ¬ 92 = (x_1 : Int32).toInt ∧ ¬ 95 = (x_1 : Int32).toInt) by omega) with v_3 | v_3 | v_3 | v_3 | v_3 | v_3
  · refine lv_lookup (off := 49) (tgt := 56) hx hb dX8_next_7 (by decide +kernel) (by rw [v_3]; rfl) (by decide) ?_
    refine lv_aload_n hx hb dX8_next_56 rfl (lv_at hl 1 rfl) ?_
    refine lv_aload_n hx hb dX8_next_57 rfl (lv_at hl 2 rfl) ?_
    refine lv_iload_n hx hb dX8_next_58 rfl (lv_at hl 3 rfl) ?_
    have hPc := hP.sub (ws' := [(x, .inr (7, [.ref x_signs, .int x_length])), (x_signs, .inl (cI, 255, .inl x_signsF)), (f, .inr (2, [.ref f_kinds, .ref f_signs, .ref f_sizes, .ref f_places, .ref f_limits, .ref f_starts, .ref f_sorts, .int f_count, .int f_sections, .int f_fifth])), (f_kinds, .inl (cI, 255, .inl f_kindsF)), (f_signs, .inl (cI, 255, .inl f_signsF)), (f_sizes, .inl (cI, 255, .inl f_sizesF)), (f_places, .inl (cI, 255, .inl f_placesF)), (f_limits, .inl (cD, 255, .inr (.inr (.inr (.inl f_limitsF)))))]) [0, 1, 2, 3, 4, 5, 6, 7] rfl
    have hDc := hD.sub (ws' := [(x, .inr (7, [.ref x_signs, .int x_length])), (x_signs, .inl (cI, 255, .inl x_signsF)), (f, .inr (2, [.ref f_kinds, .ref f_signs, .ref f_sizes, .ref f_places, .ref f_limits, .ref f_starts, .ref f_sorts, .int f_count, .int f_sections, .int f_fifth])), (f_kinds, .inl (cI, 255, .inl f_kindsF)), (f_signs, .inl (cI, 255, .inl f_signsF)), (f_sizes, .inl (cI, 255, .inl f_sizesF)), (f_places, .inl (cI, 255, .inl f_placesF)), (f_limits, .inl (cD, 255, .inr (.inr (.inr (.inl f_limitsF)))))]) [0, 1, 2, 3, 4, 5, 6, 7] (by decide) rfl
    have hFc := va_free (wc := [(x, .inr (7, [.ref x_signs, .int x_length])), (x_signs, .inl (cI, 255, .inl x_signsF)), (f, .inr (2, [.ref f_kinds, .ref f_signs, .ref f_sizes, .ref f_places, .ref f_limits, .ref f_starts, .ref f_sorts, .int f_count, .int f_sections, .int f_fifth])), (f_kinds, .inl (cI, 255, .inl f_kindsF)), (f_signs, .inl (cI, 255, .inl f_signsF)), (f_sizes, .inl (cI, 255, .inl f_sizesF)), (f_places, .inl (cI, 255, .inl f_placesF)), (f_limits, .inl (cD, 255, .inr (.inr (.inr (.inl f_limitsF)))))]) hD hS hA [0, 1, 2, 3, 4, 5, 6, 7] rfl
    refine va_calli (va_runS (As := [.ref x, .ref f, .int p1]) (rest := []) ⟨hx, hb, hml, hown, (dr_words hts _)⟩ (c_X8_quoted l D cI cD cJ H.size x x_signs x_length x_signsF f f_kinds f_signs f_sizes f_places f_limits f_starts f_sorts f_count f_sections f_fifth f_kindsF f_signsF f_sizesF f_placesF f_limitsF p1 (by omega) (by omega) (by omega) (by assumption) (by omega) (by omega) (by assumption)) (va_cwS 3 (dr_words hts _) (goodIn_app (goodIn_r _ [5, 6, 7] rfl (by decide +kernel)) (goodIn_sub i_X8_quoted k_X8_quoted)) rfl rfl rfl (by decide +kernel) ⟨Nat.le_of_ble_eq_true rfl, Nat.le_of_ble_eq_true rfl⟩) ⟨fun a U g mk q => by obtain ⟨q0, q1, qP, qK, qD⟩ := q; exact ⟨q0, q1, qP, va_K.moved (u := U) (U := U.calling g mk a) (Vm.Alike.refl U.vm) qK, qD⟩, fun U hU hW => ⟨rfl, by rw [hU], by rw [hU]; exact hPc, va_K.moved hW.alike hK, hDc.weaken (fun _ _ _ _ => trivial)⟩⟩ rfl rfl hl.1 rfl (lv_room (Nat.le_of_ble_eq_true rfl)) dX8_next_59 ⟨Nat.le_of_ble_eq_true rfl, Nat.le_of_ble_eq_true rfl⟩) hS (fun q _ h => hFc q h) hFc (fun x_4 u t H1 locs ht hvm w_5 hB hz1 hk1 hS => ?_)
    obtain ⟨u_6, u_7, u_8, u_9, u_10, u_11⟩ := u
    obtain ⟨hP1, hK1, hD1⟩ := hB
    rw [ht] at hP1
    try dsimp only at w_5
    obtain ⟨hP, hD⟩ := va_join (wr := [(f_starts, .inl (cI, 4, .inl f_startsF))]) (w1 := [(x, .inr (7, [.ref x_signs, .int x_length])), (x_signs, .inl (cI, 255, .inl x_signsF)), (f, .inr (2, [.ref f_kinds, .ref f_signs, .ref f_sizes, .ref f_places, .ref f_limits, .ref f_starts, .ref f_sorts, .int u_6, .int f_sections, .int f_fifth])), (f_kinds, .inl (cI, 255, .inl u_7)), (f_signs, .inl (cI, 255, .inl u_8)), (f_sizes, .inl (cI, 255, .inl u_9)), (f_places, .inl (cI, 255, .inl u_10)), (f_limits, .inl (cD, 255, .inr (.inr (.inr (.inl u_11)))))]) hP hD [0, 1, 2, 3, 4, 5, 6, 7] [8] rfl rfl (by decide) (by decide) hk1 hFc hP1 hD1
    generalize H1 = H at hP hS ⊢
    have hP : va_P D vwCl [(f_starts, .inl (cI, 4, .inl f_startsF)), (x, .inr (7, [.ref x_signs, .int x_length])), (x_signs, .inl (cI, 255, .inl x_signsF)), (f, .inr (2, [.ref f_kinds, .ref f_signs, .ref f_sizes, .ref f_places, .ref f_limits, .ref f_starts, .ref f_sorts, .int u_6, .int f_sections, .int f_fifth])), (f_kinds, .inl (cI, 255, .inl u_7)), (f_signs, .inl (cI, 255, .inl u_8)), (f_sizes, .inl (cI, 255, .inl u_9)), (f_places, .inl (cI, 255, .inl u_10)), (f_limits, .inl (cD, 255, .inr (.inr (.inr (.inl u_11)))))] H := hP
    have hD : va_D A [(f_starts, .inl (cI, 4, .inl f_startsF)), (x, .inr (7, [.ref x_signs, .int x_length])), (x_signs, .inl (cI, 255, .inl x_signsF)), (f, .inr (2, [.ref f_kinds, .ref f_signs, .ref f_sizes, .ref f_places, .ref f_limits, .ref f_starts, .ref f_sorts, .int u_6, .int f_sections, .int f_fifth])), (f_kinds, .inl (cI, 255, .inl u_7)), (f_signs, .inl (cI, 255, .inl u_8)), (f_sizes, .inl (cI, 255, .inl u_9)), (f_places, .inl (cI, 255, .inl u_10)), (f_limits, .inl (cD, 255, .inr (.inr (.inr (.inl u_11)))))] := hD
    obtain ⟨w_5_0, w_5_1, w_5_2⟩ := w_5
    refine W.endD hd0 ?_
    have hP9 := hP.sub (ws' := [(x, .inr (7, [.ref x_signs, .int x_length])), (x_signs, .inl (cI, 255, .inl x_signsF)), (f, .inr (2, [.ref f_kinds, .ref f_signs, .ref f_sizes, .ref f_places, .ref f_limits, .ref f_starts, .ref f_sorts, .int u_6, .int f_sections, .int f_fifth])), (f_kinds, .inl (cI, 255, .inl u_7)), (f_signs, .inl (cI, 255, .inl u_8)), (f_sizes, .inl (cI, 255, .inl u_9)), (f_places, .inl (cI, 255, .inl u_10)), (f_limits, .inl (cD, 255, .inr (.inr (.inr (.inl u_11))))), (f_starts, .inl (cI, 4, .inl f_startsF))]) [1, 2, 3, 4, 5, 6, 7, 8, 0] rfl
    have hD9 := hD.sub (ws' := [(x, .inr (7, [.ref x_signs, .int x_length])), (x_signs, .inl (cI, 255, .inl x_signsF)), (f, .inr (2, [.ref f_kinds, .ref f_signs, .ref f_sizes, .ref f_places, .ref f_limits, .ref f_starts, .ref f_sorts, .int u_6, .int f_sections, .int f_fifth])), (f_kinds, .inl (cI, 255, .inl u_7)), (f_signs, .inl (cI, 255, .inl u_8)), (f_sizes, .inl (cI, 255, .inl u_9)), (f_places, .inl (cI, 255, .inl u_10)), (f_limits, .inl (cD, 255, .inr (.inr (.inr (.inl u_11))))), (f_starts, .inl (cI, 4, .inl f_startsF))]) [1, 2, 3, 4, 5, 6, 7, 8, 0] (by decide) rfl
    exact W.iret (v := x_4) hx hb hr (fun t ht hW => ⟨⟨x_4, (u_6, f_sections, f_fifth, u_7, u_8, u_9, u_10, u_11, f_startsF), rfl, (by (try dsimp only); refine ⟨?_, ?_, ?_, ?_, ?_⟩ <;> first | omega | assumption), by rw [ht]; exact hP9, va_K.moved hW.alike hK, hD9⟩, hS.F ht⟩) hS.2.2 dX8_next_62
  · refine lv_lookup (off := 70) (tgt := 77) hx hb dX8_next_7 (by decide +kernel) (by rw [v_3]; rfl) (by decide) ?_
    refine lv_aload_n hx hb dX8_next_77 rfl (lv_at hl 2 rfl) ?_
    refine lv_iload_n hx hb dX8_next_78 rfl (lv_at hl 3 rfl) ?_
    have hPc := hP.sub (ws' := [(f, .inr (2, [.ref f_kinds, .ref f_signs, .ref f_sizes, .ref f_places, .ref f_limits, .ref f_starts, .ref f_sorts, .int f_count, .int f_sections, .int f_fifth])), (f_starts, .inl (cI, 4, .inl f_startsF))]) [2, 8] rfl
    have hDc := hD.sub (ws' := [(f, .inr (2, [.ref f_kinds, .ref f_signs, .ref f_sizes, .ref f_places, .ref f_limits, .ref f_starts, .ref f_sorts, .int f_count, .int f_sections, .int f_fifth])), (f_starts, .inl (cI, 4, .inl f_startsF))]) [2, 8] (by decide) rfl
    have hFc := va_free (wc := [(f, .inr (2, [.ref f_kinds, .ref f_signs, .ref f_sizes, .ref f_places, .ref f_limits, .ref f_starts, .ref f_sorts, .int f_count, .int f_sections, .int f_fifth])), (f_starts, .inl (cI, 4, .inl f_startsF))]) hD hS hA [2, 8] rfl
    refine va_callv (va_runV (As := [.int p1]) (rest := []) ⟨hx, hb, hml, hown, (dr_words hts _)⟩ (c_X2_divide l D cI cD cJ H.size f f_kinds f_signs f_sizes f_places f_limits f_starts f_sorts f_count f_sections f_fifth f_startsF p1 (by omega) (by omega) (by assumption)) (cwV 1 (dr_words hts _) (goodIn_app (goodIn_r _ [8, 9, 10, 11] rfl (by decide +kernel)) (goodIn_sub i_X2_divide k_X2_divide)) rfl rfl rfl (by decide +kernel) ⟨Nat.le_of_ble_eq_true rfl, Nat.le_of_ble_eq_true rfl⟩) ⟨fun a U g mk q => by obtain ⟨q0, q1, qP, qK, qD⟩ := q; exact ⟨q0, q1, qP, va_K.moved (u := U) (U := U.calling g mk a) (Vm.Alike.refl U.vm) qK, qD⟩, va_recv hK hPc (ci := 2) (q0 := 0) rfl rfl, fun U hU hW => ⟨rfl, by rw [hU], by rw [hU]; exact hPc, va_K.moved hW.alike hK, hDc.weaken (fun _ _ _ _ => trivial)⟩⟩ rfl rfl hl.1 rfl (lv_room (Nat.le_of_ble_eq_true rfl)) dX8_next_79 ⟨Nat.le_of_ble_eq_true rfl, Nat.le_of_ble_eq_true rfl⟩) hS (fun q _ h => hFc q h) hFc (fun u t H1 locs ht hvm w_12 hB hz1 hk1 hS => ?_)
    obtain ⟨u_13, u_14, u_15⟩ := u
    obtain ⟨hP1, hK1, hD1⟩ := hB
    rw [ht] at hP1
    try dsimp only at w_12
    obtain ⟨hP, hD⟩ := va_join (wr := [(x, .inr (7, [.ref x_signs, .int x_length])), (x_signs, .inl (cI, 255, .inl x_signsF)), (f_kinds, .inl (cI, 255, .inl f_kindsF)), (f_signs, .inl (cI, 255, .inl f_signsF)), (f_sizes, .inl (cI, 255, .inl f_sizesF)), (f_places, .inl (cI, 255, .inl f_placesF)), (f_limits, .inl (cD, 255, .inr (.inr (.inr (.inl f_limitsF)))))]) (w1 := [(f, .inr (2, [.ref f_kinds, .ref f_signs, .ref f_sizes, .ref f_places, .ref f_limits, .ref f_starts, .ref f_sorts, .int f_count, .int u_13, .int u_14])), (f_starts, .inl (cI, 4, .inl u_15))]) hP hD [2, 8] [0, 1, 3, 4, 5, 6, 7] rfl rfl (by decide) (by decide) hk1 hFc hP1 hD1
    generalize H1 = H at hP hS ⊢
    have hP : va_P D vwCl [(x, .inr (7, [.ref x_signs, .int x_length])), (x_signs, .inl (cI, 255, .inl x_signsF)), (f_kinds, .inl (cI, 255, .inl f_kindsF)), (f_signs, .inl (cI, 255, .inl f_signsF)), (f_sizes, .inl (cI, 255, .inl f_sizesF)), (f_places, .inl (cI, 255, .inl f_placesF)), (f_limits, .inl (cD, 255, .inr (.inr (.inr (.inl f_limitsF))))), (f, .inr (2, [.ref f_kinds, .ref f_signs, .ref f_sizes, .ref f_places, .ref f_limits, .ref f_starts, .ref f_sorts, .int f_count, .int u_13, .int u_14])), (f_starts, .inl (cI, 4, .inl u_15))] H := hP
    have hD : va_D A [(x, .inr (7, [.ref x_signs, .int x_length])), (x_signs, .inl (cI, 255, .inl x_signsF)), (f_kinds, .inl (cI, 255, .inl f_kindsF)), (f_signs, .inl (cI, 255, .inl f_signsF)), (f_sizes, .inl (cI, 255, .inl f_sizesF)), (f_places, .inl (cI, 255, .inl f_placesF)), (f_limits, .inl (cD, 255, .inr (.inr (.inr (.inl f_limitsF))))), (f, .inr (2, [.ref f_kinds, .ref f_signs, .ref f_sizes, .ref f_places, .ref f_limits, .ref f_starts, .ref f_sorts, .int f_count, .int u_13, .int u_14])), (f_starts, .inl (cI, 4, .inl u_15))] := hD
    obtain ⟨w_12_0, w_12_1⟩ := w_12
    refine lv_iload_n hx hb dX8_next_82 rfl (lv_at hl 3 rfl) ?_
    refine lv_iconst (v := 1) hx hb dX8_next_83 (by decide) ?_
    refine lv_iadd hx hb dX8_next_84 ?_
    refine lv_topi (fun x_16 ex_16 => ?_)
    have b_p1 := ti_b p1
    have tx_16 := ti_add ex_16
    refine W.endD hd0 ?_
    have hP9 := hP.sub (ws' := [(x, .inr (7, [.ref x_signs, .int x_length])), (x_signs, .inl (cI, 255, .inl x_signsF)), (f, .inr (2, [.ref f_kinds, .ref f_signs, .ref f_sizes, .ref f_places, .ref f_limits, .ref f_starts, .ref f_sorts, .int f_count, .int u_13, .int u_14])), (f_kinds, .inl (cI, 255, .inl f_kindsF)), (f_signs, .inl (cI, 255, .inl f_signsF)), (f_sizes, .inl (cI, 255, .inl f_sizesF)), (f_places, .inl (cI, 255, .inl f_placesF)), (f_limits, .inl (cD, 255, .inr (.inr (.inr (.inl f_limitsF))))), (f_starts, .inl (cI, 4, .inl u_15))]) [0, 1, 7, 2, 3, 4, 5, 6, 8] rfl
    have hD9 := hD.sub (ws' := [(x, .inr (7, [.ref x_signs, .int x_length])), (x_signs, .inl (cI, 255, .inl x_signsF)), (f, .inr (2, [.ref f_kinds, .ref f_signs, .ref f_sizes, .ref f_places, .ref f_limits, .ref f_starts, .ref f_sorts, .int f_count, .int u_13, .int u_14])), (f_kinds, .inl (cI, 255, .inl f_kindsF)), (f_signs, .inl (cI, 255, .inl f_signsF)), (f_sizes, .inl (cI, 255, .inl f_sizesF)), (f_places, .inl (cI, 255, .inl f_placesF)), (f_limits, .inl (cD, 255, .inr (.inr (.inr (.inl f_limitsF))))), (f_starts, .inl (cI, 4, .inl u_15))]) [0, 1, 7, 2, 3, 4, 5, 6, 8] (by decide) rfl
    exact W.iret (v := x_16) hx hb hr (fun t ht hW => ⟨⟨x_16, (f_count, u_13, u_14, f_kindsF, f_signsF, f_sizesF, f_placesF, f_limitsF, u_15), rfl, (by (try dsimp only); refine ⟨?_, ?_, ?_, ?_, ?_⟩ <;> first | omega | assumption), by rw [ht]; exact hP9, va_K.moved hW.alike hK, hD9⟩, hS.F ht⟩) hS.2.2 dX8_next_85
  · refine lv_lookup (off := 63) (tgt := 70) hx hb dX8_next_7 (by decide +kernel) (by rw [v_3]; rfl) (by decide) ?_
    refine lv_aload_n hx hb dX8_next_70 rfl (lv_at hl 1 rfl) ?_
    refine lv_aload_n hx hb dX8_next_71 rfl (lv_at hl 2 rfl) ?_
    refine lv_iload_n hx hb dX8_next_72 rfl (lv_at hl 3 rfl) ?_
    have hPc := hP.sub (ws' := [(x, .inr (7, [.ref x_signs, .int x_length])), (x_signs, .inl (cI, 255, .inl x_signsF)), (f, .inr (2, [.ref f_kinds, .ref f_signs, .ref f_sizes, .ref f_places, .ref f_limits, .ref f_starts, .ref f_sorts, .int f_count, .int f_sections, .int f_fifth])), (f_kinds, .inl (cI, 255, .inl f_kindsF)), (f_signs, .inl (cI, 255, .inl f_signsF)), (f_sizes, .inl (cI, 255, .inl f_sizesF)), (f_places, .inl (cI, 255, .inl f_placesF)), (f_limits, .inl (cD, 255, .inr (.inr (.inr (.inl f_limitsF)))))]) [0, 1, 2, 3, 4, 5, 6, 7] rfl
    have hDc := hD.sub (ws' := [(x, .inr (7, [.ref x_signs, .int x_length])), (x_signs, .inl (cI, 255, .inl x_signsF)), (f, .inr (2, [.ref f_kinds, .ref f_signs, .ref f_sizes, .ref f_places, .ref f_limits, .ref f_starts, .ref f_sorts, .int f_count, .int f_sections, .int f_fifth])), (f_kinds, .inl (cI, 255, .inl f_kindsF)), (f_signs, .inl (cI, 255, .inl f_signsF)), (f_sizes, .inl (cI, 255, .inl f_sizesF)), (f_places, .inl (cI, 255, .inl f_placesF)), (f_limits, .inl (cD, 255, .inr (.inr (.inr (.inl f_limitsF)))))]) [0, 1, 2, 3, 4, 5, 6, 7] (by decide) rfl
    have hFc := va_free (wc := [(x, .inr (7, [.ref x_signs, .int x_length])), (x_signs, .inl (cI, 255, .inl x_signsF)), (f, .inr (2, [.ref f_kinds, .ref f_signs, .ref f_sizes, .ref f_places, .ref f_limits, .ref f_starts, .ref f_sorts, .int f_count, .int f_sections, .int f_fifth])), (f_kinds, .inl (cI, 255, .inl f_kindsF)), (f_signs, .inl (cI, 255, .inl f_signsF)), (f_sizes, .inl (cI, 255, .inl f_sizesF)), (f_places, .inl (cI, 255, .inl f_placesF)), (f_limits, .inl (cD, 255, .inr (.inr (.inr (.inl f_limitsF)))))]) hD hS hA [0, 1, 2, 3, 4, 5, 6, 7] rfl
    refine va_calliD hd0 (va_runS_D (As := [.ref x, .ref f, .int p1]) (rest := []) ⟨hx, hb, hml, hown, (dr_words hts _)⟩ (c_X8_bracket l D cI cD cJ H.size x x_signs x_length x_signsF f f_kinds f_signs f_sizes f_places f_limits f_starts f_sorts f_count f_sections f_fifth f_kindsF f_signsF f_sizesF f_placesF f_limitsF p1 (by omega) (by omega) (by omega) (by assumption) (by omega) (by omega) (by assumption)) (va_cwS 3 (dr_words hts _) (goodIn_app (goodIn_r _ [12, 13, 7] rfl (by decide +kernel)) (goodIn_sub i_X8_bracket k_X8_bracket)) rfl rfl rfl (by decide +kernel) ⟨Nat.le_of_ble_eq_true rfl, Nat.le_of_ble_eq_true rfl⟩) ⟨fun a U g mk q => by obtain ⟨q0, q1, qP, qK, qD⟩ := q; exact ⟨q0, q1, qP, va_K.moved (u := U) (U := U.calling g mk a) (Vm.Alike.refl U.vm) qK, qD⟩, fun U hU hW => ⟨rfl, by rw [hU], by rw [hU]; exact hPc, va_K.moved hW.alike hK, hDc.weaken (fun _ _ _ _ => trivial)⟩⟩ rfl rfl hl.1 rfl (lv_room (Nat.le_of_ble_eq_true rfl)) dX8_next_73 ⟨Nat.le_of_ble_eq_true rfl, Nat.le_of_ble_eq_true rfl⟩) hS (fun q _ h => hFc q h) hFc (fun x_17 u t H1 locs ht hvm w_18 hB hz1 hk1 hS dhd_19 hd_19 => ?_)
    obtain ⟨u_20, u_21, u_22, u_23, u_24, u_25⟩ := u
    obtain ⟨hP1, hK1, hD1⟩ := hB
    rw [ht] at hP1
    try dsimp only at w_18
    obtain ⟨hP, hD⟩ := va_join (wr := [(f_starts, .inl (cI, 4, .inl f_startsF))]) (w1 := [(x, .inr (7, [.ref x_signs, .int x_length])), (x_signs, .inl (cI, 255, .inl x_signsF)), (f, .inr (2, [.ref f_kinds, .ref f_signs, .ref f_sizes, .ref f_places, .ref f_limits, .ref f_starts, .ref f_sorts, .int u_20, .int f_sections, .int f_fifth])), (f_kinds, .inl (cI, 255, .inl u_21)), (f_signs, .inl (cI, 255, .inl u_22)), (f_sizes, .inl (cI, 255, .inl u_23)), (f_places, .inl (cI, 255, .inl u_24)), (f_limits, .inl (cD, 255, .inr (.inr (.inr (.inl u_25)))))]) hP hD [0, 1, 2, 3, 4, 5, 6, 7] [8] rfl rfl (by decide) (by decide) hk1 hFc hP1 hD1
    generalize H1 = H at hP hS ⊢
    have hP : va_P D vwCl [(f_starts, .inl (cI, 4, .inl f_startsF)), (x, .inr (7, [.ref x_signs, .int x_length])), (x_signs, .inl (cI, 255, .inl x_signsF)), (f, .inr (2, [.ref f_kinds, .ref f_signs, .ref f_sizes, .ref f_places, .ref f_limits, .ref f_starts, .ref f_sorts, .int u_20, .int f_sections, .int f_fifth])), (f_kinds, .inl (cI, 255, .inl u_21)), (f_signs, .inl (cI, 255, .inl u_22)), (f_sizes, .inl (cI, 255, .inl u_23)), (f_places, .inl (cI, 255, .inl u_24)), (f_limits, .inl (cD, 255, .inr (.inr (.inr (.inl u_25)))))] H := hP
    have hD : va_D A [(f_starts, .inl (cI, 4, .inl f_startsF)), (x, .inr (7, [.ref x_signs, .int x_length])), (x_signs, .inl (cI, 255, .inl x_signsF)), (f, .inr (2, [.ref f_kinds, .ref f_signs, .ref f_sizes, .ref f_places, .ref f_limits, .ref f_starts, .ref f_sorts, .int u_20, .int f_sections, .int f_fifth])), (f_kinds, .inl (cI, 255, .inl u_21)), (f_signs, .inl (cI, 255, .inl u_22)), (f_sizes, .inl (cI, 255, .inl u_23)), (f_places, .inl (cI, 255, .inl u_24)), (f_limits, .inl (cD, 255, .inr (.inr (.inr (.inl u_25)))))] := hD
    obtain ⟨w_18_0, w_18_1, w_18_2⟩ := w_18
    refine W.endD hd_19 ?_
    have hP9 := hP.sub (ws' := [(x, .inr (7, [.ref x_signs, .int x_length])), (x_signs, .inl (cI, 255, .inl x_signsF)), (f, .inr (2, [.ref f_kinds, .ref f_signs, .ref f_sizes, .ref f_places, .ref f_limits, .ref f_starts, .ref f_sorts, .int u_20, .int f_sections, .int f_fifth])), (f_kinds, .inl (cI, 255, .inl u_21)), (f_signs, .inl (cI, 255, .inl u_22)), (f_sizes, .inl (cI, 255, .inl u_23)), (f_places, .inl (cI, 255, .inl u_24)), (f_limits, .inl (cD, 255, .inr (.inr (.inr (.inl u_25))))), (f_starts, .inl (cI, 4, .inl f_startsF))]) [1, 2, 3, 4, 5, 6, 7, 8, 0] rfl
    have hD9 := hD.sub (ws' := [(x, .inr (7, [.ref x_signs, .int x_length])), (x_signs, .inl (cI, 255, .inl x_signsF)), (f, .inr (2, [.ref f_kinds, .ref f_signs, .ref f_sizes, .ref f_places, .ref f_limits, .ref f_starts, .ref f_sorts, .int u_20, .int f_sections, .int f_fifth])), (f_kinds, .inl (cI, 255, .inl u_21)), (f_signs, .inl (cI, 255, .inl u_22)), (f_sizes, .inl (cI, 255, .inl u_23)), (f_places, .inl (cI, 255, .inl u_24)), (f_limits, .inl (cD, 255, .inr (.inr (.inr (.inl u_25))))), (f_starts, .inl (cI, 4, .inl f_startsF))]) [1, 2, 3, 4, 5, 6, 7, 8, 0] (by decide) rfl
    exact W.iret (v := x_17) hx hb hr (fun t ht hW => ⟨⟨x_17, (u_20, f_sections, f_fifth, u_21, u_22, u_23, u_24, u_25, f_startsF), rfl, (by (try dsimp only); refine ⟨?_, ?_, ?_, ?_, ?_⟩ <;> first | omega | assumption), by rw [ht]; exact hP9, va_K.moved hW.alike hK, hD9⟩, hS.F ht⟩) hS.2.2 dX8_next_76
  · refine lv_lookup (off := 56) (tgt := 63) hx hb dX8_next_7 (by decide +kernel) (by rw [v_3]; rfl) (by decide) ?_
    refine lv_aload_n hx hb dX8_next_63 rfl (lv_at hl 1 rfl) ?_
    refine lv_aload_n hx hb dX8_next_64 rfl (lv_at hl 2 rfl) ?_
    refine lv_iload_n hx hb dX8_next_65 rfl (lv_at hl 3 rfl) ?_
    have hPc := hP.sub (ws' := [(x, .inr (7, [.ref x_signs, .int x_length])), (x_signs, .inl (cI, 255, .inl x_signsF)), (f, .inr (2, [.ref f_kinds, .ref f_signs, .ref f_sizes, .ref f_places, .ref f_limits, .ref f_starts, .ref f_sorts, .int f_count, .int f_sections, .int f_fifth])), (f_kinds, .inl (cI, 255, .inl f_kindsF)), (f_signs, .inl (cI, 255, .inl f_signsF)), (f_sizes, .inl (cI, 255, .inl f_sizesF)), (f_places, .inl (cI, 255, .inl f_placesF)), (f_limits, .inl (cD, 255, .inr (.inr (.inr (.inl f_limitsF)))))]) [0, 1, 2, 3, 4, 5, 6, 7] rfl
    have hDc := hD.sub (ws' := [(x, .inr (7, [.ref x_signs, .int x_length])), (x_signs, .inl (cI, 255, .inl x_signsF)), (f, .inr (2, [.ref f_kinds, .ref f_signs, .ref f_sizes, .ref f_places, .ref f_limits, .ref f_starts, .ref f_sorts, .int f_count, .int f_sections, .int f_fifth])), (f_kinds, .inl (cI, 255, .inl f_kindsF)), (f_signs, .inl (cI, 255, .inl f_signsF)), (f_sizes, .inl (cI, 255, .inl f_sizesF)), (f_places, .inl (cI, 255, .inl f_placesF)), (f_limits, .inl (cD, 255, .inr (.inr (.inr (.inl f_limitsF)))))]) [0, 1, 2, 3, 4, 5, 6, 7] (by decide) rfl
    have hFc := va_free (wc := [(x, .inr (7, [.ref x_signs, .int x_length])), (x_signs, .inl (cI, 255, .inl x_signsF)), (f, .inr (2, [.ref f_kinds, .ref f_signs, .ref f_sizes, .ref f_places, .ref f_limits, .ref f_starts, .ref f_sorts, .int f_count, .int f_sections, .int f_fifth])), (f_kinds, .inl (cI, 255, .inl f_kindsF)), (f_signs, .inl (cI, 255, .inl f_signsF)), (f_sizes, .inl (cI, 255, .inl f_sizesF)), (f_places, .inl (cI, 255, .inl f_placesF)), (f_limits, .inl (cD, 255, .inr (.inr (.inr (.inl f_limitsF)))))]) hD hS hA [0, 1, 2, 3, 4, 5, 6, 7] rfl
    refine va_calli (va_runS (As := [.ref x, .ref f, .int p1]) (rest := []) ⟨hx, hb, hml, hown, (dr_words hts _)⟩ (c_X8_escaped l D cI cD cJ H.size x x_signs x_length x_signsF f f_kinds f_signs f_sizes f_places f_limits f_starts f_sorts f_count f_sections f_fifth f_kindsF f_signsF f_sizesF f_placesF f_limitsF p1 (by omega) (by omega) (by omega) (by assumption) (by omega) (by omega) (by assumption)) (va_cwS 3 (dr_words hts _) (goodIn_app (goodIn_r _ [14, 15, 7] rfl (by decide +kernel)) (goodIn_sub i_X8_escaped k_X8_escaped)) rfl rfl rfl (by decide +kernel) ⟨Nat.le_of_ble_eq_true rfl, Nat.le_of_ble_eq_true rfl⟩) ⟨fun a U g mk q => by obtain ⟨q0, q1, qP, qK, qD⟩ := q; exact ⟨q0, q1, qP, va_K.moved (u := U) (U := U.calling g mk a) (Vm.Alike.refl U.vm) qK, qD⟩, fun U hU hW => ⟨rfl, by rw [hU], by rw [hU]; exact hPc, va_K.moved hW.alike hK, hDc.weaken (fun _ _ _ _ => trivial)⟩⟩ rfl rfl hl.1 rfl (lv_room (Nat.le_of_ble_eq_true rfl)) dX8_next_66 ⟨Nat.le_of_ble_eq_true rfl, Nat.le_of_ble_eq_true rfl⟩) hS (fun q _ h => hFc q h) hFc (fun x_26 u t H1 locs ht hvm w_27 hB hz1 hk1 hS => ?_)
    obtain ⟨u_28, u_29, u_30, u_31, u_32, u_33⟩ := u
    obtain ⟨hP1, hK1, hD1⟩ := hB
    rw [ht] at hP1
    try dsimp only at w_27
    obtain ⟨hP, hD⟩ := va_join (wr := [(f_starts, .inl (cI, 4, .inl f_startsF))]) (w1 := [(x, .inr (7, [.ref x_signs, .int x_length])), (x_signs, .inl (cI, 255, .inl x_signsF)), (f, .inr (2, [.ref f_kinds, .ref f_signs, .ref f_sizes, .ref f_places, .ref f_limits, .ref f_starts, .ref f_sorts, .int u_28, .int f_sections, .int f_fifth])), (f_kinds, .inl (cI, 255, .inl u_29)), (f_signs, .inl (cI, 255, .inl u_30)), (f_sizes, .inl (cI, 255, .inl u_31)), (f_places, .inl (cI, 255, .inl u_32)), (f_limits, .inl (cD, 255, .inr (.inr (.inr (.inl u_33)))))]) hP hD [0, 1, 2, 3, 4, 5, 6, 7] [8] rfl rfl (by decide) (by decide) hk1 hFc hP1 hD1
    generalize H1 = H at hP hS ⊢
    have hP : va_P D vwCl [(f_starts, .inl (cI, 4, .inl f_startsF)), (x, .inr (7, [.ref x_signs, .int x_length])), (x_signs, .inl (cI, 255, .inl x_signsF)), (f, .inr (2, [.ref f_kinds, .ref f_signs, .ref f_sizes, .ref f_places, .ref f_limits, .ref f_starts, .ref f_sorts, .int u_28, .int f_sections, .int f_fifth])), (f_kinds, .inl (cI, 255, .inl u_29)), (f_signs, .inl (cI, 255, .inl u_30)), (f_sizes, .inl (cI, 255, .inl u_31)), (f_places, .inl (cI, 255, .inl u_32)), (f_limits, .inl (cD, 255, .inr (.inr (.inr (.inl u_33)))))] H := hP
    have hD : va_D A [(f_starts, .inl (cI, 4, .inl f_startsF)), (x, .inr (7, [.ref x_signs, .int x_length])), (x_signs, .inl (cI, 255, .inl x_signsF)), (f, .inr (2, [.ref f_kinds, .ref f_signs, .ref f_sizes, .ref f_places, .ref f_limits, .ref f_starts, .ref f_sorts, .int u_28, .int f_sections, .int f_fifth])), (f_kinds, .inl (cI, 255, .inl u_29)), (f_signs, .inl (cI, 255, .inl u_30)), (f_sizes, .inl (cI, 255, .inl u_31)), (f_places, .inl (cI, 255, .inl u_32)), (f_limits, .inl (cD, 255, .inr (.inr (.inr (.inl u_33)))))] := hD
    obtain ⟨w_27_0, w_27_1, w_27_2⟩ := w_27
    refine W.endD hd0 ?_
    have hP9 := hP.sub (ws' := [(x, .inr (7, [.ref x_signs, .int x_length])), (x_signs, .inl (cI, 255, .inl x_signsF)), (f, .inr (2, [.ref f_kinds, .ref f_signs, .ref f_sizes, .ref f_places, .ref f_limits, .ref f_starts, .ref f_sorts, .int u_28, .int f_sections, .int f_fifth])), (f_kinds, .inl (cI, 255, .inl u_29)), (f_signs, .inl (cI, 255, .inl u_30)), (f_sizes, .inl (cI, 255, .inl u_31)), (f_places, .inl (cI, 255, .inl u_32)), (f_limits, .inl (cD, 255, .inr (.inr (.inr (.inl u_33))))), (f_starts, .inl (cI, 4, .inl f_startsF))]) [1, 2, 3, 4, 5, 6, 7, 8, 0] rfl
    have hD9 := hD.sub (ws' := [(x, .inr (7, [.ref x_signs, .int x_length])), (x_signs, .inl (cI, 255, .inl x_signsF)), (f, .inr (2, [.ref f_kinds, .ref f_signs, .ref f_sizes, .ref f_places, .ref f_limits, .ref f_starts, .ref f_sorts, .int u_28, .int f_sections, .int f_fifth])), (f_kinds, .inl (cI, 255, .inl u_29)), (f_signs, .inl (cI, 255, .inl u_30)), (f_sizes, .inl (cI, 255, .inl u_31)), (f_places, .inl (cI, 255, .inl u_32)), (f_limits, .inl (cD, 255, .inr (.inr (.inr (.inl u_33))))), (f_starts, .inl (cI, 4, .inl f_startsF))]) [1, 2, 3, 4, 5, 6, 7, 8, 0] (by decide) rfl
    exact W.iret (v := x_26) hx hb hr (fun t ht hW => ⟨⟨x_26, (u_28, f_sections, f_fifth, u_29, u_30, u_31, u_32, u_33, f_startsF), rfl, (by (try dsimp only); refine ⟨?_, ?_, ?_, ?_, ?_⟩ <;> first | omega | assumption), by rw [ht]; exact hP9, va_K.moved hW.alike hK, hD9⟩, hS.F ht⟩) hS.2.2 dX8_next_69
  · refine lv_lookup (off := 56) (tgt := 63) hx hb dX8_next_7 (by decide +kernel) (by rw [v_3]; rfl) (by decide) ?_
    refine lv_aload_n hx hb dX8_next_63 rfl (lv_at hl 1 rfl) ?_
    refine lv_aload_n hx hb dX8_next_64 rfl (lv_at hl 2 rfl) ?_
    refine lv_iload_n hx hb dX8_next_65 rfl (lv_at hl 3 rfl) ?_
    have hPc := hP.sub (ws' := [(x, .inr (7, [.ref x_signs, .int x_length])), (x_signs, .inl (cI, 255, .inl x_signsF)), (f, .inr (2, [.ref f_kinds, .ref f_signs, .ref f_sizes, .ref f_places, .ref f_limits, .ref f_starts, .ref f_sorts, .int f_count, .int f_sections, .int f_fifth])), (f_kinds, .inl (cI, 255, .inl f_kindsF)), (f_signs, .inl (cI, 255, .inl f_signsF)), (f_sizes, .inl (cI, 255, .inl f_sizesF)), (f_places, .inl (cI, 255, .inl f_placesF)), (f_limits, .inl (cD, 255, .inr (.inr (.inr (.inl f_limitsF)))))]) [0, 1, 2, 3, 4, 5, 6, 7] rfl
    have hDc := hD.sub (ws' := [(x, .inr (7, [.ref x_signs, .int x_length])), (x_signs, .inl (cI, 255, .inl x_signsF)), (f, .inr (2, [.ref f_kinds, .ref f_signs, .ref f_sizes, .ref f_places, .ref f_limits, .ref f_starts, .ref f_sorts, .int f_count, .int f_sections, .int f_fifth])), (f_kinds, .inl (cI, 255, .inl f_kindsF)), (f_signs, .inl (cI, 255, .inl f_signsF)), (f_sizes, .inl (cI, 255, .inl f_sizesF)), (f_places, .inl (cI, 255, .inl f_placesF)), (f_limits, .inl (cD, 255, .inr (.inr (.inr (.inl f_limitsF)))))]) [0, 1, 2, 3, 4, 5, 6, 7] (by decide) rfl
    have hFc := va_free (wc := [(x, .inr (7, [.ref x_signs, .int x_length])), (x_signs, .inl (cI, 255, .inl x_signsF)), (f, .inr (2, [.ref f_kinds, .ref f_signs, .ref f_sizes, .ref f_places, .ref f_limits, .ref f_starts, .ref f_sorts, .int f_count, .int f_sections, .int f_fifth])), (f_kinds, .inl (cI, 255, .inl f_kindsF)), (f_signs, .inl (cI, 255, .inl f_signsF)), (f_sizes, .inl (cI, 255, .inl f_sizesF)), (f_places, .inl (cI, 255, .inl f_placesF)), (f_limits, .inl (cD, 255, .inr (.inr (.inr (.inl f_limitsF)))))]) hD hS hA [0, 1, 2, 3, 4, 5, 6, 7] rfl
    refine va_calli (va_runS (As := [.ref x, .ref f, .int p1]) (rest := []) ⟨hx, hb, hml, hown, (dr_words hts _)⟩ (c_X8_escaped l D cI cD cJ H.size x x_signs x_length x_signsF f f_kinds f_signs f_sizes f_places f_limits f_starts f_sorts f_count f_sections f_fifth f_kindsF f_signsF f_sizesF f_placesF f_limitsF p1 (by omega) (by omega) (by omega) (by assumption) (by omega) (by omega) (by assumption)) (va_cwS 3 (dr_words hts _) (goodIn_app (goodIn_r _ [14, 15, 7] rfl (by decide +kernel)) (goodIn_sub i_X8_escaped k_X8_escaped)) rfl rfl rfl (by decide +kernel) ⟨Nat.le_of_ble_eq_true rfl, Nat.le_of_ble_eq_true rfl⟩) ⟨fun a U g mk q => by obtain ⟨q0, q1, qP, qK, qD⟩ := q; exact ⟨q0, q1, qP, va_K.moved (u := U) (U := U.calling g mk a) (Vm.Alike.refl U.vm) qK, qD⟩, fun U hU hW => ⟨rfl, by rw [hU], by rw [hU]; exact hPc, va_K.moved hW.alike hK, hDc.weaken (fun _ _ _ _ => trivial)⟩⟩ rfl rfl hl.1 rfl (lv_room (Nat.le_of_ble_eq_true rfl)) dX8_next_66 ⟨Nat.le_of_ble_eq_true rfl, Nat.le_of_ble_eq_true rfl⟩) hS (fun q _ h => hFc q h) hFc (fun x_34 u t H1 locs ht hvm w_35 hB hz1 hk1 hS => ?_)
    obtain ⟨u_36, u_37, u_38, u_39, u_40, u_41⟩ := u
    obtain ⟨hP1, hK1, hD1⟩ := hB
    rw [ht] at hP1
    try dsimp only at w_35
    obtain ⟨hP, hD⟩ := va_join (wr := [(f_starts, .inl (cI, 4, .inl f_startsF))]) (w1 := [(x, .inr (7, [.ref x_signs, .int x_length])), (x_signs, .inl (cI, 255, .inl x_signsF)), (f, .inr (2, [.ref f_kinds, .ref f_signs, .ref f_sizes, .ref f_places, .ref f_limits, .ref f_starts, .ref f_sorts, .int u_36, .int f_sections, .int f_fifth])), (f_kinds, .inl (cI, 255, .inl u_37)), (f_signs, .inl (cI, 255, .inl u_38)), (f_sizes, .inl (cI, 255, .inl u_39)), (f_places, .inl (cI, 255, .inl u_40)), (f_limits, .inl (cD, 255, .inr (.inr (.inr (.inl u_41)))))]) hP hD [0, 1, 2, 3, 4, 5, 6, 7] [8] rfl rfl (by decide) (by decide) hk1 hFc hP1 hD1
    generalize H1 = H at hP hS ⊢
    have hP : va_P D vwCl [(f_starts, .inl (cI, 4, .inl f_startsF)), (x, .inr (7, [.ref x_signs, .int x_length])), (x_signs, .inl (cI, 255, .inl x_signsF)), (f, .inr (2, [.ref f_kinds, .ref f_signs, .ref f_sizes, .ref f_places, .ref f_limits, .ref f_starts, .ref f_sorts, .int u_36, .int f_sections, .int f_fifth])), (f_kinds, .inl (cI, 255, .inl u_37)), (f_signs, .inl (cI, 255, .inl u_38)), (f_sizes, .inl (cI, 255, .inl u_39)), (f_places, .inl (cI, 255, .inl u_40)), (f_limits, .inl (cD, 255, .inr (.inr (.inr (.inl u_41)))))] H := hP
    have hD : va_D A [(f_starts, .inl (cI, 4, .inl f_startsF)), (x, .inr (7, [.ref x_signs, .int x_length])), (x_signs, .inl (cI, 255, .inl x_signsF)), (f, .inr (2, [.ref f_kinds, .ref f_signs, .ref f_sizes, .ref f_places, .ref f_limits, .ref f_starts, .ref f_sorts, .int u_36, .int f_sections, .int f_fifth])), (f_kinds, .inl (cI, 255, .inl u_37)), (f_signs, .inl (cI, 255, .inl u_38)), (f_sizes, .inl (cI, 255, .inl u_39)), (f_places, .inl (cI, 255, .inl u_40)), (f_limits, .inl (cD, 255, .inr (.inr (.inr (.inl u_41)))))] := hD
    obtain ⟨w_35_0, w_35_1, w_35_2⟩ := w_35
    refine W.endD hd0 ?_
    have hP9 := hP.sub (ws' := [(x, .inr (7, [.ref x_signs, .int x_length])), (x_signs, .inl (cI, 255, .inl x_signsF)), (f, .inr (2, [.ref f_kinds, .ref f_signs, .ref f_sizes, .ref f_places, .ref f_limits, .ref f_starts, .ref f_sorts, .int u_36, .int f_sections, .int f_fifth])), (f_kinds, .inl (cI, 255, .inl u_37)), (f_signs, .inl (cI, 255, .inl u_38)), (f_sizes, .inl (cI, 255, .inl u_39)), (f_places, .inl (cI, 255, .inl u_40)), (f_limits, .inl (cD, 255, .inr (.inr (.inr (.inl u_41))))), (f_starts, .inl (cI, 4, .inl f_startsF))]) [1, 2, 3, 4, 5, 6, 7, 8, 0] rfl
    have hD9 := hD.sub (ws' := [(x, .inr (7, [.ref x_signs, .int x_length])), (x_signs, .inl (cI, 255, .inl x_signsF)), (f, .inr (2, [.ref f_kinds, .ref f_signs, .ref f_sizes, .ref f_places, .ref f_limits, .ref f_starts, .ref f_sorts, .int u_36, .int f_sections, .int f_fifth])), (f_kinds, .inl (cI, 255, .inl u_37)), (f_signs, .inl (cI, 255, .inl u_38)), (f_sizes, .inl (cI, 255, .inl u_39)), (f_places, .inl (cI, 255, .inl u_40)), (f_limits, .inl (cD, 255, .inr (.inr (.inr (.inl u_41))))), (f_starts, .inl (cI, 4, .inl f_startsF))]) [1, 2, 3, 4, 5, 6, 7, 8, 0] (by decide) rfl
    exact W.iret (v := x_34) hx hb hr (fun t ht hW => ⟨⟨x_34, (u_36, f_sections, f_fifth, u_37, u_38, u_39, u_40, u_41, f_startsF), rfl, (by (try dsimp only); refine ⟨?_, ?_, ?_, ?_, ?_⟩ <;> first | omega | assumption), by rw [ht]; exact hP9, va_K.moved hW.alike hK, hD9⟩, hS.F ht⟩) hS.2.2 dX8_next_69
  · obtain ⟨v_3_0, v_3_1, v_3_2, v_3_3, v_3_4⟩ := v_3
    refine lv_lookup (off := 79) (tgt := 86) hx hb dX8_next_7 (by decide +kernel) (by rw [Op.lookupswitch.offset_cons, if_neg v_3_0]; rw [Op.lookupswitch.offset_cons, if_neg v_3_1]; rw [Op.lookupswitch.offset_cons, if_neg v_3_2]; rw [Op.lookupswitch.offset_cons, if_neg v_3_3]; rw [Op.lookupswitch.offset_cons, if_neg v_3_4];  rfl) (by decide) ?_
    refine lv_aload_n hx hb dX8_next_86 rfl (lv_at hl 1 rfl) ?_
    refine lv_iload_n hx hb dX8_next_87 rfl (lv_at hl 3 rfl) ?_
    have hPc := hP.sub (ws' := [(x, .inr (7, [.ref x_signs, .int x_length])), (x_signs, .inl (cI, 255, .inl x_signsF))]) [0, 1] rfl
    refine va_calli (va_runV (As := [.int p1]) (rest := []) ⟨hx, hb, hml, hown, (dr_words hts _)⟩ (c_X10_smallAt l D cI cD cJ H.size x x_signs x_length x_signsF p1 (by omega) (by assumption)) (cwV 1 (dr_words hts _) (goodIn_app (goodIn_r _ [16, 17, 18, 4] rfl (by decide +kernel)) (goodIn_sub i_X10_smallAt k_X10_smallAt)) rfl rfl rfl (by decide +kernel) ⟨Nat.le_of_ble_eq_true rfl, Nat.le_of_ble_eq_true rfl⟩) ⟨fun a U g mk q => by obtain ⟨q0, qP, qK⟩ := q; exact ⟨q0, qP, va_K.moved (u := U) (U := U.calling g mk a) (Vm.Alike.refl U.vm) qK⟩, va_recv hK hPc (ci := 7) (q0 := 0) rfl rfl, fun U hU hW => ⟨rfl, by rw [hU]; exact hPc, va_K.moved hW.alike hK⟩⟩ rfl rfl hl.1 rfl (lv_room (Nat.le_of_ble_eq_true rfl)) dX8_next_88 ⟨Nat.le_of_ble_eq_true rfl, Nat.le_of_ble_eq_true rfl⟩) hS (fun q _ h => h.elim) (fun q h => h.elim) (fun x_42 u t H1 locs ht hvm w_43 hB hz1 hk1 hS => ?_)
    have hP : va_P D vwCl [(x, .inr (7, [.ref x_signs, .int x_length])), (x_signs, .inl (cI, 255, .inl x_signsF)), (f, .inr (2, [.ref f_kinds, .ref f_signs, .ref f_sizes, .ref f_places, .ref f_limits, .ref f_starts, .ref f_sorts, .int f_count, .int f_sections, .int f_fifth])), (f_kinds, .inl (cI, 255, .inl f_kindsF)), (f_signs, .inl (cI, 255, .inl f_signsF)), (f_sizes, .inl (cI, 255, .inl f_sizesF)), (f_places, .inl (cI, 255, .inl f_placesF)), (f_limits, .inl (cD, 255, .inr (.inr (.inr (.inl f_limitsF))))), (f_starts, .inl (cI, 4, .inl f_startsF))] H1 := hP.kept (fun k9 q9 h9 => hk1 q9.1 (vx_lt hP h9) (fun h => h))
    generalize H1 = H at hP hS ⊢
    try dsimp only at w_43
    refine lv_istore (lv' := [(4, .int x_42), (3, .int x_1), (0, .ref x), (1, .ref f), (2, .int p1)]) hx hb dX8_next_91 hl (by decide) rfl (fun ls hl => ?_)
    refine lv_iload hx hb dX8_next_93 (lv_at hl 0 rfl) ?_
    refine lv_bipush (v := 97) hx hb dX8_next_95 (by decide) ?_
    have K_114 : ∀ (H : Heap) (locs : List Loc) (ls : Array Slot) (dq114_44 : Drawn), s.drawn.sameBut dq114_44 lw_cs → va_P D vwCl [(x, .inr (7, [.ref x_signs, .int x_length])), (x_signs, .inl (cI, 255, .inl x_signsF)), (f, .inr (2, [.ref f_kinds, .ref f_signs, .ref f_sizes, .ref f_places, .ref f_limits, .ref f_starts, .ref f_sorts, .int f_count, .int f_sections, .int f_fifth])), (f_kinds, .inl (cI, 255, .inl f_kindsF)), (f_signs, .inl (cI, 255, .inl f_signsF)), (f_sizes, .inl (cI, 255, .inl f_sizesF)), (f_places, .inl (cI, 255, .inl f_placesF)), (f_limits, .inl (cD, 255, .inr (.inr (.inr (.inl f_limitsF))))), (f_starts, .inl (cI, 4, .inl f_startsF))] H → va_D A [(x, .inr (7, [.ref x_signs, .int x_length])), (x_signs, .inl (cI, 255, .inl x_signsF)), (f, .inr (2, [.ref f_kinds, .ref f_signs, .ref f_sizes, .ref f_places, .ref f_limits, .ref f_starts, .ref f_sorts, .int f_count, .int f_sections, .int f_fifth])), (f_kinds, .inl (cI, 255, .inl f_kindsF)), (f_signs, .inl (cI, 255, .inl f_signsF)), (f_sizes, .inl (cI, 255, .inl f_sizesF)), (f_places, .inl (cI, 255, .inl f_placesF)), (f_limits, .inl (cD, 255, .inr (.inr (.inr (.inl f_limitsF))))), (f_starts, .inl (cI, 4, .inl f_startsF))] → va_S A s.heap H locs → lv_has ls 5 [(3, .int x_1), (0, .ref x), (1, .ref f), (2, .int p1)] → Z dq114_44 0 0 H locs (F0 m 114 ls []) := by
      intro  H locs ls dq114_44 hdq114_44  hP hD hS hl
      refine hZ2 ?_
      refine lv_iload_n hx hb dX8_next_114 rfl (lv_at hl 0 rfl) ?_
      refine lv_bipush (v := 49) hx hb dX8_next_115 (by decide) ?_
      have K_133 : ∀ (H : Heap) (locs : List Loc) (ls : Array Slot) (dq133_45 : Drawn), s.drawn.sameBut dq133_45 lw_cs → va_P D vwCl [(x, .inr (7, [.ref x_signs, .int x_length])), (x_signs, .inl (cI, 255, .inl x_signsF)), (f, .inr (2, [.ref f_kinds, .ref f_signs, .ref f_sizes, .ref f_places, .ref f_limits, .ref f_starts, .ref f_sorts, .int f_count, .int f_sections, .int f_fifth])), (f_kinds, .inl (cI, 255, .inl f_kindsF)), (f_signs, .inl (cI, 255, .inl f_signsF)), (f_sizes, .inl (cI, 255, .inl f_sizesF)), (f_places, .inl (cI, 255, .inl f_placesF)), (f_limits, .inl (cD, 255, .inr (.inr (.inr (.inl f_limitsF))))), (f_starts, .inl (cI, 4, .inl f_startsF))] H → va_D A [(x, .inr (7, [.ref x_signs, .int x_length])), (x_signs, .inl (cI, 255, .inl x_signsF)), (f, .inr (2, [.ref f_kinds, .ref f_signs, .ref f_sizes, .ref f_places, .ref f_limits, .ref f_starts, .ref f_sorts, .int f_count, .int f_sections, .int f_fifth])), (f_kinds, .inl (cI, 255, .inl f_kindsF)), (f_signs, .inl (cI, 255, .inl f_signsF)), (f_sizes, .inl (cI, 255, .inl f_sizesF)), (f_places, .inl (cI, 255, .inl f_placesF)), (f_limits, .inl (cD, 255, .inr (.inr (.inr (.inl f_limitsF))))), (f_starts, .inl (cI, 4, .inl f_startsF))] → va_S A s.heap H locs → lv_has ls 5 [(3, .int x_1), (1, .ref f), (2, .int p1)] → Z dq133_45 0 0 H locs (F0 m 133 ls []) := by
        intro  H locs ls dq133_45 hdq133_45  hP hD hS hl
        refine hZ2 ?_
        refine lv_aload_n hx hb dX8_next_133 rfl (lv_at hl 1 rfl) ?_
        refine lv_iload_n hx hb dX8_next_134 rfl (lv_at hl 0 rfl) ?_
        have hPc := hP.sub (ws' := []) [] rfl
        refine va_calli (va_runS (As := [.int x_1]) (rest := [.ref f]) ⟨hx, hb, hml, hown, (dr_words hts _)⟩ (c_X8_kindOf l D cI cD cJ H.size x_1 aQ aT aF) (va_cwS 1 (dr_words hts _) (goodIn_app (goodIn_r _ [19, 20, 7] rfl (by decide +kernel)) (goodIn_sub i_X8_kindOf k_X8_kindOf)) rfl rfl rfl (by decide +kernel) ⟨Nat.le_of_ble_eq_true rfl, Nat.le_of_ble_eq_true rfl⟩) ⟨fun a U g mk q => by obtain ⟨q0, qP, qK, hq0⟩ := q; exact ⟨q0, qP, va_K.moved (u := U) (U := U.calling g mk a) (Vm.Alike.refl U.vm) qK, TZA.same hq0 rfl⟩, fun U hU hW => ⟨rfl, by rw [hU]; exact hPc, va_K.moved hW.alike hK, by rw [hU]; exact TZA.warm hW hE0 hS (fun q h => h.elim)⟩⟩ rfl rfl hl.1 rfl (lv_room (Nat.le_of_ble_eq_true rfl)) dX8_next_135 ⟨Nat.le_of_ble_eq_true rfl, Nat.le_of_ble_eq_true rfl⟩) hS (fun q _ h => h.elim) (fun q h => h.elim) (fun x_46 u t H1 locs ht hvm w_47 hB hz1 hk1 hS => ?_)
        have hP : va_P D vwCl [(x, .inr (7, [.ref x_signs, .int x_length])), (x_signs, .inl (cI, 255, .inl x_signsF)), (f, .inr (2, [.ref f_kinds, .ref f_signs, .ref f_sizes, .ref f_places, .ref f_limits, .ref f_starts, .ref f_sorts, .int f_count, .int f_sections, .int f_fifth])), (f_kinds, .inl (cI, 255, .inl f_kindsF)), (f_signs, .inl (cI, 255, .inl f_signsF)), (f_sizes, .inl (cI, 255, .inl f_sizesF)), (f_places, .inl (cI, 255, .inl f_placesF)), (f_limits, .inl (cD, 255, .inr (.inr (.inr (.inl f_limitsF))))), (f_starts, .inl (cI, 4, .inl f_startsF))] H1 := hP.kept (fun k9 q9 h9 => hk1 q9.1 (vx_lt hP h9) (fun h => h))
        generalize H1 = H at hP hS ⊢
        have b_x_46 := ti_b x_46
        refine lv_iload_n hx hb dX8_next_138 rfl (lv_at hl 0 rfl) ?_
        refine lv_iconst (v := 1) hx hb dX8_next_139 (by decide) ?_
        refine lv_iload_n hx hb dX8_next_140 rfl (lv_at hl 2 rfl) ?_
        have hPc := hP.sub (ws' := [(f, .inr (2, [.ref f_kinds, .ref f_signs, .ref f_sizes, .ref f_places, .ref f_limits, .ref f_starts, .ref f_sorts, .int f_count, .int f_sections, .int f_fifth])), (f_kinds, .inl (cI, 255, .inl f_kindsF)), (f_signs, .inl (cI, 255, .inl f_signsF)), (f_sizes, .inl (cI, 255, .inl f_sizesF)), (f_places, .inl (cI, 255, .inl f_placesF)), (f_limits, .inl (cD, 255, .inr (.inr (.inr (.inl f_limitsF)))))]) [2, 3, 4, 5, 6, 7] rfl
        have hDc := hD.sub (ws' := [(f, .inr (2, [.ref f_kinds, .ref f_signs, .ref f_sizes, .ref f_places, .ref f_limits, .ref f_starts, .ref f_sorts, .int f_count, .int f_sections, .int f_fifth])), (f_kinds, .inl (cI, 255, .inl f_kindsF)), (f_signs, .inl (cI, 255, .inl f_signsF)), (f_sizes, .inl (cI, 255, .inl f_sizesF)), (f_places, .inl (cI, 255, .inl f_placesF)), (f_limits, .inl (cD, 255, .inr (.inr (.inr (.inl f_limitsF)))))]) [2, 3, 4, 5, 6, 7] (by decide) rfl
        have hFc := va_free (wc := [(f, .inr (2, [.ref f_kinds, .ref f_signs, .ref f_sizes, .ref f_places, .ref f_limits, .ref f_starts, .ref f_sorts, .int f_count, .int f_sections, .int f_fifth])), (f_kinds, .inl (cI, 255, .inl f_kindsF)), (f_signs, .inl (cI, 255, .inl f_signsF)), (f_sizes, .inl (cI, 255, .inl f_sizesF)), (f_places, .inl (cI, 255, .inl f_placesF)), (f_limits, .inl (cD, 255, .inr (.inr (.inr (.inl f_limitsF)))))]) hD hS hA [2, 3, 4, 5, 6, 7] rfl
        refine va_callv (va_runV (As := [.int x_46, .int x_1, .int 1, .int p1]) (rest := []) ⟨hx, hb, hml, hown, (dr_words hts _)⟩ (c_X2_add l D cI cD cJ H.size f f_kinds f_signs f_sizes f_places f_limits f_starts f_sorts f_count f_sections f_fifth f_kindsF f_signsF f_sizesF f_placesF f_limitsF x_46 x_1 1 p1 (by omega) (by omega) (by omega) (by assumption)) (cwV 4 (dr_words hts _) (goodIn_app (goodIn_r _ [21, 22, 23, 11] rfl (by decide +kernel)) (goodIn_sub i_X2_add k_X2_add)) rfl rfl rfl (by decide +kernel) ⟨Nat.le_of_ble_eq_true rfl, Nat.le_of_ble_eq_true rfl⟩) ⟨fun a U g mk q => by obtain ⟨q0, q1, qP, qK, qD⟩ := q; exact ⟨q0, q1, qP, va_K.moved (u := U) (U := U.calling g mk a) (Vm.Alike.refl U.vm) qK, qD⟩, va_recv hK hPc (ci := 2) (q0 := 0) rfl rfl, fun U hU hW => ⟨rfl, by rw [hU], by rw [hU]; exact hPc, va_K.moved hW.alike hK, hDc.weaken (fun _ _ _ _ => trivial)⟩⟩ rfl rfl hl.1 rfl (lv_room (Nat.le_of_ble_eq_true rfl)) dX8_next_141 ⟨Nat.le_of_ble_eq_true rfl, Nat.le_of_ble_eq_true rfl⟩) hS (fun q _ h => hFc q h) hFc (fun u t H1 locs ht hvm w_48 hB hz1 hk1 hS => ?_)
        obtain ⟨u_49, u_50, u_51, u_52, u_53, u_54⟩ := u
        obtain ⟨hP1, hK1, hD1⟩ := hB
        rw [ht] at hP1
        try dsimp only at w_48
        obtain ⟨hP, hD⟩ := va_join (wr := [(x, .inr (7, [.ref x_signs, .int x_length])), (x_signs, .inl (cI, 255, .inl x_signsF)), (f_starts, .inl (cI, 4, .inl f_startsF))]) (w1 := [(f, .inr (2, [.ref f_kinds, .ref f_signs, .ref f_sizes, .ref f_places, .ref f_limits, .ref f_starts, .ref f_sorts, .int u_49, .int f_sections, .int f_fifth])), (f_kinds, .inl (cI, 255, .inl u_50)), (f_signs, .inl (cI, 255, .inl u_51)), (f_sizes, .inl (cI, 255, .inl u_52)), (f_places, .inl (cI, 255, .inl u_53)), (f_limits, .inl (cD, 255, .inr (.inr (.inr (.inl u_54)))))]) hP hD [2, 3, 4, 5, 6, 7] [0, 1, 8] rfl rfl (by decide) (by decide) hk1 hFc hP1 hD1
        generalize H1 = H at hP hS ⊢
        have hP : va_P D vwCl [(x, .inr (7, [.ref x_signs, .int x_length])), (x_signs, .inl (cI, 255, .inl x_signsF)), (f_starts, .inl (cI, 4, .inl f_startsF)), (f, .inr (2, [.ref f_kinds, .ref f_signs, .ref f_sizes, .ref f_places, .ref f_limits, .ref f_starts, .ref f_sorts, .int u_49, .int f_sections, .int f_fifth])), (f_kinds, .inl (cI, 255, .inl u_50)), (f_signs, .inl (cI, 255, .inl u_51)), (f_sizes, .inl (cI, 255, .inl u_52)), (f_places, .inl (cI, 255, .inl u_53)), (f_limits, .inl (cD, 255, .inr (.inr (.inr (.inl u_54)))))] H := hP
        have hD : va_D A [(x, .inr (7, [.ref x_signs, .int x_length])), (x_signs, .inl (cI, 255, .inl x_signsF)), (f_starts, .inl (cI, 4, .inl f_startsF)), (f, .inr (2, [.ref f_kinds, .ref f_signs, .ref f_sizes, .ref f_places, .ref f_limits, .ref f_starts, .ref f_sorts, .int u_49, .int f_sections, .int f_fifth])), (f_kinds, .inl (cI, 255, .inl u_50)), (f_signs, .inl (cI, 255, .inl u_51)), (f_sizes, .inl (cI, 255, .inl u_52)), (f_places, .inl (cI, 255, .inl u_53)), (f_limits, .inl (cD, 255, .inr (.inr (.inr (.inl u_54)))))] := hD
        obtain ⟨w_48_0, w_48_1⟩ := w_48
        refine lv_iload_n hx hb dX8_next_144 rfl (lv_at hl 2 rfl) ?_
        refine lv_iconst (v := 1) hx hb dX8_next_145 (by decide) ?_
        refine lv_iadd hx hb dX8_next_146 ?_
        refine lv_topi (fun x_55 ex_55 => ?_)
        have b_p1 := ti_b p1
        have tx_55 := ti_add ex_55
        refine W.endD hdq133_45 ?_
        have hP9 := hP.sub (ws' := [(x, .inr (7, [.ref x_signs, .int x_length])), (x_signs, .inl (cI, 255, .inl x_signsF)), (f, .inr (2, [.ref f_kinds, .ref f_signs, .ref f_sizes, .ref f_places, .ref f_limits, .ref f_starts, .ref f_sorts, .int u_49, .int f_sections, .int f_fifth])), (f_kinds, .inl (cI, 255, .inl u_50)), (f_signs, .inl (cI, 255, .inl u_51)), (f_sizes, .inl (cI, 255, .inl u_52)), (f_places, .inl (cI, 255, .inl u_53)), (f_limits, .inl (cD, 255, .inr (.inr (.inr (.inl u_54))))), (f_starts, .inl (cI, 4, .inl f_startsF))]) [0, 1, 3, 4, 5, 6, 7, 8, 2] rfl
        have hD9 := hD.sub (ws' := [(x, .inr (7, [.ref x_signs, .int x_length])), (x_signs, .inl (cI, 255, .inl x_signsF)), (f, .inr (2, [.ref f_kinds, .ref f_signs, .ref f_sizes, .ref f_places, .ref f_limits, .ref f_starts, .ref f_sorts, .int u_49, .int f_sections, .int f_fifth])), (f_kinds, .inl (cI, 255, .inl u_50)), (f_signs, .inl (cI, 255, .inl u_51)), (f_sizes, .inl (cI, 255, .inl u_52)), (f_places, .inl (cI, 255, .inl u_53)), (f_limits, .inl (cD, 255, .inr (.inr (.inr (.inl u_54))))), (f_starts, .inl (cI, 4, .inl f_startsF))]) [0, 1, 3, 4, 5, 6, 7, 8, 2] (by decide) rfl
        exact W.iret (v := x_55) hx hb hr (fun t ht hW => ⟨⟨x_55, (u_49, f_sections, f_fifth, u_50, u_51, u_52, u_53, u_54, f_startsF), rfl, (by (try dsimp only); refine ⟨?_, ?_, ?_, ?_, ?_⟩ <;> first | omega | assumption), by rw [ht]; exact hP9, va_K.moved hW.alike hK, hD9⟩, hS.F ht⟩) hS.2.2 dX8_next_147
      refine lv_icmp_lt (tgt := 133) hx hb dX8_next_117 (by decide) (fun c_56 => ?_) (fun c_56 => ?_)
      · have ic_56 : (x_1 : Int32).toInt < (49 : Int32).toInt := (fa_lt x_1 49).mp c_56
        exact hZ1 (K_133  _ _ _ dq114_44 hdq114_44 hP hD hS (lv_sub hl [0, 2, 3] rfl))
      · have ic_56 : ¬ ((x_1 : Int32).toInt < (49 : Int32).toInt) := fun h9 => c_56 ((fa_lt x_1 49).mpr h9)
        refine lv_iload_n hx hb dX8_next_120 rfl (lv_at hl 0 rfl) ?_
        refine lv_bipush (v := 57) hx hb dX8_next_121 (by decide) ?_
        refine lv_icmp_gt (tgt := 133) hx hb dX8_next_123 (by decide) (fun c_57 => ?_) (fun c_57 => ?_)
        · have ic_57 : (57 : Int32).toInt < (x_1 : Int32).toInt := (fa_lt 57 x_1).mp c_57
          exact hZ1 (K_133  _ _ _ dq114_44 hdq114_44 hP hD hS (lv_sub hl [0, 2, 3] rfl))
        · have ic_57 : ¬ ((57 : Int32).toInt < (x_1 : Int32).toInt) := fun h9 => c_57 ((fa_lt 57 x_1).mpr h9)
          refine lv_aload_n hx hb dX8_next_126 rfl (lv_at hl 1 rfl) ?_
          refine lv_aload_n hx hb dX8_next_127 rfl (lv_at hl 2 rfl) ?_
          refine lv_iload_n hx hb dX8_next_128 rfl (lv_at hl 3 rfl) ?_
          have hPc := hP.sub (ws' := [(x, .inr (7, [.ref x_signs, .int x_length])), (x_signs, .inl (cI, 255, .inl x_signsF)), (f, .inr (2, [.ref f_kinds, .ref f_signs, .ref f_sizes, .ref f_places, .ref f_limits, .ref f_starts, .ref f_sorts, .int f_count, .int f_sections, .int f_fifth])), (f_kinds, .inl (cI, 255, .inl f_kindsF)), (f_signs, .inl (cI, 255, .inl f_signsF)), (f_sizes, .inl (cI, 255, .inl f_sizesF)), (f_places, .inl (cI, 255, .inl f_placesF)), (f_limits, .inl (cD, 255, .inr (.inr (.inr (.inl f_limitsF))))), (f_starts, .inl (cI, 4, .inl f_startsF))]) [0, 1, 2, 3, 4, 5, 6, 7, 8] rfl
          have hDc := hD.sub (ws' := [(x, .inr (7, [.ref x_signs, .int x_length])), (x_signs, .inl (cI, 255, .inl x_signsF)), (f, .inr (2, [.ref f_kinds, .ref f_signs, .ref f_sizes, .ref f_places, .ref f_limits, .ref f_starts, .ref f_sorts, .int f_count, .int f_sections, .int f_fifth])), (f_kinds, .inl (cI, 255, .inl f_kindsF)), (f_signs, .inl (cI, 255, .inl f_signsF)), (f_sizes, .inl (cI, 255, .inl f_sizesF)), (f_places, .inl (cI, 255, .inl f_placesF)), (f_limits, .inl (cD, 255, .inr (.inr (.inr (.inl f_limitsF))))), (f_starts, .inl (cI, 4, .inl f_startsF))]) [0, 1, 2, 3, 4, 5, 6, 7, 8] (by decide) rfl
          have hFc := va_free (wc := [(x, .inr (7, [.ref x_signs, .int x_length])), (x_signs, .inl (cI, 255, .inl x_signsF)), (f, .inr (2, [.ref f_kinds, .ref f_signs, .ref f_sizes, .ref f_places, .ref f_limits, .ref f_starts, .ref f_sorts, .int f_count, .int f_sections, .int f_fifth])), (f_kinds, .inl (cI, 255, .inl f_kindsF)), (f_signs, .inl (cI, 255, .inl f_signsF)), (f_sizes, .inl (cI, 255, .inl f_sizesF)), (f_places, .inl (cI, 255, .inl f_placesF)), (f_limits, .inl (cD, 255, .inr (.inr (.inr (.inl f_limitsF))))), (f_starts, .inl (cI, 4, .inl f_startsF))]) hD hS hA [0, 1, 2, 3, 4, 5, 6, 7, 8] rfl
          refine va_calli (va_runS (As := [.ref x, .ref f, .int p1]) (rest := []) ⟨hx, hb, hml, hown, (dr_words hts _)⟩ (c_X8_divisor l D cI cD cJ H.size x x_signs x_length x_signsF f f_kinds f_signs f_sizes f_places f_limits f_starts f_sorts f_count f_sections f_fifth f_kindsF f_signsF f_sizesF f_placesF f_limitsF f_startsF p1 (by omega) (by omega) (by omega) (by assumption) (by omega) (by omega) (by assumption) (by assumption)) (va_cwS 3 (dr_words hts _) (goodIn_app (goodIn_r _ [24, 25, 7] rfl (by decide +kernel)) (goodIn_sub i_X8_divisor k_X8_divisor)) rfl rfl rfl (by decide +kernel) ⟨Nat.le_of_ble_eq_true rfl, Nat.le_of_ble_eq_true rfl⟩) ⟨fun a U g mk q => by obtain ⟨q0, q1, qP, qK, qD⟩ := q; exact ⟨q0, q1, qP, va_K.moved (u := U) (U := U.calling g mk a) (Vm.Alike.refl U.vm) qK, qD⟩, fun U hU hW => ⟨rfl, by rw [hU], by rw [hU]; exact hPc, va_K.moved hW.alike hK, hDc.weaken (fun _ _ _ _ => trivial)⟩⟩ rfl rfl hl.1 rfl (lv_room (Nat.le_of_ble_eq_true rfl)) dX8_next_129 ⟨Nat.le_of_ble_eq_true rfl, Nat.le_of_ble_eq_true rfl⟩) hS (fun q _ h => hFc q h) hFc (fun x_58 u t H1 locs ht hvm w_59 hB hz1 hk1 hS => ?_)
          obtain ⟨u_60, u_61, u_62, u_63, u_64, u_65⟩ := u
          obtain ⟨hP1, hK1, hD1⟩ := hB
          rw [ht] at hP1
          try dsimp only at w_59
          obtain ⟨hP, hD⟩ := va_join (wr := []) (w1 := [(x, .inr (7, [.ref x_signs, .int x_length])), (x_signs, .inl (cI, 255, .inl x_signsF)), (f, .inr (2, [.ref f_kinds, .ref f_signs, .ref f_sizes, .ref f_places, .ref f_limits, .ref f_starts, .ref f_sorts, .int u_60, .int f_sections, .int f_fifth])), (f_kinds, .inl (cI, 255, .inl u_61)), (f_signs, .inl (cI, 255, .inl u_62)), (f_sizes, .inl (cI, 255, .inl u_63)), (f_places, .inl (cI, 255, .inl u_64)), (f_limits, .inl (cD, 255, .inr (.inr (.inr (.inl u_65))))), (f_starts, .inl (cI, 4, .inl f_startsF))]) hP hD [0, 1, 2, 3, 4, 5, 6, 7, 8] [] rfl rfl (by decide) (by decide) hk1 hFc hP1 hD1
          generalize H1 = H at hP hS ⊢
          have hP : va_P D vwCl [(x, .inr (7, [.ref x_signs, .int x_length])), (x_signs, .inl (cI, 255, .inl x_signsF)), (f, .inr (2, [.ref f_kinds, .ref f_signs, .ref f_sizes, .ref f_places, .ref f_limits, .ref f_starts, .ref f_sorts, .int u_60, .int f_sections, .int f_fifth])), (f_kinds, .inl (cI, 255, .inl u_61)), (f_signs, .inl (cI, 255, .inl u_62)), (f_sizes, .inl (cI, 255, .inl u_63)), (f_places, .inl (cI, 255, .inl u_64)), (f_limits, .inl (cD, 255, .inr (.inr (.inr (.inl u_65))))), (f_starts, .inl (cI, 4, .inl f_startsF))] H := hP
          have hD : va_D A [(x, .inr (7, [.ref x_signs, .int x_length])), (x_signs, .inl (cI, 255, .inl x_signsF)), (f, .inr (2, [.ref f_kinds, .ref f_signs, .ref f_sizes, .ref f_places, .ref f_limits, .ref f_starts, .ref f_sorts, .int u_60, .int f_sections, .int f_fifth])), (f_kinds, .inl (cI, 255, .inl u_61)), (f_signs, .inl (cI, 255, .inl u_62)), (f_sizes, .inl (cI, 255, .inl u_63)), (f_places, .inl (cI, 255, .inl u_64)), (f_limits, .inl (cD, 255, .inr (.inr (.inr (.inl u_65))))), (f_starts, .inl (cI, 4, .inl f_startsF))] := hD
          obtain ⟨w_59_0, w_59_1, w_59_2⟩ := w_59
          refine W.endD hdq114_44 ?_
          have hP9 := hP.sub (ws' := [(x, .inr (7, [.ref x_signs, .int x_length])), (x_signs, .inl (cI, 255, .inl x_signsF)), (f, .inr (2, [.ref f_kinds, .ref f_signs, .ref f_sizes, .ref f_places, .ref f_limits, .ref f_starts, .ref f_sorts, .int u_60, .int f_sections, .int f_fifth])), (f_kinds, .inl (cI, 255, .inl u_61)), (f_signs, .inl (cI, 255, .inl u_62)), (f_sizes, .inl (cI, 255, .inl u_63)), (f_places, .inl (cI, 255, .inl u_64)), (f_limits, .inl (cD, 255, .inr (.inr (.inr (.inl u_65))))), (f_starts, .inl (cI, 4, .inl f_startsF))]) [0, 1, 2, 3, 4, 5, 6, 7, 8] rfl
          have hD9 := hD.sub (ws' := [(x, .inr (7, [.ref x_signs, .int x_length])), (x_signs, .inl (cI, 255, .inl x_signsF)), (f, .inr (2, [.ref f_kinds, .ref f_signs, .ref f_sizes, .ref f_places, .ref f_limits, .ref f_starts, .ref f_sorts, .int u_60, .int f_sections, .int f_fifth])), (f_kinds, .inl (cI, 255, .inl u_61)), (f_signs, .inl (cI, 255, .inl u_62)), (f_sizes, .inl (cI, 255, .inl u_63)), (f_places, .inl (cI, 255, .inl u_64)), (f_limits, .inl (cD, 255, .inr (.inr (.inr (.inl u_65))))), (f_starts, .inl (cI, 4, .inl f_startsF))]) [0, 1, 2, 3, 4, 5, 6, 7, 8] (by decide) rfl
          exact W.iret (v := x_58) hx hb hr (fun t ht hW => ⟨⟨x_58, (u_60, f_sections, f_fifth, u_61, u_62, u_63, u_64, u_65, f_startsF), rfl, (by (try dsimp only); refine ⟨?_, ?_, ?_, ?_, ?_⟩ <;> first | omega | assumption), by rw [ht]; exact hP9, va_K.moved hW.alike hK, hD9⟩, hS.F ht⟩) hS.2.2 dX8_next_132
    refine lv_icmp_lt (tgt := 114) hx hb dX8_next_97 (by decide) (fun c_66 => ?_) (fun c_66 => ?_)
    · have ic_66 : (x_42 : Int32).toInt < (97 : Int32).toInt := (fa_lt x_42 97).mp c_66
      exact hZ1 (K_114  _ _ _ s.drawn hd0 hP hD hS (lv_sub hl [1, 2, 3, 4] rfl))
    · have ic_66 : ¬ ((x_42 : Int32).toInt < (97 : Int32).toInt) := fun h9 => c_66 ((fa_lt x_42 97).mpr h9)
      refine lv_iload hx hb dX8_next_100 (lv_at hl 0 rfl) ?_
      refine lv_bipush (v := 122) hx hb dX8_next_102 (by decide) ?_
      refine lv_icmp_gt (tgt := 114) hx hb dX8_next_104 (by decide) (fun c_67 => ?_) (fun c_67 => ?_)
      · have ic_67 : (122 : Int32).toInt < (x_42 : Int32).toInt := (fa_lt 122 x_42).mp c_67
        exact hZ1 (K_114  _ _ _ s.drawn hd0 hP hD hS (lv_sub hl [1, 2, 3, 4] rfl))
      · have ic_67 : ¬ ((122 : Int32).toInt < (x_42 : Int32).toInt) := fun h9 => c_67 ((fa_lt 122 x_42).mpr h9)
        refine lv_aload_n hx hb dX8_next_107 rfl (lv_at hl 2 rfl) ?_
        refine lv_aload_n hx hb dX8_next_108 rfl (lv_at hl 3 rfl) ?_
        refine lv_iload_n hx hb dX8_next_109 rfl (lv_at hl 4 rfl) ?_
        have hPc := hP.sub (ws' := [(x, .inr (7, [.ref x_signs, .int x_length])), (x_signs, .inl (cI, 255, .inl x_signsF)), (f, .inr (2, [.ref f_kinds, .ref f_signs, .ref f_sizes, .ref f_places, .ref f_limits, .ref f_starts, .ref f_sorts, .int f_count, .int f_sections, .int f_fifth])), (f_kinds, .inl (cI, 255, .inl f_kindsF)), (f_signs, .inl (cI, 255, .inl f_signsF)), (f_sizes, .inl (cI, 255, .inl f_sizesF)), (f_places, .inl (cI, 255, .inl f_placesF)), (f_limits, .inl (cD, 255, .inr (.inr (.inr (.inl f_limitsF)))))]) [0, 1, 2, 3, 4, 5, 6, 7] rfl
        have hDc := hD.sub (ws' := [(x, .inr (7, [.ref x_signs, .int x_length])), (x_signs, .inl (cI, 255, .inl x_signsF)), (f, .inr (2, [.ref f_kinds, .ref f_signs, .ref f_sizes, .ref f_places, .ref f_limits, .ref f_starts, .ref f_sorts, .int f_count, .int f_sections, .int f_fifth])), (f_kinds, .inl (cI, 255, .inl f_kindsF)), (f_signs, .inl (cI, 255, .inl f_signsF)), (f_sizes, .inl (cI, 255, .inl f_sizesF)), (f_places, .inl (cI, 255, .inl f_placesF)), (f_limits, .inl (cD, 255, .inr (.inr (.inr (.inl f_limitsF)))))]) [0, 1, 2, 3, 4, 5, 6, 7] (by decide) rfl
        have hFc := va_free (wc := [(x, .inr (7, [.ref x_signs, .int x_length])), (x_signs, .inl (cI, 255, .inl x_signsF)), (f, .inr (2, [.ref f_kinds, .ref f_signs, .ref f_sizes, .ref f_places, .ref f_limits, .ref f_starts, .ref f_sorts, .int f_count, .int f_sections, .int f_fifth])), (f_kinds, .inl (cI, 255, .inl f_kindsF)), (f_signs, .inl (cI, 255, .inl f_signsF)), (f_sizes, .inl (cI, 255, .inl f_sizesF)), (f_places, .inl (cI, 255, .inl f_placesF)), (f_limits, .inl (cD, 255, .inr (.inr (.inr (.inl f_limitsF)))))]) hD hS hA [0, 1, 2, 3, 4, 5, 6, 7] rfl
        refine va_calli (va_runS (As := [.ref x, .ref f, .int p1]) (rest := []) ⟨hx, hb, hml, hown, (dr_words hts _)⟩ (c_X8_word l D cI cD cJ H.size x x_signs x_length x_signsF f f_kinds f_signs f_sizes f_places f_limits f_starts f_sorts f_count f_sections f_fifth f_kindsF f_signsF f_sizesF f_placesF f_limitsF p1 aQ aT aF (by omega) (by omega) (by omega) (by assumption) (by omega) (by omega) (by assumption)) (va_cwS 3 (dr_words hts _) (goodIn_app (goodIn_r _ [26, 27, 7] rfl (by decide +kernel)) (goodIn_sub i_X8_word k_X8_word)) rfl rfl rfl (by decide +kernel) ⟨Nat.le_of_ble_eq_true rfl, Nat.le_of_ble_eq_true rfl⟩) ⟨fun a U g mk q => by obtain ⟨q0, q1, qP, qK, qD, hq0⟩ := q; exact ⟨q0, q1, qP, va_K.moved (u := U) (U := U.calling g mk a) (Vm.Alike.refl U.vm) qK, qD, TZA.same hq0 rfl⟩, fun U hU hW => ⟨rfl, by rw [hU], by rw [hU]; exact hPc, va_K.moved hW.alike hK, hDc.weaken (fun _ _ _ _ => trivial), by rw [hU]; exact TZA.warm hW hE0 hS hFc⟩⟩ rfl rfl hl.1 rfl (lv_room (Nat.le_of_ble_eq_true rfl)) dX8_next_110 ⟨Nat.le_of_ble_eq_true rfl, Nat.le_of_ble_eq_true rfl⟩) hS (fun q _ h => hFc q h) hFc (fun x_68 u t H1 locs ht hvm w_69 hB hz1 hk1 hS => ?_)
        obtain ⟨u_70, u_71, u_72, u_73, u_74, u_75⟩ := u
        obtain ⟨hP1, hK1, hD1⟩ := hB
        rw [ht] at hP1
        try dsimp only at w_69
        obtain ⟨hP, hD⟩ := va_join (wr := [(f_starts, .inl (cI, 4, .inl f_startsF))]) (w1 := [(x, .inr (7, [.ref x_signs, .int x_length])), (x_signs, .inl (cI, 255, .inl x_signsF)), (f, .inr (2, [.ref f_kinds, .ref f_signs, .ref f_sizes, .ref f_places, .ref f_limits, .ref f_starts, .ref f_sorts, .int u_70, .int f_sections, .int f_fifth])), (f_kinds, .inl (cI, 255, .inl u_71)), (f_signs, .inl (cI, 255, .inl u_72)), (f_sizes, .inl (cI, 255, .inl u_73)), (f_places, .inl (cI, 255, .inl u_74)), (f_limits, .inl (cD, 255, .inr (.inr (.inr (.inl u_75)))))]) hP hD [0, 1, 2, 3, 4, 5, 6, 7] [8] rfl rfl (by decide) (by decide) hk1 hFc hP1 hD1
        generalize H1 = H at hP hS ⊢
        have hP : va_P D vwCl [(f_starts, .inl (cI, 4, .inl f_startsF)), (x, .inr (7, [.ref x_signs, .int x_length])), (x_signs, .inl (cI, 255, .inl x_signsF)), (f, .inr (2, [.ref f_kinds, .ref f_signs, .ref f_sizes, .ref f_places, .ref f_limits, .ref f_starts, .ref f_sorts, .int u_70, .int f_sections, .int f_fifth])), (f_kinds, .inl (cI, 255, .inl u_71)), (f_signs, .inl (cI, 255, .inl u_72)), (f_sizes, .inl (cI, 255, .inl u_73)), (f_places, .inl (cI, 255, .inl u_74)), (f_limits, .inl (cD, 255, .inr (.inr (.inr (.inl u_75)))))] H := hP
        have hD : va_D A [(f_starts, .inl (cI, 4, .inl f_startsF)), (x, .inr (7, [.ref x_signs, .int x_length])), (x_signs, .inl (cI, 255, .inl x_signsF)), (f, .inr (2, [.ref f_kinds, .ref f_signs, .ref f_sizes, .ref f_places, .ref f_limits, .ref f_starts, .ref f_sorts, .int u_70, .int f_sections, .int f_fifth])), (f_kinds, .inl (cI, 255, .inl u_71)), (f_signs, .inl (cI, 255, .inl u_72)), (f_sizes, .inl (cI, 255, .inl u_73)), (f_places, .inl (cI, 255, .inl u_74)), (f_limits, .inl (cD, 255, .inr (.inr (.inr (.inl u_75)))))] := hD
        obtain ⟨w_69_0, w_69_1, w_69_2⟩ := w_69
        refine W.endD hd0 ?_
        have hP9 := hP.sub (ws' := [(x, .inr (7, [.ref x_signs, .int x_length])), (x_signs, .inl (cI, 255, .inl x_signsF)), (f, .inr (2, [.ref f_kinds, .ref f_signs, .ref f_sizes, .ref f_places, .ref f_limits, .ref f_starts, .ref f_sorts, .int u_70, .int f_sections, .int f_fifth])), (f_kinds, .inl (cI, 255, .inl u_71)), (f_signs, .inl (cI, 255, .inl u_72)), (f_sizes, .inl (cI, 255, .inl u_73)), (f_places, .inl (cI, 255, .inl u_74)), (f_limits, .inl (cD, 255, .inr (.inr (.inr (.inl u_75))))), (f_starts, .inl (cI, 4, .inl f_startsF))]) [1, 2, 3, 4, 5, 6, 7, 8, 0] rfl
        have hD9 := hD.sub (ws' := [(x, .inr (7, [.ref x_signs, .int x_length])), (x_signs, .inl (cI, 255, .inl x_signsF)), (f, .inr (2, [.ref f_kinds, .ref f_signs, .ref f_sizes, .ref f_places, .ref f_limits, .ref f_starts, .ref f_sorts, .int u_70, .int f_sections, .int f_fifth])), (f_kinds, .inl (cI, 255, .inl u_71)), (f_signs, .inl (cI, 255, .inl u_72)), (f_sizes, .inl (cI, 255, .inl u_73)), (f_places, .inl (cI, 255, .inl u_74)), (f_limits, .inl (cD, 255, .inr (.inr (.inr (.inl u_75))))), (f_starts, .inl (cI, 4, .inl f_startsF))]) [1, 2, 3, 4, 5, 6, 7, 8, 0] (by decide) rfl
        exact W.iret (v := x_68) hx hb hr (fun t ht hW => ⟨⟨x_68, (u_70, f_sections, f_fifth, u_71, u_72, u_73, u_74, u_75, f_startsF), rfl, (by (try dsimp only); refine ⟨?_, ?_, ?_, ?_, ?_⟩ <;> first | omega | assumption), by rw [ht]; exact hP9, va_K.moved hW.alike hK, hD9⟩, hS.F ht⟩) hS.2.2 dX8_next_113

def ow_X8_read : List Cond := [Cond.methodLink RX8 9 yX2_clear, Cond.instanceMethod yX2_clear, Cond.selects RX2 yX2_clear yX2_clear, Cond.initialized RX2, Cond.methodLink RX8 14 yX10_length, Cond.instanceMethod yX10_length, Cond.selects RX10 yX10_length yX10_length, Cond.initialized RX10, Cond.methodLink RX8 20 yX2_fifthPlace, Cond.instanceMethod yX2_fifthPlace, Cond.selects RX2 yX2_fifthPlace yX2_fifthPlace, Cond.methodLink RX8 23 yX8_next, Cond.static yX8_next, Cond.initialized RX8]
def pw_X8_read : List Cond := Cond.code yX8_read cX8_read 4 none :: (ow_X8_read ++ (pw_X2_clear ++ (pw_X10_length ++ (pw_X2_fifthPlace ++ (pw_X8_next)))))
set_option maxRecDepth 20000 in
theorem mo_X8_read : ∀ w ∈ ow_X8_read, w ∈ lw_tbl := by decide +kernel
set_option maxRecDepth 20000 in
theorem mc_X8_read : Cond.code yX8_read cX8_read 4 none ∈ lw_tbl := by decide +kernel
theorem m_X8_read : ∀ w ∈ pw_X8_read, w ∈ lw_tbl := List.forall_mem_cons.mpr ⟨mc_X8_read, (List.forall_mem_append.mpr ⟨mo_X8_read, (List.forall_mem_append.mpr ⟨m_X2_clear, (List.forall_mem_append.mpr ⟨m_X10_length, (List.forall_mem_append.mpr ⟨m_X2_fifthPlace, m_X8_next⟩)⟩)⟩)⟩)⟩
theorem ko_X8_read : ∀ w ∈ ow_X8_read, goodWord w = true := by decide +kernel
theorem k_X8_read : pw_X8_read.all goodWord = true := List.all_eq_true.mpr (List.forall_mem_cons.mpr ⟨by decide +kernel, (List.forall_mem_append.mpr ⟨ko_X8_read, (List.forall_mem_append.mpr ⟨(List.all_eq_true.mp k_X2_clear), (List.forall_mem_append.mpr ⟨(List.all_eq_true.mp k_X10_length), (List.forall_mem_append.mpr ⟨(List.all_eq_true.mp k_X2_fifthPlace), (List.all_eq_true.mp k_X8_next)⟩)⟩)⟩)⟩)⟩)
set_option maxHeartbeats 400000 in
set_option maxRecDepth 100000 in
theorem c_X8_read (l : Launch) (D : va_G) (cI cD cJ : ClassId) (sz : Nat) (x : Nat) (x_signs : Nat) (x_length : Int32) (x_signsF : Nat → Int32) (f : Nat) (f_kinds : Nat) (f_signs : Nat) (f_sizes : Nat) (f_places : Nat) (f_limits : Nat) (f_starts : Nat) (f_sorts : Nat) (f_count : Int32) (f_sections : Int32) (f_fifth : Int32) (f_kindsF : Nat → Int32) (f_signsF : Nat → Int32) (f_sizesF : Nat → Int32) (f_placesF : Nat → Int32) (f_limitsF : Nat → UInt64) (f_startsF : Nat → Int32) (aQ : Nat → Nat) (aT : Nat → Nat) (aF : Nat → Nat → Int32) (iv_x_length : 0 ≤ (x_length : Int32).toInt ∧ (x_length : Int32).toInt ≤ 255) (iv_x_signsF : ∀ k9 : Nat, k9 < 255 → 0 ≤ (x_signsF k9).toInt ∧ (x_signsF k9).toInt ≤ 255) (iv_f_count : 0 ≤ (f_count : Int32).toInt ∧ (f_count : Int32).toInt ≤ 255) (iv_f_sections : 0 ≤ (f_sections : Int32).toInt ∧ (f_sections : Int32).toInt ≤ 4) (iv_f_sizesF : ∀ k9 : Nat, k9 < 255 → (f_sizesF k9).toInt ≤ 100000) (iv_f_startsF : ∀ k9 : Nat, k9 < 4 → 0 ≤ (f_startsF k9).toInt ∧ (f_startsF k9).toInt ≤ 255) : MetD lw_cs l yX8_read pw_X8_read ({ frames := 7, cells := 0, slots := 0, locals := 155 }) (va_Pc [.ref x, .ref f] (fun U => U.heap.size = sz ∧ va_P D vwCl [(x, .inr (7, [.ref x_signs, .int x_length])), (x_signs, .inl (cI, 255, .inl x_signsF)), (f, .inr (2, [.ref f_kinds, .ref f_signs, .ref f_sizes, .ref f_places, .ref f_limits, .ref f_starts, .ref f_sorts, .int f_count, .int f_sections, .int f_fifth])), (f_kinds, .inl (cI, 255, .inl f_kindsF)), (f_signs, .inl (cI, 255, .inl f_signsF)), (f_sizes, .inl (cI, 255, .inl f_sizesF)), (f_places, .inl (cI, 255, .inl f_placesF)), (f_limits, .inl (cD, 255, .inr (.inr (.inr (.inl f_limitsF))))), (f_starts, .inl (cI, 4, .inl f_startsF))] U.heap ∧ va_K D vwCl (ty3 cI cD cJ) U ∧ va_D (fun _ => True) [(x, .inr (7, [.ref x_signs, .int x_length])), (x_signs, .inl (cI, 255, .inl x_signsF)), (f, .inr (2, [.ref f_kinds, .ref f_signs, .ref f_sizes, .ref f_places, .ref f_limits, .ref f_starts, .ref f_sorts, .int f_count, .int f_sections, .int f_fifth])), (f_kinds, .inl (cI, 255, .inl f_kindsF)), (f_signs, .inl (cI, 255, .inl f_signsF)), (f_sizes, .inl (cI, 255, .inl f_sizesF)), (f_places, .inl (cI, 255, .inl f_placesF)), (f_limits, .inl (cD, 255, .inr (.inr (.inr (.inl f_limitsF))))), (f_starts, .inl (cI, 4, .inl f_startsF))] ∧ TZA aQ aT aF (va_A [(x, .inr (7, [.ref x_signs, .int x_length])), (x_signs, .inl (cI, 255, .inl x_signsF)), (f, .inr (2, [.ref f_kinds, .ref f_signs, .ref f_sizes, .ref f_places, .ref f_limits, .ref f_starts, .ref f_sorts, .int f_count, .int f_sections, .int f_fifth])), (f_kinds, .inl (cI, 255, .inl f_kindsF)), (f_signs, .inl (cI, 255, .inl f_signsF)), (f_sizes, .inl (cI, 255, .inl f_sizesF)), (f_places, .inl (cI, 255, .inl f_placesF)), (f_limits, .inl (cD, 255, .inr (.inr (.inr (.inl f_limitsF))))), (f_starts, .inl (cI, 4, .inl f_startsF))] sz) U U.heap)) (va_Qv (fun (u : Int32 × Int32 × Int32 × (Nat → Int32) × (Nat → Int32) × (Nat → Int32) × (Nat → Int32) × (Nat → UInt64) × (Nat → Int32)) => match u with | (f_count2, f_sections2, f_fifth2, f_kindsF2, f_signsF2, f_sizesF2, f_placesF2, f_limitsF2, f_startsF2) => (0 ≤ (f_count2 : Int32).toInt ∧ (f_count2 : Int32).toInt ≤ 255) ∧ (0 ≤ (f_sections2 : Int32).toInt ∧ (f_sections2 : Int32).toInt ≤ 4) ∧ (∀ k9 : Nat, k9 < 255 → (f_sizesF2 k9).toInt ≤ 100000) ∧ (∀ k9 : Nat, k9 < 4 → 0 ≤ (f_startsF2 k9).toInt ∧ (f_startsF2 k9).toInt ≤ 255)) (fun (u : Int32 × Int32 × Int32 × (Nat → Int32) × (Nat → Int32) × (Nat → Int32) × (Nat → Int32) × (Nat → UInt64) × (Nat → Int32)) (t : State) => match u with | (f_count2, f_sections2, f_fifth2, f_kindsF2, f_signsF2, f_sizesF2, f_placesF2, f_limitsF2, f_startsF2) => va_P D vwCl [(x, .inr (7, [.ref x_signs, .int x_length])), (x_signs, .inl (cI, 255, .inl x_signsF)), (f, .inr (2, [.ref f_kinds, .ref f_signs, .ref f_sizes, .ref f_places, .ref f_limits, .ref f_starts, .ref f_sorts, .int f_count2, .int f_sections2, .int f_fifth2])), (f_kinds, .inl (cI, 255, .inl f_kindsF2)), (f_signs, .inl (cI, 255, .inl f_signsF2)), (f_sizes, .inl (cI, 255, .inl f_sizesF2)), (f_places, .inl (cI, 255, .inl f_placesF2)), (f_limits, .inl (cD, 255, .inr (.inr (.inr (.inl f_limitsF2))))), (f_starts, .inl (cI, 4, .inl f_startsF2))] t.heap ∧ va_K D vwCl (ty3 cI cD cJ) t ∧ va_D (va_A [(x, .inr (7, [.ref x_signs, .int x_length])), (x_signs, .inl (cI, 255, .inl x_signsF)), (f, .inr (2, [.ref f_kinds, .ref f_signs, .ref f_sizes, .ref f_places, .ref f_limits, .ref f_starts, .ref f_sorts, .int f_count, .int f_sections, .int f_fifth])), (f_kinds, .inl (cI, 255, .inl f_kindsF)), (f_signs, .inl (cI, 255, .inl f_signsF)), (f_sizes, .inl (cI, 255, .inl f_sizesF)), (f_places, .inl (cI, 255, .inl f_placesF)), (f_limits, .inl (cD, 255, .inr (.inr (.inr (.inl f_limitsF))))), (f_starts, .inl (cI, 4, .inl f_startsF))] sz) [(x, .inr (7, [.ref x_signs, .int x_length])), (x_signs, .inl (cI, 255, .inl x_signsF)), (f, .inr (2, [.ref f_kinds, .ref f_signs, .ref f_sizes, .ref f_places, .ref f_limits, .ref f_starts, .ref f_sorts, .int f_count2, .int f_sections2, .int f_fifth2])), (f_kinds, .inl (cI, 255, .inl f_kindsF2)), (f_signs, .inl (cI, 255, .inl f_signsF2)), (f_sizes, .inl (cI, 255, .inl f_sizesF2)), (f_places, .inl (cI, 255, .inl f_placesF2)), (f_limits, .inl (cD, 255, .inr (.inr (.inr (.inl f_limitsF2))))), (f_starts, .inl (cI, 4, .inl f_startsF2))]) (va_A [(x, .inr (7, [.ref x_signs, .int x_length])), (x_signs, .inl (cI, 255, .inl x_signsF)), (f, .inr (2, [.ref f_kinds, .ref f_signs, .ref f_sizes, .ref f_places, .ref f_limits, .ref f_starts, .ref f_sorts, .int f_count, .int f_sections, .int f_fifth])), (f_kinds, .inl (cI, 255, .inl f_kindsF)), (f_signs, .inl (cI, 255, .inl f_signsF)), (f_sizes, .inl (cI, 255, .inl f_sizesF)), (f_places, .inl (cI, 255, .inl f_placesF)), (f_limits, .inl (cD, 255, .inr (.inr (.inr (.inl f_limitsF))))), (f_starts, .inl (cI, 4, .inl f_startsF))] sz)) 0 0 (va_A [(x, .inr (7, [.ref x_signs, .int x_length])), (x_signs, .inl (cI, 255, .inl x_signsF)), (f, .inr (2, [.ref f_kinds, .ref f_signs, .ref f_sizes, .ref f_places, .ref f_limits, .ref f_starts, .ref f_sorts, .int f_count, .int f_sections, .int f_fifth])), (f_kinds, .inl (cI, 255, .inl f_kindsF)), (f_signs, .inl (cI, 255, .inl f_signsF)), (f_sizes, .inl (cI, 255, .inl f_sizesF)), (f_places, .inl (cI, 255, .inl f_placesF)), (f_limits, .inl (cD, 255, .inr (.inr (.inr (.inl f_limitsF))))), (f_starts, .inl (cI, 4, .inl f_startsF))] sz) := by
  refine MetD.ofW (cc := cX8_read) (maxL := 4) (ret := none) (by decide +kernel) rfl ?_
  intro p e s m args below meth c s₁ B hml hv hd0
  obtain ⟨rfl, hsz, hP, hK, hD0, hE0⟩ := hv
  have hx := B.exec
  have hb := B.bytes
  have hr := B.returns
  have hts := atoms_spec (ws := pw_X8_read) B.pre
  have hown : s.vm.findClass RX8 = some m.cls := findClass_of_methodNamed B.named
  have hlocks := B.notSynchronized
  subst hsz
  have hD := hD0.self (sz := s.heap.size)
  generalize hAe : va_A [(x, .inr (7, [.ref x_signs, .int x_length])), (x_signs, .inl (cI, 255, .inl x_signsF)), (f, .inr (2, [.ref f_kinds, .ref f_signs, .ref f_sizes, .ref f_places, .ref f_limits, .ref f_starts, .ref f_sorts, .int f_count, .int f_sections, .int f_fifth])), (f_kinds, .inl (cI, 255, .inl f_kindsF)), (f_signs, .inl (cI, 255, .inl f_signsF)), (f_sizes, .inl (cI, 255, .inl f_sizesF)), (f_places, .inl (cI, 255, .inl f_placesF)), (f_limits, .inl (cD, 255, .inr (.inr (.inr (.inl f_limitsF))))), (f_starts, .inl (cI, 4, .inl f_startsF))] s.heap.size = A at hD hE0 ⊢
  have hA : ∀ q : Nat, s.heap.size ≤ q → A q := fun q h => by rw [← hAe]; exact Or.inr h
  have hS : va_S A s.heap s.heap [] := va_S.rf
  have hw : ∀ {d9 : Drawn} (k : Nat) (w : Cond), ow_X8_read[k]? = some w → w.before _ (s.setDrawn d9) = true := fun k w h => dr_words hts _ w (List.mem_cons_of_mem _ (have h9 := List.mem_of_getElem? h; List.mem_append_left _ h9))
  have i_X2_clear : ∀ w ∈ pw_X2_clear, w ∈ pw_X8_read := fun w h9 => List.mem_cons_of_mem _ (List.mem_append_right _ (List.mem_append_left _ h9))
  have i_X10_length : ∀ w ∈ pw_X10_length, w ∈ pw_X8_read := fun w h9 => List.mem_cons_of_mem _ (List.mem_append_right _ (List.mem_append_right _ (List.mem_append_left _ h9)))
  have i_X2_fifthPlace : ∀ w ∈ pw_X2_fifthPlace, w ∈ pw_X8_read := fun w h9 => List.mem_cons_of_mem _ (List.mem_append_right _ (List.mem_append_right _ (List.mem_append_right _ (List.mem_append_left _ h9))))
  have i_X8_next : ∀ w ∈ pw_X8_next, w ∈ pw_X8_read := fun w h9 => List.mem_cons_of_mem _ (List.mem_append_right _ (List.mem_append_right _ (List.mem_append_right _ (List.mem_append_right _ (h9)))))
  have n_m1 : (((-1) : Int32)).toInt = (-1) := by decide
  have n_0 : ((0 : Int32)).toInt = 0 := by decide
  have n_1 : ((1 : Int32)).toInt = 1 := by decide
  have n_255 : ((255 : Int32)).toInt = 255 := by decide
  have hl := lv_entry ([.ref x, .ref f]) (n := 4) (Nat.le_of_ble_eq_true rfl)
  rw [lg_entry_eq]
  generalize (lg_sl ([.ref x, .ref f]) ++ List.replicate (4 - (lg_sl ([.ref x, .ref f])).length) Slot.unset).toArray = ls at hl ⊢
  have hl : lv_has ls 4 [(0, .ref x), (1, .ref f)] := hl
  refine zz_capD (fun Z hZ1 hZ2 => ?_)
  refine lv_aload_n hx hb dX8_read_0 rfl (lv_at hl 1 rfl) ?_
  have hPc := hP.sub (ws' := [(f, .inr (2, [.ref f_kinds, .ref f_signs, .ref f_sizes, .ref f_places, .ref f_limits, .ref f_starts, .ref f_sorts, .int f_count, .int f_sections, .int f_fifth])), (f_starts, .inl (cI, 4, .inl f_startsF))]) [2, 8] rfl
  have hDc := hD.sub (ws' := [(f, .inr (2, [.ref f_kinds, .ref f_signs, .ref f_sizes, .ref f_places, .ref f_limits, .ref f_starts, .ref f_sorts, .int f_count, .int f_sections, .int f_fifth])), (f_starts, .inl (cI, 4, .inl f_startsF))]) [2, 8] (by decide) rfl
  have hFc := va_free (wc := [(f, .inr (2, [.ref f_kinds, .ref f_signs, .ref f_sizes, .ref f_places, .ref f_limits, .ref f_starts, .ref f_sorts, .int f_count, .int f_sections, .int f_fifth])), (f_starts, .inl (cI, 4, .inl f_startsF))]) hD hS hA [2, 8] rfl
  refine va_callv (va_runV (As := []) (rest := []) ⟨hx, hb, hml, hown, (dr_words hts _)⟩ (c_X2_clear l D cI cD cJ s.heap.size f f_kinds f_signs f_sizes f_places f_limits f_starts f_sorts f_count f_sections f_fifth f_startsF (by omega) (by omega) (by assumption)) (cwV 0 (dr_words hts _) (goodIn_app (goodIn_r _ [1, 2, 3, 4] rfl (by decide +kernel)) (goodIn_sub i_X2_clear k_X2_clear)) rfl rfl rfl (by decide +kernel) ⟨Nat.le_of_ble_eq_true rfl, Nat.le_of_ble_eq_true rfl⟩) ⟨fun a U g mk q => by obtain ⟨q0, q1, qP, qK, qD⟩ := q; exact ⟨q0, q1, qP, va_K.moved (u := U) (U := U.calling g mk a) (Vm.Alike.refl U.vm) qK, qD⟩, va_recv hK hPc (ci := 2) (q0 := 0) rfl rfl, fun U hU hW => ⟨rfl, by rw [hU], by rw [hU]; exact hPc, va_K.moved hW.alike hK, hDc.weaken (fun _ _ _ _ => trivial)⟩⟩ rfl rfl hl.1 rfl (lv_room (Nat.le_of_ble_eq_true rfl)) dX8_read_1 ⟨Nat.le_of_ble_eq_true rfl, Nat.le_of_ble_eq_true rfl⟩) hS (fun q _ h => hFc q h) hFc (fun u t H1 locs ht hvm w_1 hB hz1 hk1 hS => ?_)
  obtain ⟨u_2, u_3, u_4, u_5⟩ := u
  obtain ⟨hP1, hK1, hD1⟩ := hB
  rw [ht] at hP1
  try dsimp only at w_1
  obtain ⟨hP, hD⟩ := va_join (wr := [(x, .inr (7, [.ref x_signs, .int x_length])), (x_signs, .inl (cI, 255, .inl x_signsF)), (f_kinds, .inl (cI, 255, .inl f_kindsF)), (f_signs, .inl (cI, 255, .inl f_signsF)), (f_sizes, .inl (cI, 255, .inl f_sizesF)), (f_places, .inl (cI, 255, .inl f_placesF)), (f_limits, .inl (cD, 255, .inr (.inr (.inr (.inl f_limitsF)))))]) (w1 := [(f, .inr (2, [.ref f_kinds, .ref f_signs, .ref f_sizes, .ref f_places, .ref f_limits, .ref f_starts, .ref f_sorts, .int u_2, .int u_3, .int u_4])), (f_starts, .inl (cI, 4, .inl u_5))]) hP hD [2, 8] [0, 1, 3, 4, 5, 6, 7] rfl rfl (by decide) (by decide) hk1 hFc hP1 hD1
  generalize H1 = H at hP hS ⊢
  have hP : va_P D vwCl [(x, .inr (7, [.ref x_signs, .int x_length])), (x_signs, .inl (cI, 255, .inl x_signsF)), (f_kinds, .inl (cI, 255, .inl f_kindsF)), (f_signs, .inl (cI, 255, .inl f_signsF)), (f_sizes, .inl (cI, 255, .inl f_sizesF)), (f_places, .inl (cI, 255, .inl f_placesF)), (f_limits, .inl (cD, 255, .inr (.inr (.inr (.inl f_limitsF))))), (f, .inr (2, [.ref f_kinds, .ref f_signs, .ref f_sizes, .ref f_places, .ref f_limits, .ref f_starts, .ref f_sorts, .int u_2, .int u_3, .int u_4])), (f_starts, .inl (cI, 4, .inl u_5))] H := hP
  have hD : va_D A [(x, .inr (7, [.ref x_signs, .int x_length])), (x_signs, .inl (cI, 255, .inl x_signsF)), (f_kinds, .inl (cI, 255, .inl f_kindsF)), (f_signs, .inl (cI, 255, .inl f_signsF)), (f_sizes, .inl (cI, 255, .inl f_sizesF)), (f_places, .inl (cI, 255, .inl f_placesF)), (f_limits, .inl (cD, 255, .inr (.inr (.inr (.inl f_limitsF))))), (f, .inr (2, [.ref f_kinds, .ref f_signs, .ref f_sizes, .ref f_places, .ref f_limits, .ref f_starts, .ref f_sorts, .int u_2, .int u_3, .int u_4])), (f_starts, .inl (cI, 4, .inl u_5))] := hD
  obtain ⟨w_1_0, w_1_1, w_1_2⟩ := w_1
  refine lv_iconst (v := 0) hx hb dX8_read_4 (by decide) ?_
  refine lv_istore_n (lv' := [(2, .int 0), (0, .ref x), (1, .ref f)]) hx hb dX8_read_5 rfl hl (by decide) rfl (fun ls hl => ?_)
  refine lv_iconst (v := 0) hx hb dX8_read_6 (by decide) ?_
  refine lv_istore_n (lv' := [(3, .int 0), (2, .int 0), (0, .ref x), (1, .ref f)]) hx hb dX8_read_7 rfl hl (by decide) rfl (fun ls hl => ?_)
  have L_8 : ∀ (N : Nat) (x_6 : Int32) (x_7 : Int32) (f_8 : Nat → Int32) (f_9 : Nat → Int32) (f_10 : Nat → Int32) (f_11 : Nat → Int32) (f_12 : Nat → UInt64) (x_13 : Int32) (x_14 : Int32) (x_15 : Int32) (f_16 : Nat → Int32) (H : Heap) (locs : List Loc) (ls : Array Slot) (dq8_17 : Drawn), s.drawn.sameBut dq8_17 lw_cs → (0 ≤ (x_7 : Int32).toInt) → (0 ≤ (x_6 : Int32).toInt) → (∀ k9 : Nat, k9 < 255 → (f_10 k9).toInt ≤ 100000) → (0 ≤ (x_13 : Int32).toInt ∧ (x_13 : Int32).toInt ≤ 255) → (0 ≤ (x_14 : Int32).toInt ∧ (x_14 : Int32).toInt ≤ 4) → (∀ k9 : Nat, k9 < 4 → 0 ≤ (f_16 k9).toInt ∧ (f_16 k9).toInt ≤ 255) → ((2147483647 - (x_6 : Int32).toInt).toNat < N) → va_P D vwCl [(x, .inr (7, [.ref x_signs, .int x_length])), (x_signs, .inl (cI, 255, .inl x_signsF)), (f_kinds, .inl (cI, 255, .inl f_8)), (f_signs, .inl (cI, 255, .inl f_9)), (f_sizes, .inl (cI, 255, .inl f_10)), (f_places, .inl (cI, 255, .inl f_11)), (f_limits, .inl (cD, 255, .inr (.inr (.inr (.inl f_12))))), (f, .inr (2, [.ref f_kinds, .ref f_signs, .ref f_sizes, .ref f_places, .ref f_limits, .ref f_starts, .ref f_sorts, .int x_13, .int x_14, .int x_15])), (f_starts, .inl (cI, 4, .inl f_16))] H → va_D A [(x, .inr (7, [.ref x_signs, .int x_length])), (x_signs, .inl (cI, 255, .inl x_signsF)), (f_kinds, .inl (cI, 255, .inl f_8)), (f_signs, .inl (cI, 255, .inl f_9)), (f_sizes, .inl (cI, 255, .inl f_10)), (f_places, .inl (cI, 255, .inl f_11)), (f_limits, .inl (cD, 255, .inr (.inr (.inr (.inl f_12))))), (f, .inr (2, [.ref f_kinds, .ref f_signs, .ref f_sizes, .ref f_places, .ref f_limits, .ref f_starts, .ref f_sorts, .int x_13, .int x_14, .int x_15])), (f_starts, .inl (cI, 4, .inl f_16))] → va_S A s.heap H locs → lv_has ls 4 [(3, .int x_6), (2, .int x_7), (0, .ref x), (1, .ref f)] → Z dq8_17 0 0 H locs (F0 m 8 ls []) := by
    intro N
    induction N with
    | zero => intro _ _ _ _ _ _ _ _ _ _ _ _ _ _ _ _ _ _ _ _ _ _ hmu; exact absurd hmu (Nat.not_lt_zero _)
    | succ N ih_8 =>
      intro x_6 x_7 f_8 f_9 f_10 f_11 f_12 x_13 x_14 x_15 f_16 H locs ls dq8_17 hdq8_17 g8_0 g8_1 g8_2 g8_3 g8_4 g8_5 hmu hP hD hS hl
      refine hZ2 ?_
      refine lv_iload_n hx hb dX8_read_8 rfl (lv_at hl 0 rfl) ?_
      refine lv_sipush (v := 255) hx hb dX8_read_9 (by decide) ?_
      refine lv_icmp_ge (tgt := 45) hx hb dX8_read_12 (by decide) (fun c_18 => ?_) (fun c_18 => ?_)
      · have ic_18 : (255 : Int32).toInt ≤ (x_6 : Int32).toInt := (fa_le 255 x_6).mp c_18
        refine W.endD hdq8_17 ?_
        have hP9 := hP.sub (ws' := [(x, .inr (7, [.ref x_signs, .int x_length])), (x_signs, .inl (cI, 255, .inl x_signsF)), (f, .inr (2, [.ref f_kinds, .ref f_signs, .ref f_sizes, .ref f_places, .ref f_limits, .ref f_starts, .ref f_sorts, .int x_13, .int x_14, .int x_15])), (f_kinds, .inl (cI, 255, .inl f_8)), (f_signs, .inl (cI, 255, .inl f_9)), (f_sizes, .inl (cI, 255, .inl f_10)), (f_places, .inl (cI, 255, .inl f_11)), (f_limits, .inl (cD, 255, .inr (.inr (.inr (.inl f_12))))), (f_starts, .inl (cI, 4, .inl f_16))]) [0, 1, 7, 2, 3, 4, 5, 6, 8] rfl
        have hD9 := hD.sub (ws' := [(x, .inr (7, [.ref x_signs, .int x_length])), (x_signs, .inl (cI, 255, .inl x_signsF)), (f, .inr (2, [.ref f_kinds, .ref f_signs, .ref f_sizes, .ref f_places, .ref f_limits, .ref f_starts, .ref f_sorts, .int x_13, .int x_14, .int x_15])), (f_kinds, .inl (cI, 255, .inl f_8)), (f_signs, .inl (cI, 255, .inl f_9)), (f_sizes, .inl (cI, 255, .inl f_10)), (f_places, .inl (cI, 255, .inl f_11)), (f_limits, .inl (cD, 255, .inr (.inr (.inr (.inl f_12))))), (f_starts, .inl (cI, 4, .inl f_16))]) [0, 1, 7, 2, 3, 4, 5, 6, 8] (by decide) rfl
        exact W.vret hx hb hr (fun t ht hW => ⟨⟨(x_13, x_14, x_15, f_8, f_9, f_10, f_11, f_12, f_16), rfl, (by (try dsimp only); refine ⟨?_, ?_, ?_, ?_⟩ <;> first | omega | assumption), by rw [ht]; exact hP9, va_K.moved hW.alike hK, hD9⟩, hS.F ht⟩) hS.2.2 dX8_read_45
      · have ic_18 : ¬ ((255 : Int32).toInt ≤ (x_6 : Int32).toInt) := fun h9 => c_18 ((fa_le 255 x_6).mpr h9)
        refine lv_iload_n hx hb dX8_read_15 rfl (lv_at hl 1 rfl) ?_
        refine lv_aload_n hx hb dX8_read_16 rfl (lv_at hl 2 rfl) ?_
        have hPc := hP.sub (ws' := [(x, .inr (7, [.ref x_signs, .int x_length]))]) [0] rfl
        refine va_calli (va_runV (As := []) (rest := [.int x_7]) ⟨hx, hb, hml, hown, (dr_words hts _)⟩ (c_X10_length l D cI cD cJ H.size x x_signs x_length (by omega)) (cwV 0 (dr_words hts _) (goodIn_app (goodIn_r _ [5, 6, 7, 8] rfl (by decide +kernel)) (goodIn_sub i_X10_length k_X10_length)) rfl rfl rfl (by decide +kernel) ⟨Nat.le_of_ble_eq_true rfl, Nat.le_of_ble_eq_true rfl⟩) ⟨fun a U g mk q => by obtain ⟨q0, qP, qK⟩ := q; exact ⟨q0, qP, va_K.moved (u := U) (U := U.calling g mk a) (Vm.Alike.refl U.vm) qK⟩, va_recv hK hPc (ci := 7) (q0 := 0) rfl rfl, fun U hU hW => ⟨rfl, by rw [hU]; exact hPc, va_K.moved hW.alike hK⟩⟩ rfl rfl hl.1 rfl (lv_room (Nat.le_of_ble_eq_true rfl)) dX8_read_17 ⟨Nat.le_of_ble_eq_true rfl, Nat.le_of_ble_eq_true rfl⟩) hS (fun q _ h => h.elim) (fun q h => h.elim) (fun x_19 u t H1 locs ht hvm w_20 hB hz1 hk1 hS => ?_)
        have hP : va_P D vwCl [(x, .inr (7, [.ref x_signs, .int x_length])), (x_signs, .inl (cI, 255, .inl x_signsF)), (f_kinds, .inl (cI, 255, .inl f_8)), (f_signs, .inl (cI, 255, .inl f_9)), (f_sizes, .inl (cI, 255, .inl f_10)), (f_places, .inl (cI, 255, .inl f_11)), (f_limits, .inl (cD, 255, .inr (.inr (.inr (.inl f_12))))), (f, .inr (2, [.ref f_kinds, .ref f_signs, .ref f_sizes, .ref f_places, .ref f_limits, .ref f_starts, .ref f_sorts, .int x_13, .int x_14, .int x_15])), (f_starts, .inl (cI, 4, .inl f_16))] H1 := hP.kept (fun k9 q9 h9 => hk1 q9.1 (vx_lt hP h9) (fun h => h))
        generalize H1 = H at hP hS ⊢
        try dsimp only at w_20
        refine lv_icmp_ge (tgt := 45) hx hb dX8_read_20 (by decide) (fun c_21 => ?_) (fun c_21 => ?_)
        · have ic_21 : (x_19 : Int32).toInt ≤ (x_7 : Int32).toInt := (fa_le x_19 x_7).mp c_21
          refine W.endD hdq8_17 ?_
          have hP9 := hP.sub (ws' := [(x, .inr (7, [.ref x_signs, .int x_length])), (x_signs, .inl (cI, 255, .inl x_signsF)), (f, .inr (2, [.ref f_kinds, .ref f_signs, .ref f_sizes, .ref f_places, .ref f_limits, .ref f_starts, .ref f_sorts, .int x_13, .int x_14, .int x_15])), (f_kinds, .inl (cI, 255, .inl f_8)), (f_signs, .inl (cI, 255, .inl f_9)), (f_sizes, .inl (cI, 255, .inl f_10)), (f_places, .inl (cI, 255, .inl f_11)), (f_limits, .inl (cD, 255, .inr (.inr (.inr (.inl f_12))))), (f_starts, .inl (cI, 4, .inl f_16))]) [0, 1, 7, 2, 3, 4, 5, 6, 8] rfl
          have hD9 := hD.sub (ws' := [(x, .inr (7, [.ref x_signs, .int x_length])), (x_signs, .inl (cI, 255, .inl x_signsF)), (f, .inr (2, [.ref f_kinds, .ref f_signs, .ref f_sizes, .ref f_places, .ref f_limits, .ref f_starts, .ref f_sorts, .int x_13, .int x_14, .int x_15])), (f_kinds, .inl (cI, 255, .inl f_8)), (f_signs, .inl (cI, 255, .inl f_9)), (f_sizes, .inl (cI, 255, .inl f_10)), (f_places, .inl (cI, 255, .inl f_11)), (f_limits, .inl (cD, 255, .inr (.inr (.inr (.inl f_12))))), (f_starts, .inl (cI, 4, .inl f_16))]) [0, 1, 7, 2, 3, 4, 5, 6, 8] (by decide) rfl
          exact W.vret hx hb hr (fun t ht hW => ⟨⟨(x_13, x_14, x_15, f_8, f_9, f_10, f_11, f_12, f_16), rfl, (by (try dsimp only); refine ⟨?_, ?_, ?_, ?_⟩ <;> first | omega | assumption), by rw [ht]; exact hP9, va_K.moved hW.alike hK, hD9⟩, hS.F ht⟩) hS.2.2 dX8_read_45
        · have ic_21 : ¬ ((x_19 : Int32).toInt ≤ (x_7 : Int32).toInt) := fun h9 => c_21 ((fa_le x_19 x_7).mpr h9)
          refine lv_aload_n hx hb dX8_read_23 rfl (lv_at hl 3 rfl) ?_
          have hPc := hP.sub (ws' := [(f, .inr (2, [.ref f_kinds, .ref f_signs, .ref f_sizes, .ref f_places, .ref f_limits, .ref f_starts, .ref f_sorts, .int x_13, .int x_14, .int x_15]))]) [7] rfl
          refine va_calli (va_runV (As := []) (rest := []) ⟨hx, hb, hml, hown, (dr_words hts _)⟩ (c_X2_fifthPlace l D cI cD cJ H.size f f_kinds f_signs f_sizes f_places f_limits f_starts f_sorts x_13 x_14 x_15 (by omega) (by omega)) (cwV 0 (dr_words hts _) (goodIn_app (goodIn_r _ [9, 10, 11, 4] rfl (by decide +kernel)) (goodIn_sub i_X2_fifthPlace k_X2_fifthPlace)) rfl rfl rfl (by decide +kernel) ⟨Nat.le_of_ble_eq_true rfl, Nat.le_of_ble_eq_true rfl⟩) ⟨fun a U g mk q => by obtain ⟨q0, qP, qK⟩ := q; exact ⟨q0, qP, va_K.moved (u := U) (U := U.calling g mk a) (Vm.Alike.refl U.vm) qK⟩, va_recv hK hPc (ci := 2) (q0 := 0) rfl rfl, fun U hU hW => ⟨rfl, by rw [hU]; exact hPc, va_K.moved hW.alike hK⟩⟩ rfl rfl hl.1 rfl (lv_room (Nat.le_of_ble_eq_true rfl)) dX8_read_24 ⟨Nat.le_of_ble_eq_true rfl, Nat.le_of_ble_eq_true rfl⟩) hS (fun q _ h => h.elim) (fun q h => h.elim) (fun x_22 u t H1 locs ht hvm w_23 hB hz1 hk1 hS => ?_)
          have hP : va_P D vwCl [(x, .inr (7, [.ref x_signs, .int x_length])), (x_signs, .inl (cI, 255, .inl x_signsF)), (f_kinds, .inl (cI, 255, .inl f_8)), (f_signs, .inl (cI, 255, .inl f_9)), (f_sizes, .inl (cI, 255, .inl f_10)), (f_places, .inl (cI, 255, .inl f_11)), (f_limits, .inl (cD, 255, .inr (.inr (.inr (.inl f_12))))), (f, .inr (2, [.ref f_kinds, .ref f_signs, .ref f_sizes, .ref f_places, .ref f_limits, .ref f_starts, .ref f_sorts, .int x_13, .int x_14, .int x_15])), (f_starts, .inl (cI, 4, .inl f_16))] H1 := hP.kept (fun k9 q9 h9 => hk1 q9.1 (vx_lt hP h9) (fun h => h))
          generalize H1 = H at hP hS ⊢
          have b_x_22 := ti_b x_22
          refine lv_iconst (v := (-1)) hx hb dX8_read_27 (by decide) ?_
          refine lv_icmp_eq (tgt := 32) hx hb dX8_read_28 (by decide) (fun c_24 => ?_) (fun c_24 => ?_)
          · have ic_24 : (x_22 : Int32).toInt = ((-1) : Int32).toInt := (fa_eq x_22 (-1)).mp c_24
            refine lv_aload_n hx hb dX8_read_32 rfl (lv_at hl 2 rfl) ?_
            refine lv_aload_n hx hb dX8_read_33 rfl (lv_at hl 3 rfl) ?_
            refine lv_iload_n hx hb dX8_read_34 rfl (lv_at hl 1 rfl) ?_
            have hPc := hP.sub (ws' := [(x, .inr (7, [.ref x_signs, .int x_length])), (x_signs, .inl (cI, 255, .inl x_signsF)), (f, .inr (2, [.ref f_kinds, .ref f_signs, .ref f_sizes, .ref f_places, .ref f_limits, .ref f_starts, .ref f_sorts, .int x_13, .int x_14, .int x_15])), (f_kinds, .inl (cI, 255, .inl f_8)), (f_signs, .inl (cI, 255, .inl f_9)), (f_sizes, .inl (cI, 255, .inl f_10)), (f_places, .inl (cI, 255, .inl f_11)), (f_limits, .inl (cD, 255, .inr (.inr (.inr (.inl f_12))))), (f_starts, .inl (cI, 4, .inl f_16))]) [0, 1, 7, 2, 3, 4, 5, 6, 8] rfl
            have hDc := hD.sub (ws' := [(x, .inr (7, [.ref x_signs, .int x_length])), (x_signs, .inl (cI, 255, .inl x_signsF)), (f, .inr (2, [.ref f_kinds, .ref f_signs, .ref f_sizes, .ref f_places, .ref f_limits, .ref f_starts, .ref f_sorts, .int x_13, .int x_14, .int x_15])), (f_kinds, .inl (cI, 255, .inl f_8)), (f_signs, .inl (cI, 255, .inl f_9)), (f_sizes, .inl (cI, 255, .inl f_10)), (f_places, .inl (cI, 255, .inl f_11)), (f_limits, .inl (cD, 255, .inr (.inr (.inr (.inl f_12))))), (f_starts, .inl (cI, 4, .inl f_16))]) [0, 1, 7, 2, 3, 4, 5, 6, 8] (by decide) rfl
            have hFc := va_free (wc := [(x, .inr (7, [.ref x_signs, .int x_length])), (x_signs, .inl (cI, 255, .inl x_signsF)), (f, .inr (2, [.ref f_kinds, .ref f_signs, .ref f_sizes, .ref f_places, .ref f_limits, .ref f_starts, .ref f_sorts, .int x_13, .int x_14, .int x_15])), (f_kinds, .inl (cI, 255, .inl f_8)), (f_signs, .inl (cI, 255, .inl f_9)), (f_sizes, .inl (cI, 255, .inl f_10)), (f_places, .inl (cI, 255, .inl f_11)), (f_limits, .inl (cD, 255, .inr (.inr (.inr (.inl f_12))))), (f_starts, .inl (cI, 4, .inl f_16))]) hD hS hA [0, 1, 7, 2, 3, 4, 5, 6, 8] rfl
            refine va_calliD hdq8_17 (va_runS_D (As := [.ref x, .ref f, .int x_7]) (rest := []) ⟨hx, hb, hml, hown, (dr_words hts _)⟩ (c_X8_next l D cI cD cJ H.size x x_signs x_length x_signsF f f_kinds f_signs f_sizes f_places f_limits f_starts f_sorts x_13 x_14 x_15 f_8 f_9 f_10 f_11 f_12 f_16 x_7 aQ aT aF (by omega) (by omega) (by omega) (by assumption) (by omega) (by omega) (by assumption) (by assumption)) (va_cwS 3 (dr_words hts _) (goodIn_app (goodIn_r _ [12, 13, 14] rfl (by decide +kernel)) (goodIn_sub i_X8_next k_X8_next)) rfl rfl rfl (by decide +kernel) ⟨Nat.le_of_ble_eq_true rfl, Nat.le_of_ble_eq_true rfl⟩) ⟨fun a U g mk q => by obtain ⟨q0, q1, qP, qK, qD, hq0⟩ := q; exact ⟨q0, q1, qP, va_K.moved (u := U) (U := U.calling g mk a) (Vm.Alike.refl U.vm) qK, qD, TZA.same hq0 rfl⟩, fun U hU hW => ⟨rfl, by rw [hU], by rw [hU]; exact hPc, va_K.moved hW.alike hK, hDc.weaken (fun _ _ _ _ => trivial), by rw [hU]; exact TZA.warm hW hE0 hS hFc⟩⟩ rfl rfl hl.1 rfl (lv_room (Nat.le_of_ble_eq_true rfl)) dX8_read_35 ⟨Nat.le_of_ble_eq_true rfl, Nat.le_of_ble_eq_true rfl⟩) hS (fun q _ h => hFc q h) hFc (fun x_25 u t H1 locs ht hvm w_26 hB hz1 hk1 hS dhd_27 hd_27 => ?_)
            obtain ⟨u_28, u_29, u_30, u_31, u_32, u_33, u_34, u_35, u_36⟩ := u
            obtain ⟨hP1, hK1, hD1⟩ := hB
            rw [ht] at hP1
            try dsimp only at w_26
            obtain ⟨hP, hD⟩ := va_join (wr := []) (w1 := [(x, .inr (7, [.ref x_signs, .int x_length])), (x_signs, .inl (cI, 255, .inl x_signsF)), (f, .inr (2, [.ref f_kinds, .ref f_signs, .ref f_sizes, .ref f_places, .ref f_limits, .ref f_starts, .ref f_sorts, .int u_28, .int u_29, .int u_30])), (f_kinds, .inl (cI, 255, .inl u_31)), (f_signs, .inl (cI, 255, .inl u_32)), (f_sizes, .inl (cI, 255, .inl u_33)), (f_places, .inl (cI, 255, .inl u_34)), (f_limits, .inl (cD, 255, .inr (.inr (.inr (.inl u_35))))), (f_starts, .inl (cI, 4, .inl u_36))]) hP hD [0, 1, 7, 2, 3, 4, 5, 6, 8] [] rfl rfl (by decide) (by decide) hk1 hFc hP1 hD1
            generalize H1 = H at hP hS ⊢
            have hP : va_P D vwCl [(x, .inr (7, [.ref x_signs, .int x_length])), (x_signs, .inl (cI, 255, .inl x_signsF)), (f, .inr (2, [.ref f_kinds, .ref f_signs, .ref f_sizes, .ref f_places, .ref f_limits, .ref f_starts, .ref f_sorts, .int u_28, .int u_29, .int u_30])), (f_kinds, .inl (cI, 255, .inl u_31)), (f_signs, .inl (cI, 255, .inl u_32)), (f_sizes, .inl (cI, 255, .inl u_33)), (f_places, .inl (cI, 255, .inl u_34)), (f_limits, .inl (cD, 255, .inr (.inr (.inr (.inl u_35))))), (f_starts, .inl (cI, 4, .inl u_36))] H := hP
            have hD : va_D A [(x, .inr (7, [.ref x_signs, .int x_length])), (x_signs, .inl (cI, 255, .inl x_signsF)), (f, .inr (2, [.ref f_kinds, .ref f_signs, .ref f_sizes, .ref f_places, .ref f_limits, .ref f_starts, .ref f_sorts, .int u_28, .int u_29, .int u_30])), (f_kinds, .inl (cI, 255, .inl u_31)), (f_signs, .inl (cI, 255, .inl u_32)), (f_sizes, .inl (cI, 255, .inl u_33)), (f_places, .inl (cI, 255, .inl u_34)), (f_limits, .inl (cD, 255, .inr (.inr (.inr (.inl u_35))))), (f_starts, .inl (cI, 4, .inl u_36))] := hD
            obtain ⟨w_26_0, w_26_1, w_26_2, w_26_3, w_26_4⟩ := w_26
            refine lv_istore_n (lv' := [(2, .int x_25), (3, .int x_6), (0, .ref x), (1, .ref f)]) hx hb dX8_read_38 rfl hl (by decide) rfl (fun ls hl => ?_)
            obtain ⟨x_37, ex_37⟩ : ∃ y : Int32, y = x_6 + 1 := ⟨_, rfl⟩
            have b_x_6 := ti_b x_6
            have tx_37 := ti_add ex_37
            refine lv_iinc (v := x_37) (lv' := [(3, .int x_37), (2, .int x_25), (0, .ref x), (1, .ref f)]) hx hb dX8_read_39 hl (k := 1) rfl (by rw [ex_37]; rfl) (by decide) rfl (fun ls hl => ?_)
            refine lv_goto (tgt := 8) hx hb dX8_read_42 (by decide) ?_
            exact hZ1 (ih_8 x_37 x_25 u_31 u_32 u_33 u_34 u_35 u_28 u_29 u_30 u_36 _ _ _ dhd_27 hd_27 (by omega) (by omega) (by assumption) (by omega) (by omega) (by assumption) (by omega) (hP.sub [0, 1, 3, 4, 5, 6, 7, 2, 8] rfl) (hD.sub [0, 1, 3, 4, 5, 6, 7, 2, 8] (by decide) rfl) hS hl)
          · have ic_24 : ¬ ((x_22 : Int32).toInt = ((-1) : Int32).toInt) := fun h9 => c_24 ((fa_eq x_22 (-1)).mpr h9)
            refine W.endD hdq8_17 ?_
            have hP9 := hP.sub (ws' := [(x, .inr (7, [.ref x_signs, .int x_length])), (x_signs, .inl (cI, 255, .inl x_signsF)), (f, .inr (2, [.ref f_kinds, .ref f_signs, .ref f_sizes, .ref f_places, .ref f_limits, .ref f_starts, .ref f_sorts, .int x_13, .int x_14, .int x_15])), (f_kinds, .inl (cI, 255, .inl f_8)), (f_signs, .inl (cI, 255, .inl f_9)), (f_sizes, .inl (cI, 255, .inl f_10)), (f_places, .inl (cI, 255, .inl f_11)), (f_limits, .inl (cD, 255, .inr (.inr (.inr (.inl f_12))))), (f_starts, .inl (cI, 4, .inl f_16))]) [0, 1, 7, 2, 3, 4, 5, 6, 8] rfl
            have hD9 := hD.sub (ws' := [(x, .inr (7, [.ref x_signs, .int x_length])), (x_signs, .inl (cI, 255, .inl x_signsF)), (f, .inr (2, [.ref f_kinds, .ref f_signs, .ref f_sizes, .ref f_places, .ref f_limits, .ref f_starts, .ref f_sorts, .int x_13, .int x_14, .int x_15])), (f_kinds, .inl (cI, 255, .inl f_8)), (f_signs, .inl (cI, 255, .inl f_9)), (f_sizes, .inl (cI, 255, .inl f_10)), (f_places, .inl (cI, 255, .inl f_11)), (f_limits, .inl (cD, 255, .inr (.inr (.inr (.inl f_12))))), (f_starts, .inl (cI, 4, .inl f_16))]) [0, 1, 7, 2, 3, 4, 5, 6, 8] (by decide) rfl
            exact W.vret hx hb hr (fun t ht hW => ⟨⟨(x_13, x_14, x_15, f_8, f_9, f_10, f_11, f_12, f_16), rfl, (by (try dsimp only); refine ⟨?_, ?_, ?_, ?_⟩ <;> first | omega | assumption), by rw [ht]; exact hP9, va_K.moved hW.alike hK, hD9⟩, hS.F ht⟩) hS.2.2 dX8_read_31
  exact hZ1 (L_8 (((2147483647 - (0 : Int32).toInt).toNat) + 1) 0 0 f_kindsF f_signsF f_sizesF f_placesF f_limitsF u_2 u_3 u_4 u_5 _ _ _ s.drawn hd0 (by omega) (by omega) (by assumption) (by omega) (by omega) (by assumption) (by omega) hP hD hS hl)

